section
/-! code tables, by program -/
-- UnbeatenHouse$Gatherer.goAlong(LUnbeatenHouse$Tale;II)V
def mt_212 : mj_C := ([(0, [o0 (.iload_n 3) 1, oV (.iconst 4) 1 4, o0 .imul 1, o0 (.istore 4) 2, oV (.iconst 0) 1 0, o0 (.istore 5) 2]), (8, [o0 (.iload 5) 2, o0 (.aload_n 1) 1, oF (.getfield 25) 3 11 1 2, oV (.iconst 0) 1 0, o0 .iaload 1, oA (.if_icmp .ge 44) 3 60]), (19, [o0 (.aload_n 0) 1, oF (.getfield 18) 3 3 1 2, o0 (.iload 4) 2, oV (.iconst 4) 1 4, o0 .iadd 1, o0 (.iload 5) 2, o0 .iadd 1, o0 (.aload_n 0) 1, oF (.getfield 18) 3 3 1 2, o0 (.iload 4) 2, o0 (.iload 5) 2, o0 .iadd 1, o0 .iaload 1, o0 (.aload_n 1) 1, oF (.getfield 58) 3 11 4 2, oV (.iconst 3) 1 3, o0 (.iload_n 2) 1, o0 (.iload 5) 2, oM (.invokestatic 61) 3 155 3 1 0, o0 .iaload 1, o0 .iadd 1, o0 .iastore 1, oV (.iinc 5 1) 3 1, oA (.goto (-49)) 3 8]), (60, [o0 .return_ 1])], [(8, [0, 1, 2, 4, 5])], 6)
theorem mk_212 : mj_ckM mj_TY mp_3 prog_3_method_4_code 6 none mt_212 = true := by decide +kernel
-- UnbeatenHouse$Pool.putFront(LUnbeatenHouse$Front;I)I
def mt_213 : mj_C := ([(0, [o0 (.aload_n 0) 1, oM (.invokevirtual 35) 3 214 1 0 8, o0 (.aload_n 1) 1, o0 (.iload_n 2) 1, oM (.invokevirtual 38) 3 182 2 0 3, oV (.iconst 0) 1 0, o0 (.istore_n 3) 1]), (11, [o0 (.iload_n 3) 1, o0 (.aload_n 0) 1, oF (.getfield 22) 3 7 3 0, oA (.if_icmp .ge 69) 3 85]), (19, [o0 (.aload_n 0) 1, oF (.getfield 19) 3 7 2 2, o0 (.iload_n 3) 1, o0 .iaload 1, oV (.iconst 4) 1 4, o0 .imul 1, o0 (.istore 4) 2, o0 (.aload_n 1) 1, o0 (.aload_n 0) 1, oF (.getfield 9) 3 7 0 2, o0 (.iload 4) 2, o0 (.aload_n 0) 1, oF (.getfield 26) 3 7 4 0, oM (.invokevirtual 44) 3 218 4 1 3, oA (.ifCond .ne 36) 3 79]), (46, [o0 (.aload_n 1) 1, oF (.getfield 48) 3 2 1 0, oV (.bipush 100) 2 100, oA (.if_icmp .lt 6) 3 58]), (55, [oV (.bipush (-2)) 2 (-2), oA .ireturn 1 0]), (58, [o0 (.aload_n 1) 1, o0 (.aload_n 0) 1, oF (.getfield 9) 3 7 0 2, o0 (.iload 4) 2, o0 (.aload_n 0) 1, oF (.getfield 15) 3 7 1 2, o0 (.aload_n 0) 1, oF (.getfield 19) 3 7 2 2, o0 (.iload_n 3) 1, o0 .iaload 1, o0 .laload 1, oM (.invokevirtual 49) 3 205 4 0 3]), (79, [oV (.iinc 3 1) 3 1, oA (.goto (-71)) 3 11]), (85, [o0 (.aload_n 1) 1, oF (.getfield 48) 3 2 1 0, oA .ireturn 1 0])], [(11, [0, 1, 3])], 5)
theorem mk_213 : mj_ckM mj_TY mp_7 prog_7_method_4_code 5 (some .int) mt_213 = true := by decide +kernel
-- UnbeatenHouse$Pool.sort()V
def mt_214 : mj_C := ([(0, [o0 (.aload_n 0) 1, oF (.getfield 22) 3 7 3 0, oV (.iconst 2) 1 2, o0 .idiv 1, oV (.iconst 1) 1 1, o0 .isub 1, o0 (.istore_n 1) 1]), (9, [o0 (.iload_n 1) 1, oA (.ifCond .lt 18) 3 28]), (13, [o0 (.aload_n 0) 1, o0 (.iload_n 1) 1, o0 (.aload_n 0) 1, oF (.getfield 22) 3 7 3 0, oM (.invokevirtual 53) 3 215 3 0 8, oV (.iinc 1 (-1)) 3 (-1), oA (.goto (-16)) 3 9]), (28, [o0 (.aload_n 0) 1, oF (.getfield 22) 3 7 3 0, oV (.iconst 1) 1 1, o0 .isub 1, o0 (.istore_n 1) 1]), (35, [o0 (.iload_n 1) 1, oA (.ifCond .le 21) 3 57]), (39, [o0 (.aload_n 0) 1, oV (.iconst 0) 1 0, o0 (.iload_n 1) 1, oM (.invokevirtual 57) 3 217 3 0 8, o0 (.aload_n 0) 1, oV (.iconst 0) 1 0, o0 (.iload_n 1) 1, oM (.invokevirtual 53) 3 215 3 0 8, oV (.iinc 1 (-1)) 3 (-1), oA (.goto (-19)) 3 35]), (57, [o0 .return_ 1])], [(9, [0, 1]), (35, [0, 1])], 2)
theorem mk_214 : mj_ckM mj_TY mp_7 prog_7_method_5_code 2 none mt_214 = true := by decide +kernel
-- UnbeatenHouse$Pool.sink(II)V
def mt_215 : mj_C := ([(0, [o0 (.iload_n 1) 1, o0 (.istore_n 3) 1, oV (.iconst 0) 1 0, o0 (.istore 4) 2]), (5, [o0 (.iload 4) 2, oV (.bipush 32) 2 32, oA (.if_icmp .ge 90) 3 99]), (12, [oV (.iconst 2) 1 2, o0 (.iload_n 3) 1, o0 .imul 1, oV (.iconst 1) 1 1, o0 .iadd 1, o0 (.iload_n 2) 1, oA (.if_icmp .ge 81) 3 99]), (21, [oV (.iconst 2) 1 2, o0 (.iload_n 3) 1, o0 .imul 1, oV (.iconst 1) 1 1, o0 .iadd 1, o0 (.istore 5) 2, o0 (.iload 5) 2, oV (.iconst 1) 1 1, o0 .iadd 1, o0 (.iload_n 2) 1, oA (.if_icmp .ge 29) 3 62]), (36, [o0 (.aload_n 0) 1, o0 (.aload_n 0) 1, oF (.getfield 19) 3 7 2 2, o0 (.iload 5) 2, o0 .iaload 1, o0 (.aload_n 0) 1, oF (.getfield 19) 3 7 2 2, o0 (.iload 5) 2, oV (.iconst 1) 1 1, o0 .iadd 1, o0 .iaload 1, oM (.invokevirtual 60) 3 216 3 1 8, oA (.ifCond .eq 6) 3 62]), (59, [oV (.iinc 5 1) 3 1]), (62, [o0 (.aload_n 0) 1, o0 (.aload_n 0) 1, oF (.getfield 19) 3 7 2 2, o0 (.iload_n 3) 1, o0 .iaload 1, o0 (.aload_n 0) 1, oF (.getfield 19) 3 7 2 2, o0 (.iload 5) 2, o0 .iaload 1, oM (.invokevirtual 60) 3 216 3 1 8, oA (.ifCond .ne 4) 3 83]), (82, [o0 .return_ 1]), (83, [o0 (.aload_n 0) 1, o0 (.iload_n 3) 1, o0 (.iload 5) 2, oM (.invokevirtual 57) 3 217 3 0 8, o0 (.iload 5) 2, o0 (.istore_n 3) 1, oV (.iinc 4 1) 3 1, oA (.goto (-91)) 3 5]), (99, [o0 .return_ 1])], [(5, [0, 2, 3, 4]), (62, [0, 2, 3, 4, 5])], 6)
theorem mk_215 : mj_ckM mj_TY mp_7 prog_7_method_6_code 6 none mt_215 = true := by decide +kernel
-- UnbeatenHouse$Pool.isAhead(II)Z
def mt_216 : mj_C := ([(0, [oV (.iconst 0) 1 0, o0 (.istore_n 3) 1]), (2, [o0 (.iload_n 3) 1, o0 (.aload_n 0) 1, oF (.getfield 26) 3 7 4 0, oA (.if_icmp .ge 53) 3 60]), (10, [o0 (.aload_n 0) 1, oF (.getfield 9) 3 7 0 2, o0 (.iload_n 1) 1, oV (.iconst 4) 1 4, o0 .imul 1, o0 (.iload_n 3) 1, o0 .iadd 1, o0 .iaload 1, o0 (.istore 4) 2, o0 (.aload_n 0) 1, oF (.getfield 9) 3 7 0 2, o0 (.iload_n 2) 1, oV (.iconst 4) 1 4, o0 .imul 1, o0 (.iload_n 3) 1, o0 .iadd 1, o0 .iaload 1, o0 (.istore 5) 2, o0 (.iload 4) 2, o0 (.iload 5) 2, oA (.if_icmp .eq 16) 3 54]), (41, [o0 (.iload 4) 2, o0 (.iload 5) 2, oA (.if_icmp .ge 7) 3 52]), (48, [oV (.iconst 1) 1 1, oA (.goto 4) 3 53]), (52, [oV (.iconst 0) 1 0]), (53, [oA .ireturn 1 1]), (54, [oV (.iinc 3 1) 3 1, oA (.goto (-55)) 3 2]), (60, [o0 (.aload_n 0) 1, oF (.getfield 15) 3 7 1 2, o0 (.iload_n 1) 1, o0 .laload 1, o0 (.aload_n 0) 1, oF (.getfield 15) 3 7 1 2, o0 (.iload_n 2) 1, o0 .laload 1, o0 .lcmp 1, oA (.ifCond .ge 7) 3 80]), (76, [oV (.iconst 1) 1 1, oA (.goto 4) 3 81]), (80, [oV (.iconst 0) 1 0]), (81, [oA .ireturn 1 1])], [(2, [0, 1, 2, 3])], 6)
theorem mk_216 : mj_ckM mj_TY mp_7 prog_7_method_8_code 6 (some .boolean) mt_216 = true := by decide +kernel
-- UnbeatenHouse$Pool.swap(II)V
def mt_217 : mj_C := ([(0, [o0 (.aload_n 0) 1, oF (.getfield 19) 3 7 2 2, o0 (.iload_n 1) 1, o0 .iaload 1, o0 (.istore_n 3) 1, o0 (.aload_n 0) 1, oF (.getfield 19) 3 7 2 2, o0 (.iload_n 1) 1, o0 (.aload_n 0) 1, oF (.getfield 19) 3 7 2 2, o0 (.iload_n 2) 1, o0 .iaload 1, o0 .iastore 1, o0 (.aload_n 0) 1, oF (.getfield 19) 3 7 2 2, o0 (.iload_n 2) 1, o0 (.iload_n 3) 1, o0 .iastore 1, o0 .return_ 1])], [], 4)
theorem mk_217 : mj_ckM mj_TY mp_7 prog_7_method_7_code 4 none mt_217 = true := by decide +kernel
-- UnbeatenHouse$Front.standsUnder([III)Z
def mt_218 : mj_C := ([(0, [oV (.iconst 0) 1 0, o0 (.istore 4) 2]), (3, [o0 (.iload 4) 2, o0 (.aload_n 0) 1, oF (.getfield 27) 3 2 1 0, oA (.if_icmp .ge 28) 3 37]), (12, [o0 (.aload_n 0) 1, oF (.getfield 15) 3 2 2 2, o0 (.iload 4) 2, oV (.iconst 4) 1 4, o0 .imul 1, o0 (.aload_n 1) 1, o0 (.iload_n 2) 1, o0 (.iload_n 3) 1, oM (.invokestatic 40) 3 180 5 1 0, oA (.ifCond .eq 5) 3 31]), (29, [oV (.iconst 1) 1 1, oA .ireturn 1 1]), (31, [oV (.iinc 4 1) 3 1, oA (.goto (-31)) 3 3]), (37, [oV (.iconst 0) 1 0, oA .ireturn 1 1])], [(3, [0, 1, 2, 3, 4])], 5)
theorem mk_218 : mj_ckM mj_TY mp_2 prog_2_method_8_code 5 (some .boolean) mt_218 = true := by decide +kernel
-- UnbeatenHouse$Front.copy(LUnbeatenHouse$Front;)V
def mt_219 : mj_C := ([(0, [o0 (.aload_n 0) 1, o0 (.aload_n 1) 1, oF (.getfield 9) 3 2 0 0, oM (.invokevirtual 23) 3 182 2 0 3, oV (.iconst 0) 1 0, o0 (.istore_n 2) 1]), (10, [o0 (.iload_n 2) 1, o0 (.aload_n 1) 1, oF (.getfield 27) 3 2 1 0, oA (.if_icmp .ge 26) 3 41]), (18, [o0 (.aload_n 0) 1, o0 (.aload_n 1) 1, oF (.getfield 15) 3 2 2 2, o0 (.iload_n 2) 1, oV (.iconst 4) 1 4, o0 .imul 1, o0 (.aload_n 1) 1, oF (.getfield 19) 3 2 3 2, o0 (.iload_n 2) 1, o0 .laload 1, oM (.invokevirtual 36) 3 205 4 0 3, oV (.iinc 2 1) 3 1, oA (.goto (-28)) 3 10]), (41, [o0 .return_ 1])], [(10, [0, 1, 2])], 3)
theorem mk_219 : mj_ckM mj_TY mp_2 prog_2_method_7_code 3 none mt_219 = true := by decide +kernel
-- UnbeatenHouse.takeSets()I
def mt_220 : mj_C := ([(0, [o0 (.aload_n 0) 1, oF (.getfield 57) 3 1 9 0, oV (.bipush (-3)) 2 (-3), oA (.if_icmp .ne 34) 3 40]), (9, [o0 (.aload_n 0) 1, oF (.getfield 40) 3 1 5 2, o0 (.aload_n 0) 1, oF (.getfield 10) 3 1 1 2, o0 (.aload_n 0) 1, oF (.getfield 33) 3 1 4 2, oM (.invokevirtual 227) 3 221 3 0 4, o0 (.aload_n 0) 1, o0 (.aload_n 0) 1, oF (.getfield 33) 3 1 4 2, o0 (.aload_n 0) 1, oF (.getfield 54) 3 1 8 2, oV (.iconst 2) 1 2, oM (.invokevirtual 221) 3 213 3 1 8, oF (.putfield 57) 3 1 9 0]), (40, [o0 (.aload_n 0) 1, oF (.getfield 57) 3 1 9 0, oV (.bipush (-2)) 2 (-2), oA (.if_icmp .eq 14) 3 60]), (49, [o0 (.aload_n 0) 1, oF (.getfield 47) 3 1 6 2, o0 (.aload_n 0) 1, oF (.getfield 54) 3 1 8 2, oM (.invokevirtual 224) 3 219 2 0 3]), (60, [o0 (.aload_n 0) 1, oF (.getfield 57) 3 1 9 0, oA .ireturn 1 0])], [(40, [0])], 1)
theorem mk_220 : mj_ckM mj_TY mp_1 prog_1_method_20_code 1 (some .int) mt_220 = true := by decide +kernel
-- UnbeatenHouse$Gatherer.gatherSets(LUnbeatenHouse$Tale;LUnbeatenHouse$Pool;)V
def mt_221 : mj_C := ([(0, [o0 (.aload_n 2) 1, o0 (.aload_n 1) 1, oF (.getfield 25) 3 11 1 2, oV (.iconst 0) 1 0, o0 .iaload 1, oM (.invokevirtual 30) 3 208 2 0 8, oV (.iconst 0) 1 0, o0 (.istore_n 3) 1]), (12, [o0 (.iload_n 3) 1, oV (.iconst 1) 1 1, o0 (.aload_n 1) 1, oF (.getfield 25) 3 11 1 2, oV (.iconst 4) 1 4, o0 .iaload 1, o0 .ishl 1, oA (.if_icmp .ge 47) 3 68]), (24, [o0 (.aload_n 0) 1, o0 (.aload_n 1) 1, o0 (.iload_n 3) 1, oM (.invokevirtual 69) 3 222 3 0 4, o0 (.aload_n 0) 1, oF (.getfield 12) 3 3 0 2, o0 (.aload_n 1) 1, o0 (.iload_n 3) 1, o0 (.aload_n 0) 1, oF (.getfield 18) 3 3 1 2, oM (.invokevirtual 72) 3 223 4 1 5, oA (.ifCond .eq 19) 3 62]), (46, [o0 (.aload_n 0) 1, o0 (.aload_n 1) 1, oV (.iconst 0) 1 0, oM (.invokevirtual 40) 3 210 3 0 4, o0 (.aload_n 2) 1, o0 (.aload_n 0) 1, oF (.getfield 22) 3 3 2 2, o0 (.iload_n 3) 1, o0 .i2l 1, oM (.invokevirtual 44) 3 211 3 0 8]), (62, [oV (.iinc 3 1) 3 1, oA (.goto (-53)) 3 12]), (68, [o0 .return_ 1])], [(12, [0, 1, 2, 3])], 4)
theorem mk_221 : mj_ckM mj_TY mp_3 prog_3_method_6_code 4 none mt_221 = true := by decide +kernel
-- UnbeatenHouse$Gatherer.addUp(LUnbeatenHouse$Tale;I)V
def mt_222 : mj_C := ([(0, [oV (.iconst 0) 1 0, o0 (.istore_n 3) 1]), (2, [o0 (.iload_n 3) 1, o0 (.aload_n 1) 1, oF (.getfield 25) 3 11 1 2, oV (.iconst 0) 1 0, o0 .iaload 1, oA (.if_icmp .ge 66) 3 75]), (12, [o0 (.aload_n 0) 1, oF (.getfield 18) 3 3 1 2, o0 (.iload_n 3) 1, oV (.iconst 0) 1 0, o0 .iastore 1, oV (.iconst 0) 1 0, o0 (.istore 4) 2]), (22, [o0 (.iload 4) 2, o0 (.aload_n 1) 1, oF (.getfield 25) 3 11 1 2, oV (.iconst 4) 1 4, o0 .iaload 1, oA (.if_icmp .ge 39) 3 69]), (33, [o0 (.iload_n 2) 1, o0 (.iload 4) 2, o0 .ishr 1, oV (.iconst 1) 1 1, o0 .iand 1, oA (.ifCond .eq 24) 3 63]), (42, [o0 (.aload_n 0) 1, oF (.getfield 18) 3 3 1 2, o0 (.iload_n 3) 1, o0 .dup2 1, o0 .iaload 1, o0 (.aload_n 1) 1, oF (.getfield 58) 3 11 4 2, oV (.iconst 4) 1 4, o0 (.iload 4) 2, o0 (.iload_n 3) 1, oM (.invokestatic 61) 3 155 3 1 0, o0 .iaload 1, o0 .iadd 1, o0 .iastore 1]), (63, [oV (.iinc 4 1) 3 1, oA (.goto (-44)) 3 22]), (69, [oV (.iinc 3 1) 3 1, oA (.goto (-70)) 3 2]), (75, [o0 .return_ 1])], [(2, [0, 1, 2, 3]), (22, [0, 1, 2, 3, 4])], 5)
theorem mk_222 : mj_ckM mj_TY mp_3 prog_3_method_7_code 5 none mt_222 = true := by decide +kernel
-- UnbeatenHouse$Judge.allows(LUnbeatenHouse$Tale;I[I)Z
def mt_223 : mj_C := ([(0, [oV (.iconst 0) 1 0, o0 (.istore 4) 2, oV (.iconst 0) 1 0, o0 (.istore 5) 2]), (6, [o0 (.iload 5) 2, o0 (.aload_n 1) 1, oF (.getfield 15) 3 11 1 2, oV (.iconst 5) 1 5, o0 .iaload 1, oA (.if_icmp .ge 68) 3 82]), (17, [o0 (.aload_n 0) 1, oV (.iconst 0) 1 0, oF (.putfield 20) 3 4 1 0]), (22, [o0 (.iload 4) 2, o0 (.aload_n 1) 1, oF (.getfield 24) 3 11 10 2, o0 (.iload 5) 2, o0 .iaload 1, oA (.if_icmp .ge 36) 3 67]), (34, [o0 (.aload_n 0) 1, o0 (.aload_n 1) 1, oF (.getfield 27) 3 11 8 2, o0 (.iload 4) 2, o0 .iaload 1, oV (.bipush 14) 2 14, o0 .ishr 1, o0 (.aload_n 1) 1, oF (.getfield 27) 3 11 8 2, o0 (.iload 4) 2, o0 .iaload 1, oV (.sipush 16383) 3 16383, o0 .iand 1, o0 (.iload_n 2) 1, o0 (.aload_n 3) 1, oM (.invokevirtual 30) 3 224 5 0 5, oV (.iinc 4 1) 3 1, oA (.goto (-42)) 3 22]), (67, [o0 (.aload_n 0) 1, oM (.invokevirtual 34) 3 226 1 1 5, oA (.ifCond .ne 5) 3 76]), (74, [oV (.iconst 0) 1 0, oA .ireturn 1 1]), (76, [oV (.iinc 5 1) 3 1, oA (.goto (-73)) 3 6]), (82, [oV (.iconst 1) 1 1, oA .ireturn 1 1])], [(6, [0, 1, 2, 3, 4, 5]), (22, [0, 1, 2, 3, 4, 5])], 6)
theorem mk_223 : mj_ckM mj_TY mp_4 prog_4_method_2_code 6 (some .boolean) mt_223 = true := by decide +kernel
-- UnbeatenHouse$Judge.work(III[I)V
def mt_224 : mj_C := ([(0, [o0 (.iload_n 1) 1, oT (.tableswitch 119 10 17 #[106, 86, 94, 55, 66, 119, 119, 47]) 47 120 [(10, 107), (11, 87), (12, 95), (13, 56), (14, 67), (15, 120), (16, 120), (17, 48)]]), (48, [o0 (.aload_n 0) 1, o0 (.iload_n 2) 1, oM (.invokevirtual 38) 3 225 2 0 5, oA (.goto 91) 3 144]), (56, [o0 (.aload_n 0) 1, o0 (.iload_n 3) 1, oM (.invokestatic 42) 3 3 1 1 0, oM (.invokevirtual 38) 3 225 2 0 5, oA (.goto 80) 3 144]), (67, [o0 (.aload_n 0) 1, o0 (.iload_n 2) 1, oV (.iconst 4) 1 4, oA (.if_icmp .ge 10) 3 80]), (73, [o0 (.aload 4) 2, o0 (.iload_n 2) 1, o0 .iaload 1, oA (.goto 4) 3 81]), (80, [oV (.iconst 0) 1 0]), (81, [oM (.invokevirtual 38) 3 225 2 0 5, oA (.goto 60) 3 144]), (87, [o0 (.aload_n 0) 1, oV (.iconst 1) 1 1, oM (.invokevirtual 38) 3 225 2 0 5, oA (.goto 52) 3 144]), (95, [o0 (.aload_n 0) 1, o0 (.iload_n 3) 1, o0 (.iload_n 2) 1, o0 .ishr 1, oV (.iconst 1) 1 1, o0 .iand 1, oM (.invokevirtual 38) 3 225 2 0 5, oA (.goto 40) 3 144]), (107, [o0 (.aload_n 0) 1, oV (.iconst 1) 1 1, o0 (.aload_n 0) 1, oM (.invokevirtual 34) 3 226 1 1 5, o0 .isub 1, oM (.invokevirtual 38) 3 225 2 0 5, oA (.goto 27) 3 144]), (120, [o0 (.aload_n 0) 1, oM (.invokevirtual 34) 3 226 1 1 5, o0 (.istore 5) 2, o0 (.aload_n 0) 1, oM (.invokevirtual 34) 3 226 1 1 5, o0 (.istore 6) 2, o0 (.aload_n 0) 1, o0 (.iload_n 1) 1, o0 (.iload 6) 2, o0 (.iload 5) 2, oM (.invokestatic 48) 3 227 3 1 0, oM (.invokevirtual 38) 3 225 2 0 5]), (144, [o0 .return_ 1])], [], 7)
theorem mk_224 : mj_ckM mj_TY mp_4 prog_4_method_5_code 7 none mt_224 = true := by decide +kernel
-- UnbeatenHouse$Judge.push(I)V
def mt_225 : mj_C := ([(0, [o0 (.aload_n 0) 1, oF (.getfield 20) 3 4 1 0, oV (.bipush 64) 2 64, oA (.if_icmp .ge 23) 3 29]), (9, [o0 (.aload_n 0) 1, oF (.getfield 11) 3 4 0 2, o0 (.aload_n 0) 1, oF (.getfield 20) 3 4 1 0, o0 (.iload_n 1) 1, o0 .iastore 1, o0 (.aload_n 0) 1, o0 .dup 1, oF (.getfield 20) 3 4 1 0, oV (.iconst 1) 1 1, o0 .iadd 1, oF (.putfield 20) 3 4 1 0]), (29, [o0 .return_ 1])], [], 2)
theorem mk_225 : mj_ckM mj_TY mp_4 prog_4_method_3_code 2 none mt_225 = true := by decide +kernel
-- UnbeatenHouse$Judge.pop()I
def mt_226 : mj_C := ([(0, [o0 (.aload_n 0) 1, oF (.getfield 20) 3 4 1 0, oA (.ifCond .ne 5) 3 9]), (7, [oV (.iconst 0) 1 0, oA .ireturn 1 0]), (9, [o0 (.aload_n 0) 1, o0 .dup 1, oF (.getfield 20) 3 4 1 0, oV (.iconst 1) 1 1, o0 .isub 1, oF (.putfield 20) 3 4 1 0, o0 (.aload_n 0) 1, oF (.getfield 11) 3 4 0 2, o0 (.aload_n 0) 1, oF (.getfield 20) 3 4 1 0, o0 .iaload 1, oA .ireturn 1 0])], [], 1)
theorem mk_226 : mj_ckM mj_TY mp_4 prog_4_method_4_code 1 (some .int) mt_226 = true := by decide +kernel
-- UnbeatenHouse$Judge.join(III)I
def mt_227 : mj_C := ([(0, [o0 (.iload_n 0) 1, oT (.lookupswitch 112 #[(15, 100), (16, 106), (42, 77), (43, 59), (45, 68), (47, 86)]) 59 113 [(15, 101), (16, 107), (42, 78), (43, 60), (45, 69), (47, 87)]]), (60, [o0 (.iload_n 1) 1, o0 .i2l 1, o0 (.iload_n 2) 1, o0 .i2l 1, o0 .ladd 1, oM (.invokestatic 52) 3 228 1 1 0, oA .ireturn 1 0]), (69, [o0 (.iload_n 1) 1, o0 .i2l 1, o0 (.iload_n 2) 1, o0 .i2l 1, o0 .lsub 1, oM (.invokestatic 52) 3 228 1 1 0, oA .ireturn 1 0]), (78, [o0 (.iload_n 1) 1, o0 .i2l 1, o0 (.iload_n 2) 1, o0 .i2l 1, o0 .lmul 1, oM (.invokestatic 52) 3 228 1 1 0, oA .ireturn 1 0]), (87, [o0 (.iload_n 2) 1, oA (.ifCond .ne 7) 3 95]), (91, [oV (.iconst 0) 1 0, oA (.goto 8) 3 100]), (95, [o0 (.iload_n 1) 1, o0 (.iload_n 2) 1, oM (.invokestatic 56) 3 6 2 1 0]), (100, [oA .ireturn 1 0]), (101, [o0 (.iload_n 1) 1, o0 (.iload_n 2) 1, oM (.invokestatic 62) 3 0 2 1 0, oA .ireturn 1 0]), (107, [o0 (.iload_n 1) 1, o0 (.iload_n 2) 1, oM (.invokestatic 65) 3 1 2 1 0, oA .ireturn 1 0]), (113, [o0 (.iload_n 0) 1, o0 (.iload_n 1) 1, o0 (.iload_n 2) 1, oM (.invokestatic 68) 3 229 3 1 0, oA (.ifCond .eq 7) 3 126]), (122, [oV (.iconst 1) 1 1, oA (.goto 4) 3 127]), (126, [oV (.iconst 0) 1 0]), (127, [oA .ireturn 1 0])], [], 3)
theorem mk_227 : mj_ckM mj_TY mp_4 prog_4_method_6_code 3 (some .int) mt_227 = true := by decide +kernel
-- UnbeatenHouse$Judge.bounded(J)I
def mt_228 : mj_C := ([(0, [oW (.ldc2_w 72) 3 (-1000000000), oW (.ldc2_w 74) 3 1000000000, o0 (.lload_n 0) 1, oM (.invokestatic 76) 3 4 2 2 0, oM (.invokestatic 79) 3 5 2 2 0, o0 .l2i 1, oA .ireturn 1 0])], [], 2)
theorem mk_228 : mj_ckM mj_TY mp_4 prog_4_method_8_code 2 (some .int) mt_228 = true := by decide +kernel
-- UnbeatenHouse$Judge.holds(III)Z
def mt_229 : mj_C := ([(0, [o0 (.iload_n 0) 1, oT (.lookupswitch 90 #[(9, 76), (60, 43), (61, 65), (62, 54)]) 43 91 [(9, 77), (60, 44), (61, 66), (62, 55)]]), (44, [o0 (.iload_n 1) 1, o0 (.iload_n 2) 1, oA (.if_icmp .ge 7) 3 53]), (49, [oV (.iconst 1) 1 1, oA (.goto 4) 3 54]), (53, [oV (.iconst 0) 1 0]), (54, [oA .ireturn 1 1]), (55, [o0 (.iload_n 1) 1, o0 (.iload_n 2) 1, oA (.if_icmp .le 7) 3 64]), (60, [oV (.iconst 1) 1 1, oA (.goto 4) 3 65]), (64, [oV (.iconst 0) 1 0]), (65, [oA .ireturn 1 1]), (66, [o0 (.iload_n 1) 1, o0 (.iload_n 2) 1, oA (.if_icmp .ne 7) 3 75]), (71, [oV (.iconst 1) 1 1, oA (.goto 4) 3 76]), (75, [oV (.iconst 0) 1 0]), (76, [oA .ireturn 1 1]), (77, [o0 (.iload_n 1) 1, oA (.ifCond .eq 11) 3 89]), (81, [o0 (.iload_n 2) 1, oA (.ifCond .eq 7) 3 89]), (85, [oV (.iconst 1) 1 1, oA (.goto 4) 3 90]), (89, [oV (.iconst 0) 1 0]), (90, [oA .ireturn 1 1]), (91, [o0 (.iload_n 1) 1, oA (.ifCond .ne 7) 3 99]), (95, [o0 (.iload_n 2) 1, oA (.ifCond .eq 7) 3 103]), (99, [oV (.iconst 1) 1 1, oA (.goto 4) 3 104]), (103, [oV (.iconst 0) 1 0]), (104, [oA .ireturn 1 1])], [], 3)
theorem mk_229 : mj_ckM mj_TY mp_4 prog_4_method_7_code 3 (some .boolean) mt_229 = true := by decide +kernel
-- UnbeatenHouse.loss(II)I
def mt_230 : mj_C := ([(0, [o0 (.aload_n 0) 1, oF (.getfield 47) 3 1 6 2, o0 (.iload_n 1) 1, oM (.invokevirtual 231) 3 231 2 1 3, oA (.ifCond .eq 31) 3 39]), (11, [o0 (.aload_n 0) 1, oF (.getfield 10) 3 1 1 2, oV (.iconst 0) 1 0, o0 (.iload_n 2) 1, oM (.invokevirtual 149) 3 192 3 1 12, oA (.ifCond .eq 19) 3 39]), (23, [o0 (.aload_n 0) 1, oF (.getfield 47) 3 1 6 2, oF (.getfield 233) 3 2 2 2, o0 (.iload_n 1) 1, oV (.iconst 4) 1 4, o0 .imul 1, o0 (.iload_n 2) 1, o0 .iadd 1, o0 .iaload 1, oA (.goto 5) 3 41]), (39, [oV (.ldc 236) 2 (-2000000000)]), (41, [oA .ireturn 1 0])], [], 3)
theorem mk_230 : mj_ckM mj_TY mp_1 prog_1_method_21_code 3 (some .int) mt_230 = true := by decide +kernel
-- UnbeatenHouse$Front.isThere(I)Z
def mt_231 : mj_C := ([(0, [o0 (.iload_n 1) 1, oA (.ifCond .lt 15) 3 16]), (4, [o0 (.iload_n 1) 1, o0 (.aload_n 0) 1, oF (.getfield 27) 3 2 1 0, oA (.if_icmp .ge 7) 3 16]), (12, [oV (.iconst 1) 1 1, oA (.goto 4) 3 17]), (16, [oV (.iconst 0) 1 0]), (17, [oA .ireturn 1 1])], [], 2)
theorem mk_231 : mj_ckM mj_TY mp_2 prog_2_method_5_code 2 (some .boolean) mt_231 = true := by decide +kernel
-- UnbeatenHouse.who(I)I
def mt_232 : mj_C := ([(0, [o0 (.aload_n 0) 1, oF (.getfield 47) 3 1 6 2, o0 (.iload_n 1) 1, oM (.invokevirtual 231) 3 231 2 1 3, oA (.ifCond .ne 5) 3 13]), (11, [oV (.iconst (-1)) 1 (-1), oA .ireturn 1 0]), (13, [o0 (.aload_n 0) 1, oF (.getfield 47) 3 1 6 2, oF (.getfield 237) 3 2 0 0, oV (.iconst 1) 1 1, oA (.if_icmp .ne 18) 3 39]), (24, [o0 (.aload_n 0) 1, oF (.getfield 47) 3 1 6 2, oF (.getfield 240) 3 2 3 2, o0 (.iload_n 1) 1, o0 .laload 1, oM (.invokestatic 244) 3 233 1 1 0, oA (.goto 13) 3 49]), (39, [o0 (.aload_n 0) 1, oF (.getfield 47) 3 1 6 2, oF (.getfield 240) 3 2 3 2, o0 (.iload_n 1) 1, o0 .laload 1, o0 .l2i 1]), (49, [oA .ireturn 1 0])], [], 2)
theorem mk_232 : mj_ckM mj_TY mp_1 prog_1_method_22_code 2 (some .int) mt_232 = true := by decide +kernel
-- UnbeatenHouse$Front.knotsOf(J)I
def mt_233 : mj_C := ([(0, [o0 (.lload_n 0) 1, oW (.ldc2_w 48) 3 15, o0 .land 1, o0 .l2i 1, oA .ireturn 1 0])], [], 2)
theorem mk_233 : mj_ckM mj_TY mp_2 prog_2_method_11_code 2 (some .int) mt_233 = true := by decide +kernel
-- UnbeatenHouse.knot(II)I
def mt_234 : mj_C := ([(0, [o0 (.aload_n 0) 1, oF (.getfield 47) 3 1 6 2, o0 (.iload_n 1) 1, oM (.invokevirtual 231) 3 231 2 1 3, oA (.ifCond .eq 14) 3 22]), (11, [o0 (.aload_n 0) 1, oF (.getfield 47) 3 1 6 2, oF (.getfield 237) 3 2 0 0, oV (.iconst 1) 1 1, oA (.if_icmp .eq 5) 3 24]), (22, [oV (.iconst (-1)) 1 (-1), oA .ireturn 1 0]), (24, [o0 (.iload_n 2) 1, oA (.ifCond .lt 35) 3 60]), (28, [o0 (.iload_n 2) 1, o0 (.aload_n 0) 1, oF (.getfield 47) 3 1 6 2, oF (.getfield 240) 3 2 3 2, o0 (.iload_n 1) 1, o0 .laload 1, oM (.invokestatic 244) 3 233 1 1 0, oA (.if_icmp .ge 19) 3 60]), (44, [o0 (.aload_n 0) 1, oF (.getfield 47) 3 1 6 2, oF (.getfield 240) 3 2 3 2, o0 (.iload_n 1) 1, o0 .laload 1, o0 (.iload_n 2) 1, oM (.invokestatic 247) 3 235 2 1 0, oA (.goto 4) 3 61]), (60, [oV (.iconst (-1)) 1 (-1)]), (61, [oA .ireturn 1 0])], [], 3)
theorem mk_234 : mj_ckM mj_TY mp_1 prog_1_method_23_code 3 (some .int) mt_234 = true := by decide +kernel
-- UnbeatenHouse$Front.knotOf(JI)I
def mt_235 : mj_C := ([(0, [o0 (.lload_n 0) 1, oV (.iconst 4) 1 4, oV (.bipush 10) 2 10, o0 (.iload_n 2) 1, o0 .isub 1, o0 .imul 1, o0 .lshr 1, o0 .l2i 1, oV (.bipush 15) 2 15, o0 .iand 1, oA .ireturn 1 0])], [], 3)
theorem mk_235 : mj_ckM mj_TY mp_2 prog_2_method_12_code 3 (some .int) mt_235 = true := by decide +kernel
-- UnbeatenHouse.grid(I)Z
def mt_236 : mj_C := ([(0, [o0 (.iload_n 1) 1, oV (.iconst 1) 1 1, oA (.if_icmp .lt 9) 3 11]), (5, [o0 (.iload_n 1) 1, oV (.bipush 12) 2 12, oA (.if_icmp .le 5) 3 13]), (11, [oV (.iconst 0) 1 0, oA .ireturn 1 1]), (13, [o0 (.aload_n 0) 1, oF (.getfield 71) 3 1 11 2, o0 (.iload_n 1) 1, o0 (.aload_n 0) 1, oF (.getfield 10) 3 1 1 2, oF (.getfield 130) 3 11 1 2, oV (.iconst 0) 1 0, o0 .iaload 1, oM (.invokevirtual 133) 3 186 3 0 13, oV (.iconst 1) 1 1, oA .ireturn 1 1])], [], 2)
theorem mk_236 : mj_ckM mj_TY mp_1 prog_1_method_24_code 2 (some .boolean) mt_236 = true := by decide +kernel
-- UnbeatenHouse.corner(I)I
def mt_237 : mj_C := ([(0, [o0 (.aload_n 0) 1, oF (.getfield 47) 3 1 6 2, o0 (.iload_n 1) 1, oM (.invokevirtual 231) 3 231 2 1 3, oA (.ifCond .ne 5) 3 13]), (11, [oV (.iconst (-1)) 1 (-1), oA .ireturn 1 0]), (13, [oV (.iconst 0) 1 0, o0 (.istore_n 2) 1, oV (.iconst 0) 1 0, o0 (.istore_n 3) 1]), (17, [o0 (.iload_n 3) 1, o0 (.aload_n 0) 1, oF (.getfield 71) 3 1 11 2, oF (.getfield 251) 3 12 2 0, oA (.if_icmp .ge 28) 3 53]), (28, [o0 (.aload_n 0) 1, oF (.getfield 71) 3 1 11 2, o0 (.iload_n 3) 1, o0 (.aload_n 0) 1, oF (.getfield 47) 3 1 6 2, o0 (.iload_n 1) 1, oM (.invokevirtual 252) 3 238 4 1 13, oA (.ifCond .eq 6) 3 47]), (44, [oV (.iinc 2 1) 3 1]), (47, [oV (.iinc 3 1) 3 1, oA (.goto (-33)) 3 17]), (53, [o0 (.iload_n 2) 1, oA .ireturn 1 0])], [(17, [0, 1, 2, 3])], 4)
theorem mk_237 : mj_ckM mj_TY mp_1 prog_1_method_25_code 4 (some .int) mt_237 = true := by decide +kernel
-- UnbeatenHouse$Weighings.isFirst(ILUnbeatenHouse$Front;I)Z
def mt_238 : mj_C := ([(0, [o0 (.aload_n 0) 1, o0 (.iload_n 1) 1, o0 (.aload_n 2) 1, oF (.getfield 33) 3 2 2 2, o0 (.iload_n 3) 1, oV (.iconst 4) 1 4, o0 .imul 1, oM (.invokevirtual 38) 3 239 4 1 13, o0 (.istore 4) 2, oV (.iconst 0) 1 0, o0 (.istore 5) 2]), (17, [o0 (.iload 5) 2, o0 (.aload_n 2) 1, oF (.getfield 42) 3 2 1 0, oA (.if_icmp .ge 29) 3 52]), (26, [o0 (.aload_n 0) 1, o0 (.iload_n 1) 1, o0 (.aload_n 2) 1, oF (.getfield 33) 3 2 2 2, o0 (.iload 5) 2, oV (.iconst 4) 1 4, o0 .imul 1, oM (.invokevirtual 38) 3 239 4 1 13, o0 (.iload 4) 2, oA (.if_icmp .ge 5) 3 46]), (44, [oV (.iconst 0) 1 0, oA .ireturn 1 1]), (46, [oV (.iinc 5 1) 3 1, oA (.goto (-32)) 3 17]), (52, [oV (.iconst 1) 1 1, oA .ireturn 1 1])], [(17, [0, 1, 2, 4, 5])], 6)
theorem mk_238 : mj_ckM mj_TY mp_12 prog_12_method_6_code 6 (some .boolean) mt_238 = true := by decide +kernel
-- UnbeatenHouse$Weighings.weigh(I[II)I
def mt_239 : mj_C := ([(0, [oV (.iconst 0) 1 0, o0 (.istore 4) 2, oV (.iconst 0) 1 0, o0 (.istore 5) 2]), (6, [o0 (.iload 5) 2, o0 (.aload_n 0) 1, oF (.getfield 19) 3 12 1 0, oA (.if_icmp .ge 32) 3 44]), (15, [o0 (.iload 4) 2, o0 (.aload_n 0) 1, oF (.getfield 15) 3 12 3 2, o0 (.iload_n 1) 1, oV (.iconst 4) 1 4, o0 .imul 1, o0 (.iload 5) 2, o0 .iadd 1, o0 .iaload 1, o0 (.aload_n 2) 1, o0 (.iload_n 3) 1, o0 (.iload 5) 2, o0 .iadd 1, o0 .iaload 1, o0 .imul 1, o0 .iadd 1, o0 (.istore 4) 2, oV (.iinc 5 1) 3 1, oA (.goto (-35)) 3 6]), (44, [o0 (.iload 4) 2, oA .ireturn 1 0])], [(6, [0, 1, 2, 3, 4, 5])], 6)
theorem mk_239 : mj_ckM mj_TY mp_12 prog_12_method_5_code 6 (some .int) mt_239 = true := by decide +kernel
-- UnbeatenHouse.weight(II)I
def mt_240 : mj_C := ([(0, [o0 (.aload_n 0) 1, oF (.getfield 47) 3 1 6 2, o0 (.iload_n 1) 1, oM (.invokevirtual 231) 3 231 2 1 3, oA (.ifCond .eq 15) 3 23]), (11, [o0 (.aload_n 0) 1, oF (.getfield 10) 3 1 1 2, oV (.iconst 0) 1 0, o0 (.iload_n 2) 1, oM (.invokevirtual 149) 3 192 3 1 12, oA (.ifCond .ne 5) 3 25]), (23, [oV (.iconst (-1)) 1 (-1), oA .ireturn 1 0]), (25, [oV (.iconst 0) 1 0, o0 (.istore_n 3) 1]), (27, [o0 (.iload_n 3) 1, o0 (.aload_n 0) 1, oF (.getfield 71) 3 1 11 2, oF (.getfield 251) 3 12 2 0, oA (.if_icmp .ge 39) 3 74]), (38, [o0 (.aload_n 0) 1, oF (.getfield 71) 3 1 11 2, o0 (.iload_n 3) 1, o0 (.aload_n 0) 1, oF (.getfield 47) 3 1 6 2, o0 (.iload_n 1) 1, oM (.invokevirtual 252) 3 238 4 1 13, oA (.ifCond .eq 17) 3 68]), (54, [o0 (.aload_n 0) 1, oF (.getfield 71) 3 1 11 2, oF (.getfield 256) 3 12 3 2, o0 (.iload_n 3) 1, oV (.iconst 4) 1 4, o0 .imul 1, o0 (.iload_n 2) 1, o0 .iadd 1, o0 .iaload 1, oA .ireturn 1 0]), (68, [oV (.iinc 3 1) 3 1, oA (.goto (-44)) 3 27]), (74, [oV (.iconst (-1)) 1 (-1), oA .ireturn 1 0])], [(27, [0, 1, 2, 3])], 4)
theorem mk_240 : mj_ckM mj_TY mp_1 prog_1_method_26_code 4 (some .int) mt_240 = true := by decide +kernel
-- UnbeatenHouse.near(I)I
def mt_241 : mj_C := ([(0, [o0 (.iload_n 1) 1, oA (.ifCond .lt 32) 3 33]), (4, [o0 (.iload_n 1) 1, oV (.sipush 9999) 3 9999, oA (.if_icmp .gt 25) 3 33]), (11, [o0 (.aload_n 0) 1, oF (.getfield 47) 3 1 6 2, oM (.invokevirtual 259) 3 242 1 1 3, oA (.ifCond .eq 15) 3 33]), (21, [o0 (.aload_n 0) 1, oF (.getfield 47) 3 1 6 2, oF (.getfield 209) 3 2 1 0, oV (.bipush 16) 2 16, oA (.if_icmp .le 5) 3 35]), (33, [oV (.iconst (-1)) 1 (-1), oA .ireturn 1 0]), (35, [o0 (.aload_n 0) 1, oF (.getfield 64) 3 1 10 2, o0 (.aload_n 0) 1, oF (.getfield 47) 3 1 6 2, o0 (.aload_n 0) 1, oF (.getfield 10) 3 1 1 2, oF (.getfield 130) 3 11 1 2, oV (.iconst 0) 1 0, o0 .iaload 1, o0 (.iload_n 1) 1, oM (.invokevirtual 263) 3 243 4 1 7, oA .ireturn 1 0])], [], 2)
theorem mk_241 : mj_ckM mj_TY mp_1 prog_1_method_27_code 2 (some .int) mt_241 = true := by decide +kernel
-- UnbeatenHouse$Front.isAtHand()Z
def mt_242 : mj_C := ([(0, [o0 (.aload_n 0) 1, oF (.getfield 9) 3 2 0 0, oV (.iconst (-1)) 1 (-1), oA (.if_icmp .eq 7) 3 12]), (8, [oV (.iconst 1) 1 1, oA (.goto 4) 3 13]), (12, [oV (.iconst 0) 1 0]), (13, [oA .ireturn 1 1])], [], 1)
theorem mk_242 : mj_ckM mj_TY mp_2 prog_2_method_4_code 1 (some .boolean) mt_242 = true := by decide +kernel
-- UnbeatenHouse$Picker.pickFewest(LUnbeatenHouse$Front;II)I
def mt_243 : mj_C := ([(0, [o0 (.aload_n 0) 1, o0 (.aload_n 1) 1, o0 (.iload_n 2) 1, oM (.invokevirtual 25) 3 244 3 0 7, oV (.iconst 0) 1 0, o0 (.istore 4) 2]), (9, [o0 (.iload 4) 2, o0 (.aload_n 0) 1, oF (.getfield 29) 3 6 0 0, oA (.if_icmp .gt 33) 3 48]), (18, [o0 (.iload 4) 2, oV (.bipush 16) 2 16, oA (.if_icmp .gt 26) 3 48]), (25, [o0 (.aload_n 0) 1, o0 (.iload 4) 2, o0 (.iload_n 3) 1, oV (.iconst 1) 1 1, o0 .iadd 1, o0 (.iload_n 3) 1, oM (.invokevirtual 32) 3 246 4 1 7, o0 (.iload_n 3) 1, oA (.if_icmp .gt 6) 3 42]), (39, [o0 (.iload 4) 2, oA .ireturn 1 0]), (42, [oV (.iinc 4 1) 3 1, oA (.goto (-36)) 3 9]), (48, [oV (.iconst (-1)) 1 (-1), oA .ireturn 1 0])], [(9, [0, 3, 4])], 5)
theorem mk_243 : mj_ckM mj_TY mp_6 prog_6_method_3_code 5 (some .int) mt_243 = true := by decide +kernel
-- UnbeatenHouse$Picker.measure(LUnbeatenHouse$Front;I)V
def mt_244 : mj_C := ([(0, [o0 (.aload_n 0) 1, o0 (.aload_n 1) 1, oF (.getfield 37) 3 2 1 0, oV (.bipush 24) 2 24, oM (.invokestatic 40) 3 0 2 1 0, oF (.putfield 29) 3 6 0 0, oV (.iconst 0) 1 0, o0 (.istore_n 3) 1]), (15, [o0 (.iload_n 3) 1, o0 (.aload_n 0) 1, oF (.getfield 29) 3 6 0 0, oA (.if_icmp .ge 75) 3 95]), (23, [oV (.iconst 0) 1 0, o0 (.istore 4) 2]), (26, [o0 (.iload 4) 2, o0 (.aload_n 0) 1, oF (.getfield 29) 3 6 0 0, oA (.if_icmp .ge 57) 3 89]), (35, [oV (.iconst 0) 1 0, o0 (.istore 5) 2, oV (.iconst 0) 1 0, o0 (.istore 6) 2]), (41, [o0 (.iload 6) 2, o0 (.iload_n 2) 1, oA (.if_icmp .ge 25) 3 69]), (47, [o0 (.iload 5) 2, o0 (.aload_n 1) 1, o0 (.iload_n 3) 1, o0 (.iload 4) 2, o0 (.iload 6) 2, oM (.invokevirtual 46) 3 245 4 1 3, oM (.invokestatic 49) 3 1 2 1 0, o0 (.istore 5) 2, oV (.iinc 6 1) 3 1, oA (.goto (-25)) 3 41]), (69, [o0 (.aload_n 0) 1, oF (.getfield 11) 3 6 1 2, o0 (.iload_n 3) 1, oV (.bipush 24) 2 24, o0 .imul 1, o0 (.iload 4) 2, o0 .iadd 1, o0 (.iload 5) 2, o0 .iastore 1, oV (.iinc 4 1) 3 1, oA (.goto (-60)) 3 26]), (89, [oV (.iinc 3 1) 3 1, oA (.goto (-77)) 3 15]), (95, [o0 .return_ 1])], [(15, [0, 1, 2, 3]), (26, [0, 1, 2, 3, 4]), (41, [0, 1, 2, 3, 4, 5, 6])], 7)
theorem mk_244 : mj_ckM mj_TY mp_6 prog_6_method_5_code 7 none mt_244 = true := by decide +kernel
-- UnbeatenHouse$Front.difference(III)I
def mt_245 : mj_C := ([(0, [o0 (.aload_n 0) 1, oF (.getfield 15) 3 2 2 2, o0 (.iload_n 1) 1, oV (.iconst 4) 1 4, o0 .imul 1, o0 (.iload_n 3) 1, o0 .iadd 1, o0 .iaload 1, o0 (.aload_n 0) 1, oF (.getfield 15) 3 2 2 2, o0 (.iload_n 2) 1, oV (.iconst 4) 1 4, o0 .imul 1, o0 (.iload_n 3) 1, o0 .iadd 1, o0 .iaload 1, o0 .isub 1, oA .ireturn 1 0])], [], 4)
theorem mk_245 : mj_ckM mj_TY mp_2 prog_2_method_9_code 4 (some .int) mt_245 = true := by decide +kernel
-- UnbeatenHouse$Picker.pickOf(III)I
def mt_246 : mj_C := ([(0, [o0 (.iload_n 2) 1, o0 (.istore 4) 2, oV (.iconst 1) 1 1, o0 (.istore 5) 2, oV (.iconst 0) 1 0, o0 (.istore 6) 2]), (9, [o0 (.iload 6) 2, o0 (.iload_n 1) 1, oA (.if_icmp .ge 18) 3 30]), (15, [o0 (.aload_n 0) 1, oF (.getfield 15) 3 6 2 2, o0 (.iload 6) 2, o0 (.iload 6) 2, o0 .iastore 1, oV (.iinc 6 1) 3 1, oA (.goto (-18)) 3 9]), (30, [oV (.iconst 0) 1 0, o0 (.istore 6) 2]), (33, [o0 (.iload 6) 2, oV (.sipush 20000) 3 20000, oA (.if_icmp .ge 74) 3 112]), (41, [o0 (.iload 5) 2, oA (.ifCond .eq 69) 3 112]), (46, [o0 (.aload_n 0) 1, o0 (.iload_n 1) 1, o0 (.iload 4) 2, oM (.invokevirtual 52) 3 247 3 1 7, o0 (.istore 7) 2, o0 (.iload 7) 2, o0 (.iload 4) 2, oA (.if_icmp .ge 26) 3 85]), (62, [o0 (.iload 7) 2, o0 (.istore 4) 2, o0 (.aload_n 0) 1, o0 (.iload_n 1) 1, oF (.putfield 21) 3 6 4 0, o0 (.aload_n 0) 1, oF (.getfield 15) 3 6 2 2, oV (.iconst 0) 1 0, o0 (.aload_n 0) 1, oF (.getfield 18) 3 6 3 2, oV (.iconst 0) 1 0, o0 (.iload_n 1) 1, oA (.invokestatic 55) 3 999]), (85, [o0 (.iload 4) 2, o0 (.iload_n 3) 1, oA (.if_icmp .le 15) 3 103]), (91, [o0 (.aload_n 0) 1, o0 (.iload_n 1) 1, oM (.invokevirtual 61) 3 248 2 1 7, oA (.ifCond .eq 7) 3 103]), (99, [oV (.iconst 1) 1 1, oA (.goto 4) 3 104]), (103, [oV (.iconst 0) 1 0]), (104, [o0 (.istore 5) 2, oV (.iinc 6 1) 3 1, oA (.goto (-76)) 3 33]), (112, [o0 (.iload 4) 2, oA .ireturn 1 0])], [(9, [0, 1, 3, 4, 5, 6]), (33, [0, 1, 3, 4, 5, 6]), (85, [0, 1, 3, 4, 6])], 8)
theorem mk_246 : mj_ckM mj_TY mp_6 prog_6_method_6_code 8 (some .int) mt_246 = true := by decide +kernel
-- UnbeatenHouse$Picker.farthest(II)I
def mt_247 : mj_C := ([(0, [oV (.iconst 0) 1 0, o0 (.istore_n 3) 1, oV (.iconst 0) 1 0, o0 (.istore 4) 2]), (5, [o0 (.iload 4) 2, o0 (.aload_n 0) 1, oF (.getfield 29) 3 6 0 0, oA (.if_icmp .ge 65) 3 76]), (14, [o0 (.iload_n 3) 1, o0 (.iload_n 2) 1, oA (.if_icmp .ge 60) 3 76]), (19, [oV (.ldc 36) 2 2000000000, o0 (.istore 5) 2, oV (.iconst 0) 1 0, o0 (.istore 6) 2]), (26, [o0 (.iload 6) 2, o0 (.iload_n 1) 1, oA (.if_icmp .ge 34) 3 63]), (32, [o0 (.iload 5) 2, o0 (.aload_n 0) 1, oF (.getfield 11) 3 6 1 2, o0 (.aload_n 0) 1, oF (.getfield 15) 3 6 2 2, o0 (.iload 6) 2, o0 .iaload 1, oV (.bipush 24) 2 24, o0 .imul 1, o0 (.iload 4) 2, o0 .iadd 1, o0 .iaload 1, oM (.invokestatic 40) 3 0 2 1 0, o0 (.istore 5) 2, oV (.iinc 6 1) 3 1, oA (.goto (-34)) 3 26]), (63, [o0 (.iload_n 3) 1, o0 (.iload 5) 2, oM (.invokestatic 49) 3 1 2 1 0, o0 (.istore_n 3) 1, oV (.iinc 4 1) 3 1, oA (.goto (-68)) 3 5]), (76, [o0 (.iload_n 3) 1, oA .ireturn 1 0])], [(5, [0, 1, 2, 3, 4]), (26, [0, 1, 2, 3, 4, 5, 6])], 7)
theorem mk_247 : mj_ckM mj_TY mp_6 prog_6_method_7_code 7 (some .int) mt_247 = true := by decide +kernel
-- UnbeatenHouse$Picker.moveOn(I)Z
def mt_248 : mj_C := ([(0, [o0 (.iload_n 1) 1, oV (.iconst 1) 1 1, o0 .isub 1, o0 (.istore_n 2) 1]), (4, [o0 (.iload_n 2) 1, oA (.ifCond .lt 69) 3 74]), (8, [o0 (.aload_n 0) 1, oF (.getfield 15) 3 6 2 2, o0 (.iload_n 2) 1, o0 .iaload 1, o0 (.aload_n 0) 1, oF (.getfield 29) 3 6 0 0, o0 (.iload_n 1) 1, o0 .isub 1, o0 (.iload_n 2) 1, o0 .iadd 1, oA (.if_icmp .ge 46) 3 68]), (25, [o0 (.aload_n 0) 1, oF (.getfield 15) 3 6 2 2, o0 (.iload_n 2) 1, o0 .dup2 1, o0 .iaload 1, oV (.iconst 1) 1 1, o0 .iadd 1, o0 .iastore 1, o0 (.iload_n 2) 1, oV (.iconst 1) 1 1, o0 .iadd 1, o0 (.istore_n 3) 1]), (39, [o0 (.iload_n 3) 1, o0 (.iload_n 1) 1, oA (.if_icmp .ge 25) 3 66]), (44, [o0 (.aload_n 0) 1, oF (.getfield 15) 3 6 2 2, o0 (.iload_n 3) 1, o0 (.aload_n 0) 1, oF (.getfield 15) 3 6 2 2, o0 (.iload_n 3) 1, oV (.iconst 1) 1 1, o0 .isub 1, o0 .iaload 1, oV (.iconst 1) 1 1, o0 .iadd 1, o0 .iastore 1, oV (.iinc 3 1) 3 1, oA (.goto (-24)) 3 39]), (66, [oV (.iconst 1) 1 1, oA .ireturn 1 1]), (68, [oV (.iinc 2 (-1)) 3 (-1), oA (.goto (-67)) 3 4]), (74, [oV (.iconst 0) 1 0, oA .ireturn 1 1])], [(4, [0, 1, 2]), (39, [0, 1, 3])], 4)
theorem mk_248 : mj_ckM mj_TY mp_6 prog_6_method_8_code 4 (some .boolean) mt_248 = true := by decide +kernel
-- UnbeatenHouse.standIns(I)I
def mt_249 : mj_C := ([(0, [o0 (.iload_n 1) 1, oV (.iconst 1) 1 1, oA (.if_icmp .lt 41) 3 43]), (5, [o0 (.iload_n 1) 1, oV (.iconst 4) 1 4, oA (.if_icmp .gt 36) 3 43]), (10, [o0 (.aload_n 0) 1, oF (.getfield 47) 3 1 6 2, oM (.invokevirtual 259) 3 242 1 1 3, oA (.ifCond .eq 26) 3 43]), (20, [o0 (.iload_n 1) 1, o0 (.aload_n 0) 1, oF (.getfield 47) 3 1 6 2, oF (.getfield 209) 3 2 1 0, oA (.if_icmp .gt 15) 3 43]), (31, [o0 (.aload_n 0) 1, oF (.getfield 47) 3 1 6 2, oF (.getfield 209) 3 2 1 0, oV (.bipush 24) 2 24, oA (.if_icmp .le 5) 3 45]), (43, [oV (.iconst (-1)) 1 (-1), oA .ireturn 1 0]), (45, [o0 (.aload_n 0) 1, oF (.getfield 64) 3 1 10 2, o0 (.aload_n 0) 1, oF (.getfield 47) 3 1 6 2, o0 (.aload_n 0) 1, oF (.getfield 10) 3 1 1 2, oF (.getfield 130) 3 11 1 2, oV (.iconst 0) 1 0, o0 .iaload 1, o0 (.iload_n 1) 1, oM (.invokevirtual 267) 3 250 4 1 7, oA .ireturn 1 0])], [], 2)
theorem mk_249 : mj_ckM mj_TY mp_1 prog_1_method_28_code 2 (some .int) mt_249 = true := by decide +kernel
-- UnbeatenHouse$Picker.pickClosest(LUnbeatenHouse$Front;II)I
def mt_250 : mj_C := ([(0, [o0 (.aload_n 0) 1, o0 (.aload_n 1) 1, o0 (.iload_n 2) 1, oM (.invokevirtual 25) 3 244 3 0 7, o0 (.aload_n 0) 1, o0 (.iload_n 3) 1, oV (.ldc 36) 2 2000000000, oV (.iconst 0) 1 0, oM (.invokevirtual 32) 3 246 4 1 7, oA .ireturn 1 0])], [], 4)
theorem mk_250 : mj_ckM mj_TY mp_6 prog_6_method_4_code 4 (some .int) mt_250 = true := by decide +kernel
-- UnbeatenHouse.kept(I)I
def mt_251 : mj_C := ([(0, [o0 (.iload_n 1) 1, oA (.ifCond .lt 26) 3 27]), (4, [o0 (.iload_n 1) 1, o0 (.aload_n 0) 1, oF (.getfield 64) 3 1 10 2, oF (.getfield 270) 3 6 4 0, oA (.if_icmp .ge 15) 3 27]), (15, [o0 (.aload_n 0) 1, oF (.getfield 64) 3 1 10 2, oF (.getfield 273) 3 6 3 2, o0 (.iload_n 1) 1, o0 .iaload 1, oA (.goto 4) 3 28]), (27, [oV (.iconst (-1)) 1 (-1)]), (28, [oA .ireturn 1 0])], [], 2)
theorem mk_251 : mj_ckM mj_TY mp_1 prog_1_method_29_code 2 (some .int) mt_251 = true := by decide +kernel
-- UnbeatenHouse.cost(IIIZ)I
def mt_252 : mj_C := ([(0, [o0 (.aload_n 0) 1, oF (.getfield 47) 3 1 6 2, o0 (.iload_n 1) 1, oM (.invokevirtual 231) 3 231 2 1 3, oA (.ifCond .eq 32) 3 40]), (11, [o0 (.aload_n 0) 1, oF (.getfield 10) 3 1 1 2, oV (.iconst 0) 1 0, o0 (.iload_n 2) 1, oM (.invokevirtual 149) 3 192 3 1 12, oA (.ifCond .eq 20) 3 40]), (23, [o0 (.aload_n 0) 1, oF (.getfield 10) 3 1 1 2, oV (.iconst 0) 1 0, o0 (.iload_n 3) 1, oM (.invokevirtual 149) 3 192 3 1 12, oA (.ifCond .eq 8) 3 40]), (35, [o0 (.iload_n 2) 1, o0 (.iload_n 3) 1, oA (.if_icmp .ne 5) 3 42]), (40, [oV (.iconst (-1)) 1 (-1), oA .ireturn 1 0]), (42, [oW (.lconst 0) 1 0, o0 (.lstore 5) 2, oW (.lconst 0) 1 0, o0 (.lstore 7) 2, oV (.iconst 0) 1 0, o0 (.istore 9) 2]), (51, [o0 (.iload 9) 2, o0 (.aload_n 0) 1, oF (.getfield 47) 3 1 6 2, oF (.getfield 209) 3 2 1 0, oA (.if_icmp .ge 80) 3 140]), (63, [o0 (.aload_n 0) 1, oF (.getfield 47) 3 1 6 2, o0 (.iload_n 1) 1, o0 (.iload 9) 2, o0 (.iload_n 2) 1, oM (.invokevirtual 276) 3 245 4 1 3, o0 .i2l 1, o0 (.lstore 10) 2, o0 (.aload_n 0) 1, oF (.getfield 47) 3 1 6 2, o0 (.iload 9) 2, o0 (.iload_n 1) 1, o0 (.iload_n 3) 1, oM (.invokevirtual 276) 3 245 4 1 3, o0 .i2l 1, o0 (.lstore 12) 2, o0 (.lload 10) 2, oW (.lconst 0) 1 0, o0 .lcmp 1, oA (.ifCond .le 39) 3 134]), (98, [o0 (.lload 12) 2, oW (.lconst 0) 1 0, o0 .lcmp 1, oA (.ifCond .le 32) 3 134]), (105, [o0 (.lload 7) 2, oW (.lconst 0) 1 0, o0 .lcmp 1, oA (.ifCond .eq 17) 3 126]), (112, [o0 (.lload 12) 2, o0 (.lload 7) 2, o0 .lmul 1, o0 (.lload 5) 2, o0 (.lload 10) 2, o0 .lmul 1, o0 .lcmp 1, oA (.ifCond .ge 11) 3 134]), (126, [o0 (.lload 12) 2, o0 (.lstore 5) 2, o0 (.lload 10) 2, o0 (.lstore 7) 2]), (134, [oV (.iinc 9 1) 3 1, oA (.goto (-86)) 3 51]), (140, [o0 (.lload 7) 2, oW (.lconst 0) 1 0, o0 .lcmp 1, oA (.ifCond .ne 5) 3 149]), (147, [oV (.iconst (-1)) 1 (-1), oA .ireturn 1 0]), (149, [o0 (.lload 5) 2, o0 (.lload 7) 2, oM (.invokestatic 279) 3 253 2 2 0, o0 (.lstore 9) 2, o0 (.iload 4) 2, oA (.ifCond .eq 8) 3 168]), (163, [o0 (.lload 5) 2, oA (.goto 5) 3 170]), (168, [o0 (.lload 7) 2]), (170, [o0 (.lload 9) 2, o0 .ldiv 1, o0 .l2i 1, oA .ireturn 1 0])], [(51, [0, 1, 2, 3, 4, 5, 7, 9]), (126, [0, 1, 2, 3, 4, 9, 10, 12])], 14)
theorem mk_252 : mj_ckM mj_TY mp_1 prog_1_method_30_code 14 (some .int) mt_252 = true := by decide +kernel
-- UnbeatenHouse.commonDivisor(JJ)J
def mt_253 : mj_C := ([(0, [o0 (.lload_n 0) 1, o0 (.lstore 4) 2, o0 (.lload_n 2) 1, o0 (.lstore 6) 2, oV (.iconst 0) 1 0, o0 (.istore 8) 2]), (9, [o0 (.iload 8) 2, oV (.sipush 200) 3 200, oA (.if_icmp .ge 31) 3 45]), (17, [o0 (.lload 6) 2, oW (.lconst 0) 1 0, o0 .lcmp 1, oA (.ifCond .le 24) 3 45]), (24, [o0 (.lload 4) 2, o0 (.lload 6) 2, o0 .lrem 1, o0 (.lstore 9) 2, o0 (.lload 6) 2, o0 (.lstore 4) 2, o0 (.lload 9) 2, o0 (.lstore 6) 2, oV (.iinc 8 1) 3 1, oA (.goto (-33)) 3 9]), (45, [oW (.lconst 1) 1 1, o0 (.lload 4) 2, oM (.invokestatic 283) 3 5 2 2 0, o0 .lreturn 1])], [(9, [4, 6, 8])], 11)
theorem mk_253 : mj_ckM mj_TY mp_1 prog_1_method_31_code 11 (some .long) mt_253 = true := by decide +kernel
-- UnbeatenHouse.hole(I)I
def mt_254 : mj_C := ([(0, [o0 (.aload_n 0) 1, oF (.getfield 47) 3 1 6 2, oM (.invokevirtual 259) 3 242 1 1 3, oA (.ifCond .eq 15) 3 22]), (10, [o0 (.aload_n 0) 1, oF (.getfield 10) 3 1 1 2, oV (.iconst 0) 1 0, o0 (.iload_n 1) 1, oM (.invokevirtual 149) 3 192 3 1 12, oA (.ifCond .ne 5) 3 24]), (22, [oV (.iconst (-1)) 1 (-1), oA .ireturn 1 0]), (24, [oV (.iconst 0) 1 0, o0 (.istore_n 2) 1, oV (.iconst 0) 1 0, o0 (.istore_n 3) 1]), (28, [o0 (.iload_n 3) 1, o0 (.aload_n 0) 1, oF (.getfield 47) 3 1 6 2, oF (.getfield 209) 3 2 1 0, oA (.if_icmp .ge 23) 3 59]), (39, [o0 (.iload_n 2) 1, o0 (.aload_n 0) 1, oF (.getfield 47) 3 1 6 2, o0 (.iload_n 3) 1, o0 (.iload_n 1) 1, oM (.invokevirtual 288) 3 255 3 1 3, oM (.invokestatic 291) 3 1 2 1 0, o0 (.istore_n 2) 1, oV (.iinc 3 1) 3 1, oA (.goto (-28)) 3 28]), (59, [o0 (.iload_n 2) 1, oA .ireturn 1 0])], [(28, [0, 1, 2, 3])], 4)
theorem mk_254 : mj_ckM mj_TY mp_1 prog_1_method_32_code 4 (some .int) mt_254 = true := by decide +kernel
-- UnbeatenHouse$Front.stepAbove(II)I
def mt_255 : mj_C := ([(0, [oV (.iconst 0) 1 0, o0 (.istore_n 3) 1, oV (.iconst 0) 1 0, o0 (.istore 4) 2]), (5, [o0 (.iload 4) 2, o0 (.aload_n 0) 1, oF (.getfield 27) 3 2 1 0, oA (.if_icmp .ge 37) 3 48]), (14, [o0 (.aload_n 0) 1, o0 (.iload 4) 2, o0 (.iload_n 1) 1, o0 (.iload_n 2) 1, oM (.invokevirtual 44) 3 245 4 1 3, o0 (.istore 5) 2, o0 (.iload 5) 2, oA (.ifCond .le 16) 3 42]), (29, [o0 (.iload_n 3) 1, oA (.ifCond .eq 9) 3 39]), (33, [o0 (.iload 5) 2, o0 (.iload_n 3) 1, oA (.if_icmp .ge 6) 3 42]), (39, [o0 (.iload 5) 2, o0 (.istore_n 3) 1]), (42, [oV (.iinc 4 1) 3 1, oA (.goto (-40)) 3 5]), (48, [o0 (.iload_n 3) 1, oA .ireturn 1 0])], [(5, [0, 1, 2, 3, 4])], 6)
theorem mk_255 : mj_ckM mj_TY mp_2 prog_2_method_10_code 6 (some .int) mt_255 = true := by decide +kernel
-- UnbeatenHouse.rather(II)I
def mt_256 : mj_C := ([(0, [o0 (.aload_n 0) 1, oF (.getfield 26) 3 1 3 2, o0 (.iload_n 1) 1, oM (.invokevirtual 198) 3 177 2 1 10, oA (.ifCond .eq 31) 3 39]), (11, [o0 (.aload_n 0) 1, oF (.getfield 26) 3 1 3 2, o0 (.iload_n 2) 1, oM (.invokevirtual 198) 3 177 2 1 10, oA (.ifCond .eq 20) 3 39]), (22, [o0 (.iload_n 1) 1, o0 (.iload_n 2) 1, oA (.if_icmp .eq 15) 3 39]), (27, [o0 (.aload_n 0) 1, oF (.getfield 78) 3 1 12 2, oF (.getfield 146) 3 10 0 0, oV (.bipush 12) 2 12, oA (.if_icmp .lt 5) 3 41]), (39, [oV (.iconst (-1)) 1 (-1), oA .ireturn 1 0]), (41, [o0 (.aload_n 0) 1, oF (.getfield 78) 3 1 12 2, o0 (.iload_n 1) 1, o0 (.iload_n 2) 1, oM (.invokevirtual 293) 3 257 3 1 11, oA .ireturn 1 0])], [], 3)
theorem mk_256 : mj_ckM mj_TY mp_1 prog_1_method_33_code 3 (some .int) mt_256 = true := by decide +kernel
-- UnbeatenHouse$Sayings.add(II)I
def mt_257 : mj_C := ([(0, [o0 (.aload_n 0) 1, oF (.getfield 9) 3 10 1 2, o0 (.aload_n 0) 1, oF (.getfield 26) 3 10 0 0, o0 (.iload_n 1) 1, o0 .iastore 1, o0 (.aload_n 0) 1, oF (.getfield 15) 3 10 2 2, o0 (.aload_n 0) 1, oF (.getfield 26) 3 10 0 0, o0 (.iload_n 2) 1, o0 .iastore 1, o0 (.aload_n 0) 1, o0 .dup 1, oF (.getfield 26) 3 10 0 0, oV (.iconst 1) 1 1, o0 .iadd 1, oF (.putfield 26) 3 10 0 0, o0 (.aload_n 0) 1, oF (.getfield 26) 3 10 0 0, oA .ireturn 1 0])], [], 3)
theorem mk_257 : mj_ckM mj_TY mp_10 prog_10_method_3_code 3 (some .int) mt_257 = true := by decide +kernel
-- UnbeatenHouse.unsay()I
def mt_258 : mj_C := ([(0, [o0 (.aload_n 0) 1, oF (.getfield 78) 3 1 12 2, oF (.getfield 146) 3 10 0 0, oA (.ifCond .ne 5) 3 12]), (10, [oV (.iconst (-1)) 1 (-1), oA .ireturn 1 0]), (12, [o0 (.aload_n 0) 1, oF (.getfield 78) 3 1 12 2, o0 .dup 1, oF (.getfield 146) 3 10 0 0, oV (.iconst 1) 1 1, o0 .isub 1, oF (.putfield 146) 3 10 0 0, o0 (.aload_n 0) 1, oF (.getfield 78) 3 1 12 2, oF (.getfield 146) 3 10 0 0, oA .ireturn 1 0])], [], 1)
theorem mk_258 : mj_ckM mj_TY mp_1 prog_1_method_34_code 1 (some .int) mt_258 = true := by decide +kernel
-- UnbeatenHouse.agree()I
def mt_259 : mj_C := ([(0, [o0 (.aload_n 0) 1, oF (.getfield 10) 3 1 1 2, oF (.getfield 130) 3 11 1 2, oV (.iconst 0) 1 0, o0 .iaload 1, oA (.ifCond .ne 5) 3 14]), (12, [oV (.iconst (-1)) 1 (-1), oA .ireturn 1 0]), (14, [oV (.iconst 0) 1 0, o0 (.istore_n 1) 1, oV (.iconst 0) 1 0, o0 (.istore_n 2) 1]), (18, [o0 (.iload_n 2) 1, o0 (.aload_n 0) 1, oF (.getfield 71) 3 1 11 2, oF (.getfield 251) 3 12 2 0, oA (.if_icmp .ge 31) 3 57]), (29, [o0 (.aload_n 0) 1, oF (.getfield 78) 3 1 12 2, o0 (.iload_n 2) 1, o0 (.aload_n 0) 1, oF (.getfield 71) 3 1 11 2, o0 (.aload_n 0) 1, oF (.getfield 26) 3 1 3 2, oM (.invokevirtual 296) 3 260 4 1 11, oA (.ifCond .eq 6) 3 51]), (48, [oV (.iinc 1 1) 3 1]), (51, [oV (.iinc 2 1) 3 1, oA (.goto (-36)) 3 18]), (57, [o0 (.iload_n 1) 1, oA .ireturn 1 0])], [(18, [0, 1, 2])], 3)
theorem mk_259 : mj_ckM mj_TY mp_1 prog_1_method_35_code 3 (some .int) mt_259 = true := by decide +kernel
-- UnbeatenHouse$Sayings.isAgreed(ILUnbeatenHouse$Weighings;LUnbeatenHouse$Rows;)Z
def mt_260 : mj_C := ([(0, [oV (.iconst 0) 1 0, o0 (.istore 4) 2]), (3, [o0 (.iload 4) 2, o0 (.aload_n 0) 1, oF (.getfield 26) 3 10 0 0, oA (.if_icmp .ge 23) 3 32]), (12, [o0 (.aload_n 0) 1, o0 (.iload 4) 2, o0 (.iload_n 1) 1, o0 (.aload_n 2) 1, o0 (.aload_n 3) 1, oM (.invokevirtual 45) 3 261 5 1 11, oA (.ifCond .ne 5) 3 26]), (24, [oV (.iconst 0) 1 0, oA .ireturn 1 1]), (26, [oV (.iinc 4 1) 3 1, oA (.goto (-26)) 3 3]), (32, [oV (.iconst 1) 1 1, oA .ireturn 1 1])], [(3, [0, 1, 2, 3, 4])], 5)
theorem mk_260 : mj_ckM mj_TY mp_10 prog_10_method_5_code 5 (some .boolean) mt_260 = true := by decide +kernel
-- UnbeatenHouse$Sayings.isSayingAgreed(IILUnbeatenHouse$Weighings;LUnbeatenHouse$Rows;)Z
def mt_261 : mj_C := ([(0, [o0 (.aload_n 0) 1, oF (.getfield 9) 3 10 1 2, o0 (.iload_n 1) 1, o0 .iaload 1, o0 (.istore 5) 2, o0 (.aload_n 0) 1, oF (.getfield 15) 3 10 2 2, o0 (.iload_n 1) 1, o0 .iaload 1, o0 (.istore 6) 2, o0 (.aload 4) 2, o0 (.iload 5) 2, oM (.invokevirtual 30) 3 177 2 1 10, oA (.ifCond .eq 13) 3 36]), (26, [o0 (.aload 4) 2, o0 (.iload 6) 2, oM (.invokevirtual 30) 3 177 2 1 10, oA (.ifCond .ne 5) 3 38]), (36, [oV (.iconst 1) 1 1, oA .ireturn 1 1]), (38, [o0 (.aload_n 3) 1, o0 (.iload_n 2) 1, o0 (.aload 4) 2, oF (.getfield 36) 3 9 2 2, o0 (.iload 5) 2, oV (.iconst 4) 1 4, o0 .imul 1, oM (.invokevirtual 39) 3 239 4 1 13, o0 (.aload_n 3) 1, o0 (.iload_n 2) 1, o0 (.aload 4) 2, oF (.getfield 36) 3 9 2 2, o0 (.iload 6) 2, oV (.iconst 4) 1 4, o0 .imul 1, oM (.invokevirtual 39) 3 239 4 1 13, oA (.if_icmp .gt 7) 3 73]), (69, [oV (.iconst 1) 1 1, oA (.goto 4) 3 74]), (73, [oV (.iconst 0) 1 0]), (74, [oA .ireturn 1 1])], [], 7)
theorem mk_261 : mj_ckM mj_TY mp_10 prog_10_method_4_code 7 (some .boolean) mt_261 = true := by decide +kernel
-- UnbeatenHouse.could()J
def mt_262 : mj_C := ([(0, [oW (.lconst 0) 1 0, o0 (.lstore_n 1) 1, oV (.iconst 0) 1 0, o0 (.istore_n 3) 1]), (4, [o0 (.iload_n 3) 1, o0 (.aload_n 0) 1, oF (.getfield 71) 3 1 11 2, oF (.getfield 251) 3 12 2 0, oA (.if_icmp .ge 44) 3 56]), (15, [o0 (.aload_n 0) 1, oF (.getfield 78) 3 1 12 2, o0 (.iload_n 3) 1, o0 (.aload_n 0) 1, oF (.getfield 71) 3 1 11 2, o0 (.aload_n 0) 1, oF (.getfield 26) 3 1 3 2, oM (.invokevirtual 296) 3 260 4 1 11, oA (.ifCond .eq 19) 3 50]), (34, [o0 (.lload_n 1) 1, o0 (.aload_n 0) 1, oF (.getfield 26) 3 1 3 2, o0 (.iload_n 3) 1, o0 (.aload_n 0) 1, oF (.getfield 71) 3 1 11 2, oV (.iconst 0) 1 0, oM (.invokevirtual 300) 3 263 4 2 10, o0 .lor 1, o0 (.lstore_n 1) 1]), (50, [oV (.iinc 3 1) 3 1, oA (.goto (-49)) 3 4]), (56, [o0 (.lload_n 1) 1, o0 .lreturn 1])], [(4, [0, 1, 3])], 4)
theorem mk_262 : mj_ckM mj_TY mp_1 prog_1_method_36_code 4 (some .long) mt_262 = true := by decide +kernel
-- UnbeatenHouse$Rows.firstBy(ILUnbeatenHouse$Weighings;I)J
def mt_263 : mj_C := ([(0, [oV (.ldc 91) 2 2000000000, o0 (.istore 4) 2, oV (.iconst 0) 1 0, o0 (.istore 5) 2]), (7, [o0 (.iload 5) 2, o0 (.aload_n 0) 1, oF (.getfield 29) 3 9 0 0, oA (.if_icmp .ge 55) 3 68]), (16, [o0 (.aload_n 0) 1, oF (.getfield 21) 3 9 7 2, o0 (.iload 5) 2, o0 (.aload_n 2) 1, o0 (.iload_n 1) 1, o0 (.aload_n 0) 1, oF (.getfield 9) 3 9 2 2, o0 (.iload 5) 2, oV (.iconst 4) 1 4, o0 .imul 1, oM (.invokevirtual 92) 3 239 4 1 13, o0 .iastore 1, o0 (.aload_n 0) 1, oF (.getfield 48) 3 9 6 1, o0 (.iload 5) 2, oM (.invokestatic 65) 3 178 2 1 0, oA (.ifCond .eq 17) 3 62]), (48, [o0 (.iload 4) 2, o0 (.aload_n 0) 1, oF (.getfield 21) 3 9 7 2, o0 (.iload 5) 2, o0 .iaload 1, oM (.invokestatic 98) 3 0 2 1 0, o0 (.istore 4) 2]), (62, [oV (.iinc 5 1) 3 1, oA (.goto (-58)) 3 7]), (68, [oW (.lconst 0) 1 0, o0 (.lstore 5) 2, oV (.iconst 0) 1 0, o0 (.istore 7) 2]), (74, [o0 (.iload 7) 2, o0 (.aload_n 0) 1, oF (.getfield 29) 3 9 0 0, oA (.if_icmp .ge 44) 3 124]), (83, [o0 (.aload_n 0) 1, oF (.getfield 48) 3 9 6 1, o0 (.iload 7) 2, oM (.invokestatic 65) 3 178 2 1 0, oA (.ifCond .eq 26) 3 118]), (95, [o0 (.aload_n 0) 1, oF (.getfield 21) 3 9 7 2, o0 (.iload 7) 2, o0 .iaload 1, o0 (.iload 4) 2, o0 .isub 1, o0 (.iload_n 3) 1, oA (.if_icmp .gt 12) 3 118]), (109, [o0 (.lload 5) 2, oW (.lconst 1) 1 1, o0 (.iload 7) 2, o0 .lshl 1, o0 .lor 1, o0 (.lstore 5) 2]), (118, [oV (.iinc 7 1) 3 1, oA (.goto (-47)) 3 74]), (124, [o0 (.lload 5) 2, o0 .lreturn 1])], [(7, [0, 1, 2, 3, 4, 5]), (74, [0, 3, 4, 5, 7])], 8)
theorem mk_263 : mj_ckM mj_TY mp_9 prog_9_method_9_code 8 (some .long) mt_263 = true := by decide +kernel
-- UnbeatenHouse.question(I)I
def mt_264 : mj_C := ([(0, [o0 (.iload_n 1) 1, oA (.ifCond .lt 26) 3 27]), (4, [o0 (.iload_n 1) 1, oV (.iconst 2) 1 2, oA (.if_icmp .gt 21) 3 27]), (9, [o0 (.aload_n 0) 1, oF (.getfield 78) 3 1 12 2, o0 (.aload_n 0) 1, oF (.getfield 71) 3 1 11 2, o0 (.aload_n 0) 1, oF (.getfield 26) 3 1 3 2, oM (.invokevirtual 304) 3 265 3 1 11, oA (.ifCond .ne 5) 3 29]), (27, [oV (.iconst (-1)) 1 (-1), oA .ireturn 1 0]), (29, [o0 (.iload_n 1) 1, oV (.iconst 2) 1 2, oA (.if_icmp .ne 11) 3 42]), (34, [o0 (.aload_n 0) 1, oF (.getfield 78) 3 1 12 2, oF (.getfield 308) 3 10 7 0, oA .ireturn 1 0]), (42, [o0 (.iload_n 1) 1, oA (.ifCond .ne 13) 3 56]), (46, [o0 (.aload_n 0) 1, oF (.getfield 78) 3 1 12 2, oF (.getfield 311) 3 10 5 0, oA (.goto 10) 3 63]), (56, [o0 (.aload_n 0) 1, oF (.getfield 78) 3 1 12 2, oF (.getfield 314) 3 10 6 0]), (63, [oA .ireturn 1 0])], [], 2)
theorem mk_264 : mj_ckM mj_TY mp_1 prog_1_method_37_code 2 (some .int) mt_264 = true := by decide +kernel
-- UnbeatenHouse$Sayings.ask(LUnbeatenHouse$Weighings;LUnbeatenHouse$Rows;)Z
def mt_265 : mj_C := ([(0, [oV (.iconst 0) 1 0, o0 (.istore_n 3) 1]), (2, [o0 (.iload_n 3) 1, oV (.sipush 1600) 3 1600, oA (.if_icmp .ge 16) 3 22]), (9, [o0 (.aload_n 0) 1, oF (.getfield 18) 3 10 3 2, o0 (.iload_n 3) 1, oW (.lconst 0) 1 0, o0 .lastore 1, oV (.iinc 3 1) 3 1, oA (.goto (-17)) 3 2]), (22, [oV (.iconst 0) 1 0, o0 (.istore_n 3) 1]), (24, [o0 (.iload_n 3) 1, o0 (.aload_n 1) 1, oF (.getfield 49) 3 12 2 0, oA (.if_icmp .ge 31) 3 60]), (32, [o0 (.aload_n 0) 1, o0 (.iload_n 3) 1, o0 (.aload_n 1) 1, o0 (.aload_n 2) 1, oM (.invokevirtual 50) 3 260 4 1 11, oA (.ifCond .eq 15) 3 54]), (42, [o0 (.aload_n 0) 1, o0 (.aload_n 2) 1, o0 (.iload_n 3) 1, o0 (.aload_n 1) 1, oV (.iconst 0) 1 0, oM (.invokevirtual 54) 3 263 4 2 10, o0 (.aload_n 2) 1, oM (.invokevirtual 58) 3 266 3 0 11]), (54, [oV (.iinc 3 1) 3 1, oA (.goto (-33)) 3 24]), (60, [o0 (.aload_n 0) 1, oV (.iconst (-1)) 1 (-1), oF (.putfield 62) 3 10 7 0, oV (.iconst 0) 1 0, o0 (.istore_n 3) 1]), (67, [o0 (.iload_n 3) 1, o0 (.aload_n 2) 1, oF (.getfield 65) 3 9 0 0, oA (.if_icmp .ge 59) 3 131]), (75, [o0 (.iload_n 3) 1, oV (.iconst 1) 1 1, o0 .iadd 1, o0 (.istore 4) 2]), (80, [o0 (.iload 4) 2, o0 (.aload_n 2) 1, oF (.getfield 65) 3 9 0 0, oA (.if_icmp .ge 39) 3 125]), (89, [o0 (.aload_n 2) 1, oF (.getfield 66) 3 9 6 1, o0 (.iload_n 3) 1, oM (.invokestatic 70) 3 178 2 1 0, oA (.ifCond .eq 22) 3 119]), (100, [o0 (.aload_n 2) 1, oF (.getfield 66) 3 9 6 1, o0 (.iload 4) 2, oM (.invokestatic 70) 3 178 2 1 0, oA (.ifCond .eq 10) 3 119]), (112, [o0 (.aload_n 0) 1, o0 (.iload_n 3) 1, o0 (.iload 4) 2, oM (.invokevirtual 74) 3 267 3 0 11]), (119, [oV (.iinc 4 1) 3 1, oA (.goto (-42)) 3 80]), (125, [oV (.iinc 3 1) 3 1, oA (.goto (-61)) 3 67]), (131, [o0 (.aload_n 0) 1, oF (.getfield 62) 3 10 7 0, oV (.iconst (-1)) 1 (-1), oA (.if_icmp .eq 7) 3 143]), (139, [oV (.iconst 1) 1 1, oA (.goto 4) 3 144]), (143, [oV (.iconst 0) 1 0]), (144, [oA .ireturn 1 1])], [(2, [0, 1, 2, 3]), (24, [0, 1, 2, 3]), (67, [0, 2, 3]), (80, [0, 2, 3, 4])], 5)
theorem mk_265 : mj_ckM mj_TY mp_10 prog_10_method_6_code 5 (some .boolean) mt_265 = true := by decide +kernel
-- UnbeatenHouse$Sayings.noteFirst(JLUnbeatenHouse$Rows;)V
def mt_266 : mj_C := ([(0, [oV (.iconst 0) 1 0, o0 (.istore 4) 2]), (3, [o0 (.iload 4) 2, o0 (.aload_n 3) 1, oF (.getfield 65) 3 9 0 0, oA (.if_icmp .ge 61) 3 70]), (12, [oV (.iconst 0) 1 0, o0 (.istore 5) 2]), (15, [o0 (.iload 5) 2, o0 (.aload_n 3) 1, oF (.getfield 65) 3 9 0 0, oA (.if_icmp .ge 43) 3 64]), (24, [o0 (.aload_n 3) 1, oF (.getfield 78) 3 9 7 2, o0 (.iload 4) 2, o0 .iaload 1, o0 (.aload_n 3) 1, oF (.getfield 78) 3 9 7 2, o0 (.iload 5) 2, o0 .iaload 1, oA (.if_icmp .gt 20) 3 58]), (41, [o0 (.aload_n 0) 1, oF (.getfield 18) 3 10 3 2, o0 (.iload 4) 2, oV (.bipush 40) 2 40, o0 .imul 1, o0 (.iload 5) 2, o0 .iadd 1, o0 .dup2 1, o0 .laload 1, o0 (.lload_n 1) 1, o0 .lor 1, o0 .lastore 1]), (58, [oV (.iinc 5 1) 3 1, oA (.goto (-46)) 3 15]), (64, [oV (.iinc 4 1) 3 1, oA (.goto (-64)) 3 3]), (70, [o0 .return_ 1])], [(3, [0, 1, 3, 4]), (15, [0, 1, 3, 4, 5])], 6)
theorem mk_266 : mj_ckM mj_TY mp_10 prog_10_method_7_code 6 none mt_266 = true := by decide +kernel
-- UnbeatenHouse$Sayings.tryQuestion(II)V
def mt_267 : mj_C := ([(0, [o0 (.aload_n 0) 1, oF (.getfield 18) 3 10 3 2, o0 (.iload_n 1) 1, oV (.bipush 40) 2 40, o0 .imul 1, o0 (.iload_n 2) 1, o0 .iadd 1, o0 .laload 1, oM (.invokestatic 81) 3 2 1 1 0, o0 (.aload_n 0) 1, oF (.getfield 18) 3 10 3 2, o0 (.iload_n 2) 1, oV (.bipush 40) 2 40, o0 .imul 1, o0 (.iload_n 1) 1, o0 .iadd 1, o0 .laload 1, oM (.invokestatic 81) 3 2 1 1 0, oM (.invokestatic 87) 3 1 2 1 0, o0 (.istore_n 3) 1, o0 (.aload_n 0) 1, oF (.getfield 62) 3 10 7 0, oV (.iconst (-1)) 1 (-1), oA (.if_icmp .eq 11) 3 48]), (40, [o0 (.iload_n 3) 1, o0 (.aload_n 0) 1, oF (.getfield 62) 3 10 7 0, oA (.if_icmp .ge 18) 3 63]), (48, [o0 (.aload_n 0) 1, o0 (.iload_n 1) 1, oF (.putfield 93) 3 10 5 0, o0 (.aload_n 0) 1, o0 (.iload_n 2) 1, oF (.putfield 96) 3 10 6 0, o0 (.aload_n 0) 1, o0 (.iload_n 3) 1, oF (.putfield 62) 3 10 7 0]), (63, [o0 .return_ 1])], [(48, [0, 1, 2, 3])], 4)
theorem mk_267 : mj_ckM mj_TY mp_10 prog_10_method_8_code 4 none mt_267 = true := by decide +kernel
-- UnbeatenHouse.quarrel()I
def mt_268 : mj_C := ([(0, [o0 (.aload_n 0) 1, oF (.getfield 78) 3 1 12 2, o0 (.aload_n 0) 1, oF (.getfield 71) 3 1 11 2, o0 (.aload_n 0) 1, oF (.getfield 26) 3 1 3 2, oM (.invokevirtual 317) 3 269 3 1 11, oA .ireturn 1 0])], [], 1)
theorem mk_268 : mj_ckM mj_TY mp_1 prog_1_method_38_code 1 (some .int) mt_268 = true := by decide +kernel
-- UnbeatenHouse$Sayings.fewestAtOdds(LUnbeatenHouse$Weighings;LUnbeatenHouse$Rows;)I
def mt_269 : mj_C := ([(0, [oV (.iconst 1) 1 1, o0 (.aload_n 0) 1, oF (.getfield 26) 3 10 0 0, o0 .ishl 1, o0 (.istore_n 3) 1, oV (.iconst 0) 1 0, o0 (.istore 4) 2]), (10, [o0 (.iload 4) 2, o0 (.iload_n 3) 1, oA (.if_icmp .ge 17) 3 30]), (16, [o0 (.aload_n 0) 1, oF (.getfield 22) 3 10 4 2, o0 (.iload 4) 2, oV (.iconst 0) 1 0, o0 .bastore 1, oV (.iinc 4 1) 3 1, oA (.goto (-17)) 3 10]), (30, [oV (.iconst 0) 1 0, o0 (.istore 4) 2]), (33, [o0 (.iload 4) 2, o0 (.aload_n 1) 1, oF (.getfield 49) 3 12 2 0, oA (.if_icmp .ge 23) 3 62]), (42, [o0 (.aload_n 0) 1, oF (.getfield 22) 3 10 4 2, o0 (.aload_n 0) 1, o0 (.iload 4) 2, o0 (.aload_n 1) 1, o0 (.aload_n 2) 1, oM (.invokevirtual 99) 3 270 4 1 11, oV (.iconst 1) 1 1, o0 .bastore 1, oV (.iinc 4 1) 3 1, oA (.goto (-26)) 3 33]), (62, [o0 (.aload_n 0) 1, o0 (.iload_n 3) 1, oM (.invokevirtual 103) 3 271 2 0 11, oV (.iconst 0) 1 0, o0 (.istore 4) 2, oV (.iconst 1) 1 1, o0 (.istore 5) 2]), (73, [o0 (.iload 5) 2, o0 (.iload_n 3) 1, oA (.if_icmp .ge 38) 3 114]), (79, [o0 (.aload_n 0) 1, oF (.getfield 22) 3 10 4 2, o0 (.iload 5) 2, o0 .baload 1, oA (.ifCond .ne 22) 3 108]), (89, [o0 (.iload 4) 2, oA (.ifCond .eq 13) 3 104]), (94, [o0 (.iload 5) 2, o0 (.iload 4) 2, oM (.invokestatic 107) 3 272 2 1 0, oA (.ifCond .eq 7) 3 108]), (104, [o0 (.iload 5) 2, o0 (.istore 4) 2]), (108, [oV (.iinc 5 1) 3 1, oA (.goto (-38)) 3 73]), (114, [o0 (.iload 4) 2, oA .ireturn 1 0])], [(10, [0, 1, 2, 3, 4]), (33, [0, 1, 2, 3, 4]), (73, [0, 3, 4, 5])], 6)
theorem mk_269 : mj_ckM mj_TY mp_10 prog_10_method_9_code 6 (some .int) mt_269 = true := by decide +kernel
-- UnbeatenHouse$Sayings.agreedSayings(ILUnbeatenHouse$Weighings;LUnbeatenHouse$Rows;)I
def mt_270 : mj_C := ([(0, [oV (.iconst 0) 1 0, o0 (.istore 4) 2, oV (.iconst 0) 1 0, o0 (.istore 5) 2]), (6, [o0 (.iload 5) 2, o0 (.aload_n 0) 1, oF (.getfield 26) 3 10 0 0, oA (.if_icmp .ge 30) 3 42]), (15, [o0 (.aload_n 0) 1, o0 (.iload 5) 2, o0 (.iload_n 1) 1, o0 (.aload_n 2) 1, o0 (.aload_n 3) 1, oM (.invokevirtual 45) 3 261 5 1 11, oA (.ifCond .eq 12) 3 36]), (27, [o0 (.iload 4) 2, oV (.iconst 1) 1 1, o0 (.iload 5) 2, o0 .ishl 1, o0 .ior 1, o0 (.istore 4) 2]), (36, [oV (.iinc 5 1) 3 1, oA (.goto (-33)) 3 6]), (42, [o0 (.iload 4) 2, oA .ireturn 1 0])], [(6, [0, 1, 2, 3, 4, 5])], 6)
theorem mk_270 : mj_ckM mj_TY mp_10 prog_10_method_10_code 6 (some .int) mt_270 = true := by decide +kernel
-- UnbeatenHouse$Sayings.spreadToParts(I)V
def mt_271 : mj_C := ([(0, [oV (.iconst 0) 1 0, o0 (.istore_n 2) 1]), (2, [o0 (.iload_n 2) 1, o0 (.aload_n 0) 1, oF (.getfield 26) 3 10 0 0, oA (.if_icmp .ge 44) 3 51]), (10, [oV (.iconst 0) 1 0, o0 (.istore_n 3) 1]), (12, [o0 (.iload_n 3) 1, o0 (.iload_n 1) 1, oA (.if_icmp .ge 31) 3 45]), (17, [o0 (.aload_n 0) 1, oF (.getfield 22) 3 10 4 2, o0 (.iload_n 3) 1, o0 .baload 1, oA (.ifCond .eq 16) 3 39]), (26, [o0 (.aload_n 0) 1, oF (.getfield 22) 3 10 4 2, o0 (.iload_n 3) 1, oV (.iconst 1) 1 1, o0 (.iload_n 2) 1, o0 .ishl 1, oV (.iconst (-1)) 1 (-1), o0 .ixor 1, o0 .iand 1, oV (.iconst 1) 1 1, o0 .bastore 1]), (39, [oV (.iinc 3 1) 3 1, oA (.goto (-30)) 3 12]), (45, [oV (.iinc 2 1) 3 1, oA (.goto (-46)) 3 2]), (51, [o0 .return_ 1])], [(2, [0, 1, 2]), (12, [0, 1, 2, 3])], 4)
theorem mk_271 : mj_ckM mj_TY mp_10 prog_10_method_11_code 4 none mt_271 = true := by decide +kernel
-- UnbeatenHouse$Sayings.isAhead(II)Z
def mt_272 : mj_C := ([(0, [o0 (.iload_n 0) 1, oM (.invokestatic 111) 3 3 1 1 0, o0 (.iload_n 1) 1, oM (.invokestatic 111) 3 3 1 1 0, o0 .isub 1, o0 (.istore_n 2) 1, o0 (.iload_n 0) 1, o0 (.iload_n 1) 1, o0 .ixor 1, o0 (.istore_n 3) 1, o0 (.iload_n 2) 1, oA (.ifCond .lt 16) 3 31]), (18, [o0 (.iload_n 2) 1, oA (.ifCond .ne 16) 3 35]), (22, [o0 (.iload_n 0) 1, o0 (.iload_n 3) 1, o0 .iand 1, o0 (.iload_n 3) 1, o0 .ineg 1, o0 .iand 1, oA (.ifCond .eq 7) 3 35]), (31, [oV (.iconst 1) 1 1, oA (.goto 4) 3 36]), (35, [oV (.iconst 0) 1 0]), (36, [oA .ireturn 1 1])], [], 4)
theorem mk_272 : mj_ckM mj_TY mp_10 prog_10_method_12_code 4 (some .boolean) mt_272 = true := by decide +kernel
-- UnbeatenHouse.stop(I)I
def mt_273 : mj_C := ([(0, [o0 (.iload_n 1) 1, oA (.ifCond .lt 10) 3 11]), (4, [o0 (.iload_n 1) 1, oV (.sipush 9999) 3 9999, oA (.if_icmp .le 5) 3 13]), (11, [oV (.iconst (-1)) 1 (-1), oA .ireturn 1 0]), (13, [oV (.iconst 0) 1 0, o0 (.istore_n 2) 1, o0 (.aload_n 0) 1, oF (.getfield 26) 3 1 3 2, oF (.getfield 173) 3 9 6 1, o0 (.lstore_n 3) 1, oV (.iconst 0) 1 0, o0 (.istore 5) 2]), (26, [o0 (.iload 5) 2, o0 (.aload_n 0) 1, oF (.getfield 71) 3 1 11 2, oF (.getfield 251) 3 12 2 0, oA (.if_icmp .ge 56) 3 91]), (38, [o0 (.aload_n 0) 1, oF (.getfield 78) 3 1 12 2, o0 (.iload 5) 2, o0 (.aload_n 0) 1, oF (.getfield 71) 3 1 11 2, o0 (.aload_n 0) 1, oF (.getfield 26) 3 1 3 2, oM (.invokevirtual 296) 3 260 4 1 11, oA (.ifCond .eq 30) 3 85]), (58, [oV (.iconst 1) 1 1, o0 (.istore_n 2) 1, o0 (.lload_n 3) 1, o0 (.aload_n 0) 1, oF (.getfield 26) 3 1 3 2, o0 (.iload 5) 2, o0 (.aload_n 0) 1, oF (.getfield 71) 3 1 11 2, o0 (.iload_n 1) 1, o0 (.aload_n 0) 1, oF (.getfield 71) 3 1 11 2, oF (.getfield 127) 3 12 0 0, o0 .imul 1, oM (.invokevirtual 300) 3 263 4 2 10, o0 .land 1, o0 (.lstore_n 3) 1]), (85, [oV (.iinc 5 1) 3 1, oA (.goto (-62)) 3 26]), (91, [o0 (.iload_n 2) 1, oA (.ifCond .eq 16) 3 108]), (95, [o0 (.lload_n 3) 1, oW (.lconst 0) 1 0, o0 .lcmp 1, oA (.ifCond .eq 10) 3 108]), (101, [o0 (.lload_n 3) 1, oM (.invokestatic 321) 3 7 1 1 0, oA (.goto 4) 3 109]), (108, [oV (.iconst (-1)) 1 (-1)]), (109, [oA .ireturn 1 0])], [(26, [0, 1, 2, 3, 5])], 6)
theorem mk_273 : mj_ckM mj_TY mp_1 prog_1_method_39_code 6 (some .int) mt_273 = true := by decide +kernel
-- UnbeatenHouse.person(IIIII)Z
def mt_274 : mj_C := ([(0, [o0 (.aload_n 0) 1, oF (.getfield 10) 3 1 1 2, oF (.getfield 130) 3 11 1 2, oV (.iconst 0) 1 0, o0 .iaload 1, o0 (.istore 6) 2, o0 (.iload_n 1) 1, oM (.invokestatic 324) 3 275 1 1 0, oA (.ifCond .eq 45) 3 60]), (18, [o0 (.iload_n 2) 1, oV (.iconst 0) 1 0, o0 (.iload 6) 2, oM (.invokestatic 327) 3 276 3 1 0, oA (.ifCond .eq 35) 3 60]), (28, [o0 (.iload_n 3) 1, oV (.iconst 1) 1 1, o0 (.iload 6) 2, oM (.invokestatic 327) 3 276 3 1 0, oA (.ifCond .eq 25) 3 60]), (38, [o0 (.iload 4) 2, oV (.iconst 2) 1 2, o0 (.iload 6) 2, oM (.invokestatic 327) 3 276 3 1 0, oA (.ifCond .eq 14) 3 60]), (49, [o0 (.iload 5) 2, oV (.iconst 3) 1 3, o0 (.iload 6) 2, oM (.invokestatic 327) 3 276 3 1 0, oA (.ifCond .ne 5) 3 62]), (60, [oV (.iconst 0) 1 0, oA .ireturn 1 1]), (62, [o0 (.iload_n 1) 1, oV (.iconst 4) 1 4, o0 .imul 1, o0 (.istore 7) 2, o0 (.aload_n 0) 1, oF (.getfield 85) 3 1 13 2, oF (.getfield 331) 3 5 0 2, o0 (.iload 7) 2, o0 (.iload_n 2) 1, o0 .iastore 1, o0 (.aload_n 0) 1, oF (.getfield 85) 3 1 13 2, oF (.getfield 331) 3 5 0 2, o0 (.iload 7) 2, oV (.iconst 1) 1 1, o0 .iadd 1, o0 (.iload_n 3) 1, o0 .iastore 1, o0 (.aload_n 0) 1, oF (.getfield 85) 3 1 13 2, oF (.getfield 331) 3 5 0 2, o0 (.iload 7) 2, oV (.iconst 2) 1 2, o0 .iadd 1, o0 (.iload 4) 2, o0 .iastore 1, o0 (.aload_n 0) 1, oF (.getfield 85) 3 1 13 2, oF (.getfield 331) 3 5 0 2, o0 (.iload 7) 2, oV (.iconst 3) 1 3, o0 .iadd 1, o0 (.iload 5) 2, o0 .iastore 1]), (119, [o0 (.aload_n 0) 1, oF (.getfield 85) 3 1 13 2, oF (.getfield 332) 3 5 1 2, o0 (.iload_n 1) 1, o0 (.iload_n 2) 1, o0 (.iload_n 3) 1, o0 .ior 1, o0 (.iload 4) 2, o0 .ior 1, o0 (.iload 5) 2, o0 .ior 1, oA (.ifCond .eq 7) 3 143]), (139, [oV (.iconst 1) 1 1, oA (.goto 4) 3 144]), (143, [oV (.iconst 0) 1 0]), (144, [o0 .bastore 1, oV (.iconst 1) 1 1, oA .ireturn 1 1])], [(119, [0, 1, 2, 3, 4, 5])], 8)
theorem mk_274 : mj_ckM mj_TY mp_1 prog_1_method_40_code 8 (some .boolean) mt_274 = true := by decide +kernel
-- UnbeatenHouse$People.isOne(I)Z
def mt_275 : mj_C := ([(0, [o0 (.iload_n 0) 1, oA (.ifCond .lt 13) 3 14]), (4, [o0 (.iload_n 0) 1, oV (.bipush 6) 2 6, oA (.if_icmp .ge 7) 3 14]), (10, [oV (.iconst 1) 1 1, oA (.goto 4) 3 15]), (14, [oV (.iconst 0) 1 0]), (15, [oA .ireturn 1 1])], [], 1)
theorem mk_275 : mj_ckM mj_TY mp_5 prog_5_method_2_code 1 (some .boolean) mt_275 = true := by decide +kernel
-- UnbeatenHouse.isWeight(III)Z
def mt_276 : mj_C := ([(0, [o0 (.iload_n 0) 1, oA (.ifCond .lt 22) 3 23]), (4, [o0 (.iload_n 0) 1, o0 (.iload_n 1) 1, o0 (.iload_n 2) 1, oA (.if_icmp .ge 8) 3 15]), (10, [oV (.bipush 9) 2 9, oA (.goto 4) 3 16]), (15, [oV (.iconst 0) 1 0]), (16, [oA (.if_icmp .gt 7) 3 23]), (19, [oV (.iconst 1) 1 1, oA (.goto 4) 3 24]), (23, [oV (.iconst 0) 1 0]), (24, [oA .ireturn 1 1])], [], 3)
theorem mk_276 : mj_ckM mj_TY mp_1 prog_1_method_41_code 3 (some .boolean) mt_276 = true := by decide +kernel
-- UnbeatenHouse.bar(IIZ)Z
def mt_277 : mj_C := ([(0, [o0 (.iload_n 1) 1, oM (.invokestatic 324) 3 275 1 1 0, oA (.ifCond .eq 15) 3 19]), (7, [o0 (.aload_n 0) 1, oF (.getfield 10) 3 1 1 2, oV (.iconst 1) 1 1, o0 (.iload_n 2) 1, oM (.invokevirtual 149) 3 192 3 1 12, oA (.ifCond .ne 5) 3 21]), (19, [oV (.iconst 0) 1 0, oA .ireturn 1 1]), (21, [oW (.lconst 1) 1 1, o0 (.iload_n 2) 1, o0 .lshl 1, o0 (.lstore 4) 2, o0 (.aload_n 0) 1, oF (.getfield 85) 3 1 13 2, oF (.getfield 336) 3 5 2 2, o0 (.iload_n 1) 1, o0 (.iload_n 3) 1, oA (.ifCond .eq 18) 3 53]), (38, [o0 (.aload_n 0) 1, oF (.getfield 85) 3 1 13 2, oF (.getfield 336) 3 5 2 2, o0 (.iload_n 1) 1, o0 .laload 1, o0 (.lload 4) 2, o0 .lor 1, oA (.goto 19) 3 69]), (53, [o0 (.aload_n 0) 1, oF (.getfield 85) 3 1 13 2, oF (.getfield 336) 3 5 2 2, o0 (.iload_n 1) 1, o0 .laload 1, o0 (.lload 4) 2, oW (.ldc2_w 180) 3 (-1), o0 .lxor 1, o0 .land 1]), (69, [o0 .lastore 1, oV (.iconst 1) 1 1, oA .ireturn 1 1])], [], 6)
theorem mk_277 : mj_ckM mj_TY mp_1 prog_1_method_42_code 6 (some .boolean) mt_277 = true := by decide +kernel
-- UnbeatenHouse.choose(I)I
def mt_278 : mj_C := ([(0, [o0 (.aload_n 0) 1, oF (.getfield 85) 3 1 13 2, o0 (.aload_n 0) 1, oF (.getfield 26) 3 1 3 2, oM (.invokevirtual 339) 3 279 2 1 6, oA (.ifCond .eq 21) 3 32]), (14, [o0 (.aload_n 0) 1, oF (.getfield 85) 3 1 13 2, o0 (.iload_n 1) 1, o0 (.aload_n 0) 1, oF (.getfield 85) 3 1 13 2, oF (.getfield 343) 3 5 5 1, oM (.invokevirtual 346) 3 281 3 1 6, oA (.goto 4) 3 33]), (32, [oV (.iconst (-1)) 1 (-1)]), (33, [oA .ireturn 1 0])], [], 2)
theorem mk_278 : mj_ckM mj_TY mp_1 prog_1_method_43_code 2 (some .int) mt_278 = true := by decide +kernel
-- UnbeatenHouse$People.gather(LUnbeatenHouse$Rows;)Z
def mt_279 : mj_C := ([(0, [o0 (.aload_n 0) 1, o0 (.aload_n 1) 1, oF (.getfield 26) 3 9 6 1, oF (.putfield 32) 3 5 5 1, o0 (.aload_n 0) 1, oV (.iconst 0) 1 0, oF (.putfield 35) 3 5 4 0, oV (.iconst 0) 1 0, o0 (.istore_n 2) 1]), (15, [o0 (.iload_n 2) 1, oV (.bipush 6) 2 6, oA (.if_icmp .ge 53) 3 71]), (21, [o0 (.aload_n 0) 1, o0 .dup 1, oF (.getfield 32) 3 5 5 1, o0 (.aload_n 0) 1, oF (.getfield 19) 3 5 2 2, o0 (.iload_n 2) 1, o0 .laload 1, oW (.ldc2_w 39) 3 (-1), o0 .lxor 1, o0 .land 1, oF (.putfield 32) 3 5 5 1, o0 (.aload_n 0) 1, oF (.getfield 15) 3 5 1 2, o0 (.iload_n 2) 1, o0 .baload 1, oA (.ifCond .eq 19) 3 65]), (49, [o0 (.aload_n 0) 1, o0 .dup 1, oF (.getfield 35) 3 5 4 0, oV (.iconst 1) 1 1, o0 .iadd 1, oF (.putfield 35) 3 5 4 0, o0 (.aload_n 0) 1, o0 (.iload_n 2) 1, o0 (.aload_n 1) 1, oM (.invokevirtual 41) 3 280 3 0 6]), (65, [oV (.iinc 2 1) 3 1, oA (.goto (-53)) 3 15]), (71, [o0 (.aload_n 0) 1, oF (.getfield 35) 3 5 4 0, oA (.ifCond .le 7) 3 82]), (78, [oV (.iconst 1) 1 1, oA (.goto 4) 3 83]), (82, [oV (.iconst 0) 1 0]), (83, [oA .ireturn 1 1])], [(15, [0, 1, 2])], 3)
theorem mk_279 : mj_ckM mj_TY mp_5 prog_5_method_4_code 3 (some .boolean) mt_279 = true := by decide +kernel
-- UnbeatenHouse$People.weighAll(ILUnbeatenHouse$Rows;)V
def mt_280 : mj_C := ([(0, [oV (.iconst 0) 1 0, o0 (.istore_n 3) 1]), (2, [o0 (.iload_n 3) 1, o0 (.aload_n 2) 1, oF (.getfield 45) 3 9 0 0, oA (.if_icmp .ge 71) 3 78]), (10, [oV (.iconst 0) 1 0, o0 (.istore 4) 2, oV (.iconst 0) 1 0, o0 (.istore 5) 2]), (16, [o0 (.iload 5) 2, o0 (.aload_n 2) 1, oF (.getfield 48) 3 9 1 0, oA (.if_icmp .ge 37) 3 59]), (25, [o0 (.iload 4) 2, o0 (.aload_n 0) 1, oF (.getfield 9) 3 5 0 2, o0 (.iload_n 1) 1, oV (.iconst 4) 1 4, o0 .imul 1, o0 (.iload 5) 2, o0 .iadd 1, o0 .iaload 1, o0 (.aload_n 2) 1, oF (.getfield 51) 3 9 2 2, o0 (.iload_n 3) 1, oV (.iconst 4) 1 4, o0 .imul 1, o0 (.iload 5) 2, o0 .iadd 1, o0 .iaload 1, o0 .imul 1, o0 .iadd 1, o0 (.istore 4) 2, oV (.iinc 5 1) 3 1, oA (.goto (-40)) 3 16]), (59, [o0 (.aload_n 0) 1, oF (.getfield 23) 3 5 3 2, o0 (.iload_n 1) 1, oV (.bipush 40) 2 40, o0 .imul 1, o0 (.iload_n 3) 1, o0 .iadd 1, o0 (.iload 4) 2, o0 .iastore 1, oV (.iinc 3 1) 3 1, oA (.goto (-73)) 3 2]), (78, [o0 .return_ 1])], [(2, [0, 1, 2, 3]), (16, [0, 1, 2, 3, 4, 5])], 6)
theorem mk_280 : mj_ckM mj_TY mp_5 prog_5_method_5_code 6 none mt_280 = true := by decide +kernel
-- UnbeatenHouse$People.pick(IJ)I
def mt_281 : mj_C := ([(0, [o0 (.iload_n 1) 1, oV (.iconst 3) 1 3, oA (.if_icmp .ne 9) 3 11]), (5, [o0 (.aload_n 0) 1, o0 (.lload_n 2) 1, oM (.invokevirtual 62) 3 282 2 1 6, oA .ireturn 1 0]), (11, [o0 (.iload_n 1) 1, oA (.ifCond .lt 8) 3 20]), (15, [o0 (.iload_n 1) 1, oV (.iconst 3) 1 3, oA (.if_icmp .le 5) 3 22]), (20, [oV (.iconst (-1)) 1 (-1), oA .ireturn 1 0]), (22, [oV (.iconst (-1)) 1 (-1), o0 (.istore 4) 2, oV (.iconst 0) 1 0, o0 (.istore 5) 2, oV (.iconst 0) 1 0, o0 (.istore 6) 2]), (31, [o0 (.iload 6) 2, oV (.bipush 40) 2 40, oA (.if_icmp .ge 49) 3 84]), (38, [o0 (.lload_n 2) 1, o0 (.iload 6) 2, oM (.invokestatic 54) 3 178 2 1 0, oA (.ifCond .eq 34) 3 78]), (47, [o0 (.aload_n 0) 1, o0 (.iload_n 1) 1, o0 (.iload 6) 2, o0 (.lload_n 2) 1, oM (.invokevirtual 66) 3 285 4 1 6, o0 (.istore 7) 2, o0 (.iload 4) 2, oV (.iconst (-1)) 1 (-1), oA (.if_icmp .eq 10) 3 70]), (63, [o0 (.iload 7) 2, o0 (.iload 5) 2, oA (.if_icmp .ge 11) 3 78]), (70, [o0 (.iload 6) 2, o0 (.istore 4) 2, o0 (.iload 7) 2, o0 (.istore 5) 2]), (78, [oV (.iinc 6 1) 3 1, oA (.goto (-50)) 3 31]), (84, [o0 (.iload 4) 2, oA .ireturn 1 0])], [(31, [0, 1, 2, 4, 5, 6]), (70, [0, 1, 2, 6, 7])], 8)
theorem mk_281 : mj_ckM mj_TY mp_5 prog_5_method_9_code 8 (some .int) mt_281 = true := by decide +kernel
-- UnbeatenHouse$People.pickAheadOfAll(J)I
def mt_282 : mj_C := ([(0, [oV (.iconst 0) 1 0, o0 (.istore_n 3) 1]), (2, [o0 (.iload_n 3) 1, oV (.bipush 40) 2 40, oA (.if_icmp .ge 76) 3 81]), (8, [o0 (.lload_n 1) 1, o0 (.iload_n 3) 1, oM (.invokestatic 54) 3 178 2 1 0, o0 (.istore 4) 2, oV (.iconst 0) 1 0, o0 (.istore 5) 2]), (18, [o0 (.iload 5) 2, oV (.bipush 40) 2 40, oA (.if_icmp .ge 46) 3 68]), (25, [o0 (.iload 4) 2, oA (.ifCond .eq 41) 3 68]), (30, [o0 (.iload 5) 2, o0 (.iload_n 3) 1, oA (.if_icmp .eq 22) 3 55]), (36, [o0 (.lload_n 1) 1, o0 (.iload 5) 2, oM (.invokestatic 54) 3 178 2 1 0, oA (.ifCond .eq 13) 3 55]), (45, [o0 (.aload_n 0) 1, o0 (.iload_n 3) 1, o0 (.iload 5) 2, oM (.invokevirtual 79) 3 283 3 1 6, oA (.ifCond .eq 7) 3 59]), (55, [oV (.iconst 1) 1 1, oA (.goto 4) 3 60]), (59, [oV (.iconst 0) 1 0]), (60, [o0 (.istore 4) 2, oV (.iinc 5 1) 3 1, oA (.goto (-47)) 3 18]), (68, [o0 (.iload 4) 2, oA (.ifCond .eq 5) 3 75]), (73, [o0 (.iload_n 3) 1, oA .ireturn 1 0]), (75, [oV (.iinc 3 1) 3 1, oA (.goto (-76)) 3 2]), (81, [oV (.iconst (-1)) 1 (-1), oA .ireturn 1 0])], [(2, [0, 1, 3]), (18, [0, 1, 3, 4, 5]), (68, [0, 1, 3, 4])], 6)
theorem mk_282 : mj_ckM mj_TY mp_5 prog_5_method_11_code 6 (some .int) mt_282 = true := by decide +kernel
-- UnbeatenHouse$People.isAheadForMost(II)Z
def mt_283 : mj_C := ([(0, [oV (.iconst 0) 1 0, o0 (.istore_n 3) 1, oV (.iconst 0) 1 0, o0 (.istore 4) 2]), (5, [o0 (.iload 4) 2, oV (.bipush 6) 2 6, oA (.if_icmp .ge 33) 3 42]), (12, [o0 (.aload_n 0) 1, oF (.getfield 15) 3 5 1 2, o0 (.iload 4) 2, o0 .baload 1, oA (.ifCond .eq 17) 3 36]), (22, [o0 (.aload_n 0) 1, o0 (.iload 4) 2, o0 (.iload_n 1) 1, o0 (.iload_n 2) 1, oM (.invokevirtual 58) 3 284 4 1 6, oA (.ifCond .eq 6) 3 36]), (33, [oV (.iinc 3 1) 3 1]), (36, [oV (.iinc 4 1) 3 1, oA (.goto (-34)) 3 5]), (42, [oV (.iconst 2) 1 2, o0 (.iload_n 3) 1, o0 .imul 1, o0 (.aload_n 0) 1, oF (.getfield 35) 3 5 4 0, oA (.if_icmp .le 7) 3 56]), (52, [oV (.iconst 1) 1 1, oA (.goto 4) 3 57]), (56, [oV (.iconst 0) 1 0]), (57, [oA .ireturn 1 1])], [(5, [0, 1, 2, 3, 4])], 5)
theorem mk_283 : mj_ckM mj_TY mp_5 prog_5_method_8_code 5 (some .boolean) mt_283 = true := by decide +kernel
-- UnbeatenHouse$People.isAhead(III)Z
def mt_284 : mj_C := ([(0, [o0 (.aload_n 0) 1, oF (.getfield 23) 3 5 3 2, o0 (.iload_n 1) 1, oV (.bipush 40) 2 40, o0 .imul 1, o0 (.iload_n 2) 1, o0 .iadd 1, o0 .iaload 1, o0 (.aload_n 0) 1, oF (.getfield 23) 3 5 3 2, o0 (.iload_n 1) 1, oV (.bipush 40) 2 40, o0 .imul 1, o0 (.iload_n 3) 1, o0 .iadd 1, o0 .iaload 1, o0 .isub 1, o0 (.istore 4) 2, o0 (.iload 4) 2, oA (.ifCond .lt 13) 3 40]), (30, [o0 (.iload 4) 2, oA (.ifCond .ne 12) 3 44]), (35, [o0 (.iload_n 2) 1, o0 (.iload_n 3) 1, oA (.if_icmp .ge 7) 3 44]), (40, [oV (.iconst 1) 1 1, oA (.goto 4) 3 45]), (44, [oV (.iconst 0) 1 0]), (45, [oA .ireturn 1 1])], [], 5)
theorem mk_284 : mj_ckM mj_TY mp_5 prog_5_method_6_code 5 (some .boolean) mt_284 = true := by decide +kernel
-- UnbeatenHouse$People.blameOf(IIJ)I
def mt_285 : mj_C := ([(0, [oV (.iconst 0) 1 0, o0 (.istore 5) 2, oV (.iconst 0) 1 0, o0 (.istore 6) 2]), (6, [o0 (.iload 6) 2, oV (.bipush 6) 2 6, oA (.if_icmp .ge 75) 3 85]), (13, [o0 (.aload_n 0) 1, oF (.getfield 15) 3 5 1 2, o0 (.iload 6) 2, o0 .baload 1, oA (.ifCond .eq 59) 3 79]), (23, [o0 (.aload_n 0) 1, o0 (.iload 6) 2, o0 (.iload_n 2) 1, o0 (.lload_n 3) 1, oM (.invokevirtual 70) 3 286 4 1 6, o0 (.istore 7) 2, o0 (.iload_n 1) 1, oA (.ifCond .ne 21) 3 55]), (37, [o0 (.iload 5) 2, o0 (.iload 7) 2, oA (.ifCond .ne 7) 3 48]), (44, [oV (.iconst 1) 1 1, oA (.goto 4) 3 49]), (48, [oV (.iconst 0) 1 0]), (49, [o0 .isub 1, o0 (.istore 5) 2, oA (.goto 27) 3 79]), (55, [o0 (.iload_n 1) 1, oV (.iconst 1) 1 1, oA (.if_icmp .ne 13) 3 70]), (60, [o0 (.iload 5) 2, o0 (.iload 7) 2, o0 .iadd 1, o0 (.istore 5) 2, oA (.goto 12) 3 79]), (70, [o0 (.iload 5) 2, o0 (.iload 7) 2, oM (.invokestatic 73) 3 1 2 1 0, o0 (.istore 5) 2]), (79, [oV (.iinc 6 1) 3 1, oA (.goto (-76)) 3 6]), (85, [o0 (.iload 5) 2, oA .ireturn 1 0])], [(6, [0, 1, 2, 3, 5, 6])], 8)
theorem mk_285 : mj_ckM mj_TY mp_5 prog_5_method_10_code 8 (some .int) mt_285 = true := by decide +kernel
-- UnbeatenHouse$People.rank(IIJ)I
def mt_286 : mj_C := ([(0, [oV (.iconst 0) 1 0, o0 (.istore 5) 2, oV (.iconst 0) 1 0, o0 (.istore 6) 2]), (6, [o0 (.iload 6) 2, oV (.bipush 40) 2 40, oA (.if_icmp .ge 32) 3 42]), (13, [o0 (.lload_n 3) 1, o0 (.iload 6) 2, oM (.invokestatic 54) 3 178 2 1 0, oA (.ifCond .eq 17) 3 36]), (22, [o0 (.aload_n 0) 1, o0 (.iload_n 1) 1, o0 (.iload 6) 2, o0 (.iload_n 2) 1, oM (.invokevirtual 58) 3 284 4 1 6, oA (.ifCond .eq 6) 3 36]), (33, [oV (.iinc 5 1) 3 1]), (36, [oV (.iinc 6 1) 3 1, oA (.goto (-33)) 3 6]), (42, [o0 (.iload 5) 2, oA .ireturn 1 0])], [(6, [0, 1, 2, 3, 5, 6])], 7)
theorem mk_286 : mj_ckM mj_TY mp_5 prog_5_method_7_code 7 (some .int) mt_286 = true := by decide +kernel
-- UnbeatenHouse.breaks(I)I
def mt_287 : mj_C := ([(0, [o0 (.aload_n 0) 1, oF (.getfield 85) 3 1 13 2, o0 (.aload_n 0) 1, oF (.getfield 26) 3 1 3 2, oM (.invokevirtual 339) 3 279 2 1 6, oA (.ifCond .eq 14) 3 25]), (14, [o0 (.aload_n 0) 1, oF (.getfield 85) 3 1 13 2, o0 (.iload_n 1) 1, oM (.invokevirtual 350) 3 288 2 1 6, oA (.goto 4) 3 26]), (25, [oV (.iconst (-1)) 1 (-1)]), (26, [oA .ireturn 1 0])], [], 2)
theorem mk_287 : mj_ckM mj_TY mp_1 prog_1_method_44_code 2 (some .int) mt_287 = true := by decide +kernel
-- UnbeatenHouse$People.broken(I)I
def mt_288 : mj_C := ([(0, [o0 (.aload_n 0) 1, o0 (.iload_n 1) 1, o0 (.aload_n 0) 1, oF (.getfield 32) 3 5 5 1, oM (.invokevirtual 83) 3 281 3 1 6, o0 (.istore_n 2) 1, o0 (.iload_n 2) 1, oV (.iconst (-1)) 1 (-1), oA (.if_icmp .ne 5) 3 17]), (15, [oV (.iconst (-1)) 1 (-1), oA .ireturn 1 0]), (17, [o0 (.aload_n 0) 1, o0 (.aload_n 0) 1, oF (.getfield 32) 3 5 5 1, oM (.invokevirtual 62) 3 282 2 1 6, o0 (.istore_n 3) 1, o0 (.iload_n 3) 1, oV (.iconst (-1)) 1 (-1), oA (.if_icmp .eq 12) 3 40]), (31, [o0 (.iload_n 3) 1, o0 (.iload_n 2) 1, oA (.if_icmp .eq 7) 3 40]), (36, [oV (.iconst 1) 1 1, oA (.goto 4) 3 41]), (40, [oV (.iconst 0) 1 0]), (41, [o0 (.istore 4) 2]), (43, [o0 (.aload_n 0) 1, o0 (.iload_n 2) 1, oM (.invokevirtual 87) 3 289 2 1 6, oA (.ifCond .eq 6) 3 54]), (51, [oV (.iinc 4 2) 3 2]), (54, [o0 (.aload_n 0) 1, o0 (.iload_n 1) 1, o0 (.aload_n 0) 1, oM (.invokevirtual 91) 3 290 1 2 6, oM (.invokevirtual 83) 3 281 3 1 6, o0 (.iload_n 2) 1, oA (.if_icmp .ne 8) 3 72]), (67, [o0 (.iload 4) 2, oA (.goto 7) 3 76]), (72, [o0 (.iload 4) 2, oV (.iconst 4) 1 4, o0 .iadd 1]), (76, [oA .ireturn 1 0])], [(43, [0, 1, 2, 4]), (54, [0, 1, 2, 4])], 5)
theorem mk_288 : mj_ckM mj_TY mp_5 prog_5_method_12_code 5 (some .int) mt_288 = true := by decide +kernel
-- UnbeatenHouse$People.isBehindAll(I)Z
def mt_289 : mj_C := ([(0, [oV (.iconst 0) 1 0, o0 (.istore_n 2) 1]), (2, [o0 (.iload_n 2) 1, oV (.bipush 40) 2 40, oA (.if_icmp .ge 36) 3 41]), (8, [o0 (.iload_n 2) 1, o0 (.iload_n 1) 1, oA (.if_icmp .eq 25) 3 35]), (13, [o0 (.aload_n 0) 1, oF (.getfield 32) 3 5 5 1, o0 (.iload_n 2) 1, oM (.invokestatic 54) 3 178 2 1 0, oA (.ifCond .eq 14) 3 35]), (24, [o0 (.aload_n 0) 1, o0 (.iload_n 2) 1, o0 (.iload_n 1) 1, oM (.invokevirtual 79) 3 283 3 1 6, oA (.ifCond .ne 5) 3 35]), (33, [oV (.iconst 0) 1 0, oA .ireturn 1 1]), (35, [oV (.iinc 2 1) 3 1, oA (.goto (-36)) 3 2]), (41, [o0 (.aload_n 0) 1, oF (.getfield 32) 3 5 5 1, oW (.lconst 1) 1 1, o0 (.iload_n 1) 1, o0 .lshl 1, o0 .lcmp 1, oA (.ifCond .eq 7) 3 56]), (52, [oV (.iconst 1) 1 1, oA (.goto 4) 3 57]), (56, [oV (.iconst 0) 1 0]), (57, [oA .ireturn 1 1])], [(2, [0, 1, 2])], 3)
theorem mk_289 : mj_ckM mj_TY mp_5 prog_5_method_13_code 3 (some .boolean) mt_289 = true := by decide +kernel
-- UnbeatenHouse$People.everFirst()J
def mt_290 : mj_C := ([(0, [oW (.lconst 0) 1 0, o0 (.lstore_n 1) 1, oV (.iconst 0) 1 0, o0 (.istore_n 3) 1]), (4, [o0 (.iload_n 3) 1, oV (.bipush 40) 2 40, oA (.if_icmp .ge 39) 3 46]), (10, [o0 (.aload_n 0) 1, oF (.getfield 32) 3 5 5 1, o0 (.iload_n 3) 1, oM (.invokestatic 54) 3 178 2 1 0, oA (.ifCond .eq 22) 3 40]), (21, [o0 (.aload_n 0) 1, oV (.iconst 0) 1 0, o0 (.iload_n 3) 1, o0 (.aload_n 0) 1, oF (.getfield 32) 3 5 5 1, oM (.invokevirtual 66) 3 285 4 1 6, oA (.ifCond .ge 9) 3 40]), (34, [o0 (.lload_n 1) 1, oW (.lconst 1) 1 1, o0 (.iload_n 3) 1, o0 .lshl 1, o0 .lor 1, o0 (.lstore_n 1) 1]), (40, [oV (.iinc 3 1) 3 1, oA (.goto (-39)) 3 4]), (46, [o0 (.lload_n 1) 1, o0 .lreturn 1])], [(4, [0, 1, 3])], 4)
theorem mk_290 : mj_ckM mj_TY mp_5 prog_5_method_14_code 4 (some .long) mt_290 = true := by decide +kernel
-- UnbeatenHouse.place(II)I
def mt_291 : mj_C := ([(0, [o0 (.iload_n 1) 1, oM (.invokestatic 324) 3 275 1 1 0, oA (.ifCond .eq 55) 3 59]), (7, [o0 (.aload_n 0) 1, oF (.getfield 85) 3 1 13 2, o0 (.aload_n 0) 1, oF (.getfield 26) 3 1 3 2, oM (.invokevirtual 339) 3 279 2 1 6, oA (.ifCond .eq 41) 3 59]), (21, [o0 (.aload_n 0) 1, oF (.getfield 85) 3 1 13 2, oF (.getfield 332) 3 5 1 2, o0 (.iload_n 1) 1, o0 .baload 1, oA (.ifCond .eq 29) 3 59]), (33, [o0 (.aload_n 0) 1, oF (.getfield 10) 3 1 1 2, oV (.iconst 1) 1 1, o0 (.iload_n 2) 1, oM (.invokevirtual 149) 3 192 3 1 12, oA (.ifCond .eq 17) 3 59]), (45, [o0 (.aload_n 0) 1, oF (.getfield 85) 3 1 13 2, oF (.getfield 343) 3 5 5 1, o0 (.iload_n 2) 1, oM (.invokestatic 176) 3 178 2 1 0, oA (.ifCond .ne 5) 3 61]), (59, [oV (.iconst (-1)) 1 (-1), oA .ireturn 1 0]), (61, [o0 (.aload_n 0) 1, oF (.getfield 85) 3 1 13 2, o0 (.iload_n 1) 1, o0 (.iload_n 2) 1, o0 (.aload_n 0) 1, oF (.getfield 85) 3 1 13 2, oF (.getfield 343) 3 5 5 1, oM (.invokevirtual 354) 3 286 4 1 6, oA .ireturn 1 0])], [], 3)
theorem mk_291 : mj_ckM mj_TY mp_1 prog_1_method_45_code 3 (some .int) mt_291 = true := by decide +kernel
end
section
/-! all methods together -/
def mj_TT : List mj_C := [mt_0, mt_1, mt_2, mt_3, mt_4, mt_5, mt_6, mt_7, mt_8, mt_9, mt_10, mt_11, mt_12, mt_13, mt_14, mt_15, mt_16, mt_17, mt_18, mt_19, mt_20, mt_21, mt_22, mt_23, mt_24, mt_25, mt_26, mt_27, mt_28, mt_29, mt_30, mt_31, mt_32, mt_33, mt_34, mt_35, mt_36, mt_37, mt_38, mt_39, mt_40, mt_41, mt_42, mt_43, mt_44, mt_45, mt_46, mt_47, mt_48, mt_49, mt_50, mt_51, mt_52, mt_53, mt_54, mt_55, mt_56, mt_57, mt_58, mt_59, mt_60, mt_61, mt_62, mt_63, mt_64, mt_65, mt_66, mt_67, mt_68, mt_69, mt_70, mt_71, mt_72, mt_73, mt_74, mt_75, mt_76, mt_77, mt_78, mt_79, mt_80, mt_81, mt_82, mt_83, mt_84, mt_85, mt_86, mt_87, mt_88, mt_89, mt_90, mt_91, mt_92, mt_93, mt_94, mt_95, mt_96, mt_97, mt_98, mt_99, mt_100, mt_101, mt_102, mt_103, mt_104, mt_105, mt_106, mt_107, mt_108, mt_109, mt_110, mt_111, mt_112, mt_113, mt_114, mt_115, mt_116, mt_117, mt_118, mt_119, mt_120, mt_121, mt_122, mt_123, mt_124, mt_125, mt_126, mt_127, mt_128, mt_129, mt_130, mt_131, mt_132, mt_133, mt_134, mt_135, mt_136, mt_137, mt_138, mt_139, mt_140, mt_141, mt_142, mt_143, mt_144, mt_145, mt_146, mt_147, mt_148, mt_149, mt_150, mt_151, mt_152, mt_153, mt_154, mt_155, mt_156, mt_157, mt_158, mt_159, mt_160, mt_161, mt_162, mt_163, mt_164, mt_165, mt_166, mt_167, mt_168, mt_169, mt_170, mt_171, mt_172, mt_173, mt_174, mt_175, mt_176, mt_177, mt_178, mt_179, mt_180, mt_181, mt_182, mt_183, mt_184, mt_185, mt_186, mt_187, mt_188, mt_189, mt_190, mt_191, mt_192, mt_193, mt_194, mt_195, mt_196, mt_197, mt_198, mt_199, mt_200, mt_201, mt_202, mt_203, mt_204, mt_205, mt_206, mt_207, mt_208, mt_209, mt_210, mt_211, mt_212, mt_213, mt_214, mt_215, mt_216, mt_217, mt_218, mt_219, mt_220, mt_221, mt_222, mt_223, mt_224, mt_225, mt_226, mt_227, mt_228, mt_229, mt_230, mt_231, mt_232, mt_233, mt_234, mt_235, mt_236, mt_237, mt_238, mt_239, mt_240, mt_241, mt_242, mt_243, mt_244, mt_245, mt_246, mt_247, mt_248, mt_249, mt_250, mt_251, mt_252, mt_253, mt_254, mt_255, mt_256, mt_257, mt_258, mt_259, mt_260, mt_261, mt_262, mt_263, mt_264, mt_265, mt_266, mt_267, mt_268, mt_269, mt_270, mt_271, mt_272, mt_273, mt_274, mt_275, mt_276, mt_277, mt_278, mt_279, mt_280, mt_281, mt_282, mt_283, mt_284, mt_285, mt_286, mt_287, mt_288, mt_289, mt_290, mt_291]
def mj_CD (z : Nat) : mj_C := mj_TT.getD z ([], [], 0)
theorem mo_0 : mj_okM lw_tbl mj_CL mj_TY mj_MS mm_0 mt_0 := mj_ckM_ok mpq_13 my_0 mk_0
theorem mo_1 : mj_okM lw_tbl mj_CL mj_TY mj_MS mm_1 mt_1 := mj_ckM_ok mpq_13 my_1 mk_1
theorem mo_2 : mj_okM lw_tbl mj_CL mj_TY mj_MS mm_2 mt_2 := mj_ckM_ok mpq_15 my_2 mk_2
theorem mo_3 : mj_okM lw_tbl mj_CL mj_TY mj_MS mm_3 mt_3 := mj_ckM_ok mpq_14 my_3 mk_3
theorem mo_4 : mj_okM lw_tbl mj_CL mj_TY mj_MS mm_4 mt_4 := mj_ckM_ok mpq_13 my_4 mk_4
theorem mo_5 : mj_okM lw_tbl mj_CL mj_TY mj_MS mm_5 mt_5 := mj_ckM_ok mpq_13 my_5 mk_5
theorem mo_6 : mj_okM lw_tbl mj_CL mj_TY mj_MS mm_6 mt_6 := mj_ckM_ok mpq_13 my_6 mk_6
theorem mo_7 : mj_okM lw_tbl mj_CL mj_TY mj_MS mm_7 mt_7 := mj_ckM_ok mpq_15 my_7 mk_7
theorem mo_8 : mj_okM lw_tbl mj_CL mj_TY mj_MS mm_8 mt_8 := mj_ckM_ok mpq_14 my_8 mk_8
theorem mo_9 : mj_okM lw_tbl mj_CL mj_TY mj_MS mm_9 mt_9 := mj_ckM_ok mpq_0 my_9 mk_9
theorem mo_10 : mj_okM lw_tbl mj_CL mj_TY mj_MS mm_10 mt_10 := mj_ckM_ok mpq_0 my_10 mk_10
theorem mo_11 : mj_okM lw_tbl mj_CL mj_TY mj_MS mm_11 mt_11 := mj_ckM_ok mpq_0 my_11 mk_11
theorem mo_12 : mj_okM lw_tbl mj_CL mj_TY mj_MS mm_12 mt_12 := mj_ckM_ok mpq_0 my_12 mk_12
theorem mo_13 : mj_okM lw_tbl mj_CL mj_TY mj_MS mm_13 mt_13 := mj_ckM_ok mpq_0 my_13 mk_13
theorem mo_14 : mj_okM lw_tbl mj_CL mj_TY mj_MS mm_14 mt_14 := mj_ckM_ok mpq_0 my_14 mk_14
theorem mo_15 : mj_okM lw_tbl mj_CL mj_TY mj_MS mm_15 mt_15 := mj_ckM_ok mpq_0 my_15 mk_15
theorem mo_16 : mj_okM lw_tbl mj_CL mj_TY mj_MS mm_16 mt_16 := mj_ckM_ok mpq_0 my_16 mk_16
theorem mo_17 : mj_okM lw_tbl mj_CL mj_TY mj_MS mm_17 mt_17 := mj_ckM_ok mpq_0 my_17 mk_17
theorem mo_18 : mj_okM lw_tbl mj_CL mj_TY mj_MS mm_18 mt_18 := mj_ckM_ok mpq_0 my_18 mk_18
theorem mo_19 : mj_okM lw_tbl mj_CL mj_TY mj_MS mm_19 mt_19 := mj_ckM_ok mpq_0 my_19 mk_19
theorem mo_20 : mj_okM lw_tbl mj_CL mj_TY mj_MS mm_20 mt_20 := mj_ckM_ok mpq_0 my_20 mk_20
theorem mo_21 : mj_okM lw_tbl mj_CL mj_TY mj_MS mm_21 mt_21 := mj_ckM_ok mpq_0 my_21 mk_21
theorem mo_22 : mj_okM lw_tbl mj_CL mj_TY mj_MS mm_22 mt_22 := mj_ckM_ok mpq_0 my_22 mk_22
theorem mo_23 : mj_okM lw_tbl mj_CL mj_TY mj_MS mm_23 mt_23 := mj_ckM_ok mpq_0 my_23 mk_23
theorem mo_24 : mj_okM lw_tbl mj_CL mj_TY mj_MS mm_24 mt_24 := mj_ckM_ok mpq_0 my_24 mk_24
theorem mo_25 : mj_okM lw_tbl mj_CL mj_TY mj_MS mm_25 mt_25 := mj_ckM_ok mpq_0 my_25 mk_25
theorem mo_26 : mj_okM lw_tbl mj_CL mj_TY mj_MS mm_26 mt_26 := mj_ckM_ok mpq_0 my_26 mk_26
theorem mo_27 : mj_okM lw_tbl mj_CL mj_TY mj_MS mm_27 mt_27 := mj_ckM_ok mpq_0 my_27 mk_27
theorem mo_28 : mj_okM lw_tbl mj_CL mj_TY mj_MS mm_28 mt_28 := mj_ckM_ok mpq_0 my_28 mk_28
theorem mo_29 : mj_okM lw_tbl mj_CL mj_TY mj_MS mm_29 mt_29 := mj_ckM_ok mpq_0 my_29 mk_29
theorem mo_30 : mj_okM lw_tbl mj_CL mj_TY mj_MS mm_30 mt_30 := mj_ckM_ok mpq_0 my_30 mk_30
theorem mo_31 : mj_okM lw_tbl mj_CL mj_TY mj_MS mm_31 mt_31 := mj_ckM_ok mpq_0 my_31 mk_31
theorem mo_32 : mj_okM lw_tbl mj_CL mj_TY mj_MS mm_32 mt_32 := mj_ckM_ok mpq_0 my_32 mk_32
theorem mo_33 : mj_okM lw_tbl mj_CL mj_TY mj_MS mm_33 mt_33 := mj_ckM_ok mpq_0 my_33 mk_33
theorem mo_34 : mj_okM lw_tbl mj_CL mj_TY mj_MS mm_34 mt_34 := mj_ckM_ok mpq_0 my_34 mk_34
theorem mo_35 : mj_okM lw_tbl mj_CL mj_TY mj_MS mm_35 mt_35 := mj_ckM_ok mpq_0 my_35 mk_35
theorem mo_36 : mj_okM lw_tbl mj_CL mj_TY mj_MS mm_36 mt_36 := mj_ckM_ok mpq_0 my_36 mk_36
theorem mo_37 : mj_okM lw_tbl mj_CL mj_TY mj_MS mm_37 mt_37 := mj_ckM_ok mpq_0 my_37 mk_37
theorem mo_38 : mj_okM lw_tbl mj_CL mj_TY mj_MS mm_38 mt_38 := mj_ckM_ok mpq_0 my_38 mk_38
theorem mo_39 : mj_okM lw_tbl mj_CL mj_TY mj_MS mm_39 mt_39 := mj_ckM_ok mpq_0 my_39 mk_39
theorem mo_40 : mj_okM lw_tbl mj_CL mj_TY mj_MS mm_40 mt_40 := mj_ckM_ok mpq_0 my_40 mk_40
theorem mo_41 : mj_okM lw_tbl mj_CL mj_TY mj_MS mm_41 mt_41 := mj_ckM_ok mpq_0 my_41 mk_41
theorem mo_42 : mj_okM lw_tbl mj_CL mj_TY mj_MS mm_42 mt_42 := mj_ckM_ok mpq_0 my_42 mk_42
theorem mo_43 : mj_okM lw_tbl mj_CL mj_TY mj_MS mm_43 mt_43 := mj_ckM_ok mpq_0 my_43 mk_43
theorem mo_44 : mj_okM lw_tbl mj_CL mj_TY mj_MS mm_44 mt_44 := mj_ckM_ok mpq_0 my_44 mk_44
theorem mo_45 : mj_okM lw_tbl mj_CL mj_TY mj_MS mm_45 mt_45 := mj_ckM_ok mpq_0 my_45 mk_45
theorem mo_46 : mj_okM lw_tbl mj_CL mj_TY mj_MS mm_46 mt_46 := mj_ckM_ok mpq_0 my_46 mk_46
theorem mo_47 : mj_okM lw_tbl mj_CL mj_TY mj_MS mm_47 mt_47 := mj_ckM_ok mpq_0 my_47 mk_47
theorem mo_48 : mj_okM lw_tbl mj_CL mj_TY mj_MS mm_48 mt_48 := mj_ckM_ok mpq_0 my_48 mk_48
theorem mo_49 : mj_okM lw_tbl mj_CL mj_TY mj_MS mm_49 mt_49 := mj_ckM_ok mpq_0 my_49 mk_49
theorem mo_50 : mj_okM lw_tbl mj_CL mj_TY mj_MS mm_50 mt_50 := mj_ckM_ok mpq_0 my_50 mk_50
theorem mo_51 : mj_okM lw_tbl mj_CL mj_TY mj_MS mm_51 mt_51 := mj_ckM_ok mpq_0 my_51 mk_51
theorem mo_52 : mj_okM lw_tbl mj_CL mj_TY mj_MS mm_52 mt_52 := mj_ckM_ok mpq_0 my_52 mk_52
theorem mo_53 : mj_okM lw_tbl mj_CL mj_TY mj_MS mm_53 mt_53 := mj_ckM_ok mpq_0 my_53 mk_53
theorem mo_54 : mj_okM lw_tbl mj_CL mj_TY mj_MS mm_54 mt_54 := mj_ckM_ok mpq_0 my_54 mk_54
theorem mo_55 : mj_okM lw_tbl mj_CL mj_TY mj_MS mm_55 mt_55 := mj_ckM_ok mpq_0 my_55 mk_55
theorem mo_56 : mj_okM lw_tbl mj_CL mj_TY mj_MS mm_56 mt_56 := mj_ckM_ok mpq_0 my_56 mk_56
theorem mo_57 : mj_okM lw_tbl mj_CL mj_TY mj_MS mm_57 mt_57 := mj_ckM_ok mpq_0 my_57 mk_57
theorem mo_58 : mj_okM lw_tbl mj_CL mj_TY mj_MS mm_58 mt_58 := mj_ckM_ok mpq_0 my_58 mk_58
theorem mo_59 : mj_okM lw_tbl mj_CL mj_TY mj_MS mm_59 mt_59 := mj_ckM_ok mpq_0 my_59 mk_59
theorem mo_60 : mj_okM lw_tbl mj_CL mj_TY mj_MS mm_60 mt_60 := mj_ckM_ok mpq_0 my_60 mk_60
theorem mo_61 : mj_okM lw_tbl mj_CL mj_TY mj_MS mm_61 mt_61 := mj_ckM_ok mpq_0 my_61 mk_61
theorem mo_62 : mj_okM lw_tbl mj_CL mj_TY mj_MS mm_62 mt_62 := mj_ckM_ok mpq_0 my_62 mk_62
theorem mo_63 : mj_okM lw_tbl mj_CL mj_TY mj_MS mm_63 mt_63 := mj_ckM_ok mpq_0 my_63 mk_63
theorem mo_64 : mj_okM lw_tbl mj_CL mj_TY mj_MS mm_64 mt_64 := mj_ckM_ok mpq_0 my_64 mk_64
theorem mo_65 : mj_okM lw_tbl mj_CL mj_TY mj_MS mm_65 mt_65 := mj_ckM_ok mpq_0 my_65 mk_65
theorem mo_66 : mj_okM lw_tbl mj_CL mj_TY mj_MS mm_66 mt_66 := mj_ckM_ok mpq_0 my_66 mk_66
theorem mo_67 : mj_okM lw_tbl mj_CL mj_TY mj_MS mm_67 mt_67 := mj_ckM_ok mpq_0 my_67 mk_67
theorem mo_68 : mj_okM lw_tbl mj_CL mj_TY mj_MS mm_68 mt_68 := mj_ckM_ok mpq_0 my_68 mk_68
theorem mo_69 : mj_okM lw_tbl mj_CL mj_TY mj_MS mm_69 mt_69 := mj_ckM_ok mpq_0 my_69 mk_69
theorem mo_70 : mj_okM lw_tbl mj_CL mj_TY mj_MS mm_70 mt_70 := mj_ckM_ok mpq_0 my_70 mk_70
theorem mo_71 : mj_okM lw_tbl mj_CL mj_TY mj_MS mm_71 mt_71 := mj_ckM_ok mpq_0 my_71 mk_71
theorem mo_72 : mj_okM lw_tbl mj_CL mj_TY mj_MS mm_72 mt_72 := mj_ckM_ok mpq_0 my_72 mk_72
theorem mo_73 : mj_okM lw_tbl mj_CL mj_TY mj_MS mm_73 mt_73 := mj_ckM_ok mpq_0 my_73 mk_73
theorem mo_74 : mj_okM lw_tbl mj_CL mj_TY mj_MS mm_74 mt_74 := mj_ckM_ok mpq_0 my_74 mk_74
theorem mo_75 : mj_okM lw_tbl mj_CL mj_TY mj_MS mm_75 mt_75 := mj_ckM_ok mpq_0 my_75 mk_75
theorem mo_76 : mj_okM lw_tbl mj_CL mj_TY mj_MS mm_76 mt_76 := mj_ckM_ok mpq_0 my_76 mk_76
theorem mo_77 : mj_okM lw_tbl mj_CL mj_TY mj_MS mm_77 mt_77 := mj_ckM_ok mpq_0 my_77 mk_77
theorem mo_78 : mj_okM lw_tbl mj_CL mj_TY mj_MS mm_78 mt_78 := mj_ckM_ok mpq_0 my_78 mk_78
theorem mo_79 : mj_okM lw_tbl mj_CL mj_TY mj_MS mm_79 mt_79 := mj_ckM_ok mpq_0 my_79 mk_79
theorem mo_80 : mj_okM lw_tbl mj_CL mj_TY mj_MS mm_80 mt_80 := mj_ckM_ok mpq_0 my_80 mk_80
theorem mo_81 : mj_okM lw_tbl mj_CL mj_TY mj_MS mm_81 mt_81 := mj_ckM_ok mpq_0 my_81 mk_81
theorem mo_82 : mj_okM lw_tbl mj_CL mj_TY mj_MS mm_82 mt_82 := mj_ckM_ok mpq_0 my_82 mk_82
theorem mo_83 : mj_okM lw_tbl mj_CL mj_TY mj_MS mm_83 mt_83 := mj_ckM_ok mpq_0 my_83 mk_83
theorem mo_84 : mj_okM lw_tbl mj_CL mj_TY mj_MS mm_84 mt_84 := mj_ckM_ok mpq_0 my_84 mk_84
theorem mo_85 : mj_okM lw_tbl mj_CL mj_TY mj_MS mm_85 mt_85 := mj_ckM_ok mpq_0 my_85 mk_85
theorem mo_86 : mj_okM lw_tbl mj_CL mj_TY mj_MS mm_86 mt_86 := mj_ckM_ok mpq_0 my_86 mk_86
theorem mo_87 : mj_okM lw_tbl mj_CL mj_TY mj_MS mm_87 mt_87 := mj_ckM_ok mpq_0 my_87 mk_87
theorem mo_88 : mj_okM lw_tbl mj_CL mj_TY mj_MS mm_88 mt_88 := mj_ckM_ok mpq_0 my_88 mk_88
theorem mo_89 : mj_okM lw_tbl mj_CL mj_TY mj_MS mm_89 mt_89 := mj_ckM_ok mpq_0 my_89 mk_89
theorem mo_90 : mj_okM lw_tbl mj_CL mj_TY mj_MS mm_90 mt_90 := mj_ckM_ok mpq_0 my_90 mk_90
theorem mo_91 : mj_okM lw_tbl mj_CL mj_TY mj_MS mm_91 mt_91 := mj_ckM_ok mpq_0 my_91 mk_91
theorem mo_92 : mj_okM lw_tbl mj_CL mj_TY mj_MS mm_92 mt_92 := mj_ckM_ok mpq_0 my_92 mk_92
theorem mo_93 : mj_okM lw_tbl mj_CL mj_TY mj_MS mm_93 mt_93 := mj_ckM_ok mpq_0 my_93 mk_93
theorem mo_94 : mj_okM lw_tbl mj_CL mj_TY mj_MS mm_94 mt_94 := mj_ckM_ok mpq_0 my_94 mk_94
theorem mo_95 : mj_okM lw_tbl mj_CL mj_TY mj_MS mm_95 mt_95 := mj_ckM_ok mpq_0 my_95 mk_95
theorem mo_96 : mj_okM lw_tbl mj_CL mj_TY mj_MS mm_96 mt_96 := mj_ckM_ok mpq_0 my_96 mk_96
theorem mo_97 : mj_okM lw_tbl mj_CL mj_TY mj_MS mm_97 mt_97 := mj_ckM_ok mpq_0 my_97 mk_97
theorem mo_98 : mj_okM lw_tbl mj_CL mj_TY mj_MS mm_98 mt_98 := mj_ckM_ok mpq_0 my_98 mk_98
theorem mo_99 : mj_okM lw_tbl mj_CL mj_TY mj_MS mm_99 mt_99 := mj_ckM_ok mpq_0 my_99 mk_99
theorem mo_100 : mj_okM lw_tbl mj_CL mj_TY mj_MS mm_100 mt_100 := mj_ckM_ok mpq_0 my_100 mk_100
theorem mo_101 : mj_okM lw_tbl mj_CL mj_TY mj_MS mm_101 mt_101 := mj_ckM_ok mpq_0 my_101 mk_101
theorem mo_102 : mj_okM lw_tbl mj_CL mj_TY mj_MS mm_102 mt_102 := mj_ckM_ok mpq_0 my_102 mk_102
theorem mo_103 : mj_okM lw_tbl mj_CL mj_TY mj_MS mm_103 mt_103 := mj_ckM_ok mpq_0 my_103 mk_103
theorem mo_104 : mj_okM lw_tbl mj_CL mj_TY mj_MS mm_104 mt_104 := mj_ckM_ok mpq_0 my_104 mk_104
theorem mo_105 : mj_okM lw_tbl mj_CL mj_TY mj_MS mm_105 mt_105 := mj_ckM_ok mpq_0 my_105 mk_105
theorem mo_106 : mj_okM lw_tbl mj_CL mj_TY mj_MS mm_106 mt_106 := mj_ckM_ok mpq_0 my_106 mk_106
theorem mo_107 : mj_okM lw_tbl mj_CL mj_TY mj_MS mm_107 mt_107 := mj_ckM_ok mpq_0 my_107 mk_107
theorem mo_108 : mj_okM lw_tbl mj_CL mj_TY mj_MS mm_108 mt_108 := mj_ckM_ok mpq_0 my_108 mk_108
theorem mo_109 : mj_okM lw_tbl mj_CL mj_TY mj_MS mm_109 mt_109 := mj_ckM_ok mpq_0 my_109 mk_109
theorem mo_110 : mj_okM lw_tbl mj_CL mj_TY mj_MS mm_110 mt_110 := mj_ckM_ok mpq_0 my_110 mk_110
theorem mo_111 : mj_okM lw_tbl mj_CL mj_TY mj_MS mm_111 mt_111 := mj_ckM_ok mpq_0 my_111 mk_111
theorem mo_112 : mj_okM lw_tbl mj_CL mj_TY mj_MS mm_112 mt_112 := mj_ckM_ok mpq_0 my_112 mk_112
theorem mo_113 : mj_okM lw_tbl mj_CL mj_TY mj_MS mm_113 mt_113 := mj_ckM_ok mpq_0 my_113 mk_113
theorem mo_114 : mj_okM lw_tbl mj_CL mj_TY mj_MS mm_114 mt_114 := mj_ckM_ok mpq_0 my_114 mk_114
theorem mo_115 : mj_okM lw_tbl mj_CL mj_TY mj_MS mm_115 mt_115 := mj_ckM_ok mpq_0 my_115 mk_115
theorem mo_116 : mj_okM lw_tbl mj_CL mj_TY mj_MS mm_116 mt_116 := mj_ckM_ok mpq_0 my_116 mk_116
theorem mo_117 : mj_okM lw_tbl mj_CL mj_TY mj_MS mm_117 mt_117 := mj_ckM_ok mpq_0 my_117 mk_117
theorem mo_118 : mj_okM lw_tbl mj_CL mj_TY mj_MS mm_118 mt_118 := mj_ckM_ok mpq_0 my_118 mk_118
theorem mo_119 : mj_okM lw_tbl mj_CL mj_TY mj_MS mm_119 mt_119 := mj_ckM_ok mpq_0 my_119 mk_119
theorem mo_120 : mj_okM lw_tbl mj_CL mj_TY mj_MS mm_120 mt_120 := mj_ckM_ok mpq_0 my_120 mk_120
theorem mo_121 : mj_okM lw_tbl mj_CL mj_TY mj_MS mm_121 mt_121 := mj_ckM_ok mpq_0 my_121 mk_121
theorem mo_122 : mj_okM lw_tbl mj_CL mj_TY mj_MS mm_122 mt_122 := mj_ckM_ok mpq_0 my_122 mk_122
theorem mo_123 : mj_okM lw_tbl mj_CL mj_TY mj_MS mm_123 mt_123 := mj_ckM_ok mpq_0 my_123 mk_123
theorem mo_124 : mj_okM lw_tbl mj_CL mj_TY mj_MS mm_124 mt_124 := mj_ckM_ok mpq_0 my_124 mk_124
theorem mo_125 : mj_okM lw_tbl mj_CL mj_TY mj_MS mm_125 mt_125 := mj_ckM_ok mpq_0 my_125 mk_125
theorem mo_126 : mj_okM lw_tbl mj_CL mj_TY mj_MS mm_126 mt_126 := mj_ckM_ok mpq_0 my_126 mk_126
theorem mo_127 : mj_okM lw_tbl mj_CL mj_TY mj_MS mm_127 mt_127 := mj_ckM_ok mpq_0 my_127 mk_127
theorem mo_128 : mj_okM lw_tbl mj_CL mj_TY mj_MS mm_128 mt_128 := mj_ckM_ok mpq_0 my_128 mk_128
theorem mo_129 : mj_okM lw_tbl mj_CL mj_TY mj_MS mm_129 mt_129 := mj_ckM_ok mpq_0 my_129 mk_129
theorem mo_130 : mj_okM lw_tbl mj_CL mj_TY mj_MS mm_130 mt_130 := mj_ckM_ok mpq_0 my_130 mk_130
theorem mo_131 : mj_okM lw_tbl mj_CL mj_TY mj_MS mm_131 mt_131 := mj_ckM_ok mpq_0 my_131 mk_131
theorem mo_132 : mj_okM lw_tbl mj_CL mj_TY mj_MS mm_132 mt_132 := mj_ckM_ok mpq_0 my_132 mk_132
theorem mo_133 : mj_okM lw_tbl mj_CL mj_TY mj_MS mm_133 mt_133 := mj_ckM_ok mpq_1 my_133 mk_133
theorem mo_134 : mj_okM lw_tbl mj_CL mj_TY mj_MS mm_134 mt_134 := mj_ckM_ok mpq_1 my_134 mk_134
theorem mo_135 : mj_okM lw_tbl mj_CL mj_TY mj_MS mm_135 mt_135 := mj_ckM_ok mpq_1 my_135 mk_135
theorem mo_136 : mj_okM lw_tbl mj_CL mj_TY mj_MS mm_136 mt_136 := mj_ckM_ok mpq_1 my_136 mk_136
theorem mo_137 : mj_okM lw_tbl mj_CL mj_TY mj_MS mm_137 mt_137 := mj_ckM_ok mpq_8 my_137 mk_137
theorem mo_138 : mj_okM lw_tbl mj_CL mj_TY mj_MS mm_138 mt_138 := mj_ckM_ok mpq_11 my_138 mk_138
theorem mo_139 : mj_okM lw_tbl mj_CL mj_TY mj_MS mm_139 mt_139 := mj_ckM_ok mpq_8 my_139 mk_139
theorem mo_140 : mj_okM lw_tbl mj_CL mj_TY mj_MS mm_140 mt_140 := mj_ckM_ok mpq_8 my_140 mk_140
theorem mo_141 : mj_okM lw_tbl mj_CL mj_TY mj_MS mm_141 mt_141 := mj_ckM_ok mpq_8 my_141 mk_141
theorem mo_142 : mj_okM lw_tbl mj_CL mj_TY mj_MS mm_142 mt_142 := mj_ckM_ok mpq_8 my_142 mk_142
theorem mo_143 : mj_okM lw_tbl mj_CL mj_TY mj_MS mm_143 mt_143 := mj_ckM_ok mpq_8 my_143 mk_143
theorem mo_144 : mj_okM lw_tbl mj_CL mj_TY mj_MS mm_144 mt_144 := mj_ckM_ok mpq_8 my_144 mk_144
theorem mo_145 : mj_okM lw_tbl mj_CL mj_TY mj_MS mm_145 mt_145 := mj_ckM_ok mpq_8 my_145 mk_145
theorem mo_146 : mj_okM lw_tbl mj_CL mj_TY mj_MS mm_146 mt_146 := mj_ckM_ok mpq_8 my_146 mk_146
theorem mo_147 : mj_okM lw_tbl mj_CL mj_TY mj_MS mm_147 mt_147 := mj_ckM_ok mpq_8 my_147 mk_147
theorem mo_148 : mj_okM lw_tbl mj_CL mj_TY mj_MS mm_148 mt_148 := mj_ckM_ok mpq_8 my_148 mk_148
theorem mo_149 : mj_okM lw_tbl mj_CL mj_TY mj_MS mm_149 mt_149 := mj_ckM_ok mpq_11 my_149 mk_149
theorem mo_150 : mj_okM lw_tbl mj_CL mj_TY mj_MS mm_150 mt_150 := mj_ckM_ok mpq_11 my_150 mk_150
theorem mo_151 : mj_okM lw_tbl mj_CL mj_TY mj_MS mm_151 mt_151 := mj_ckM_ok mpq_11 my_151 mk_151
theorem mo_152 : mj_okM lw_tbl mj_CL mj_TY mj_MS mm_152 mt_152 := mj_ckM_ok mpq_8 my_152 mk_152
theorem mo_153 : mj_okM lw_tbl mj_CL mj_TY mj_MS mm_153 mt_153 := mj_ckM_ok mpq_8 my_153 mk_153
theorem mo_154 : mj_okM lw_tbl mj_CL mj_TY mj_MS mm_154 mt_154 := mj_ckM_ok mpq_8 my_154 mk_154
theorem mo_155 : mj_okM lw_tbl mj_CL mj_TY mj_MS mm_155 mt_155 := mj_ckM_ok mpq_11 my_155 mk_155
theorem mo_156 : mj_okM lw_tbl mj_CL mj_TY mj_MS mm_156 mt_156 := mj_ckM_ok mpq_8 my_156 mk_156
theorem mo_157 : mj_okM lw_tbl mj_CL mj_TY mj_MS mm_157 mt_157 := mj_ckM_ok mpq_8 my_157 mk_157
theorem mo_158 : mj_okM lw_tbl mj_CL mj_TY mj_MS mm_158 mt_158 := mj_ckM_ok mpq_8 my_158 mk_158
theorem mo_159 : mj_okM lw_tbl mj_CL mj_TY mj_MS mm_159 mt_159 := mj_ckM_ok mpq_8 my_159 mk_159
theorem mo_160 : mj_okM lw_tbl mj_CL mj_TY mj_MS mm_160 mt_160 := mj_ckM_ok mpq_8 my_160 mk_160
theorem mo_161 : mj_okM lw_tbl mj_CL mj_TY mj_MS mm_161 mt_161 := mj_ckM_ok mpq_8 my_161 mk_161
theorem mo_162 : mj_okM lw_tbl mj_CL mj_TY mj_MS mm_162 mt_162 := mj_ckM_ok mpq_8 my_162 mk_162
theorem mo_163 : mj_okM lw_tbl mj_CL mj_TY mj_MS mm_163 mt_163 := mj_ckM_ok mpq_11 my_163 mk_163
theorem mo_164 : mj_okM lw_tbl mj_CL mj_TY mj_MS mm_164 mt_164 := mj_ckM_ok mpq_8 my_164 mk_164
theorem mo_165 : mj_okM lw_tbl mj_CL mj_TY mj_MS mm_165 mt_165 := mj_ckM_ok mpq_8 my_165 mk_165
theorem mo_166 : mj_okM lw_tbl mj_CL mj_TY mj_MS mm_166 mt_166 := mj_ckM_ok mpq_8 my_166 mk_166
theorem mo_167 : mj_okM lw_tbl mj_CL mj_TY mj_MS mm_167 mt_167 := mj_ckM_ok mpq_8 my_167 mk_167
theorem mo_168 : mj_okM lw_tbl mj_CL mj_TY mj_MS mm_168 mt_168 := mj_ckM_ok mpq_8 my_168 mk_168
theorem mo_169 : mj_okM lw_tbl mj_CL mj_TY mj_MS mm_169 mt_169 := mj_ckM_ok mpq_11 my_169 mk_169
theorem mo_170 : mj_okM lw_tbl mj_CL mj_TY mj_MS mm_170 mt_170 := mj_ckM_ok mpq_8 my_170 mk_170
theorem mo_171 : mj_okM lw_tbl mj_CL mj_TY mj_MS mm_171 mt_171 := mj_ckM_ok mpq_8 my_171 mk_171
theorem mo_172 : mj_okM lw_tbl mj_CL mj_TY mj_MS mm_172 mt_172 := mj_ckM_ok mpq_8 my_172 mk_172
theorem mo_173 : mj_okM lw_tbl mj_CL mj_TY mj_MS mm_173 mt_173 := mj_ckM_ok mpq_9 my_173 mk_173
theorem mo_174 : mj_okM lw_tbl mj_CL mj_TY mj_MS mm_174 mt_174 := mj_ckM_ok mpq_9 my_174 mk_174
theorem mo_175 : mj_okM lw_tbl mj_CL mj_TY mj_MS mm_175 mt_175 := mj_ckM_ok mpq_11 my_175 mk_175
theorem mo_176 : mj_okM lw_tbl mj_CL mj_TY mj_MS mm_176 mt_176 := mj_ckM_ok mpq_9 my_176 mk_176
theorem mo_177 : mj_okM lw_tbl mj_CL mj_TY mj_MS mm_177 mt_177 := mj_ckM_ok mpq_9 my_177 mk_177
theorem mo_178 : mj_okM lw_tbl mj_CL mj_TY mj_MS mm_178 mt_178 := mj_ckM_ok mpq_1 my_178 mk_178
theorem mo_179 : mj_okM lw_tbl mj_CL mj_TY mj_MS mm_179 mt_179 := mj_ckM_ok mpq_9 my_179 mk_179
theorem mo_180 : mj_okM lw_tbl mj_CL mj_TY mj_MS mm_180 mt_180 := mj_ckM_ok mpq_1 my_180 mk_180
theorem mo_181 : mj_okM lw_tbl mj_CL mj_TY mj_MS mm_181 mt_181 := mj_ckM_ok mpq_2 my_181 mk_181
theorem mo_182 : mj_okM lw_tbl mj_CL mj_TY mj_MS mm_182 mt_182 := mj_ckM_ok mpq_2 my_182 mk_182
theorem mo_183 : mj_okM lw_tbl mj_CL mj_TY mj_MS mm_183 mt_183 := mj_ckM_ok mpq_6 my_183 mk_183
theorem mo_184 : mj_okM lw_tbl mj_CL mj_TY mj_MS mm_184 mt_184 := mj_ckM_ok mpq_10 my_184 mk_184
theorem mo_185 : mj_okM lw_tbl mj_CL mj_TY mj_MS mm_185 mt_185 := mj_ckM_ok mpq_5 my_185 mk_185
theorem mo_186 : mj_okM lw_tbl mj_CL mj_TY mj_MS mm_186 mt_186 := mj_ckM_ok mpq_12 my_186 mk_186
theorem mo_187 : mj_okM lw_tbl mj_CL mj_TY mj_MS mm_187 mt_187 := mj_ckM_ok mpq_12 my_187 mk_187
theorem mo_188 : mj_okM lw_tbl mj_CL mj_TY mj_MS mm_188 mt_188 := mj_ckM_ok mpq_12 my_188 mk_188
theorem mo_189 : mj_okM lw_tbl mj_CL mj_TY mj_MS mm_189 mt_189 := mj_ckM_ok mpq_1 my_189 mk_189
theorem mo_190 : mj_okM lw_tbl mj_CL mj_TY mj_MS mm_190 mt_190 := mj_ckM_ok mpq_1 my_190 mk_190
theorem mo_191 : mj_okM lw_tbl mj_CL mj_TY mj_MS mm_191 mt_191 := mj_ckM_ok mpq_1 my_191 mk_191
theorem mo_192 : mj_okM lw_tbl mj_CL mj_TY mj_MS mm_192 mt_192 := mj_ckM_ok mpq_11 my_192 mk_192
theorem mo_193 : mj_okM lw_tbl mj_CL mj_TY mj_MS mm_193 mt_193 := mj_ckM_ok mpq_1 my_193 mk_193
theorem mo_194 : mj_okM lw_tbl mj_CL mj_TY mj_MS mm_194 mt_194 := mj_ckM_ok mpq_1 my_194 mk_194
theorem mo_195 : mj_okM lw_tbl mj_CL mj_TY mj_MS mm_195 mt_195 := mj_ckM_ok mpq_1 my_195 mk_195
theorem mo_196 : mj_okM lw_tbl mj_CL mj_TY mj_MS mm_196 mt_196 := mj_ckM_ok mpq_9 my_196 mk_196
theorem mo_197 : mj_okM lw_tbl mj_CL mj_TY mj_MS mm_197 mt_197 := mj_ckM_ok mpq_1 my_197 mk_197
theorem mo_198 : mj_okM lw_tbl mj_CL mj_TY mj_MS mm_198 mt_198 := mj_ckM_ok mpq_1 my_198 mk_198
theorem mo_199 : mj_okM lw_tbl mj_CL mj_TY mj_MS mm_199 mt_199 := mj_ckM_ok mpq_1 my_199 mk_199
theorem mo_200 : mj_okM lw_tbl mj_CL mj_TY mj_MS mm_200 mt_200 := mj_ckM_ok mpq_1 my_200 mk_200
theorem mo_201 : mj_okM lw_tbl mj_CL mj_TY mj_MS mm_201 mt_201 := mj_ckM_ok mpq_1 my_201 mk_201
theorem mo_202 : mj_okM lw_tbl mj_CL mj_TY mj_MS mm_202 mt_202 := mj_ckM_ok mpq_1 my_202 mk_202
theorem mo_203 : mj_okM lw_tbl mj_CL mj_TY mj_MS mm_203 mt_203 := mj_ckM_ok mpq_1 my_203 mk_203
theorem mo_204 : mj_okM lw_tbl mj_CL mj_TY mj_MS mm_204 mt_204 := mj_ckM_ok mpq_9 my_204 mk_204
theorem mo_205 : mj_okM lw_tbl mj_CL mj_TY mj_MS mm_205 mt_205 := mj_ckM_ok mpq_2 my_205 mk_205
theorem mo_206 : mj_okM lw_tbl mj_CL mj_TY mj_MS mm_206 mt_206 := mj_ckM_ok mpq_1 my_206 mk_206
theorem mo_207 : mj_okM lw_tbl mj_CL mj_TY mj_MS mm_207 mt_207 := mj_ckM_ok mpq_3 my_207 mk_207
theorem mo_208 : mj_okM lw_tbl mj_CL mj_TY mj_MS mm_208 mt_208 := mj_ckM_ok mpq_7 my_208 mk_208
theorem mo_209 : mj_okM lw_tbl mj_CL mj_TY mj_MS mm_209 mt_209 := mj_ckM_ok mpq_3 my_209 mk_209
theorem mo_210 : mj_okM lw_tbl mj_CL mj_TY mj_MS mm_210 mt_210 := mj_ckM_ok mpq_3 my_210 mk_210
theorem mo_211 : mj_okM lw_tbl mj_CL mj_TY mj_MS mm_211 mt_211 := mj_ckM_ok mpq_7 my_211 mk_211
theorem mo_212 : mj_okM lw_tbl mj_CL mj_TY mj_MS mm_212 mt_212 := mj_ckM_ok mpq_3 my_212 mk_212
theorem mo_213 : mj_okM lw_tbl mj_CL mj_TY mj_MS mm_213 mt_213 := mj_ckM_ok mpq_7 my_213 mk_213
theorem mo_214 : mj_okM lw_tbl mj_CL mj_TY mj_MS mm_214 mt_214 := mj_ckM_ok mpq_7 my_214 mk_214
theorem mo_215 : mj_okM lw_tbl mj_CL mj_TY mj_MS mm_215 mt_215 := mj_ckM_ok mpq_7 my_215 mk_215
theorem mo_216 : mj_okM lw_tbl mj_CL mj_TY mj_MS mm_216 mt_216 := mj_ckM_ok mpq_7 my_216 mk_216
theorem mo_217 : mj_okM lw_tbl mj_CL mj_TY mj_MS mm_217 mt_217 := mj_ckM_ok mpq_7 my_217 mk_217
theorem mo_218 : mj_okM lw_tbl mj_CL mj_TY mj_MS mm_218 mt_218 := mj_ckM_ok mpq_2 my_218 mk_218
theorem mo_219 : mj_okM lw_tbl mj_CL mj_TY mj_MS mm_219 mt_219 := mj_ckM_ok mpq_2 my_219 mk_219
theorem mo_220 : mj_okM lw_tbl mj_CL mj_TY mj_MS mm_220 mt_220 := mj_ckM_ok mpq_1 my_220 mk_220
theorem mo_221 : mj_okM lw_tbl mj_CL mj_TY mj_MS mm_221 mt_221 := mj_ckM_ok mpq_3 my_221 mk_221
theorem mo_222 : mj_okM lw_tbl mj_CL mj_TY mj_MS mm_222 mt_222 := mj_ckM_ok mpq_3 my_222 mk_222
theorem mo_223 : mj_okM lw_tbl mj_CL mj_TY mj_MS mm_223 mt_223 := mj_ckM_ok mpq_4 my_223 mk_223
theorem mo_224 : mj_okM lw_tbl mj_CL mj_TY mj_MS mm_224 mt_224 := mj_ckM_ok mpq_4 my_224 mk_224
theorem mo_225 : mj_okM lw_tbl mj_CL mj_TY mj_MS mm_225 mt_225 := mj_ckM_ok mpq_4 my_225 mk_225
theorem mo_226 : mj_okM lw_tbl mj_CL mj_TY mj_MS mm_226 mt_226 := mj_ckM_ok mpq_4 my_226 mk_226
theorem mo_227 : mj_okM lw_tbl mj_CL mj_TY mj_MS mm_227 mt_227 := mj_ckM_ok mpq_4 my_227 mk_227
theorem mo_228 : mj_okM lw_tbl mj_CL mj_TY mj_MS mm_228 mt_228 := mj_ckM_ok mpq_4 my_228 mk_228
theorem mo_229 : mj_okM lw_tbl mj_CL mj_TY mj_MS mm_229 mt_229 := mj_ckM_ok mpq_4 my_229 mk_229
theorem mo_230 : mj_okM lw_tbl mj_CL mj_TY mj_MS mm_230 mt_230 := mj_ckM_ok mpq_1 my_230 mk_230
theorem mo_231 : mj_okM lw_tbl mj_CL mj_TY mj_MS mm_231 mt_231 := mj_ckM_ok mpq_2 my_231 mk_231
theorem mo_232 : mj_okM lw_tbl mj_CL mj_TY mj_MS mm_232 mt_232 := mj_ckM_ok mpq_1 my_232 mk_232
theorem mo_233 : mj_okM lw_tbl mj_CL mj_TY mj_MS mm_233 mt_233 := mj_ckM_ok mpq_2 my_233 mk_233
theorem mo_234 : mj_okM lw_tbl mj_CL mj_TY mj_MS mm_234 mt_234 := mj_ckM_ok mpq_1 my_234 mk_234
theorem mo_235 : mj_okM lw_tbl mj_CL mj_TY mj_MS mm_235 mt_235 := mj_ckM_ok mpq_2 my_235 mk_235
theorem mo_236 : mj_okM lw_tbl mj_CL mj_TY mj_MS mm_236 mt_236 := mj_ckM_ok mpq_1 my_236 mk_236
theorem mo_237 : mj_okM lw_tbl mj_CL mj_TY mj_MS mm_237 mt_237 := mj_ckM_ok mpq_1 my_237 mk_237
theorem mo_238 : mj_okM lw_tbl mj_CL mj_TY mj_MS mm_238 mt_238 := mj_ckM_ok mpq_12 my_238 mk_238
theorem mo_239 : mj_okM lw_tbl mj_CL mj_TY mj_MS mm_239 mt_239 := mj_ckM_ok mpq_12 my_239 mk_239
theorem mo_240 : mj_okM lw_tbl mj_CL mj_TY mj_MS mm_240 mt_240 := mj_ckM_ok mpq_1 my_240 mk_240
theorem mo_241 : mj_okM lw_tbl mj_CL mj_TY mj_MS mm_241 mt_241 := mj_ckM_ok mpq_1 my_241 mk_241
theorem mo_242 : mj_okM lw_tbl mj_CL mj_TY mj_MS mm_242 mt_242 := mj_ckM_ok mpq_2 my_242 mk_242
theorem mo_243 : mj_okM lw_tbl mj_CL mj_TY mj_MS mm_243 mt_243 := mj_ckM_ok mpq_6 my_243 mk_243
theorem mo_244 : mj_okM lw_tbl mj_CL mj_TY mj_MS mm_244 mt_244 := mj_ckM_ok mpq_6 my_244 mk_244
theorem mo_245 : mj_okM lw_tbl mj_CL mj_TY mj_MS mm_245 mt_245 := mj_ckM_ok mpq_2 my_245 mk_245
theorem mo_246 : mj_okM lw_tbl mj_CL mj_TY mj_MS mm_246 mt_246 := mj_ckM_ok mpq_6 my_246 mk_246
theorem mo_247 : mj_okM lw_tbl mj_CL mj_TY mj_MS mm_247 mt_247 := mj_ckM_ok mpq_6 my_247 mk_247
theorem mo_248 : mj_okM lw_tbl mj_CL mj_TY mj_MS mm_248 mt_248 := mj_ckM_ok mpq_6 my_248 mk_248
theorem mo_249 : mj_okM lw_tbl mj_CL mj_TY mj_MS mm_249 mt_249 := mj_ckM_ok mpq_1 my_249 mk_249
theorem mo_250 : mj_okM lw_tbl mj_CL mj_TY mj_MS mm_250 mt_250 := mj_ckM_ok mpq_6 my_250 mk_250
theorem mo_251 : mj_okM lw_tbl mj_CL mj_TY mj_MS mm_251 mt_251 := mj_ckM_ok mpq_1 my_251 mk_251
theorem mo_252 : mj_okM lw_tbl mj_CL mj_TY mj_MS mm_252 mt_252 := mj_ckM_ok mpq_1 my_252 mk_252
theorem mo_253 : mj_okM lw_tbl mj_CL mj_TY mj_MS mm_253 mt_253 := mj_ckM_ok mpq_1 my_253 mk_253
theorem mo_254 : mj_okM lw_tbl mj_CL mj_TY mj_MS mm_254 mt_254 := mj_ckM_ok mpq_1 my_254 mk_254
theorem mo_255 : mj_okM lw_tbl mj_CL mj_TY mj_MS mm_255 mt_255 := mj_ckM_ok mpq_2 my_255 mk_255
theorem mo_256 : mj_okM lw_tbl mj_CL mj_TY mj_MS mm_256 mt_256 := mj_ckM_ok mpq_1 my_256 mk_256
theorem mo_257 : mj_okM lw_tbl mj_CL mj_TY mj_MS mm_257 mt_257 := mj_ckM_ok mpq_10 my_257 mk_257
theorem mo_258 : mj_okM lw_tbl mj_CL mj_TY mj_MS mm_258 mt_258 := mj_ckM_ok mpq_1 my_258 mk_258
theorem mo_259 : mj_okM lw_tbl mj_CL mj_TY mj_MS mm_259 mt_259 := mj_ckM_ok mpq_1 my_259 mk_259
theorem mo_260 : mj_okM lw_tbl mj_CL mj_TY mj_MS mm_260 mt_260 := mj_ckM_ok mpq_10 my_260 mk_260
theorem mo_261 : mj_okM lw_tbl mj_CL mj_TY mj_MS mm_261 mt_261 := mj_ckM_ok mpq_10 my_261 mk_261
theorem mo_262 : mj_okM lw_tbl mj_CL mj_TY mj_MS mm_262 mt_262 := mj_ckM_ok mpq_1 my_262 mk_262
theorem mo_263 : mj_okM lw_tbl mj_CL mj_TY mj_MS mm_263 mt_263 := mj_ckM_ok mpq_9 my_263 mk_263
theorem mo_264 : mj_okM lw_tbl mj_CL mj_TY mj_MS mm_264 mt_264 := mj_ckM_ok mpq_1 my_264 mk_264
theorem mo_265 : mj_okM lw_tbl mj_CL mj_TY mj_MS mm_265 mt_265 := mj_ckM_ok mpq_10 my_265 mk_265
theorem mo_266 : mj_okM lw_tbl mj_CL mj_TY mj_MS mm_266 mt_266 := mj_ckM_ok mpq_10 my_266 mk_266
theorem mo_267 : mj_okM lw_tbl mj_CL mj_TY mj_MS mm_267 mt_267 := mj_ckM_ok mpq_10 my_267 mk_267
theorem mo_268 : mj_okM lw_tbl mj_CL mj_TY mj_MS mm_268 mt_268 := mj_ckM_ok mpq_1 my_268 mk_268
theorem mo_269 : mj_okM lw_tbl mj_CL mj_TY mj_MS mm_269 mt_269 := mj_ckM_ok mpq_10 my_269 mk_269
theorem mo_270 : mj_okM lw_tbl mj_CL mj_TY mj_MS mm_270 mt_270 := mj_ckM_ok mpq_10 my_270 mk_270
theorem mo_271 : mj_okM lw_tbl mj_CL mj_TY mj_MS mm_271 mt_271 := mj_ckM_ok mpq_10 my_271 mk_271
theorem mo_272 : mj_okM lw_tbl mj_CL mj_TY mj_MS mm_272 mt_272 := mj_ckM_ok mpq_10 my_272 mk_272
theorem mo_273 : mj_okM lw_tbl mj_CL mj_TY mj_MS mm_273 mt_273 := mj_ckM_ok mpq_1 my_273 mk_273
theorem mo_274 : mj_okM lw_tbl mj_CL mj_TY mj_MS mm_274 mt_274 := mj_ckM_ok mpq_1 my_274 mk_274
theorem mo_275 : mj_okM lw_tbl mj_CL mj_TY mj_MS mm_275 mt_275 := mj_ckM_ok mpq_5 my_275 mk_275
theorem mo_276 : mj_okM lw_tbl mj_CL mj_TY mj_MS mm_276 mt_276 := mj_ckM_ok mpq_1 my_276 mk_276
theorem mo_277 : mj_okM lw_tbl mj_CL mj_TY mj_MS mm_277 mt_277 := mj_ckM_ok mpq_1 my_277 mk_277
theorem mo_278 : mj_okM lw_tbl mj_CL mj_TY mj_MS mm_278 mt_278 := mj_ckM_ok mpq_1 my_278 mk_278
theorem mo_279 : mj_okM lw_tbl mj_CL mj_TY mj_MS mm_279 mt_279 := mj_ckM_ok mpq_5 my_279 mk_279
theorem mo_280 : mj_okM lw_tbl mj_CL mj_TY mj_MS mm_280 mt_280 := mj_ckM_ok mpq_5 my_280 mk_280
theorem mo_281 : mj_okM lw_tbl mj_CL mj_TY mj_MS mm_281 mt_281 := mj_ckM_ok mpq_5 my_281 mk_281
theorem mo_282 : mj_okM lw_tbl mj_CL mj_TY mj_MS mm_282 mt_282 := mj_ckM_ok mpq_5 my_282 mk_282
theorem mo_283 : mj_okM lw_tbl mj_CL mj_TY mj_MS mm_283 mt_283 := mj_ckM_ok mpq_5 my_283 mk_283
theorem mo_284 : mj_okM lw_tbl mj_CL mj_TY mj_MS mm_284 mt_284 := mj_ckM_ok mpq_5 my_284 mk_284
theorem mo_285 : mj_okM lw_tbl mj_CL mj_TY mj_MS mm_285 mt_285 := mj_ckM_ok mpq_5 my_285 mk_285
theorem mo_286 : mj_okM lw_tbl mj_CL mj_TY mj_MS mm_286 mt_286 := mj_ckM_ok mpq_5 my_286 mk_286
theorem mo_287 : mj_okM lw_tbl mj_CL mj_TY mj_MS mm_287 mt_287 := mj_ckM_ok mpq_1 my_287 mk_287
theorem mo_288 : mj_okM lw_tbl mj_CL mj_TY mj_MS mm_288 mt_288 := mj_ckM_ok mpq_5 my_288 mk_288
theorem mo_289 : mj_okM lw_tbl mj_CL mj_TY mj_MS mm_289 mt_289 := mj_ckM_ok mpq_5 my_289 mk_289
theorem mo_290 : mj_okM lw_tbl mj_CL mj_TY mj_MS mm_290 mt_290 := mj_ckM_ok mpq_5 my_290 mk_290
theorem mo_291 : mj_okM lw_tbl mj_CL mj_TY mj_MS mm_291 mt_291 := mj_ckM_ok mpq_1 my_291 mk_291
def mj_A2 : List mj_M → List mj_C → Prop
  | [], [] => True
  | y :: A, C :: B => mj_okM lw_tbl mj_CL mj_TY mj_MS y C ∧ mj_A2 A B
  | _, _ => False
theorem mj_A2_get : ∀ (A : List mj_M) (B : List mj_C), mj_A2 A B → ∀ (z : Nat) (d : mj_M), mj_okM lw_tbl mj_CL mj_TY mj_MS (A.getD z d) (B.getD z ([], [], 0)) ∨ B.getD z ([], [], 0) = ([], [], 0)
  | [], [], _, z, d => Or.inr (by simp)
  | y :: A, C :: B, h, 0, d => Or.inl h.1
  | y :: A, C :: B, h, z + 1, d => mj_A2_get A B h.2 z d
set_option maxRecDepth 100000 in
theorem mj_all : mj_A2 mj_ML mj_TT := And.intro mo_0 (And.intro mo_1 (And.intro mo_2 (And.intro mo_3 (And.intro mo_4 (And.intro mo_5 (And.intro mo_6 (And.intro mo_7 (And.intro mo_8 (And.intro mo_9 (And.intro mo_10 (And.intro mo_11 (And.intro mo_12 (And.intro mo_13 (And.intro mo_14 (And.intro mo_15 (And.intro mo_16 (And.intro mo_17 (And.intro mo_18 (And.intro mo_19 (And.intro mo_20 (And.intro mo_21 (And.intro mo_22 (And.intro mo_23 (And.intro mo_24 (And.intro mo_25 (And.intro mo_26 (And.intro mo_27 (And.intro mo_28 (And.intro mo_29 (And.intro mo_30 (And.intro mo_31 (And.intro mo_32 (And.intro mo_33 (And.intro mo_34 (And.intro mo_35 (And.intro mo_36 (And.intro mo_37 (And.intro mo_38 (And.intro mo_39 (And.intro mo_40 (And.intro mo_41 (And.intro mo_42 (And.intro mo_43 (And.intro mo_44 (And.intro mo_45 (And.intro mo_46 (And.intro mo_47 (And.intro mo_48 (And.intro mo_49 (And.intro mo_50 (And.intro mo_51 (And.intro mo_52 (And.intro mo_53 (And.intro mo_54 (And.intro mo_55 (And.intro mo_56 (And.intro mo_57 (And.intro mo_58 (And.intro mo_59 (And.intro mo_60 (And.intro mo_61 (And.intro mo_62 (And.intro mo_63 (And.intro mo_64 (And.intro mo_65 (And.intro mo_66 (And.intro mo_67 (And.intro mo_68 (And.intro mo_69 (And.intro mo_70 (And.intro mo_71 (And.intro mo_72 (And.intro mo_73 (And.intro mo_74 (And.intro mo_75 (And.intro mo_76 (And.intro mo_77 (And.intro mo_78 (And.intro mo_79 (And.intro mo_80 (And.intro mo_81 (And.intro mo_82 (And.intro mo_83 (And.intro mo_84 (And.intro mo_85 (And.intro mo_86 (And.intro mo_87 (And.intro mo_88 (And.intro mo_89 (And.intro mo_90 (And.intro mo_91 (And.intro mo_92 (And.intro mo_93 (And.intro mo_94 (And.intro mo_95 (And.intro mo_96 (And.intro mo_97 (And.intro mo_98 (And.intro mo_99 (And.intro mo_100 (And.intro mo_101 (And.intro mo_102 (And.intro mo_103 (And.intro mo_104 (And.intro mo_105 (And.intro mo_106 (And.intro mo_107 (And.intro mo_108 (And.intro mo_109 (And.intro mo_110 (And.intro mo_111 (And.intro mo_112 (And.intro mo_113 (And.intro mo_114 (And.intro mo_115 (And.intro mo_116 (And.intro mo_117 (And.intro mo_118 (And.intro mo_119 (And.intro mo_120 (And.intro mo_121 (And.intro mo_122 (And.intro mo_123 (And.intro mo_124 (And.intro mo_125 (And.intro mo_126 (And.intro mo_127 (And.intro mo_128 (And.intro mo_129 (And.intro mo_130 (And.intro mo_131 (And.intro mo_132 (And.intro mo_133 (And.intro mo_134 (And.intro mo_135 (And.intro mo_136 (And.intro mo_137 (And.intro mo_138 (And.intro mo_139 (And.intro mo_140 (And.intro mo_141 (And.intro mo_142 (And.intro mo_143 (And.intro mo_144 (And.intro mo_145 (And.intro mo_146 (And.intro mo_147 (And.intro mo_148 (And.intro mo_149 (And.intro mo_150 (And.intro mo_151 (And.intro mo_152 (And.intro mo_153 (And.intro mo_154 (And.intro mo_155 (And.intro mo_156 (And.intro mo_157 (And.intro mo_158 (And.intro mo_159 (And.intro mo_160 (And.intro mo_161 (And.intro mo_162 (And.intro mo_163 (And.intro mo_164 (And.intro mo_165 (And.intro mo_166 (And.intro mo_167 (And.intro mo_168 (And.intro mo_169 (And.intro mo_170 (And.intro mo_171 (And.intro mo_172 (And.intro mo_173 (And.intro mo_174 (And.intro mo_175 (And.intro mo_176 (And.intro mo_177 (And.intro mo_178 (And.intro mo_179 (And.intro mo_180 (And.intro mo_181 (And.intro mo_182 (And.intro mo_183 (And.intro mo_184 (And.intro mo_185 (And.intro mo_186 (And.intro mo_187 (And.intro mo_188 (And.intro mo_189 (And.intro mo_190 (And.intro mo_191 (And.intro mo_192 (And.intro mo_193 (And.intro mo_194 (And.intro mo_195 (And.intro mo_196 (And.intro mo_197 (And.intro mo_198 (And.intro mo_199 (And.intro mo_200 (And.intro mo_201 (And.intro mo_202 (And.intro mo_203 (And.intro mo_204 (And.intro mo_205 (And.intro mo_206 (And.intro mo_207 (And.intro mo_208 (And.intro mo_209 (And.intro mo_210 (And.intro mo_211 (And.intro mo_212 (And.intro mo_213 (And.intro mo_214 (And.intro mo_215 (And.intro mo_216 (And.intro mo_217 (And.intro mo_218 (And.intro mo_219 (And.intro mo_220 (And.intro mo_221 (And.intro mo_222 (And.intro mo_223 (And.intro mo_224 (And.intro mo_225 (And.intro mo_226 (And.intro mo_227 (And.intro mo_228 (And.intro mo_229 (And.intro mo_230 (And.intro mo_231 (And.intro mo_232 (And.intro mo_233 (And.intro mo_234 (And.intro mo_235 (And.intro mo_236 (And.intro mo_237 (And.intro mo_238 (And.intro mo_239 (And.intro mo_240 (And.intro mo_241 (And.intro mo_242 (And.intro mo_243 (And.intro mo_244 (And.intro mo_245 (And.intro mo_246 (And.intro mo_247 (And.intro mo_248 (And.intro mo_249 (And.intro mo_250 (And.intro mo_251 (And.intro mo_252 (And.intro mo_253 (And.intro mo_254 (And.intro mo_255 (And.intro mo_256 (And.intro mo_257 (And.intro mo_258 (And.intro mo_259 (And.intro mo_260 (And.intro mo_261 (And.intro mo_262 (And.intro mo_263 (And.intro mo_264 (And.intro mo_265 (And.intro mo_266 (And.intro mo_267 (And.intro mo_268 (And.intro mo_269 (And.intro mo_270 (And.intro mo_271 (And.intro mo_272 (And.intro mo_273 (And.intro mo_274 (And.intro mo_275 (And.intro mo_276 (And.intro mo_277 (And.intro mo_278 (And.intro mo_279 (And.intro mo_280 (And.intro mo_281 (And.intro mo_282 (And.intro mo_283 (And.intro mo_284 (And.intro mo_285 (And.intro mo_286 (And.intro mo_287 (And.intro mo_288 (And.intro mo_289 (And.intro mo_290 (And.intro mo_291 (trivial))))))))))))))))))))))))))))))))))))))))))))))))))))))))))))))))))))))))))))))))))))))))))))))))))))))))))))))))))))))))))))))))))))))))))))))))))))))))))))))))))))))))))))))))))))))))))))))))))))))))))))))))))))))))))))))))))))))))))))))))))))))))))))))))))))))))))))))))))))))))))))))))))))
theorem mj_hM (z : Nat) : mj_okM lw_tbl mj_CL mj_TY mj_MS (mj_MS z) (mj_CD z) ∨ mj_CD z = ([], [], 0) := mj_A2_get _ _ mj_all z mm_0
end
section
/-! worlds as tables -/
def mj_tb (L : List (List Nat)) (q k : Nat) : Nat := match mj_nth L q with
  | some r => (match mj_nth r k with
    | some x => x
    | none => 0)
  | none => 0
/-- a method's answer is shown from its entry on -/
theorem mj_mk {S : mj_S} {CD : Nat → mj_C} {D z : Nat} {as : List Value} {h : mj_H} {r : mj_R}
    (hm : mj_if (Nat.ble (mj_sz as) (CD z).2.2) (mj_sg S (CD z) (mj_Cl S CD D) (fun x => x = r) (mj_Ev S (CD z) (mj_Cl S CD D) (fun x => x = r)) 100 0 (mj_a0 0 as) [] h)) : mj_Cl S CD (D + 1) z as h r := hm
/-! the cells of the two worlds, by program: kind and size of each, in the order of their making; and the references -/
def mj_S1 : mj_S := [(4, 16), (14, 11), (0, 6), (0, 240), (2, 4), (0, 960), (0, 160), (0, 24), (0, 24), (0, 900), (0, 12), (11, 12), (0, 17), (0, 900), (14, 11), (0, 6), (0, 240), (2, 4), (0, 960), (0, 160), (0, 24), (0, 24), (0, 900), (0, 12), (12, 8), (0, 160), (0, 160), (0, 160), (0, 40), (10, 5), (0, 26244), (1, 6561), (0, 6561), (6, 3), (7, 2), (0, 64), (0, 40), (0, 4), (5, 4), (0, 400), (1, 100), (5, 4), (0, 400), (1, 100), (5, 4), (0, 400), (1, 100), (9, 5), (0, 576), (0, 16), (0, 16), (15, 4), (0, 1820), (13, 8), (0, 12), (0, 12), (1, 1600), (2, 4096), (8, 6), (0, 24), (2, 6), (1, 6), (0, 240)]
def mj_RL1 : List (List Nat) := [[0, 1, 11, 24, 29, 33, 38, 41, 44, 0, 47, 51, 53, 58, 0, 0], [0, 2, 3, 4, 5, 6, 7, 8, 9, 0, 10], [], [], [], [], [], [], [], [], [], [12, 13, 0, 14, 0, 0, 0, 0, 0, 0, 0, 0], [], [], [0, 15, 16, 17, 18, 19, 20, 21, 22, 0, 23], [], [], [], [], [], [], [], [], [], [0, 0, 25, 26, 27, 0, 0, 28], [], [], [], [], [30, 31, 32, 0, 0], [], [], [], [34, 36, 37], [35, 0], [], [], [], [0, 0, 39, 40], [], [], [0, 0, 42, 43], [], [], [0, 0, 45, 46], [], [], [0, 48, 49, 50, 0], [], [], [], [0, 0, 0, 52], [], [0, 54, 55, 56, 57, 0, 0, 0], [], [], [], [], [59, 60, 61, 62, 0, 0], [], [], [], []]
def mj_R1 : Nat → Nat → Nat := mj_tb mj_RL1
-- cell 0: UnbeatenHouse 16 : 0 taped, 1 tale -> 1, 2 reader -> 11, 3 table -> 24, 4 pool -> 29, 5 gatherer -> 33, 6 hand -> 38, 7 made -> 41, 8 setFront -> 44, 9 setsOnFront, 10 picker -> 47, 11 weighings -> 51, 12 sayings -> 53, 13 people -> 58, 14 fell, 15 came
-- cell 1: UnbeatenHouse$Tale 11 : 0 statements, 1 counts -> 2, 2 names -> 3, 3 more -> 4, 4 amounts -> 5, 5 spreads -> 6, 6 tieFrom -> 7, 7 tieTo -> 8, 8 steps -> 9, 9 stepCount, 10 ruleEnds -> 10
-- cell 2: int 6
-- cell 3: int 240
-- cell 4: boolean 4
-- cell 5: int 960
-- cell 6: int 160
-- cell 7: int 24
-- cell 8: int 24
-- cell 9: int 900
-- cell 10: int 12
-- cell 11: UnbeatenHouse$Reader 12 : 0 ownCodes -> 12, 1 tape -> 13, 2 length, 3 into -> 14, 4 at, 5 token, 6 value, 7 own, 8 tokenAt, 9 open, 10 wrong, 11 wrongAt
-- cell 12: int 17
-- cell 13: int 900
-- cell 14: UnbeatenHouse$Tale 11 : 0 statements, 1 counts -> 15, 2 names -> 16, 3 more -> 17, 4 amounts -> 18, 5 spreads -> 19, 6 tieFrom -> 20, 7 tieTo -> 21, 8 steps -> 22, 9 stepCount, 10 ruleEnds -> 23
-- cell 15: int 6
-- cell 16: int 240
-- cell 17: boolean 4
-- cell 18: int 960
-- cell 19: int 160
-- cell 20: int 24
-- cell 21: int 24
-- cell 22: int 900
-- cell 23: int 12
-- cell 24: UnbeatenHouse$Rows 8 : 0 count, 1 wishes, 2 losses -> 25, 3 low -> 26, 4 high -> 27, 5 aside, 6 best, 7 worths -> 28
-- cell 25: int 160
-- cell 26: int 160
-- cell 27: int 160
-- cell 28: int 40
-- cell 29: UnbeatenHouse$Pool 5 : 0 losses -> 30, 1 keys -> 31, 2 order -> 32, 3 count, 4 wishes
-- cell 30: int 26244
-- cell 31: long 6561
-- cell 32: int 6561
-- cell 33: UnbeatenHouse$Gatherer 3 : 0 judge -> 34, 1 sums -> 36, 2 losses -> 37
-- cell 34: UnbeatenHouse$Judge 2 : 0 stack -> 35, 1 top
-- cell 35: int 64
-- cell 36: int 40
-- cell 37: int 4
-- cell 38: UnbeatenHouse$Front 4 : 0 kind, 1 count, 2 losses -> 39, 3 keys -> 40
-- cell 39: int 400
-- cell 40: long 100
-- cell 41: UnbeatenHouse$Front 4 : 0 kind, 1 count, 2 losses -> 42, 3 keys -> 43
-- cell 42: int 400
-- cell 43: long 100
-- cell 44: UnbeatenHouse$Front 4 : 0 kind, 1 count, 2 losses -> 45, 3 keys -> 46
-- cell 45: int 400
-- cell 46: long 100
-- cell 47: UnbeatenHouse$Picker 5 : 0 count, 1 distances -> 48, 2 tried -> 49, 3 chosen -> 50, 4 keptCount
-- cell 48: int 576
-- cell 49: int 16
-- cell 50: int 16
-- cell 51: UnbeatenHouse$Weighings 4 : 0 sum, 1 wishes, 2 count, 3 weights -> 52
-- cell 52: int 1820
-- cell 53: UnbeatenHouse$Sayings 8 : 0 count, 1 liked -> 54, 2 passed -> 55, 3 leaves -> 56, 4 held -> 57, 5 askedFirst, 6 askedSecond, 7 askedLeaves
-- cell 54: int 12
-- cell 55: int 12
-- cell 56: long 1600
-- cell 57: boolean 4096
-- cell 58: UnbeatenHouse$People 6 : 0 weights -> 59, 1 votes -> 60, 2 bars -> 61, 3 worths -> 62, 4 voters, 5 candidates
-- cell 59: int 24
-- cell 60: boolean 6
-- cell 61: long 6
-- cell 62: int 240
def mj_S2 : mj_S := [(3, 77), (0, 900), (0, 2), (0, 2), (0, 2), (0, 2), (0, 2), (0, 2), (1, 8), (2, 8), (1, 80), (0, 320), (0, 320), (1, 20), (0, 48), (0, 48), (0, 192), (1, 24), (0, 96), (0, 24), (0, 24), (0, 1800), (0, 1800), (0, 20), (0, 20), (2, 20), (0, 20), (0, 20), (0, 500), (0, 32768), (0, 8192), (0, 81920), (0, 4), (0, 10), (0, 40), (0, 10), (1, 950), (0, 400), (0, 100), (0, 1000), (0, 4), (0, 16), (0, 16), (0, 12), (0, 12), (0, 18240), (1, 456), (0, 456), (0, 24), (1, 6)]
def mj_RL2 : List (List Nat) := [[1, 0, 0, 0, 0, 0, 0, 0, 0, 0, 0, 0, 0, 2, 3, 4, 5, 6, 7, 8, 9, 10, 11, 12, 13, 14, 15, 16, 17, 18, 19, 20, 21, 22, 0, 0, 23, 24, 25, 26, 27, 0, 0, 28, 0, 0, 0, 0, 0, 29, 30, 31, 32, 33, 34, 35, 0, 36, 0, 0, 37, 38, 39, 0, 40, 0, 41, 42, 0, 43, 44, 0, 45, 46, 47, 48, 49], [], [], [], [], [], [], [], [], [], [], [], [], [], [], [], [], [], [], [], [], [], [], [], [], [], [], [], [], [], [], [], [], [], [], [], [], [], [], [], [], [], [], [], [], [], [], [], [], []]
def mj_R2 : Nat → Nat → Nat := mj_tb mj_RL2
-- cell 0: UnbeatenHouseModel 77 : 0 tape -> 1, 1 taped, 2 size, 3 sign, 4 signAt, 5 signEnd, 6 value, 7 word, 8 faultKind, 9 faultPlace, 10 toldKind, 11 toldPlace, 12 bank, 13 wishes -> 2, 14 rows -> 3, 15 knots -> 4, 16 ties -> 5, 17 things -> 6, 18 rules -> 7, 19 wishName -> 8, 20 isMore -> 9, 21 rowName -> 10, 22 rowHas -> 11, 23 spread -> 12, 24 knotName -> 13, 25 tieFrom -> 14, 26 tieTo -> 15, 27 tieHas -> 16, 28 thingName -> 17, 29 thingHas -> 18, 30 ruleFrom -> 19, 31 ruleTo -> 20, 32 codeSort -> 21, 33 codeValue -> 22, 34 codes, 35 in, 36 frame -> 23, 37 phase -> 24, 38 begins -> 25, 39 pair -> 26, 40 base -> 27, 41 deep, 42 open, 43 ops -> 28, 44 opMany, 45 operand, 46 fell, 47 came, 48 gathered, 49 gLoss -> 29, 50 gWho -> 30, 51 gKnots -> 31, 52 at -> 32, 53 path -> 33, 54 sums -> 34, 55 step -> 35, 56 setMask, 57 heap -> 36, 58 frontMany, 59 frontKind, 60 fLoss -> 37, 61 fWho -> 38, 62 fKnots -> 39, 63 grid, 64 weigh -> 40, 65 keptMany, 66 kept -> 41, 67 pick -> 42, 68 sayings, 69 better -> 43, 70 worse -> 44, 71 agreeing, 72 worths -> 45, 73 firsts -> 46, 74 agreements -> 47, 75 weights -> 48, 76 bars -> 49
-- cell 1: int 900
-- cell 2: int 2
-- cell 3: int 2
-- cell 4: int 2
-- cell 5: int 2
-- cell 6: int 2
-- cell 7: int 2
-- cell 8: long 8
-- cell 9: boolean 8
-- cell 10: long 80
-- cell 11: int 320
-- cell 12: int 320
-- cell 13: long 20
-- cell 14: int 48
-- cell 15: int 48
-- cell 16: int 192
-- cell 17: long 24
-- cell 18: int 96
-- cell 19: int 24
-- cell 20: int 24
-- cell 21: int 1800
-- cell 22: int 1800
-- cell 23: int 20
-- cell 24: int 20
-- cell 25: boolean 20
-- cell 26: int 20
-- cell 27: int 20
-- cell 28: int 500
-- cell 29: int 32768
-- cell 30: int 8192
-- cell 31: int 81920
-- cell 32: int 4
-- cell 33: int 10
-- cell 34: int 40
-- cell 35: int 10
-- cell 36: long 950
-- cell 37: int 400
-- cell 38: int 100
-- cell 39: int 1000
-- cell 40: int 4
-- cell 41: int 16
-- cell 42: int 16
-- cell 43: int 12
-- cell 44: int 12
-- cell 45: int 18240
-- cell 46: long 456
-- cell 47: int 456
-- cell 48: int 24
-- cell 49: long 6
end
section
/-! THE CLAIM OUT OF ONE WALK OF THE LAW'S BODY. Your part is whole_start (and what it stands on); all else here is the same for every law, but numbers. -/
def R_law : String := "UnbeatenHouseLaw"
def lw_P (b : Addr) (xs : List Int32) (args : Array Value) (s : State) : Prop := args = #[.ref b] ∧ s.IntsAt b xs ∧ xs.length ≤ 3072 ∧ (Jvm.Cond.and given_1 narrow_1).before args s = true
def lw_Q (_ : Array Value) (s : State) (o : Outcome) (t : State) : Prop := o = .returned (some (.int 1)) ∧ Framed s o t [] 600000 7302250
def lw_Z (below : List Frame) (a : Array Value) (s : State) : State → Prop := fun t => ∃ o, t.status = .running ∧ Ended t below o ∧ lw_Q a s o t
/-- the law's own end, with 1 on the stack, nothing written that was there before, its room as the claim has it -/
theorem lw_ret {p : Program} {l : Launch} {e : Env} {s : State} {m : MethodId} {below : List Frame} {meth : Method} {c : Code} {b : Nat} (hx : p.tables.exec = Jvm.exec) (hb : c.code = code) (hr : meth.sig.returnType = ret) (hlocks : meth.locks = false) {pc : Nat} {H : Heap} {ls : Array Slot} (hdg : decode code pc = .ok (.ireturn, 1)) : W p l e room_1 s m #[Value.ref b] below meth c H [] 600000 7302250 (lw_Z below #[Value.ref b] s) (F0 m pc ls [.int 1]) := by
  intro T hT X
  obtain ⟨fs, hret, hrun, hended, hW, hframe⟩ := X.leave (v := some (.int 1)) (hlocks := hlocks) (fun h => by rw [hr] at h; cases h)
  have hmeth' : T.vm.method? m = some meth := X.method'
  refine ⟨T.setFrames fs, ?_, .returned (some (.int 1)), hrun, hended, rfl, ⟨_, rfl⟩, hW, hframe⟩
  jvm_step X.here [X.here.top, hx, hb, hdg, hmeth', hr, ret, narrow_b1]
  (try refine ⟨rfl, ?_⟩); (try refine ⟨rfl, ?_⟩)
  first | (intro acts; rw [hret _ acts rfl rfl rfl]) | rw [hret _ _ rfl rfl rfl]
  exact Steps.refl _
/-- what holds at the law's entry: the machine, the code, the tables' words (any of lw_tbl by 'hts w (by decide +kernel)'), the script of L ints xs at the cell b, what the Statement gives of the start (any of its parts by flat_of_before) -/
def lw_At (p : Program) (s : State) (m : MethodId) (meth : Method) (c : Code) (b L : Nat) (xs : Nat → Int32) : Prop :=
  p.tables.exec = Jvm.exec ∧ c.code = code ∧ meth.sig.returnType = ret ∧ c.maxLocals = 4 ∧ s.vm.findClass R_law = some m.cls ∧ (∀ w ∈ lw_tbl, w.before #[Value.ref b] s = true) ∧ va_X b L xs s s.heap ∧ b < s.heap.size ∧ meth.locks = false ∧ (Jvm.Cond.and given_1 narrow_1).before #[Value.ref b] s = true
end
section
/-! the law's walk: calls on two worlds that lie beside each other -/
section LWK
variable {p : Program} {l : Launch} {e : Env} {s : State} {m : MethodId} {below : List Frame} {meth : Method} {c : Code} {b L : Nat} {xs : Nat → Int32}
variable {Dg : va_G} {T3 : Nat × Nat × Nat} {CC SS : Nat}
theorem lw_keep {S S' : mj_S} {ad ad' : Nat → Nat} {g' : mj_H} {H H1 : Heap} (hP2 : va_P Dg mj_CL (mj_W S' mj_TY T3 ad' g') H) (hdis : ∀ i j, i < S.length → j < S'.length → ad i ≠ ad' j) (hk : ∀ q : Nat, q < H.size → ¬ mj_A ad S.length H.size q → H1[q]? = H[q]?) : va_P Dg mj_CL (mj_W S' mj_TY T3 ad' g') H1 := by
  refine hP2.kept (fun k q hq => ?_)
  have hlt := (hP2 k q hq).lt
  obtain ⟨h1, e1⟩ := mj_W_inv hq
  refine hk _ hlt ?_
  rintro (⟨i, hi, e2⟩ | h)
  · rw [e1] at e2
    exact hdis i k hi h1 e2.symm
  · omega
theorem lw_call {S S' : mj_S} {ad ad' : Nat → Nat} {g g' : mj_H} {x n d pc : Nat} {y : mj_M} {as rest : List Value} {q : mj_R} {H : Heap} {locs : List Loc} {ls : Array Slot}
    (hx : p.tables.exec = Jvm.exec) (hb : c.code = code) (hml : c.maxLocals = 4) (hown : s.vm.findClass R_law = some m.cls) (hts : ∀ w ∈ lw_tbl, w.before #[Value.ref b] s = true) (hK : va_K Dg mj_CL (mj_tys T3) s) (hMO : mj_MO ad (fun q => s.heap.size ≤ q) s s.heap)
    (hdis : ∀ i j, i < S.length → j < S'.length → ad i ≠ ad' j) (hnew : ∀ i, i < S.length → s.heap.size ≤ ad i)
    (hok : mj_okV lw_tbl mj_CL R_law x y (n + 1) d) (hrc : mj_rc S d (.ref 0 :: as)) (hM : mj_Met l lw_tbl mj_CL mj_TY S Dg T3 ad 900 y (.ref 0 :: as) g q) (hlen : as.length = n) (h8 : (rest.map fun v => v.category).sum ≤ 8) (hdg : decode code pc = .ok (.invokevirtual x, 3))
    (hcc : CC ≤ 600000 ∧ SS ≤ 7302250) (hP : va_P Dg mj_CL (mj_W S mj_TY T3 ad g) H) (hP2 : va_P Dg mj_CL (mj_W S' mj_TY T3 ad' g') H) (hS : va_S (fun q : Nat => s.heap.size ≤ q) s.heap H locs) (hl : ls.size = 4)
    (kk : ∀ (H1 : Heap) (locs1 : List Loc), va_P Dg mj_CL (mj_W S mj_TY T3 ad q.2) H1 → va_P Dg mj_CL (mj_W S' mj_TY T3 ad' g') H1 → va_S (fun q : Nat => s.heap.size ≤ q) s.heap H1 locs1 → W p l e room_1 s m #[Value.ref b] below meth c H1 locs1 CC SS (lw_Z below #[Value.ref b] s) (F0 m (pc + 3) ls ((mj_rv ad q.1).toList ++ rest))) :
    W p l e room_1 s m #[Value.ref b] below meth c H locs CC SS (lw_Z below #[Value.ref b] s) (F0 m pc ls ((as.map (mj_tr ad)).reverse ++ .ref (ad 0) :: rest)) := by
  obtain ⟨hlk, hin, hsel, ⟨ci, T, N, rfl, hcl⟩, ⟨kn, hkn, hpar⟩, hY⟩ := hok
  have hkn : n = kn := Nat.succ.inj hkn
  subst hkn
  obtain ⟨q0, as', n0, e0, hq0⟩ := mj_rc_e hrc
  cases e0
  have hts2 : ∀ w ∈ lw_tbl.filter goodWord, w.before #[Value.ref b] s = true := fun w hw => hts w (List.mem_filter.mp hw).1
  have hN : ∀ w ∈ lw_tbl, mj_nest w = true → va_Nw w s := by
    intro w hw hn
    have h1 := hts w hw
    cases w <;> first | exact va_Nw.of rfl h1 | exact absurd (show false = true from hn) (by decide)
  have he := mj_W_at (TY := mj_TY) (T3 := T3) (ad := ad) (h := g) hq0
  have hA : ∀ q : Nat, mj_A ad S.length H.size q → s.heap.size ≤ q := by
    rintro q (⟨i, hi, rfl⟩ | h)
    · exact hnew i hi
    · exact Nat.le_trans hS.1 h
  have hpre : PreV s H y.1.cls (ad 0) (mj_Pc lw_tbl mj_CL mj_TY S Dg T3 ad (.ref 0 :: as) g H.size) (as.map (mj_tr ad)) :=
    ⟨mj_blind, va_recv hK hP hcl he, fun U hU hW => ⟨rfl, by rw [hU], by rw [hU]; exact hP, va_K.moved hW.alike hK, mj_nw hW hN, by rw [hU]; exact mj_MO.moved hW.alike ((hMO.kept hS.2.1).narrow hA)⟩⟩
  have h9 : 2 * (F0 m pc ls ((as.map (mj_tr ad)).reverse ++ .ref (ad 0) :: rest)).monitorRoom + (rest.map fun v => v.category).sum ≤ 8 := lv_room h8
  have hn' : (as.map (mj_tr ad)).length = n := by rw [List.length_map]; exact hlen
  have hY2 := hY
  obtain ⟨hco, hini, hmx, hpl, hnm1, hnm2⟩ := hY2
  have hR : (mj_rm 900).frames + 1 ≤ room_1.frames ∧ 8 + (y.2.2.1 + 11) + (mj_rm 900).locals ≤ room_1.locals := by
    simp only [mj_rm, room_1]
    omega
  have back : ∀ hr : va_Run p l e room_1 s m #[Value.ref b] below meth c H locs CC SS 0 0 (F0 m pc ls ((as.map (mj_tr ad)).reverse ++ .ref (ad 0) :: rest)) rest (mj_Qc mj_CL mj_TY S Dg T3 ad q H.size ((Value.ref (ad 0) :: as.map (mj_tr ad)).toArray)) (mj_A ad S.length H.size),
      W p l e room_1 s m #[Value.ref b] below meth c H locs CC SS (lw_Z below #[Value.ref b] s) (F0 m pc ls ((as.map (mj_tr ad)).reverse ++ .ref (ad 0) :: rest)) := by
    intro hr T hT X
    obtain ⟨v, st₀, t, T', L, h0, X', hL, e1, e2, ⟨hv, hp, hz, hk⟩, st⟩ := hr T hT X
    cases hv
    rw [h0] at hz hk
    obtain ⟨t2, a1, b1⟩ := kk T'.heap (locs ++ L) (by rw [e1]; exact hp) (lw_keep hP2 hdis (fun q h1 h2 => by rw [e1]; exact hk q h1 h2))
      ⟨Nat.le_trans hS.1 (by rw [e1]; exact hz), fun q h1 h2 => by rw [e1, hk q (Nat.lt_of_lt_of_le h1 hS.1) (fun z => h2 (hA q z))]; exact hS.2.1 q h1 h2, fun q hq => by
        rcases List.mem_append.mp hq with h | h
        · exact hS.2.2 q h
        · exact hA _ (hL q h)⟩ T' rfl X'
    exact ⟨t2, st t2 a1, b1⟩
  rcases hlk with hlk | ⟨host, hlk⟩
  · have hT : GoodIn (lw_tbl.filter goodWord) (wsV R_law x y.1.cls y.1 (mj_ws lw_tbl y)) := by
      intro w hw
      rcases List.mem_append.mp hw with hw | hw
      · simp only [List.mem_cons, List.not_mem_nil, or_false] at hw
        rcases hw with rfl | rfl | rfl | rfl
        · exact ⟨mj_good_in hlk rfl, good_of_word rfl⟩
        · exact ⟨mj_good_in hin rfl, good_of_word rfl⟩
        · exact ⟨mj_good_in hsel rfl, good_of_word rfl⟩
        · exact ⟨mj_good_in hini rfl, good_of_word rfl⟩
      · exact mj_goodIn hY w hw
    exact back (va_runV (As := as.map (mj_tr ad)) (rest := rest) ⟨hx, hb, hml, hown, hts2⟩ (hM H.size) (cwV n hts2 hT rfl rfl rfl ⟨rfl, hnm1, hnm2, hpar⟩ hR) hpre rfl hn' hl rfl h9 hdg ⟨hcc.1, hcc.2⟩)
  · exact back (va_runVN (As := as.map (mj_tr ad)) (rest := rest) ⟨hx, hb, hml, hown, hts2⟩ (hM H.size) ⟨va_cnB n hts2 (mj_goodIn hY) rfl rfl rfl (hN _ hlk rfl) (hts2 _ (mj_good_in hini rfl)) ⟨hnm1, hnm2, hpar⟩ hR, hts2 _ (mj_good_in hin rfl), hts2 _ (mj_good_in hsel rfl)⟩ hpre rfl hn' hl rfl h9 hdg ⟨hcc.1, hcc.2⟩)
end LWK
end
section
/-! the law, decoded -/
theorem dg_law_0 : (decode code 0 = .ok (.new 7, 3)) ∧ (decode code 3 = .ok (.dup, 1)) ∧ (decode code 4 = .ok (.invokespecial 9, 3)) ∧ (decode code 7 = .ok (.astore_n 1, 1)) ∧ (decode code 8 = .ok (.new 10, 3)) ∧ (decode code 11 = .ok (.dup, 1)) ∧ (decode code 12 = .ok (.invokespecial 12, 3)) ∧ (decode code 15 = .ok (.astore_n 2, 1)) ∧ (decode code 16 = .ok (.iconst 0, 1)) ∧ (decode code 17 = .ok (.istore_n 3, 1)) ∧ (decode code 18 = .ok (.iload_n 3, 1)) ∧ (decode code 19 = .ok (.aload_n 0, 1)) ∧ (decode code 20 = .ok (.arraylength, 1)) ∧ (decode code 21 = .ok (.bipush 6, 2)) ∧ (decode code 23 = .ok (.isub, 1)) ∧ (decode code 24 = .ok (.if_icmp .gt 1356, 3)) ∧ True := fd_of (cc := code) [(0, .new 7, 3), (3, .dup, 1), (4, .invokespecial 9, 3), (7, .astore_n 1, 1), (8, .new 10, 3), (11, .dup, 1), (12, .invokespecial 12, 3), (15, .astore_n 2, 1), (16, .iconst 0, 1), (17, .istore_n 3, 1), (18, .iload_n 3, 1), (19, .aload_n 0, 1), (20, .arraylength, 1), (21, .bipush 6, 2), (23, .isub, 1), (24, .if_icmp .gt 1356, 3)] (by decide +kernel)
theorem d_law_0 : decode code 0 = .ok (.new 7, 3) := dg_law_0.1
theorem d_law_3 : decode code 3 = .ok (.dup, 1) := dg_law_0.2.1
theorem d_law_4 : decode code 4 = .ok (.invokespecial 9, 3) := dg_law_0.2.2.1
theorem d_law_7 : decode code 7 = .ok (.astore_n 1, 1) := dg_law_0.2.2.2.1
theorem d_law_8 : decode code 8 = .ok (.new 10, 3) := dg_law_0.2.2.2.2.1
theorem d_law_11 : decode code 11 = .ok (.dup, 1) := dg_law_0.2.2.2.2.2.1
theorem d_law_12 : decode code 12 = .ok (.invokespecial 12, 3) := dg_law_0.2.2.2.2.2.2.1
theorem d_law_15 : decode code 15 = .ok (.astore_n 2, 1) := dg_law_0.2.2.2.2.2.2.2.1
theorem d_law_16 : decode code 16 = .ok (.iconst 0, 1) := dg_law_0.2.2.2.2.2.2.2.2.1
theorem d_law_17 : decode code 17 = .ok (.istore_n 3, 1) := dg_law_0.2.2.2.2.2.2.2.2.2.1
theorem d_law_18 : decode code 18 = .ok (.iload_n 3, 1) := dg_law_0.2.2.2.2.2.2.2.2.2.2.1
theorem d_law_19 : decode code 19 = .ok (.aload_n 0, 1) := dg_law_0.2.2.2.2.2.2.2.2.2.2.2.1
theorem d_law_20 : decode code 20 = .ok (.arraylength, 1) := dg_law_0.2.2.2.2.2.2.2.2.2.2.2.2.1
theorem d_law_21 : decode code 21 = .ok (.bipush 6, 2) := dg_law_0.2.2.2.2.2.2.2.2.2.2.2.2.2.1
theorem d_law_23 : decode code 23 = .ok (.isub, 1) := dg_law_0.2.2.2.2.2.2.2.2.2.2.2.2.2.2.1
theorem d_law_24 : decode code 24 = .ok (.if_icmp .gt 1356, 3) := dg_law_0.2.2.2.2.2.2.2.2.2.2.2.2.2.2.2.1
theorem dg_law_16 : (decode code 27 = .ok (.aload_n 0, 1)) ∧ (decode code 28 = .ok (.iload_n 3, 1)) ∧ (decode code 29 = .ok (.iaload, 1)) ∧ (decode code 30 = .ok (.bipush 63, 2)) ∧ (decode code 32 = .ok (.iand, 1)) ∧ (decode code 33 = .ok (.tableswitch 1341 0 37 #[167, 230, 253, 266, 289, 312, 355, 414, 447, 470, 513, 552, 565, 604, 637, 680, 713, 736, 769, 792, 815, 848, 871, 894, 917, 986, 1009, 1042, 1055, 1068, 1081, 1104, 1117, 1140, 1203, 1262, 1285, 1308], 167)) ∧ (decode code 200 = .ok (.aload_n 1, 1)) ∧ (decode code 201 = .ok (.aload_n 0, 1)) ∧ (decode code 202 = .ok (.iload_n 3, 1)) ∧ (decode code 203 = .ok (.iconst 1, 1)) ∧ (decode code 204 = .ok (.iadd, 1)) ∧ (decode code 205 = .ok (.iaload, 1)) ∧ (decode code 206 = .ok (.aload_n 0, 1)) ∧ (decode code 207 = .ok (.iload_n 3, 1)) ∧ (decode code 208 = .ok (.iconst 2, 1)) ∧ (decode code 209 = .ok (.iadd, 1)) ∧ True := fd_of (cc := code) [(27, .aload_n 0, 1), (28, .iload_n 3, 1), (29, .iaload, 1), (30, .bipush 63, 2), (32, .iand, 1), (33, .tableswitch 1341 0 37 #[167, 230, 253, 266, 289, 312, 355, 414, 447, 470, 513, 552, 565, 604, 637, 680, 713, 736, 769, 792, 815, 848, 871, 894, 917, 986, 1009, 1042, 1055, 1068, 1081, 1104, 1117, 1140, 1203, 1262, 1285, 1308], 167), (200, .aload_n 1, 1), (201, .aload_n 0, 1), (202, .iload_n 3, 1), (203, .iconst 1, 1), (204, .iadd, 1), (205, .iaload, 1), (206, .aload_n 0, 1), (207, .iload_n 3, 1), (208, .iconst 2, 1), (209, .iadd, 1)] (by decide +kernel)
theorem d_law_27 : decode code 27 = .ok (.aload_n 0, 1) := dg_law_16.1
theorem d_law_28 : decode code 28 = .ok (.iload_n 3, 1) := dg_law_16.2.1
theorem d_law_29 : decode code 29 = .ok (.iaload, 1) := dg_law_16.2.2.1
theorem d_law_30 : decode code 30 = .ok (.bipush 63, 2) := dg_law_16.2.2.2.1
theorem d_law_32 : decode code 32 = .ok (.iand, 1) := dg_law_16.2.2.2.2.1
theorem d_law_33 : decode code 33 = .ok (.tableswitch 1341 0 37 #[167, 230, 253, 266, 289, 312, 355, 414, 447, 470, 513, 552, 565, 604, 637, 680, 713, 736, 769, 792, 815, 848, 871, 894, 917, 986, 1009, 1042, 1055, 1068, 1081, 1104, 1117, 1140, 1203, 1262, 1285, 1308], 167) := dg_law_16.2.2.2.2.2.1
theorem d_law_200 : decode code 200 = .ok (.aload_n 1, 1) := dg_law_16.2.2.2.2.2.2.1
theorem d_law_201 : decode code 201 = .ok (.aload_n 0, 1) := dg_law_16.2.2.2.2.2.2.2.1
theorem d_law_202 : decode code 202 = .ok (.iload_n 3, 1) := dg_law_16.2.2.2.2.2.2.2.2.1
theorem d_law_203 : decode code 203 = .ok (.iconst 1, 1) := dg_law_16.2.2.2.2.2.2.2.2.2.1
theorem d_law_204 : decode code 204 = .ok (.iadd, 1) := dg_law_16.2.2.2.2.2.2.2.2.2.2.1
theorem d_law_205 : decode code 205 = .ok (.iaload, 1) := dg_law_16.2.2.2.2.2.2.2.2.2.2.2.1
theorem d_law_206 : decode code 206 = .ok (.aload_n 0, 1) := dg_law_16.2.2.2.2.2.2.2.2.2.2.2.2.1
theorem d_law_207 : decode code 207 = .ok (.iload_n 3, 1) := dg_law_16.2.2.2.2.2.2.2.2.2.2.2.2.2.1
theorem d_law_208 : decode code 208 = .ok (.iconst 2, 1) := dg_law_16.2.2.2.2.2.2.2.2.2.2.2.2.2.2.1
theorem d_law_209 : decode code 209 = .ok (.iadd, 1) := dg_law_16.2.2.2.2.2.2.2.2.2.2.2.2.2.2.2.1
theorem dg_law_32 : (decode code 210 = .ok (.iaload, 1)) ∧ (decode code 211 = .ok (.aload_n 0, 1)) ∧ (decode code 212 = .ok (.iload_n 3, 1)) ∧ (decode code 213 = .ok (.iconst 3, 1)) ∧ (decode code 214 = .ok (.iadd, 1)) ∧ (decode code 215 = .ok (.iaload, 1)) ∧ (decode code 216 = .ok (.aload_n 0, 1)) ∧ (decode code 217 = .ok (.iload_n 3, 1)) ∧ (decode code 218 = .ok (.iconst 4, 1)) ∧ (decode code 219 = .ok (.iadd, 1)) ∧ (decode code 220 = .ok (.iaload, 1)) ∧ (decode code 221 = .ok (.aload_n 0, 1)) ∧ (decode code 222 = .ok (.iload_n 3, 1)) ∧ (decode code 223 = .ok (.iconst 5, 1)) ∧ (decode code 224 = .ok (.iadd, 1)) ∧ (decode code 225 = .ok (.iaload, 1)) ∧ True := fd_of (cc := code) [(210, .iaload, 1), (211, .aload_n 0, 1), (212, .iload_n 3, 1), (213, .iconst 3, 1), (214, .iadd, 1), (215, .iaload, 1), (216, .aload_n 0, 1), (217, .iload_n 3, 1), (218, .iconst 4, 1), (219, .iadd, 1), (220, .iaload, 1), (221, .aload_n 0, 1), (222, .iload_n 3, 1), (223, .iconst 5, 1), (224, .iadd, 1), (225, .iaload, 1)] (by decide +kernel)
theorem d_law_210 : decode code 210 = .ok (.iaload, 1) := dg_law_32.1
theorem d_law_211 : decode code 211 = .ok (.aload_n 0, 1) := dg_law_32.2.1
theorem d_law_212 : decode code 212 = .ok (.iload_n 3, 1) := dg_law_32.2.2.1
theorem d_law_213 : decode code 213 = .ok (.iconst 3, 1) := dg_law_32.2.2.2.1
theorem d_law_214 : decode code 214 = .ok (.iadd, 1) := dg_law_32.2.2.2.2.1
theorem d_law_215 : decode code 215 = .ok (.iaload, 1) := dg_law_32.2.2.2.2.2.1
theorem d_law_216 : decode code 216 = .ok (.aload_n 0, 1) := dg_law_32.2.2.2.2.2.2.1
theorem d_law_217 : decode code 217 = .ok (.iload_n 3, 1) := dg_law_32.2.2.2.2.2.2.2.1
theorem d_law_218 : decode code 218 = .ok (.iconst 4, 1) := dg_law_32.2.2.2.2.2.2.2.2.1
theorem d_law_219 : decode code 219 = .ok (.iadd, 1) := dg_law_32.2.2.2.2.2.2.2.2.2.1
theorem d_law_220 : decode code 220 = .ok (.iaload, 1) := dg_law_32.2.2.2.2.2.2.2.2.2.2.1
theorem d_law_221 : decode code 221 = .ok (.aload_n 0, 1) := dg_law_32.2.2.2.2.2.2.2.2.2.2.2.1
theorem d_law_222 : decode code 222 = .ok (.iload_n 3, 1) := dg_law_32.2.2.2.2.2.2.2.2.2.2.2.2.1
theorem d_law_223 : decode code 223 = .ok (.iconst 5, 1) := dg_law_32.2.2.2.2.2.2.2.2.2.2.2.2.2.1
theorem d_law_224 : decode code 224 = .ok (.iadd, 1) := dg_law_32.2.2.2.2.2.2.2.2.2.2.2.2.2.2.1
theorem d_law_225 : decode code 225 = .ok (.iaload, 1) := dg_law_32.2.2.2.2.2.2.2.2.2.2.2.2.2.2.2.1
theorem dg_law_48 : (decode code 226 = .ok (.invokevirtual 13, 3)) ∧ (decode code 229 = .ok (.pop, 1)) ∧ (decode code 230 = .ok (.aload_n 2, 1)) ∧ (decode code 231 = .ok (.aload_n 0, 1)) ∧ (decode code 232 = .ok (.iload_n 3, 1)) ∧ (decode code 233 = .ok (.iconst 1, 1)) ∧ (decode code 234 = .ok (.iadd, 1)) ∧ (decode code 235 = .ok (.iaload, 1)) ∧ (decode code 236 = .ok (.aload_n 0, 1)) ∧ (decode code 237 = .ok (.iload_n 3, 1)) ∧ (decode code 238 = .ok (.iconst 2, 1)) ∧ (decode code 239 = .ok (.iadd, 1)) ∧ (decode code 240 = .ok (.iaload, 1)) ∧ (decode code 241 = .ok (.aload_n 0, 1)) ∧ (decode code 242 = .ok (.iload_n 3, 1)) ∧ (decode code 243 = .ok (.iconst 3, 1)) ∧ True := fd_of (cc := code) [(226, .invokevirtual 13, 3), (229, .pop, 1), (230, .aload_n 2, 1), (231, .aload_n 0, 1), (232, .iload_n 3, 1), (233, .iconst 1, 1), (234, .iadd, 1), (235, .iaload, 1), (236, .aload_n 0, 1), (237, .iload_n 3, 1), (238, .iconst 2, 1), (239, .iadd, 1), (240, .iaload, 1), (241, .aload_n 0, 1), (242, .iload_n 3, 1), (243, .iconst 3, 1)] (by decide +kernel)
theorem d_law_226 : decode code 226 = .ok (.invokevirtual 13, 3) := dg_law_48.1
theorem d_law_229 : decode code 229 = .ok (.pop, 1) := dg_law_48.2.1
theorem d_law_230 : decode code 230 = .ok (.aload_n 2, 1) := dg_law_48.2.2.1
theorem d_law_231 : decode code 231 = .ok (.aload_n 0, 1) := dg_law_48.2.2.2.1
theorem d_law_232 : decode code 232 = .ok (.iload_n 3, 1) := dg_law_48.2.2.2.2.1
theorem d_law_233 : decode code 233 = .ok (.iconst 1, 1) := dg_law_48.2.2.2.2.2.1
theorem d_law_234 : decode code 234 = .ok (.iadd, 1) := dg_law_48.2.2.2.2.2.2.1
theorem d_law_235 : decode code 235 = .ok (.iaload, 1) := dg_law_48.2.2.2.2.2.2.2.1
theorem d_law_236 : decode code 236 = .ok (.aload_n 0, 1) := dg_law_48.2.2.2.2.2.2.2.2.1
theorem d_law_237 : decode code 237 = .ok (.iload_n 3, 1) := dg_law_48.2.2.2.2.2.2.2.2.2.1
theorem d_law_238 : decode code 238 = .ok (.iconst 2, 1) := dg_law_48.2.2.2.2.2.2.2.2.2.2.1
theorem d_law_239 : decode code 239 = .ok (.iadd, 1) := dg_law_48.2.2.2.2.2.2.2.2.2.2.2.1
theorem d_law_240 : decode code 240 = .ok (.iaload, 1) := dg_law_48.2.2.2.2.2.2.2.2.2.2.2.2.1
theorem d_law_241 : decode code 241 = .ok (.aload_n 0, 1) := dg_law_48.2.2.2.2.2.2.2.2.2.2.2.2.2.1
theorem d_law_242 : decode code 242 = .ok (.iload_n 3, 1) := dg_law_48.2.2.2.2.2.2.2.2.2.2.2.2.2.2.1
theorem d_law_243 : decode code 243 = .ok (.iconst 3, 1) := dg_law_48.2.2.2.2.2.2.2.2.2.2.2.2.2.2.2.1
theorem dg_law_64 : (decode code 244 = .ok (.iadd, 1)) ∧ (decode code 245 = .ok (.iaload, 1)) ∧ (decode code 246 = .ok (.aload_n 0, 1)) ∧ (decode code 247 = .ok (.iload_n 3, 1)) ∧ (decode code 248 = .ok (.iconst 4, 1)) ∧ (decode code 249 = .ok (.iadd, 1)) ∧ (decode code 250 = .ok (.iaload, 1)) ∧ (decode code 251 = .ok (.aload_n 0, 1)) ∧ (decode code 252 = .ok (.iload_n 3, 1)) ∧ (decode code 253 = .ok (.iconst 5, 1)) ∧ (decode code 254 = .ok (.iadd, 1)) ∧ (decode code 255 = .ok (.iaload, 1)) ∧ (decode code 256 = .ok (.invokevirtual 17, 3)) ∧ (decode code 259 = .ok (.pop, 1)) ∧ (decode code 260 = .ok (.goto 1114, 3)) ∧ (decode code 263 = .ok (.aload_n 1, 1)) ∧ True := fd_of (cc := code) [(244, .iadd, 1), (245, .iaload, 1), (246, .aload_n 0, 1), (247, .iload_n 3, 1), (248, .iconst 4, 1), (249, .iadd, 1), (250, .iaload, 1), (251, .aload_n 0, 1), (252, .iload_n 3, 1), (253, .iconst 5, 1), (254, .iadd, 1), (255, .iaload, 1), (256, .invokevirtual 17, 3), (259, .pop, 1), (260, .goto 1114, 3), (263, .aload_n 1, 1)] (by decide +kernel)
theorem d_law_244 : decode code 244 = .ok (.iadd, 1) := dg_law_64.1
theorem d_law_245 : decode code 245 = .ok (.iaload, 1) := dg_law_64.2.1
theorem d_law_246 : decode code 246 = .ok (.aload_n 0, 1) := dg_law_64.2.2.1
theorem d_law_247 : decode code 247 = .ok (.iload_n 3, 1) := dg_law_64.2.2.2.1
theorem d_law_248 : decode code 248 = .ok (.iconst 4, 1) := dg_law_64.2.2.2.2.1
theorem d_law_249 : decode code 249 = .ok (.iadd, 1) := dg_law_64.2.2.2.2.2.1
theorem d_law_250 : decode code 250 = .ok (.iaload, 1) := dg_law_64.2.2.2.2.2.2.1
theorem d_law_251 : decode code 251 = .ok (.aload_n 0, 1) := dg_law_64.2.2.2.2.2.2.2.1
theorem d_law_252 : decode code 252 = .ok (.iload_n 3, 1) := dg_law_64.2.2.2.2.2.2.2.2.1
theorem d_law_253 : decode code 253 = .ok (.iconst 5, 1) := dg_law_64.2.2.2.2.2.2.2.2.2.1
theorem d_law_254 : decode code 254 = .ok (.iadd, 1) := dg_law_64.2.2.2.2.2.2.2.2.2.2.1
theorem d_law_255 : decode code 255 = .ok (.iaload, 1) := dg_law_64.2.2.2.2.2.2.2.2.2.2.2.1
theorem d_law_256 : decode code 256 = .ok (.invokevirtual 17, 3) := dg_law_64.2.2.2.2.2.2.2.2.2.2.2.2.1
theorem d_law_259 : decode code 259 = .ok (.pop, 1) := dg_law_64.2.2.2.2.2.2.2.2.2.2.2.2.2.1
theorem d_law_260 : decode code 260 = .ok (.goto 1114, 3) := dg_law_64.2.2.2.2.2.2.2.2.2.2.2.2.2.2.1
theorem d_law_263 : decode code 263 = .ok (.aload_n 1, 1) := dg_law_64.2.2.2.2.2.2.2.2.2.2.2.2.2.2.2.1
theorem dg_law_80 : (decode code 264 = .ok (.aload_n 0, 1)) ∧ (decode code 265 = .ok (.iload_n 3, 1)) ∧ (decode code 266 = .ok (.iconst 1, 1)) ∧ (decode code 267 = .ok (.iadd, 1)) ∧ (decode code 268 = .ok (.iaload, 1)) ∧ (decode code 269 = .ok (.invokevirtual 18, 3)) ∧ (decode code 272 = .ok (.pop, 1)) ∧ (decode code 273 = .ok (.aload_n 2, 1)) ∧ (decode code 274 = .ok (.aload_n 0, 1)) ∧ (decode code 275 = .ok (.iload_n 3, 1)) ∧ (decode code 276 = .ok (.iconst 1, 1)) ∧ (decode code 277 = .ok (.iadd, 1)) ∧ (decode code 278 = .ok (.iaload, 1)) ∧ (decode code 279 = .ok (.invokevirtual 22, 3)) ∧ (decode code 282 = .ok (.pop, 1)) ∧ (decode code 283 = .ok (.goto 1091, 3)) ∧ True := fd_of (cc := code) [(264, .aload_n 0, 1), (265, .iload_n 3, 1), (266, .iconst 1, 1), (267, .iadd, 1), (268, .iaload, 1), (269, .invokevirtual 18, 3), (272, .pop, 1), (273, .aload_n 2, 1), (274, .aload_n 0, 1), (275, .iload_n 3, 1), (276, .iconst 1, 1), (277, .iadd, 1), (278, .iaload, 1), (279, .invokevirtual 22, 3), (282, .pop, 1), (283, .goto 1091, 3)] (by decide +kernel)
theorem d_law_264 : decode code 264 = .ok (.aload_n 0, 1) := dg_law_80.1
theorem d_law_265 : decode code 265 = .ok (.iload_n 3, 1) := dg_law_80.2.1
theorem d_law_266 : decode code 266 = .ok (.iconst 1, 1) := dg_law_80.2.2.1
theorem d_law_267 : decode code 267 = .ok (.iadd, 1) := dg_law_80.2.2.2.1
theorem d_law_268 : decode code 268 = .ok (.iaload, 1) := dg_law_80.2.2.2.2.1
theorem d_law_269 : decode code 269 = .ok (.invokevirtual 18, 3) := dg_law_80.2.2.2.2.2.1
theorem d_law_272 : decode code 272 = .ok (.pop, 1) := dg_law_80.2.2.2.2.2.2.1
theorem d_law_273 : decode code 273 = .ok (.aload_n 2, 1) := dg_law_80.2.2.2.2.2.2.2.1
theorem d_law_274 : decode code 274 = .ok (.aload_n 0, 1) := dg_law_80.2.2.2.2.2.2.2.2.1
theorem d_law_275 : decode code 275 = .ok (.iload_n 3, 1) := dg_law_80.2.2.2.2.2.2.2.2.2.1
theorem d_law_276 : decode code 276 = .ok (.iconst 1, 1) := dg_law_80.2.2.2.2.2.2.2.2.2.2.1
theorem d_law_277 : decode code 277 = .ok (.iadd, 1) := dg_law_80.2.2.2.2.2.2.2.2.2.2.2.1
theorem d_law_278 : decode code 278 = .ok (.iaload, 1) := dg_law_80.2.2.2.2.2.2.2.2.2.2.2.2.1
theorem d_law_279 : decode code 279 = .ok (.invokevirtual 22, 3) := dg_law_80.2.2.2.2.2.2.2.2.2.2.2.2.2.1
theorem d_law_282 : decode code 282 = .ok (.pop, 1) := dg_law_80.2.2.2.2.2.2.2.2.2.2.2.2.2.2.1
theorem d_law_283 : decode code 283 = .ok (.goto 1091, 3) := dg_law_80.2.2.2.2.2.2.2.2.2.2.2.2.2.2.2.1
theorem dg_law_96 : (decode code 286 = .ok (.aload_n 1, 1)) ∧ (decode code 287 = .ok (.invokevirtual 23, 3)) ∧ (decode code 290 = .ok (.pop, 1)) ∧ (decode code 291 = .ok (.aload_n 2, 1)) ∧ (decode code 292 = .ok (.invokevirtual 27, 3)) ∧ (decode code 295 = .ok (.pop, 1)) ∧ (decode code 296 = .ok (.goto 1078, 3)) ∧ (decode code 299 = .ok (.aload_n 1, 1)) ∧ (decode code 300 = .ok (.aload_n 0, 1)) ∧ (decode code 301 = .ok (.iload_n 3, 1)) ∧ (decode code 302 = .ok (.iconst 1, 1)) ∧ (decode code 303 = .ok (.iadd, 1)) ∧ (decode code 304 = .ok (.iaload, 1)) ∧ (decode code 305 = .ok (.invokevirtual 28, 3)) ∧ (decode code 308 = .ok (.pop, 1)) ∧ (decode code 309 = .ok (.aload_n 2, 1)) ∧ True := fd_of (cc := code) [(286, .aload_n 1, 1), (287, .invokevirtual 23, 3), (290, .pop, 1), (291, .aload_n 2, 1), (292, .invokevirtual 27, 3), (295, .pop, 1), (296, .goto 1078, 3), (299, .aload_n 1, 1), (300, .aload_n 0, 1), (301, .iload_n 3, 1), (302, .iconst 1, 1), (303, .iadd, 1), (304, .iaload, 1), (305, .invokevirtual 28, 3), (308, .pop, 1), (309, .aload_n 2, 1)] (by decide +kernel)
theorem d_law_286 : decode code 286 = .ok (.aload_n 1, 1) := dg_law_96.1
theorem d_law_287 : decode code 287 = .ok (.invokevirtual 23, 3) := dg_law_96.2.1
theorem d_law_290 : decode code 290 = .ok (.pop, 1) := dg_law_96.2.2.1
theorem d_law_291 : decode code 291 = .ok (.aload_n 2, 1) := dg_law_96.2.2.2.1
theorem d_law_292 : decode code 292 = .ok (.invokevirtual 27, 3) := dg_law_96.2.2.2.2.1
theorem d_law_295 : decode code 295 = .ok (.pop, 1) := dg_law_96.2.2.2.2.2.1
theorem d_law_296 : decode code 296 = .ok (.goto 1078, 3) := dg_law_96.2.2.2.2.2.2.1
theorem d_law_299 : decode code 299 = .ok (.aload_n 1, 1) := dg_law_96.2.2.2.2.2.2.2.1
theorem d_law_300 : decode code 300 = .ok (.aload_n 0, 1) := dg_law_96.2.2.2.2.2.2.2.2.1
theorem d_law_301 : decode code 301 = .ok (.iload_n 3, 1) := dg_law_96.2.2.2.2.2.2.2.2.2.1
theorem d_law_302 : decode code 302 = .ok (.iconst 1, 1) := dg_law_96.2.2.2.2.2.2.2.2.2.2.1
theorem d_law_303 : decode code 303 = .ok (.iadd, 1) := dg_law_96.2.2.2.2.2.2.2.2.2.2.2.1
theorem d_law_304 : decode code 304 = .ok (.iaload, 1) := dg_law_96.2.2.2.2.2.2.2.2.2.2.2.2.1
theorem d_law_305 : decode code 305 = .ok (.invokevirtual 28, 3) := dg_law_96.2.2.2.2.2.2.2.2.2.2.2.2.2.1
theorem d_law_308 : decode code 308 = .ok (.pop, 1) := dg_law_96.2.2.2.2.2.2.2.2.2.2.2.2.2.2.1
theorem d_law_309 : decode code 309 = .ok (.aload_n 2, 1) := dg_law_96.2.2.2.2.2.2.2.2.2.2.2.2.2.2.2.1
theorem dg_law_112 : (decode code 310 = .ok (.aload_n 0, 1)) ∧ (decode code 311 = .ok (.iload_n 3, 1)) ∧ (decode code 312 = .ok (.iconst 1, 1)) ∧ (decode code 313 = .ok (.iadd, 1)) ∧ (decode code 314 = .ok (.iaload, 1)) ∧ (decode code 315 = .ok (.invokevirtual 32, 3)) ∧ (decode code 318 = .ok (.pop, 1)) ∧ (decode code 319 = .ok (.goto 1055, 3)) ∧ (decode code 322 = .ok (.aload_n 1, 1)) ∧ (decode code 323 = .ok (.aload_n 0, 1)) ∧ (decode code 324 = .ok (.iload_n 3, 1)) ∧ (decode code 325 = .ok (.iconst 1, 1)) ∧ (decode code 326 = .ok (.iadd, 1)) ∧ (decode code 327 = .ok (.iaload, 1)) ∧ (decode code 328 = .ok (.invokevirtual 33, 3)) ∧ (decode code 331 = .ok (.pop, 1)) ∧ True := fd_of (cc := code) [(310, .aload_n 0, 1), (311, .iload_n 3, 1), (312, .iconst 1, 1), (313, .iadd, 1), (314, .iaload, 1), (315, .invokevirtual 32, 3), (318, .pop, 1), (319, .goto 1055, 3), (322, .aload_n 1, 1), (323, .aload_n 0, 1), (324, .iload_n 3, 1), (325, .iconst 1, 1), (326, .iadd, 1), (327, .iaload, 1), (328, .invokevirtual 33, 3), (331, .pop, 1)] (by decide +kernel)
theorem d_law_310 : decode code 310 = .ok (.aload_n 0, 1) := dg_law_112.1
theorem d_law_311 : decode code 311 = .ok (.iload_n 3, 1) := dg_law_112.2.1
theorem d_law_312 : decode code 312 = .ok (.iconst 1, 1) := dg_law_112.2.2.1
theorem d_law_313 : decode code 313 = .ok (.iadd, 1) := dg_law_112.2.2.2.1
theorem d_law_314 : decode code 314 = .ok (.iaload, 1) := dg_law_112.2.2.2.2.1
theorem d_law_315 : decode code 315 = .ok (.invokevirtual 32, 3) := dg_law_112.2.2.2.2.2.1
theorem d_law_318 : decode code 318 = .ok (.pop, 1) := dg_law_112.2.2.2.2.2.2.1
theorem d_law_319 : decode code 319 = .ok (.goto 1055, 3) := dg_law_112.2.2.2.2.2.2.2.1
theorem d_law_322 : decode code 322 = .ok (.aload_n 1, 1) := dg_law_112.2.2.2.2.2.2.2.2.1
theorem d_law_323 : decode code 323 = .ok (.aload_n 0, 1) := dg_law_112.2.2.2.2.2.2.2.2.2.1
theorem d_law_324 : decode code 324 = .ok (.iload_n 3, 1) := dg_law_112.2.2.2.2.2.2.2.2.2.2.1
theorem d_law_325 : decode code 325 = .ok (.iconst 1, 1) := dg_law_112.2.2.2.2.2.2.2.2.2.2.2.1
theorem d_law_326 : decode code 326 = .ok (.iadd, 1) := dg_law_112.2.2.2.2.2.2.2.2.2.2.2.2.1
theorem d_law_327 : decode code 327 = .ok (.iaload, 1) := dg_law_112.2.2.2.2.2.2.2.2.2.2.2.2.2.1
theorem d_law_328 : decode code 328 = .ok (.invokevirtual 33, 3) := dg_law_112.2.2.2.2.2.2.2.2.2.2.2.2.2.2.1
theorem d_law_331 : decode code 331 = .ok (.pop, 1) := dg_law_112.2.2.2.2.2.2.2.2.2.2.2.2.2.2.2.1
theorem dg_law_128 : (decode code 332 = .ok (.aload_n 2, 1)) ∧ (decode code 333 = .ok (.aload_n 0, 1)) ∧ (decode code 334 = .ok (.iload_n 3, 1)) ∧ (decode code 335 = .ok (.iconst 1, 1)) ∧ (decode code 336 = .ok (.iadd, 1)) ∧ (decode code 337 = .ok (.iaload, 1)) ∧ (decode code 338 = .ok (.invokevirtual 36, 3)) ∧ (decode code 341 = .ok (.pop, 1)) ∧ (decode code 342 = .ok (.goto 1032, 3)) ∧ (decode code 345 = .ok (.aload_n 1, 1)) ∧ (decode code 346 = .ok (.aload_n 0, 1)) ∧ (decode code 347 = .ok (.iload_n 3, 1)) ∧ (decode code 348 = .ok (.iconst 1, 1)) ∧ (decode code 349 = .ok (.iadd, 1)) ∧ (decode code 350 = .ok (.iaload, 1)) ∧ (decode code 351 = .ok (.aload_n 0, 1)) ∧ True := fd_of (cc := code) [(332, .aload_n 2, 1), (333, .aload_n 0, 1), (334, .iload_n 3, 1), (335, .iconst 1, 1), (336, .iadd, 1), (337, .iaload, 1), (338, .invokevirtual 36, 3), (341, .pop, 1), (342, .goto 1032, 3), (345, .aload_n 1, 1), (346, .aload_n 0, 1), (347, .iload_n 3, 1), (348, .iconst 1, 1), (349, .iadd, 1), (350, .iaload, 1), (351, .aload_n 0, 1)] (by decide +kernel)
theorem d_law_332 : decode code 332 = .ok (.aload_n 2, 1) := dg_law_128.1
theorem d_law_333 : decode code 333 = .ok (.aload_n 0, 1) := dg_law_128.2.1
theorem d_law_334 : decode code 334 = .ok (.iload_n 3, 1) := dg_law_128.2.2.1
theorem d_law_335 : decode code 335 = .ok (.iconst 1, 1) := dg_law_128.2.2.2.1
theorem d_law_336 : decode code 336 = .ok (.iadd, 1) := dg_law_128.2.2.2.2.1
theorem d_law_337 : decode code 337 = .ok (.iaload, 1) := dg_law_128.2.2.2.2.2.1
theorem d_law_338 : decode code 338 = .ok (.invokevirtual 36, 3) := dg_law_128.2.2.2.2.2.2.1
theorem d_law_341 : decode code 341 = .ok (.pop, 1) := dg_law_128.2.2.2.2.2.2.2.1
theorem d_law_342 : decode code 342 = .ok (.goto 1032, 3) := dg_law_128.2.2.2.2.2.2.2.2.1
theorem d_law_345 : decode code 345 = .ok (.aload_n 1, 1) := dg_law_128.2.2.2.2.2.2.2.2.2.1
theorem d_law_346 : decode code 346 = .ok (.aload_n 0, 1) := dg_law_128.2.2.2.2.2.2.2.2.2.2.1
theorem d_law_347 : decode code 347 = .ok (.iload_n 3, 1) := dg_law_128.2.2.2.2.2.2.2.2.2.2.2.1
theorem d_law_348 : decode code 348 = .ok (.iconst 1, 1) := dg_law_128.2.2.2.2.2.2.2.2.2.2.2.2.1
theorem d_law_349 : decode code 349 = .ok (.iadd, 1) := dg_law_128.2.2.2.2.2.2.2.2.2.2.2.2.2.1
theorem d_law_350 : decode code 350 = .ok (.iaload, 1) := dg_law_128.2.2.2.2.2.2.2.2.2.2.2.2.2.2.1
theorem d_law_351 : decode code 351 = .ok (.aload_n 0, 1) := dg_law_128.2.2.2.2.2.2.2.2.2.2.2.2.2.2.2.1
theorem dg_law_144 : (decode code 352 = .ok (.iload_n 3, 1)) ∧ (decode code 353 = .ok (.iconst 2, 1)) ∧ (decode code 354 = .ok (.iadd, 1)) ∧ (decode code 355 = .ok (.iaload, 1)) ∧ (decode code 356 = .ok (.aload_n 0, 1)) ∧ (decode code 357 = .ok (.iload_n 3, 1)) ∧ (decode code 358 = .ok (.iconst 3, 1)) ∧ (decode code 359 = .ok (.iadd, 1)) ∧ (decode code 360 = .ok (.iaload, 1)) ∧ (decode code 361 = .ok (.invokevirtual 37, 3)) ∧ (decode code 364 = .ok (.pop, 1)) ∧ (decode code 365 = .ok (.aload_n 2, 1)) ∧ (decode code 366 = .ok (.aload_n 0, 1)) ∧ (decode code 367 = .ok (.iload_n 3, 1)) ∧ (decode code 368 = .ok (.iconst 1, 1)) ∧ (decode code 369 = .ok (.iadd, 1)) ∧ True := fd_of (cc := code) [(352, .iload_n 3, 1), (353, .iconst 2, 1), (354, .iadd, 1), (355, .iaload, 1), (356, .aload_n 0, 1), (357, .iload_n 3, 1), (358, .iconst 3, 1), (359, .iadd, 1), (360, .iaload, 1), (361, .invokevirtual 37, 3), (364, .pop, 1), (365, .aload_n 2, 1), (366, .aload_n 0, 1), (367, .iload_n 3, 1), (368, .iconst 1, 1), (369, .iadd, 1)] (by decide +kernel)
theorem d_law_352 : decode code 352 = .ok (.iload_n 3, 1) := dg_law_144.1
theorem d_law_353 : decode code 353 = .ok (.iconst 2, 1) := dg_law_144.2.1
theorem d_law_354 : decode code 354 = .ok (.iadd, 1) := dg_law_144.2.2.1
theorem d_law_355 : decode code 355 = .ok (.iaload, 1) := dg_law_144.2.2.2.1
theorem d_law_356 : decode code 356 = .ok (.aload_n 0, 1) := dg_law_144.2.2.2.2.1
theorem d_law_357 : decode code 357 = .ok (.iload_n 3, 1) := dg_law_144.2.2.2.2.2.1
theorem d_law_358 : decode code 358 = .ok (.iconst 3, 1) := dg_law_144.2.2.2.2.2.2.1
theorem d_law_359 : decode code 359 = .ok (.iadd, 1) := dg_law_144.2.2.2.2.2.2.2.1
theorem d_law_360 : decode code 360 = .ok (.iaload, 1) := dg_law_144.2.2.2.2.2.2.2.2.1
theorem d_law_361 : decode code 361 = .ok (.invokevirtual 37, 3) := dg_law_144.2.2.2.2.2.2.2.2.2.1
theorem d_law_364 : decode code 364 = .ok (.pop, 1) := dg_law_144.2.2.2.2.2.2.2.2.2.2.1
theorem d_law_365 : decode code 365 = .ok (.aload_n 2, 1) := dg_law_144.2.2.2.2.2.2.2.2.2.2.2.1
theorem d_law_366 : decode code 366 = .ok (.aload_n 0, 1) := dg_law_144.2.2.2.2.2.2.2.2.2.2.2.2.1
theorem d_law_367 : decode code 367 = .ok (.iload_n 3, 1) := dg_law_144.2.2.2.2.2.2.2.2.2.2.2.2.2.1
theorem d_law_368 : decode code 368 = .ok (.iconst 1, 1) := dg_law_144.2.2.2.2.2.2.2.2.2.2.2.2.2.2.1
theorem d_law_369 : decode code 369 = .ok (.iadd, 1) := dg_law_144.2.2.2.2.2.2.2.2.2.2.2.2.2.2.2.1
theorem dg_law_160 : (decode code 370 = .ok (.iaload, 1)) ∧ (decode code 371 = .ok (.aload_n 0, 1)) ∧ (decode code 372 = .ok (.iload_n 3, 1)) ∧ (decode code 373 = .ok (.iconst 2, 1)) ∧ (decode code 374 = .ok (.iadd, 1)) ∧ (decode code 375 = .ok (.iaload, 1)) ∧ (decode code 376 = .ok (.aload_n 0, 1)) ∧ (decode code 377 = .ok (.iload_n 3, 1)) ∧ (decode code 378 = .ok (.iconst 3, 1)) ∧ (decode code 379 = .ok (.iadd, 1)) ∧ (decode code 380 = .ok (.iaload, 1)) ∧ (decode code 381 = .ok (.invokevirtual 41, 3)) ∧ (decode code 384 = .ok (.pop, 1)) ∧ (decode code 385 = .ok (.goto 989, 3)) ∧ (decode code 388 = .ok (.aload_n 1, 1)) ∧ (decode code 389 = .ok (.aload_n 0, 1)) ∧ True := fd_of (cc := code) [(370, .iaload, 1), (371, .aload_n 0, 1), (372, .iload_n 3, 1), (373, .iconst 2, 1), (374, .iadd, 1), (375, .iaload, 1), (376, .aload_n 0, 1), (377, .iload_n 3, 1), (378, .iconst 3, 1), (379, .iadd, 1), (380, .iaload, 1), (381, .invokevirtual 41, 3), (384, .pop, 1), (385, .goto 989, 3), (388, .aload_n 1, 1), (389, .aload_n 0, 1)] (by decide +kernel)
theorem d_law_370 : decode code 370 = .ok (.iaload, 1) := dg_law_160.1
theorem d_law_371 : decode code 371 = .ok (.aload_n 0, 1) := dg_law_160.2.1
theorem d_law_372 : decode code 372 = .ok (.iload_n 3, 1) := dg_law_160.2.2.1
theorem d_law_373 : decode code 373 = .ok (.iconst 2, 1) := dg_law_160.2.2.2.1
theorem d_law_374 : decode code 374 = .ok (.iadd, 1) := dg_law_160.2.2.2.2.1
theorem d_law_375 : decode code 375 = .ok (.iaload, 1) := dg_law_160.2.2.2.2.2.1
theorem d_law_376 : decode code 376 = .ok (.aload_n 0, 1) := dg_law_160.2.2.2.2.2.2.1
theorem d_law_377 : decode code 377 = .ok (.iload_n 3, 1) := dg_law_160.2.2.2.2.2.2.2.1
theorem d_law_378 : decode code 378 = .ok (.iconst 3, 1) := dg_law_160.2.2.2.2.2.2.2.2.1
theorem d_law_379 : decode code 379 = .ok (.iadd, 1) := dg_law_160.2.2.2.2.2.2.2.2.2.1
theorem d_law_380 : decode code 380 = .ok (.iaload, 1) := dg_law_160.2.2.2.2.2.2.2.2.2.2.1
theorem d_law_381 : decode code 381 = .ok (.invokevirtual 41, 3) := dg_law_160.2.2.2.2.2.2.2.2.2.2.2.1
theorem d_law_384 : decode code 384 = .ok (.pop, 1) := dg_law_160.2.2.2.2.2.2.2.2.2.2.2.2.1
theorem d_law_385 : decode code 385 = .ok (.goto 989, 3) := dg_law_160.2.2.2.2.2.2.2.2.2.2.2.2.2.1
theorem d_law_388 : decode code 388 = .ok (.aload_n 1, 1) := dg_law_160.2.2.2.2.2.2.2.2.2.2.2.2.2.2.1
theorem d_law_389 : decode code 389 = .ok (.aload_n 0, 1) := dg_law_160.2.2.2.2.2.2.2.2.2.2.2.2.2.2.2.1
theorem dg_law_176 : (decode code 390 = .ok (.iload_n 3, 1)) ∧ (decode code 391 = .ok (.iconst 1, 1)) ∧ (decode code 392 = .ok (.iadd, 1)) ∧ (decode code 393 = .ok (.iaload, 1)) ∧ (decode code 394 = .ok (.aload_n 0, 1)) ∧ (decode code 395 = .ok (.iload_n 3, 1)) ∧ (decode code 396 = .ok (.iconst 2, 1)) ∧ (decode code 397 = .ok (.iadd, 1)) ∧ (decode code 398 = .ok (.iaload, 1)) ∧ (decode code 399 = .ok (.aload_n 0, 1)) ∧ (decode code 400 = .ok (.iload_n 3, 1)) ∧ (decode code 401 = .ok (.iconst 3, 1)) ∧ (decode code 402 = .ok (.iadd, 1)) ∧ (decode code 403 = .ok (.iaload, 1)) ∧ (decode code 404 = .ok (.ifCond .eq 7, 3)) ∧ (decode code 407 = .ok (.iconst 1, 1)) ∧ True := fd_of (cc := code) [(390, .iload_n 3, 1), (391, .iconst 1, 1), (392, .iadd, 1), (393, .iaload, 1), (394, .aload_n 0, 1), (395, .iload_n 3, 1), (396, .iconst 2, 1), (397, .iadd, 1), (398, .iaload, 1), (399, .aload_n 0, 1), (400, .iload_n 3, 1), (401, .iconst 3, 1), (402, .iadd, 1), (403, .iaload, 1), (404, .ifCond .eq 7, 3), (407, .iconst 1, 1)] (by decide +kernel)
theorem d_law_390 : decode code 390 = .ok (.iload_n 3, 1) := dg_law_176.1
theorem d_law_391 : decode code 391 = .ok (.iconst 1, 1) := dg_law_176.2.1
theorem d_law_392 : decode code 392 = .ok (.iadd, 1) := dg_law_176.2.2.1
theorem d_law_393 : decode code 393 = .ok (.iaload, 1) := dg_law_176.2.2.2.1
theorem d_law_394 : decode code 394 = .ok (.aload_n 0, 1) := dg_law_176.2.2.2.2.1
theorem d_law_395 : decode code 395 = .ok (.iload_n 3, 1) := dg_law_176.2.2.2.2.2.1
theorem d_law_396 : decode code 396 = .ok (.iconst 2, 1) := dg_law_176.2.2.2.2.2.2.1
theorem d_law_397 : decode code 397 = .ok (.iadd, 1) := dg_law_176.2.2.2.2.2.2.2.1
theorem d_law_398 : decode code 398 = .ok (.iaload, 1) := dg_law_176.2.2.2.2.2.2.2.2.1
theorem d_law_399 : decode code 399 = .ok (.aload_n 0, 1) := dg_law_176.2.2.2.2.2.2.2.2.2.1
theorem d_law_400 : decode code 400 = .ok (.iload_n 3, 1) := dg_law_176.2.2.2.2.2.2.2.2.2.2.1
theorem d_law_401 : decode code 401 = .ok (.iconst 3, 1) := dg_law_176.2.2.2.2.2.2.2.2.2.2.2.1
theorem d_law_402 : decode code 402 = .ok (.iadd, 1) := dg_law_176.2.2.2.2.2.2.2.2.2.2.2.2.1
theorem d_law_403 : decode code 403 = .ok (.iaload, 1) := dg_law_176.2.2.2.2.2.2.2.2.2.2.2.2.2.1
theorem d_law_404 : decode code 404 = .ok (.ifCond .eq 7, 3) := dg_law_176.2.2.2.2.2.2.2.2.2.2.2.2.2.2.1
theorem d_law_407 : decode code 407 = .ok (.iconst 1, 1) := dg_law_176.2.2.2.2.2.2.2.2.2.2.2.2.2.2.2.1
theorem dg_law_192 : (decode code 408 = .ok (.goto 4, 3)) ∧ (decode code 411 = .ok (.iconst 0, 1)) ∧ (decode code 412 = .ok (.invokevirtual 42, 3)) ∧ (decode code 415 = .ok (.pop, 1)) ∧ (decode code 416 = .ok (.aload_n 2, 1)) ∧ (decode code 417 = .ok (.aload_n 0, 1)) ∧ (decode code 418 = .ok (.iload_n 3, 1)) ∧ (decode code 419 = .ok (.iconst 1, 1)) ∧ (decode code 420 = .ok (.iadd, 1)) ∧ (decode code 421 = .ok (.iaload, 1)) ∧ (decode code 422 = .ok (.aload_n 0, 1)) ∧ (decode code 423 = .ok (.iload_n 3, 1)) ∧ (decode code 424 = .ok (.iconst 2, 1)) ∧ (decode code 425 = .ok (.iadd, 1)) ∧ (decode code 426 = .ok (.iaload, 1)) ∧ (decode code 427 = .ok (.aload_n 0, 1)) ∧ True := fd_of (cc := code) [(408, .goto 4, 3), (411, .iconst 0, 1), (412, .invokevirtual 42, 3), (415, .pop, 1), (416, .aload_n 2, 1), (417, .aload_n 0, 1), (418, .iload_n 3, 1), (419, .iconst 1, 1), (420, .iadd, 1), (421, .iaload, 1), (422, .aload_n 0, 1), (423, .iload_n 3, 1), (424, .iconst 2, 1), (425, .iadd, 1), (426, .iaload, 1), (427, .aload_n 0, 1)] (by decide +kernel)
theorem d_law_408 : decode code 408 = .ok (.goto 4, 3) := dg_law_192.1
theorem d_law_411 : decode code 411 = .ok (.iconst 0, 1) := dg_law_192.2.1
theorem d_law_412 : decode code 412 = .ok (.invokevirtual 42, 3) := dg_law_192.2.2.1
theorem d_law_415 : decode code 415 = .ok (.pop, 1) := dg_law_192.2.2.2.1
theorem d_law_416 : decode code 416 = .ok (.aload_n 2, 1) := dg_law_192.2.2.2.2.1
theorem d_law_417 : decode code 417 = .ok (.aload_n 0, 1) := dg_law_192.2.2.2.2.2.1
theorem d_law_418 : decode code 418 = .ok (.iload_n 3, 1) := dg_law_192.2.2.2.2.2.2.1
theorem d_law_419 : decode code 419 = .ok (.iconst 1, 1) := dg_law_192.2.2.2.2.2.2.2.1
theorem d_law_420 : decode code 420 = .ok (.iadd, 1) := dg_law_192.2.2.2.2.2.2.2.2.1
theorem d_law_421 : decode code 421 = .ok (.iaload, 1) := dg_law_192.2.2.2.2.2.2.2.2.2.1
theorem d_law_422 : decode code 422 = .ok (.aload_n 0, 1) := dg_law_192.2.2.2.2.2.2.2.2.2.2.1
theorem d_law_423 : decode code 423 = .ok (.iload_n 3, 1) := dg_law_192.2.2.2.2.2.2.2.2.2.2.2.1
theorem d_law_424 : decode code 424 = .ok (.iconst 2, 1) := dg_law_192.2.2.2.2.2.2.2.2.2.2.2.2.1
theorem d_law_425 : decode code 425 = .ok (.iadd, 1) := dg_law_192.2.2.2.2.2.2.2.2.2.2.2.2.2.1
theorem d_law_426 : decode code 426 = .ok (.iaload, 1) := dg_law_192.2.2.2.2.2.2.2.2.2.2.2.2.2.2.1
theorem d_law_427 : decode code 427 = .ok (.aload_n 0, 1) := dg_law_192.2.2.2.2.2.2.2.2.2.2.2.2.2.2.2.1
theorem dg_law_208 : (decode code 428 = .ok (.iload_n 3, 1)) ∧ (decode code 429 = .ok (.iconst 3, 1)) ∧ (decode code 430 = .ok (.iadd, 1)) ∧ (decode code 431 = .ok (.iaload, 1)) ∧ (decode code 432 = .ok (.ifCond .eq 7, 3)) ∧ (decode code 435 = .ok (.iconst 1, 1)) ∧ (decode code 436 = .ok (.goto 4, 3)) ∧ (decode code 439 = .ok (.iconst 0, 1)) ∧ (decode code 440 = .ok (.invokevirtual 46, 3)) ∧ (decode code 443 = .ok (.pop, 1)) ∧ (decode code 444 = .ok (.goto 930, 3)) ∧ (decode code 447 = .ok (.aload_n 1, 1)) ∧ (decode code 448 = .ok (.aload_n 0, 1)) ∧ (decode code 449 = .ok (.iload_n 3, 1)) ∧ (decode code 450 = .ok (.iconst 1, 1)) ∧ (decode code 451 = .ok (.iadd, 1)) ∧ True := fd_of (cc := code) [(428, .iload_n 3, 1), (429, .iconst 3, 1), (430, .iadd, 1), (431, .iaload, 1), (432, .ifCond .eq 7, 3), (435, .iconst 1, 1), (436, .goto 4, 3), (439, .iconst 0, 1), (440, .invokevirtual 46, 3), (443, .pop, 1), (444, .goto 930, 3), (447, .aload_n 1, 1), (448, .aload_n 0, 1), (449, .iload_n 3, 1), (450, .iconst 1, 1), (451, .iadd, 1)] (by decide +kernel)
theorem d_law_428 : decode code 428 = .ok (.iload_n 3, 1) := dg_law_208.1
theorem d_law_429 : decode code 429 = .ok (.iconst 3, 1) := dg_law_208.2.1
theorem d_law_430 : decode code 430 = .ok (.iadd, 1) := dg_law_208.2.2.1
theorem d_law_431 : decode code 431 = .ok (.iaload, 1) := dg_law_208.2.2.2.1
theorem d_law_432 : decode code 432 = .ok (.ifCond .eq 7, 3) := dg_law_208.2.2.2.2.1
theorem d_law_435 : decode code 435 = .ok (.iconst 1, 1) := dg_law_208.2.2.2.2.2.1
theorem d_law_436 : decode code 436 = .ok (.goto 4, 3) := dg_law_208.2.2.2.2.2.2.1
theorem d_law_439 : decode code 439 = .ok (.iconst 0, 1) := dg_law_208.2.2.2.2.2.2.2.1
theorem d_law_440 : decode code 440 = .ok (.invokevirtual 46, 3) := dg_law_208.2.2.2.2.2.2.2.2.1
theorem d_law_443 : decode code 443 = .ok (.pop, 1) := dg_law_208.2.2.2.2.2.2.2.2.2.1
theorem d_law_444 : decode code 444 = .ok (.goto 930, 3) := dg_law_208.2.2.2.2.2.2.2.2.2.2.1
theorem d_law_447 : decode code 447 = .ok (.aload_n 1, 1) := dg_law_208.2.2.2.2.2.2.2.2.2.2.2.1
theorem d_law_448 : decode code 448 = .ok (.aload_n 0, 1) := dg_law_208.2.2.2.2.2.2.2.2.2.2.2.2.1
theorem d_law_449 : decode code 449 = .ok (.iload_n 3, 1) := dg_law_208.2.2.2.2.2.2.2.2.2.2.2.2.2.1
theorem d_law_450 : decode code 450 = .ok (.iconst 1, 1) := dg_law_208.2.2.2.2.2.2.2.2.2.2.2.2.2.2.1
theorem d_law_451 : decode code 451 = .ok (.iadd, 1) := dg_law_208.2.2.2.2.2.2.2.2.2.2.2.2.2.2.2.1
theorem dg_law_224 : (decode code 452 = .ok (.iaload, 1)) ∧ (decode code 453 = .ok (.aload_n 0, 1)) ∧ (decode code 454 = .ok (.iload_n 3, 1)) ∧ (decode code 455 = .ok (.iconst 2, 1)) ∧ (decode code 456 = .ok (.iadd, 1)) ∧ (decode code 457 = .ok (.iaload, 1)) ∧ (decode code 458 = .ok (.invokevirtual 47, 3)) ∧ (decode code 461 = .ok (.pop, 1)) ∧ (decode code 462 = .ok (.aload_n 2, 1)) ∧ (decode code 463 = .ok (.aload_n 0, 1)) ∧ (decode code 464 = .ok (.iload_n 3, 1)) ∧ (decode code 465 = .ok (.iconst 1, 1)) ∧ (decode code 466 = .ok (.iadd, 1)) ∧ (decode code 467 = .ok (.iaload, 1)) ∧ (decode code 468 = .ok (.aload_n 0, 1)) ∧ (decode code 469 = .ok (.iload_n 3, 1)) ∧ True := fd_of (cc := code) [(452, .iaload, 1), (453, .aload_n 0, 1), (454, .iload_n 3, 1), (455, .iconst 2, 1), (456, .iadd, 1), (457, .iaload, 1), (458, .invokevirtual 47, 3), (461, .pop, 1), (462, .aload_n 2, 1), (463, .aload_n 0, 1), (464, .iload_n 3, 1), (465, .iconst 1, 1), (466, .iadd, 1), (467, .iaload, 1), (468, .aload_n 0, 1), (469, .iload_n 3, 1)] (by decide +kernel)
theorem d_law_452 : decode code 452 = .ok (.iaload, 1) := dg_law_224.1
theorem d_law_453 : decode code 453 = .ok (.aload_n 0, 1) := dg_law_224.2.1
theorem d_law_454 : decode code 454 = .ok (.iload_n 3, 1) := dg_law_224.2.2.1
theorem d_law_455 : decode code 455 = .ok (.iconst 2, 1) := dg_law_224.2.2.2.1
theorem d_law_456 : decode code 456 = .ok (.iadd, 1) := dg_law_224.2.2.2.2.1
theorem d_law_457 : decode code 457 = .ok (.iaload, 1) := dg_law_224.2.2.2.2.2.1
theorem d_law_458 : decode code 458 = .ok (.invokevirtual 47, 3) := dg_law_224.2.2.2.2.2.2.1
theorem d_law_461 : decode code 461 = .ok (.pop, 1) := dg_law_224.2.2.2.2.2.2.2.1
theorem d_law_462 : decode code 462 = .ok (.aload_n 2, 1) := dg_law_224.2.2.2.2.2.2.2.2.1
theorem d_law_463 : decode code 463 = .ok (.aload_n 0, 1) := dg_law_224.2.2.2.2.2.2.2.2.2.1
theorem d_law_464 : decode code 464 = .ok (.iload_n 3, 1) := dg_law_224.2.2.2.2.2.2.2.2.2.2.1
theorem d_law_465 : decode code 465 = .ok (.iconst 1, 1) := dg_law_224.2.2.2.2.2.2.2.2.2.2.2.1
theorem d_law_466 : decode code 466 = .ok (.iadd, 1) := dg_law_224.2.2.2.2.2.2.2.2.2.2.2.2.1
theorem d_law_467 : decode code 467 = .ok (.iaload, 1) := dg_law_224.2.2.2.2.2.2.2.2.2.2.2.2.2.1
theorem d_law_468 : decode code 468 = .ok (.aload_n 0, 1) := dg_law_224.2.2.2.2.2.2.2.2.2.2.2.2.2.2.1
theorem d_law_469 : decode code 469 = .ok (.iload_n 3, 1) := dg_law_224.2.2.2.2.2.2.2.2.2.2.2.2.2.2.2.1
theorem dg_law_240 : (decode code 470 = .ok (.iconst 2, 1)) ∧ (decode code 471 = .ok (.iadd, 1)) ∧ (decode code 472 = .ok (.iaload, 1)) ∧ (decode code 473 = .ok (.invokevirtual 51, 3)) ∧ (decode code 476 = .ok (.pop, 1)) ∧ (decode code 477 = .ok (.goto 897, 3)) ∧ (decode code 480 = .ok (.aload_n 1, 1)) ∧ (decode code 481 = .ok (.aload_n 0, 1)) ∧ (decode code 482 = .ok (.iload_n 3, 1)) ∧ (decode code 483 = .ok (.iconst 1, 1)) ∧ (decode code 484 = .ok (.iadd, 1)) ∧ (decode code 485 = .ok (.iaload, 1)) ∧ (decode code 486 = .ok (.invokevirtual 52, 3)) ∧ (decode code 489 = .ok (.pop, 1)) ∧ (decode code 490 = .ok (.aload_n 2, 1)) ∧ (decode code 491 = .ok (.aload_n 0, 1)) ∧ True := fd_of (cc := code) [(470, .iconst 2, 1), (471, .iadd, 1), (472, .iaload, 1), (473, .invokevirtual 51, 3), (476, .pop, 1), (477, .goto 897, 3), (480, .aload_n 1, 1), (481, .aload_n 0, 1), (482, .iload_n 3, 1), (483, .iconst 1, 1), (484, .iadd, 1), (485, .iaload, 1), (486, .invokevirtual 52, 3), (489, .pop, 1), (490, .aload_n 2, 1), (491, .aload_n 0, 1)] (by decide +kernel)
theorem d_law_470 : decode code 470 = .ok (.iconst 2, 1) := dg_law_240.1
theorem d_law_471 : decode code 471 = .ok (.iadd, 1) := dg_law_240.2.1
theorem d_law_472 : decode code 472 = .ok (.iaload, 1) := dg_law_240.2.2.1
theorem d_law_473 : decode code 473 = .ok (.invokevirtual 51, 3) := dg_law_240.2.2.2.1
theorem d_law_476 : decode code 476 = .ok (.pop, 1) := dg_law_240.2.2.2.2.1
theorem d_law_477 : decode code 477 = .ok (.goto 897, 3) := dg_law_240.2.2.2.2.2.1
theorem d_law_480 : decode code 480 = .ok (.aload_n 1, 1) := dg_law_240.2.2.2.2.2.2.1
theorem d_law_481 : decode code 481 = .ok (.aload_n 0, 1) := dg_law_240.2.2.2.2.2.2.2.1
theorem d_law_482 : decode code 482 = .ok (.iload_n 3, 1) := dg_law_240.2.2.2.2.2.2.2.2.1
theorem d_law_483 : decode code 483 = .ok (.iconst 1, 1) := dg_law_240.2.2.2.2.2.2.2.2.2.1
theorem d_law_484 : decode code 484 = .ok (.iadd, 1) := dg_law_240.2.2.2.2.2.2.2.2.2.2.1
theorem d_law_485 : decode code 485 = .ok (.iaload, 1) := dg_law_240.2.2.2.2.2.2.2.2.2.2.2.1
theorem d_law_486 : decode code 486 = .ok (.invokevirtual 52, 3) := dg_law_240.2.2.2.2.2.2.2.2.2.2.2.2.1
theorem d_law_489 : decode code 489 = .ok (.pop, 1) := dg_law_240.2.2.2.2.2.2.2.2.2.2.2.2.2.1
theorem d_law_490 : decode code 490 = .ok (.aload_n 2, 1) := dg_law_240.2.2.2.2.2.2.2.2.2.2.2.2.2.2.1
theorem d_law_491 : decode code 491 = .ok (.aload_n 0, 1) := dg_law_240.2.2.2.2.2.2.2.2.2.2.2.2.2.2.2.1
theorem dg_law_256 : (decode code 492 = .ok (.iload_n 3, 1)) ∧ (decode code 493 = .ok (.iconst 1, 1)) ∧ (decode code 494 = .ok (.iadd, 1)) ∧ (decode code 495 = .ok (.iaload, 1)) ∧ (decode code 496 = .ok (.invokevirtual 55, 3)) ∧ (decode code 499 = .ok (.pop, 1)) ∧ (decode code 500 = .ok (.goto 874, 3)) ∧ (decode code 503 = .ok (.aload_n 1, 1)) ∧ (decode code 504 = .ok (.aload_n 0, 1)) ∧ (decode code 505 = .ok (.iload_n 3, 1)) ∧ (decode code 506 = .ok (.iconst 1, 1)) ∧ (decode code 507 = .ok (.iadd, 1)) ∧ (decode code 508 = .ok (.iaload, 1)) ∧ (decode code 509 = .ok (.aload_n 0, 1)) ∧ (decode code 510 = .ok (.iload_n 3, 1)) ∧ (decode code 511 = .ok (.iconst 2, 1)) ∧ True := fd_of (cc := code) [(492, .iload_n 3, 1), (493, .iconst 1, 1), (494, .iadd, 1), (495, .iaload, 1), (496, .invokevirtual 55, 3), (499, .pop, 1), (500, .goto 874, 3), (503, .aload_n 1, 1), (504, .aload_n 0, 1), (505, .iload_n 3, 1), (506, .iconst 1, 1), (507, .iadd, 1), (508, .iaload, 1), (509, .aload_n 0, 1), (510, .iload_n 3, 1), (511, .iconst 2, 1)] (by decide +kernel)
theorem d_law_492 : decode code 492 = .ok (.iload_n 3, 1) := dg_law_256.1
theorem d_law_493 : decode code 493 = .ok (.iconst 1, 1) := dg_law_256.2.1
theorem d_law_494 : decode code 494 = .ok (.iadd, 1) := dg_law_256.2.2.1
theorem d_law_495 : decode code 495 = .ok (.iaload, 1) := dg_law_256.2.2.2.1
theorem d_law_496 : decode code 496 = .ok (.invokevirtual 55, 3) := dg_law_256.2.2.2.2.1
theorem d_law_499 : decode code 499 = .ok (.pop, 1) := dg_law_256.2.2.2.2.2.1
theorem d_law_500 : decode code 500 = .ok (.goto 874, 3) := dg_law_256.2.2.2.2.2.2.1
theorem d_law_503 : decode code 503 = .ok (.aload_n 1, 1) := dg_law_256.2.2.2.2.2.2.2.1
theorem d_law_504 : decode code 504 = .ok (.aload_n 0, 1) := dg_law_256.2.2.2.2.2.2.2.2.1
theorem d_law_505 : decode code 505 = .ok (.iload_n 3, 1) := dg_law_256.2.2.2.2.2.2.2.2.2.1
theorem d_law_506 : decode code 506 = .ok (.iconst 1, 1) := dg_law_256.2.2.2.2.2.2.2.2.2.2.1
theorem d_law_507 : decode code 507 = .ok (.iadd, 1) := dg_law_256.2.2.2.2.2.2.2.2.2.2.2.1
theorem d_law_508 : decode code 508 = .ok (.iaload, 1) := dg_law_256.2.2.2.2.2.2.2.2.2.2.2.2.1
theorem d_law_509 : decode code 509 = .ok (.aload_n 0, 1) := dg_law_256.2.2.2.2.2.2.2.2.2.2.2.2.2.1
theorem d_law_510 : decode code 510 = .ok (.iload_n 3, 1) := dg_law_256.2.2.2.2.2.2.2.2.2.2.2.2.2.2.1
theorem d_law_511 : decode code 511 = .ok (.iconst 2, 1) := dg_law_256.2.2.2.2.2.2.2.2.2.2.2.2.2.2.2.1
theorem dg_law_272 : (decode code 512 = .ok (.iadd, 1)) ∧ (decode code 513 = .ok (.iaload, 1)) ∧ (decode code 514 = .ok (.aload_n 0, 1)) ∧ (decode code 515 = .ok (.iload_n 3, 1)) ∧ (decode code 516 = .ok (.iconst 3, 1)) ∧ (decode code 517 = .ok (.iadd, 1)) ∧ (decode code 518 = .ok (.iaload, 1)) ∧ (decode code 519 = .ok (.invokevirtual 56, 3)) ∧ (decode code 522 = .ok (.pop, 1)) ∧ (decode code 523 = .ok (.aload_n 2, 1)) ∧ (decode code 524 = .ok (.aload_n 0, 1)) ∧ (decode code 525 = .ok (.iload_n 3, 1)) ∧ (decode code 526 = .ok (.iconst 1, 1)) ∧ (decode code 527 = .ok (.iadd, 1)) ∧ (decode code 528 = .ok (.iaload, 1)) ∧ (decode code 529 = .ok (.aload_n 0, 1)) ∧ True := fd_of (cc := code) [(512, .iadd, 1), (513, .iaload, 1), (514, .aload_n 0, 1), (515, .iload_n 3, 1), (516, .iconst 3, 1), (517, .iadd, 1), (518, .iaload, 1), (519, .invokevirtual 56, 3), (522, .pop, 1), (523, .aload_n 2, 1), (524, .aload_n 0, 1), (525, .iload_n 3, 1), (526, .iconst 1, 1), (527, .iadd, 1), (528, .iaload, 1), (529, .aload_n 0, 1)] (by decide +kernel)
theorem d_law_512 : decode code 512 = .ok (.iadd, 1) := dg_law_272.1
theorem d_law_513 : decode code 513 = .ok (.iaload, 1) := dg_law_272.2.1
theorem d_law_514 : decode code 514 = .ok (.aload_n 0, 1) := dg_law_272.2.2.1
theorem d_law_515 : decode code 515 = .ok (.iload_n 3, 1) := dg_law_272.2.2.2.1
theorem d_law_516 : decode code 516 = .ok (.iconst 3, 1) := dg_law_272.2.2.2.2.1
theorem d_law_517 : decode code 517 = .ok (.iadd, 1) := dg_law_272.2.2.2.2.2.1
theorem d_law_518 : decode code 518 = .ok (.iaload, 1) := dg_law_272.2.2.2.2.2.2.1
theorem d_law_519 : decode code 519 = .ok (.invokevirtual 56, 3) := dg_law_272.2.2.2.2.2.2.2.1
theorem d_law_522 : decode code 522 = .ok (.pop, 1) := dg_law_272.2.2.2.2.2.2.2.2.1
theorem d_law_523 : decode code 523 = .ok (.aload_n 2, 1) := dg_law_272.2.2.2.2.2.2.2.2.2.1
theorem d_law_524 : decode code 524 = .ok (.aload_n 0, 1) := dg_law_272.2.2.2.2.2.2.2.2.2.2.1
theorem d_law_525 : decode code 525 = .ok (.iload_n 3, 1) := dg_law_272.2.2.2.2.2.2.2.2.2.2.2.1
theorem d_law_526 : decode code 526 = .ok (.iconst 1, 1) := dg_law_272.2.2.2.2.2.2.2.2.2.2.2.2.1
theorem d_law_527 : decode code 527 = .ok (.iadd, 1) := dg_law_272.2.2.2.2.2.2.2.2.2.2.2.2.2.1
theorem d_law_528 : decode code 528 = .ok (.iaload, 1) := dg_law_272.2.2.2.2.2.2.2.2.2.2.2.2.2.2.1
theorem d_law_529 : decode code 529 = .ok (.aload_n 0, 1) := dg_law_272.2.2.2.2.2.2.2.2.2.2.2.2.2.2.2.1
theorem dg_law_288 : (decode code 530 = .ok (.iload_n 3, 1)) ∧ (decode code 531 = .ok (.iconst 2, 1)) ∧ (decode code 532 = .ok (.iadd, 1)) ∧ (decode code 533 = .ok (.iaload, 1)) ∧ (decode code 534 = .ok (.aload_n 0, 1)) ∧ (decode code 535 = .ok (.iload_n 3, 1)) ∧ (decode code 536 = .ok (.iconst 3, 1)) ∧ (decode code 537 = .ok (.iadd, 1)) ∧ (decode code 538 = .ok (.iaload, 1)) ∧ (decode code 539 = .ok (.invokevirtual 59, 3)) ∧ (decode code 542 = .ok (.pop, 1)) ∧ (decode code 543 = .ok (.goto 831, 3)) ∧ (decode code 546 = .ok (.aload_n 1, 1)) ∧ (decode code 547 = .ok (.aload_n 0, 1)) ∧ (decode code 548 = .ok (.iload_n 3, 1)) ∧ (decode code 549 = .ok (.iconst 1, 1)) ∧ True := fd_of (cc := code) [(530, .iload_n 3, 1), (531, .iconst 2, 1), (532, .iadd, 1), (533, .iaload, 1), (534, .aload_n 0, 1), (535, .iload_n 3, 1), (536, .iconst 3, 1), (537, .iadd, 1), (538, .iaload, 1), (539, .invokevirtual 59, 3), (542, .pop, 1), (543, .goto 831, 3), (546, .aload_n 1, 1), (547, .aload_n 0, 1), (548, .iload_n 3, 1), (549, .iconst 1, 1)] (by decide +kernel)
theorem d_law_530 : decode code 530 = .ok (.iload_n 3, 1) := dg_law_288.1
theorem d_law_531 : decode code 531 = .ok (.iconst 2, 1) := dg_law_288.2.1
theorem d_law_532 : decode code 532 = .ok (.iadd, 1) := dg_law_288.2.2.1
theorem d_law_533 : decode code 533 = .ok (.iaload, 1) := dg_law_288.2.2.2.1
theorem d_law_534 : decode code 534 = .ok (.aload_n 0, 1) := dg_law_288.2.2.2.2.1
theorem d_law_535 : decode code 535 = .ok (.iload_n 3, 1) := dg_law_288.2.2.2.2.2.1
theorem d_law_536 : decode code 536 = .ok (.iconst 3, 1) := dg_law_288.2.2.2.2.2.2.1
theorem d_law_537 : decode code 537 = .ok (.iadd, 1) := dg_law_288.2.2.2.2.2.2.2.1
theorem d_law_538 : decode code 538 = .ok (.iaload, 1) := dg_law_288.2.2.2.2.2.2.2.2.1
theorem d_law_539 : decode code 539 = .ok (.invokevirtual 59, 3) := dg_law_288.2.2.2.2.2.2.2.2.2.1
theorem d_law_542 : decode code 542 = .ok (.pop, 1) := dg_law_288.2.2.2.2.2.2.2.2.2.2.1
theorem d_law_543 : decode code 543 = .ok (.goto 831, 3) := dg_law_288.2.2.2.2.2.2.2.2.2.2.2.1
theorem d_law_546 : decode code 546 = .ok (.aload_n 1, 1) := dg_law_288.2.2.2.2.2.2.2.2.2.2.2.2.1
theorem d_law_547 : decode code 547 = .ok (.aload_n 0, 1) := dg_law_288.2.2.2.2.2.2.2.2.2.2.2.2.2.1
theorem d_law_548 : decode code 548 = .ok (.iload_n 3, 1) := dg_law_288.2.2.2.2.2.2.2.2.2.2.2.2.2.2.1
theorem d_law_549 : decode code 549 = .ok (.iconst 1, 1) := dg_law_288.2.2.2.2.2.2.2.2.2.2.2.2.2.2.2.1
theorem dg_law_304 : (decode code 550 = .ok (.iadd, 1)) ∧ (decode code 551 = .ok (.iaload, 1)) ∧ (decode code 552 = .ok (.ifCond .eq 7, 3)) ∧ (decode code 555 = .ok (.iconst 1, 1)) ∧ (decode code 556 = .ok (.goto 4, 3)) ∧ (decode code 559 = .ok (.iconst 0, 1)) ∧ (decode code 560 = .ok (.invokevirtual 60, 3)) ∧ (decode code 563 = .ok (.pop2, 1)) ∧ (decode code 564 = .ok (.aload_n 2, 1)) ∧ (decode code 565 = .ok (.aload_n 0, 1)) ∧ (decode code 566 = .ok (.iload_n 3, 1)) ∧ (decode code 567 = .ok (.iconst 1, 1)) ∧ (decode code 568 = .ok (.iadd, 1)) ∧ (decode code 569 = .ok (.iaload, 1)) ∧ (decode code 570 = .ok (.ifCond .eq 7, 3)) ∧ (decode code 573 = .ok (.iconst 1, 1)) ∧ True := fd_of (cc := code) [(550, .iadd, 1), (551, .iaload, 1), (552, .ifCond .eq 7, 3), (555, .iconst 1, 1), (556, .goto 4, 3), (559, .iconst 0, 1), (560, .invokevirtual 60, 3), (563, .pop2, 1), (564, .aload_n 2, 1), (565, .aload_n 0, 1), (566, .iload_n 3, 1), (567, .iconst 1, 1), (568, .iadd, 1), (569, .iaload, 1), (570, .ifCond .eq 7, 3), (573, .iconst 1, 1)] (by decide +kernel)
theorem d_law_550 : decode code 550 = .ok (.iadd, 1) := dg_law_304.1
theorem d_law_551 : decode code 551 = .ok (.iaload, 1) := dg_law_304.2.1
theorem d_law_552 : decode code 552 = .ok (.ifCond .eq 7, 3) := dg_law_304.2.2.1
theorem d_law_555 : decode code 555 = .ok (.iconst 1, 1) := dg_law_304.2.2.2.1
theorem d_law_556 : decode code 556 = .ok (.goto 4, 3) := dg_law_304.2.2.2.2.1
theorem d_law_559 : decode code 559 = .ok (.iconst 0, 1) := dg_law_304.2.2.2.2.2.1
theorem d_law_560 : decode code 560 = .ok (.invokevirtual 60, 3) := dg_law_304.2.2.2.2.2.2.1
theorem d_law_563 : decode code 563 = .ok (.pop2, 1) := dg_law_304.2.2.2.2.2.2.2.1
theorem d_law_564 : decode code 564 = .ok (.aload_n 2, 1) := dg_law_304.2.2.2.2.2.2.2.2.1
theorem d_law_565 : decode code 565 = .ok (.aload_n 0, 1) := dg_law_304.2.2.2.2.2.2.2.2.2.1
theorem d_law_566 : decode code 566 = .ok (.iload_n 3, 1) := dg_law_304.2.2.2.2.2.2.2.2.2.2.1
theorem d_law_567 : decode code 567 = .ok (.iconst 1, 1) := dg_law_304.2.2.2.2.2.2.2.2.2.2.2.1
theorem d_law_568 : decode code 568 = .ok (.iadd, 1) := dg_law_304.2.2.2.2.2.2.2.2.2.2.2.2.1
theorem d_law_569 : decode code 569 = .ok (.iaload, 1) := dg_law_304.2.2.2.2.2.2.2.2.2.2.2.2.2.1
theorem d_law_570 : decode code 570 = .ok (.ifCond .eq 7, 3) := dg_law_304.2.2.2.2.2.2.2.2.2.2.2.2.2.2.1
theorem d_law_573 : decode code 573 = .ok (.iconst 1, 1) := dg_law_304.2.2.2.2.2.2.2.2.2.2.2.2.2.2.2.1
theorem dg_law_320 : (decode code 574 = .ok (.goto 4, 3)) ∧ (decode code 577 = .ok (.iconst 0, 1)) ∧ (decode code 578 = .ok (.invokevirtual 64, 3)) ∧ (decode code 581 = .ok (.pop2, 1)) ∧ (decode code 582 = .ok (.goto 792, 3)) ∧ (decode code 585 = .ok (.aload_n 1, 1)) ∧ (decode code 586 = .ok (.invokevirtual 65, 3)) ∧ (decode code 589 = .ok (.pop2, 1)) ∧ (decode code 590 = .ok (.aload_n 2, 1)) ∧ (decode code 591 = .ok (.invokevirtual 69, 3)) ∧ (decode code 594 = .ok (.pop2, 1)) ∧ (decode code 595 = .ok (.goto 779, 3)) ∧ (decode code 598 = .ok (.aload_n 1, 1)) ∧ (decode code 599 = .ok (.aload_n 0, 1)) ∧ (decode code 600 = .ok (.iload_n 3, 1)) ∧ (decode code 601 = .ok (.iconst 1, 1)) ∧ True := fd_of (cc := code) [(574, .goto 4, 3), (577, .iconst 0, 1), (578, .invokevirtual 64, 3), (581, .pop2, 1), (582, .goto 792, 3), (585, .aload_n 1, 1), (586, .invokevirtual 65, 3), (589, .pop2, 1), (590, .aload_n 2, 1), (591, .invokevirtual 69, 3), (594, .pop2, 1), (595, .goto 779, 3), (598, .aload_n 1, 1), (599, .aload_n 0, 1), (600, .iload_n 3, 1), (601, .iconst 1, 1)] (by decide +kernel)
theorem d_law_574 : decode code 574 = .ok (.goto 4, 3) := dg_law_320.1
theorem d_law_577 : decode code 577 = .ok (.iconst 0, 1) := dg_law_320.2.1
theorem d_law_578 : decode code 578 = .ok (.invokevirtual 64, 3) := dg_law_320.2.2.1
theorem d_law_581 : decode code 581 = .ok (.pop2, 1) := dg_law_320.2.2.2.1
theorem d_law_582 : decode code 582 = .ok (.goto 792, 3) := dg_law_320.2.2.2.2.1
theorem d_law_585 : decode code 585 = .ok (.aload_n 1, 1) := dg_law_320.2.2.2.2.2.1
theorem d_law_586 : decode code 586 = .ok (.invokevirtual 65, 3) := dg_law_320.2.2.2.2.2.2.1
theorem d_law_589 : decode code 589 = .ok (.pop2, 1) := dg_law_320.2.2.2.2.2.2.2.1
theorem d_law_590 : decode code 590 = .ok (.aload_n 2, 1) := dg_law_320.2.2.2.2.2.2.2.2.1
theorem d_law_591 : decode code 591 = .ok (.invokevirtual 69, 3) := dg_law_320.2.2.2.2.2.2.2.2.2.1
theorem d_law_594 : decode code 594 = .ok (.pop2, 1) := dg_law_320.2.2.2.2.2.2.2.2.2.2.1
theorem d_law_595 : decode code 595 = .ok (.goto 779, 3) := dg_law_320.2.2.2.2.2.2.2.2.2.2.2.1
theorem d_law_598 : decode code 598 = .ok (.aload_n 1, 1) := dg_law_320.2.2.2.2.2.2.2.2.2.2.2.2.1
theorem d_law_599 : decode code 599 = .ok (.aload_n 0, 1) := dg_law_320.2.2.2.2.2.2.2.2.2.2.2.2.2.1
theorem d_law_600 : decode code 600 = .ok (.iload_n 3, 1) := dg_law_320.2.2.2.2.2.2.2.2.2.2.2.2.2.2.1
theorem d_law_601 : decode code 601 = .ok (.iconst 1, 1) := dg_law_320.2.2.2.2.2.2.2.2.2.2.2.2.2.2.2.1
theorem dg_law_336 : (decode code 602 = .ok (.iadd, 1)) ∧ (decode code 603 = .ok (.iaload, 1)) ∧ (decode code 604 = .ok (.ifCond .eq 7, 3)) ∧ (decode code 607 = .ok (.iconst 1, 1)) ∧ (decode code 608 = .ok (.goto 4, 3)) ∧ (decode code 611 = .ok (.iconst 0, 1)) ∧ (decode code 612 = .ok (.invokevirtual 70, 3)) ∧ (decode code 615 = .ok (.pop2, 1)) ∧ (decode code 616 = .ok (.aload_n 2, 1)) ∧ (decode code 617 = .ok (.aload_n 0, 1)) ∧ (decode code 618 = .ok (.iload_n 3, 1)) ∧ (decode code 619 = .ok (.iconst 1, 1)) ∧ (decode code 620 = .ok (.iadd, 1)) ∧ (decode code 621 = .ok (.iaload, 1)) ∧ (decode code 622 = .ok (.ifCond .eq 7, 3)) ∧ (decode code 625 = .ok (.iconst 1, 1)) ∧ True := fd_of (cc := code) [(602, .iadd, 1), (603, .iaload, 1), (604, .ifCond .eq 7, 3), (607, .iconst 1, 1), (608, .goto 4, 3), (611, .iconst 0, 1), (612, .invokevirtual 70, 3), (615, .pop2, 1), (616, .aload_n 2, 1), (617, .aload_n 0, 1), (618, .iload_n 3, 1), (619, .iconst 1, 1), (620, .iadd, 1), (621, .iaload, 1), (622, .ifCond .eq 7, 3), (625, .iconst 1, 1)] (by decide +kernel)
theorem d_law_602 : decode code 602 = .ok (.iadd, 1) := dg_law_336.1
theorem d_law_603 : decode code 603 = .ok (.iaload, 1) := dg_law_336.2.1
theorem d_law_604 : decode code 604 = .ok (.ifCond .eq 7, 3) := dg_law_336.2.2.1
theorem d_law_607 : decode code 607 = .ok (.iconst 1, 1) := dg_law_336.2.2.2.1
theorem d_law_608 : decode code 608 = .ok (.goto 4, 3) := dg_law_336.2.2.2.2.1
theorem d_law_611 : decode code 611 = .ok (.iconst 0, 1) := dg_law_336.2.2.2.2.2.1
theorem d_law_612 : decode code 612 = .ok (.invokevirtual 70, 3) := dg_law_336.2.2.2.2.2.2.1
theorem d_law_615 : decode code 615 = .ok (.pop2, 1) := dg_law_336.2.2.2.2.2.2.2.1
theorem d_law_616 : decode code 616 = .ok (.aload_n 2, 1) := dg_law_336.2.2.2.2.2.2.2.2.1
theorem d_law_617 : decode code 617 = .ok (.aload_n 0, 1) := dg_law_336.2.2.2.2.2.2.2.2.2.1
theorem d_law_618 : decode code 618 = .ok (.iload_n 3, 1) := dg_law_336.2.2.2.2.2.2.2.2.2.2.1
theorem d_law_619 : decode code 619 = .ok (.iconst 1, 1) := dg_law_336.2.2.2.2.2.2.2.2.2.2.2.1
theorem d_law_620 : decode code 620 = .ok (.iadd, 1) := dg_law_336.2.2.2.2.2.2.2.2.2.2.2.2.1
theorem d_law_621 : decode code 621 = .ok (.iaload, 1) := dg_law_336.2.2.2.2.2.2.2.2.2.2.2.2.2.1
theorem d_law_622 : decode code 622 = .ok (.ifCond .eq 7, 3) := dg_law_336.2.2.2.2.2.2.2.2.2.2.2.2.2.2.1
theorem d_law_625 : decode code 625 = .ok (.iconst 1, 1) := dg_law_336.2.2.2.2.2.2.2.2.2.2.2.2.2.2.2.1
theorem dg_law_352 : (decode code 626 = .ok (.goto 4, 3)) ∧ (decode code 629 = .ok (.iconst 0, 1)) ∧ (decode code 630 = .ok (.invokevirtual 73, 3)) ∧ (decode code 633 = .ok (.pop2, 1)) ∧ (decode code 634 = .ok (.goto 740, 3)) ∧ (decode code 637 = .ok (.aload_n 1, 1)) ∧ (decode code 638 = .ok (.aload_n 0, 1)) ∧ (decode code 639 = .ok (.iload_n 3, 1)) ∧ (decode code 640 = .ok (.iconst 1, 1)) ∧ (decode code 641 = .ok (.iadd, 1)) ∧ (decode code 642 = .ok (.iaload, 1)) ∧ (decode code 643 = .ok (.aload_n 0, 1)) ∧ (decode code 644 = .ok (.iload_n 3, 1)) ∧ (decode code 645 = .ok (.iconst 2, 1)) ∧ (decode code 646 = .ok (.iadd, 1)) ∧ (decode code 647 = .ok (.iaload, 1)) ∧ True := fd_of (cc := code) [(626, .goto 4, 3), (629, .iconst 0, 1), (630, .invokevirtual 73, 3), (633, .pop2, 1), (634, .goto 740, 3), (637, .aload_n 1, 1), (638, .aload_n 0, 1), (639, .iload_n 3, 1), (640, .iconst 1, 1), (641, .iadd, 1), (642, .iaload, 1), (643, .aload_n 0, 1), (644, .iload_n 3, 1), (645, .iconst 2, 1), (646, .iadd, 1), (647, .iaload, 1)] (by decide +kernel)
theorem d_law_626 : decode code 626 = .ok (.goto 4, 3) := dg_law_352.1
theorem d_law_629 : decode code 629 = .ok (.iconst 0, 1) := dg_law_352.2.1
theorem d_law_630 : decode code 630 = .ok (.invokevirtual 73, 3) := dg_law_352.2.2.1
theorem d_law_633 : decode code 633 = .ok (.pop2, 1) := dg_law_352.2.2.2.1
theorem d_law_634 : decode code 634 = .ok (.goto 740, 3) := dg_law_352.2.2.2.2.1
theorem d_law_637 : decode code 637 = .ok (.aload_n 1, 1) := dg_law_352.2.2.2.2.2.1
theorem d_law_638 : decode code 638 = .ok (.aload_n 0, 1) := dg_law_352.2.2.2.2.2.2.1
theorem d_law_639 : decode code 639 = .ok (.iload_n 3, 1) := dg_law_352.2.2.2.2.2.2.2.1
theorem d_law_640 : decode code 640 = .ok (.iconst 1, 1) := dg_law_352.2.2.2.2.2.2.2.2.1
theorem d_law_641 : decode code 641 = .ok (.iadd, 1) := dg_law_352.2.2.2.2.2.2.2.2.2.1
theorem d_law_642 : decode code 642 = .ok (.iaload, 1) := dg_law_352.2.2.2.2.2.2.2.2.2.2.1
theorem d_law_643 : decode code 643 = .ok (.aload_n 0, 1) := dg_law_352.2.2.2.2.2.2.2.2.2.2.2.1
theorem d_law_644 : decode code 644 = .ok (.iload_n 3, 1) := dg_law_352.2.2.2.2.2.2.2.2.2.2.2.2.1
theorem d_law_645 : decode code 645 = .ok (.iconst 2, 1) := dg_law_352.2.2.2.2.2.2.2.2.2.2.2.2.2.1
theorem d_law_646 : decode code 646 = .ok (.iadd, 1) := dg_law_352.2.2.2.2.2.2.2.2.2.2.2.2.2.2.1
theorem d_law_647 : decode code 647 = .ok (.iaload, 1) := dg_law_352.2.2.2.2.2.2.2.2.2.2.2.2.2.2.2.1
theorem dg_law_368 : (decode code 648 = .ok (.invokevirtual 74, 3)) ∧ (decode code 651 = .ok (.pop, 1)) ∧ (decode code 652 = .ok (.aload_n 2, 1)) ∧ (decode code 653 = .ok (.aload_n 0, 1)) ∧ (decode code 654 = .ok (.iload_n 3, 1)) ∧ (decode code 655 = .ok (.iconst 1, 1)) ∧ (decode code 656 = .ok (.iadd, 1)) ∧ (decode code 657 = .ok (.iaload, 1)) ∧ (decode code 658 = .ok (.aload_n 0, 1)) ∧ (decode code 659 = .ok (.iload_n 3, 1)) ∧ (decode code 660 = .ok (.iconst 2, 1)) ∧ (decode code 661 = .ok (.iadd, 1)) ∧ (decode code 662 = .ok (.iaload, 1)) ∧ (decode code 663 = .ok (.invokevirtual 77, 3)) ∧ (decode code 666 = .ok (.pop, 1)) ∧ (decode code 667 = .ok (.goto 707, 3)) ∧ True := fd_of (cc := code) [(648, .invokevirtual 74, 3), (651, .pop, 1), (652, .aload_n 2, 1), (653, .aload_n 0, 1), (654, .iload_n 3, 1), (655, .iconst 1, 1), (656, .iadd, 1), (657, .iaload, 1), (658, .aload_n 0, 1), (659, .iload_n 3, 1), (660, .iconst 2, 1), (661, .iadd, 1), (662, .iaload, 1), (663, .invokevirtual 77, 3), (666, .pop, 1), (667, .goto 707, 3)] (by decide +kernel)
theorem d_law_648 : decode code 648 = .ok (.invokevirtual 74, 3) := dg_law_368.1
theorem d_law_651 : decode code 651 = .ok (.pop, 1) := dg_law_368.2.1
theorem d_law_652 : decode code 652 = .ok (.aload_n 2, 1) := dg_law_368.2.2.1
theorem d_law_653 : decode code 653 = .ok (.aload_n 0, 1) := dg_law_368.2.2.2.1
theorem d_law_654 : decode code 654 = .ok (.iload_n 3, 1) := dg_law_368.2.2.2.2.1
theorem d_law_655 : decode code 655 = .ok (.iconst 1, 1) := dg_law_368.2.2.2.2.2.1
theorem d_law_656 : decode code 656 = .ok (.iadd, 1) := dg_law_368.2.2.2.2.2.2.1
theorem d_law_657 : decode code 657 = .ok (.iaload, 1) := dg_law_368.2.2.2.2.2.2.2.1
theorem d_law_658 : decode code 658 = .ok (.aload_n 0, 1) := dg_law_368.2.2.2.2.2.2.2.2.1
theorem d_law_659 : decode code 659 = .ok (.iload_n 3, 1) := dg_law_368.2.2.2.2.2.2.2.2.2.1
theorem d_law_660 : decode code 660 = .ok (.iconst 2, 1) := dg_law_368.2.2.2.2.2.2.2.2.2.2.1
theorem d_law_661 : decode code 661 = .ok (.iadd, 1) := dg_law_368.2.2.2.2.2.2.2.2.2.2.2.1
theorem d_law_662 : decode code 662 = .ok (.iaload, 1) := dg_law_368.2.2.2.2.2.2.2.2.2.2.2.2.1
theorem d_law_663 : decode code 663 = .ok (.invokevirtual 77, 3) := dg_law_368.2.2.2.2.2.2.2.2.2.2.2.2.2.1
theorem d_law_666 : decode code 666 = .ok (.pop, 1) := dg_law_368.2.2.2.2.2.2.2.2.2.2.2.2.2.2.1
theorem d_law_667 : decode code 667 = .ok (.goto 707, 3) := dg_law_368.2.2.2.2.2.2.2.2.2.2.2.2.2.2.2.1
theorem dg_law_384 : (decode code 670 = .ok (.aload_n 1, 1)) ∧ (decode code 671 = .ok (.aload_n 0, 1)) ∧ (decode code 672 = .ok (.iload_n 3, 1)) ∧ (decode code 673 = .ok (.iconst 1, 1)) ∧ (decode code 674 = .ok (.iadd, 1)) ∧ (decode code 675 = .ok (.iaload, 1)) ∧ (decode code 676 = .ok (.aload_n 0, 1)) ∧ (decode code 677 = .ok (.iload_n 3, 1)) ∧ (decode code 678 = .ok (.iconst 2, 1)) ∧ (decode code 679 = .ok (.iadd, 1)) ∧ (decode code 680 = .ok (.iaload, 1)) ∧ (decode code 681 = .ok (.aload_n 0, 1)) ∧ (decode code 682 = .ok (.iload_n 3, 1)) ∧ (decode code 683 = .ok (.iconst 3, 1)) ∧ (decode code 684 = .ok (.iadd, 1)) ∧ (decode code 685 = .ok (.iaload, 1)) ∧ True := fd_of (cc := code) [(670, .aload_n 1, 1), (671, .aload_n 0, 1), (672, .iload_n 3, 1), (673, .iconst 1, 1), (674, .iadd, 1), (675, .iaload, 1), (676, .aload_n 0, 1), (677, .iload_n 3, 1), (678, .iconst 2, 1), (679, .iadd, 1), (680, .iaload, 1), (681, .aload_n 0, 1), (682, .iload_n 3, 1), (683, .iconst 3, 1), (684, .iadd, 1), (685, .iaload, 1)] (by decide +kernel)
theorem d_law_670 : decode code 670 = .ok (.aload_n 1, 1) := dg_law_384.1
theorem d_law_671 : decode code 671 = .ok (.aload_n 0, 1) := dg_law_384.2.1
theorem d_law_672 : decode code 672 = .ok (.iload_n 3, 1) := dg_law_384.2.2.1
theorem d_law_673 : decode code 673 = .ok (.iconst 1, 1) := dg_law_384.2.2.2.1
theorem d_law_674 : decode code 674 = .ok (.iadd, 1) := dg_law_384.2.2.2.2.1
theorem d_law_675 : decode code 675 = .ok (.iaload, 1) := dg_law_384.2.2.2.2.2.1
theorem d_law_676 : decode code 676 = .ok (.aload_n 0, 1) := dg_law_384.2.2.2.2.2.2.1
theorem d_law_677 : decode code 677 = .ok (.iload_n 3, 1) := dg_law_384.2.2.2.2.2.2.2.1
theorem d_law_678 : decode code 678 = .ok (.iconst 2, 1) := dg_law_384.2.2.2.2.2.2.2.2.1
theorem d_law_679 : decode code 679 = .ok (.iadd, 1) := dg_law_384.2.2.2.2.2.2.2.2.2.1
theorem d_law_680 : decode code 680 = .ok (.iaload, 1) := dg_law_384.2.2.2.2.2.2.2.2.2.2.1
theorem d_law_681 : decode code 681 = .ok (.aload_n 0, 1) := dg_law_384.2.2.2.2.2.2.2.2.2.2.2.1
theorem d_law_682 : decode code 682 = .ok (.iload_n 3, 1) := dg_law_384.2.2.2.2.2.2.2.2.2.2.2.2.1
theorem d_law_683 : decode code 683 = .ok (.iconst 3, 1) := dg_law_384.2.2.2.2.2.2.2.2.2.2.2.2.2.1
theorem d_law_684 : decode code 684 = .ok (.iadd, 1) := dg_law_384.2.2.2.2.2.2.2.2.2.2.2.2.2.2.1
theorem d_law_685 : decode code 685 = .ok (.iaload, 1) := dg_law_384.2.2.2.2.2.2.2.2.2.2.2.2.2.2.2.1
theorem dg_law_400 : (decode code 686 = .ok (.invokevirtual 78, 3)) ∧ (decode code 689 = .ok (.pop, 1)) ∧ (decode code 690 = .ok (.aload_n 2, 1)) ∧ (decode code 691 = .ok (.aload_n 0, 1)) ∧ (decode code 692 = .ok (.iload_n 3, 1)) ∧ (decode code 693 = .ok (.iconst 1, 1)) ∧ (decode code 694 = .ok (.iadd, 1)) ∧ (decode code 695 = .ok (.iaload, 1)) ∧ (decode code 696 = .ok (.aload_n 0, 1)) ∧ (decode code 697 = .ok (.iload_n 3, 1)) ∧ (decode code 698 = .ok (.iconst 2, 1)) ∧ (decode code 699 = .ok (.iadd, 1)) ∧ (decode code 700 = .ok (.iaload, 1)) ∧ (decode code 701 = .ok (.aload_n 0, 1)) ∧ (decode code 702 = .ok (.iload_n 3, 1)) ∧ (decode code 703 = .ok (.iconst 3, 1)) ∧ True := fd_of (cc := code) [(686, .invokevirtual 78, 3), (689, .pop, 1), (690, .aload_n 2, 1), (691, .aload_n 0, 1), (692, .iload_n 3, 1), (693, .iconst 1, 1), (694, .iadd, 1), (695, .iaload, 1), (696, .aload_n 0, 1), (697, .iload_n 3, 1), (698, .iconst 2, 1), (699, .iadd, 1), (700, .iaload, 1), (701, .aload_n 0, 1), (702, .iload_n 3, 1), (703, .iconst 3, 1)] (by decide +kernel)
theorem d_law_686 : decode code 686 = .ok (.invokevirtual 78, 3) := dg_law_400.1
theorem d_law_689 : decode code 689 = .ok (.pop, 1) := dg_law_400.2.1
theorem d_law_690 : decode code 690 = .ok (.aload_n 2, 1) := dg_law_400.2.2.1
theorem d_law_691 : decode code 691 = .ok (.aload_n 0, 1) := dg_law_400.2.2.2.1
theorem d_law_692 : decode code 692 = .ok (.iload_n 3, 1) := dg_law_400.2.2.2.2.1
theorem d_law_693 : decode code 693 = .ok (.iconst 1, 1) := dg_law_400.2.2.2.2.2.1
theorem d_law_694 : decode code 694 = .ok (.iadd, 1) := dg_law_400.2.2.2.2.2.2.1
theorem d_law_695 : decode code 695 = .ok (.iaload, 1) := dg_law_400.2.2.2.2.2.2.2.1
theorem d_law_696 : decode code 696 = .ok (.aload_n 0, 1) := dg_law_400.2.2.2.2.2.2.2.2.1
theorem d_law_697 : decode code 697 = .ok (.iload_n 3, 1) := dg_law_400.2.2.2.2.2.2.2.2.2.1
theorem d_law_698 : decode code 698 = .ok (.iconst 2, 1) := dg_law_400.2.2.2.2.2.2.2.2.2.2.1
theorem d_law_699 : decode code 699 = .ok (.iadd, 1) := dg_law_400.2.2.2.2.2.2.2.2.2.2.2.1
theorem d_law_700 : decode code 700 = .ok (.iaload, 1) := dg_law_400.2.2.2.2.2.2.2.2.2.2.2.2.1
theorem d_law_701 : decode code 701 = .ok (.aload_n 0, 1) := dg_law_400.2.2.2.2.2.2.2.2.2.2.2.2.2.1
theorem d_law_702 : decode code 702 = .ok (.iload_n 3, 1) := dg_law_400.2.2.2.2.2.2.2.2.2.2.2.2.2.2.1
theorem d_law_703 : decode code 703 = .ok (.iconst 3, 1) := dg_law_400.2.2.2.2.2.2.2.2.2.2.2.2.2.2.2.1
theorem dg_law_416 : (decode code 704 = .ok (.iadd, 1)) ∧ (decode code 705 = .ok (.iaload, 1)) ∧ (decode code 706 = .ok (.invokevirtual 81, 3)) ∧ (decode code 709 = .ok (.pop, 1)) ∧ (decode code 710 = .ok (.goto 664, 3)) ∧ (decode code 713 = .ok (.aload_n 1, 1)) ∧ (decode code 714 = .ok (.aload_n 0, 1)) ∧ (decode code 715 = .ok (.iload_n 3, 1)) ∧ (decode code 716 = .ok (.iconst 1, 1)) ∧ (decode code 717 = .ok (.iadd, 1)) ∧ (decode code 718 = .ok (.iaload, 1)) ∧ (decode code 719 = .ok (.aload_n 0, 1)) ∧ (decode code 720 = .ok (.iload_n 3, 1)) ∧ (decode code 721 = .ok (.iconst 2, 1)) ∧ (decode code 722 = .ok (.iadd, 1)) ∧ (decode code 723 = .ok (.iaload, 1)) ∧ True := fd_of (cc := code) [(704, .iadd, 1), (705, .iaload, 1), (706, .invokevirtual 81, 3), (709, .pop, 1), (710, .goto 664, 3), (713, .aload_n 1, 1), (714, .aload_n 0, 1), (715, .iload_n 3, 1), (716, .iconst 1, 1), (717, .iadd, 1), (718, .iaload, 1), (719, .aload_n 0, 1), (720, .iload_n 3, 1), (721, .iconst 2, 1), (722, .iadd, 1), (723, .iaload, 1)] (by decide +kernel)
theorem d_law_704 : decode code 704 = .ok (.iadd, 1) := dg_law_416.1
theorem d_law_705 : decode code 705 = .ok (.iaload, 1) := dg_law_416.2.1
theorem d_law_706 : decode code 706 = .ok (.invokevirtual 81, 3) := dg_law_416.2.2.1
theorem d_law_709 : decode code 709 = .ok (.pop, 1) := dg_law_416.2.2.2.1
theorem d_law_710 : decode code 710 = .ok (.goto 664, 3) := dg_law_416.2.2.2.2.1
theorem d_law_713 : decode code 713 = .ok (.aload_n 1, 1) := dg_law_416.2.2.2.2.2.1
theorem d_law_714 : decode code 714 = .ok (.aload_n 0, 1) := dg_law_416.2.2.2.2.2.2.1
theorem d_law_715 : decode code 715 = .ok (.iload_n 3, 1) := dg_law_416.2.2.2.2.2.2.2.1
theorem d_law_716 : decode code 716 = .ok (.iconst 1, 1) := dg_law_416.2.2.2.2.2.2.2.2.1
theorem d_law_717 : decode code 717 = .ok (.iadd, 1) := dg_law_416.2.2.2.2.2.2.2.2.2.1
theorem d_law_718 : decode code 718 = .ok (.iaload, 1) := dg_law_416.2.2.2.2.2.2.2.2.2.2.1
theorem d_law_719 : decode code 719 = .ok (.aload_n 0, 1) := dg_law_416.2.2.2.2.2.2.2.2.2.2.2.1
theorem d_law_720 : decode code 720 = .ok (.iload_n 3, 1) := dg_law_416.2.2.2.2.2.2.2.2.2.2.2.2.1
theorem d_law_721 : decode code 721 = .ok (.iconst 2, 1) := dg_law_416.2.2.2.2.2.2.2.2.2.2.2.2.2.1
theorem d_law_722 : decode code 722 = .ok (.iadd, 1) := dg_law_416.2.2.2.2.2.2.2.2.2.2.2.2.2.2.1
theorem d_law_723 : decode code 723 = .ok (.iaload, 1) := dg_law_416.2.2.2.2.2.2.2.2.2.2.2.2.2.2.2.1
theorem dg_law_432 : (decode code 724 = .ok (.invokevirtual 82, 3)) ∧ (decode code 727 = .ok (.pop, 1)) ∧ (decode code 728 = .ok (.aload_n 2, 1)) ∧ (decode code 729 = .ok (.aload_n 0, 1)) ∧ (decode code 730 = .ok (.iload_n 3, 1)) ∧ (decode code 731 = .ok (.iconst 1, 1)) ∧ (decode code 732 = .ok (.iadd, 1)) ∧ (decode code 733 = .ok (.iaload, 1)) ∧ (decode code 734 = .ok (.aload_n 0, 1)) ∧ (decode code 735 = .ok (.iload_n 3, 1)) ∧ (decode code 736 = .ok (.iconst 2, 1)) ∧ (decode code 737 = .ok (.iadd, 1)) ∧ (decode code 738 = .ok (.iaload, 1)) ∧ (decode code 739 = .ok (.invokevirtual 85, 3)) ∧ (decode code 742 = .ok (.pop, 1)) ∧ (decode code 743 = .ok (.goto 631, 3)) ∧ True := fd_of (cc := code) [(724, .invokevirtual 82, 3), (727, .pop, 1), (728, .aload_n 2, 1), (729, .aload_n 0, 1), (730, .iload_n 3, 1), (731, .iconst 1, 1), (732, .iadd, 1), (733, .iaload, 1), (734, .aload_n 0, 1), (735, .iload_n 3, 1), (736, .iconst 2, 1), (737, .iadd, 1), (738, .iaload, 1), (739, .invokevirtual 85, 3), (742, .pop, 1), (743, .goto 631, 3)] (by decide +kernel)
theorem d_law_724 : decode code 724 = .ok (.invokevirtual 82, 3) := dg_law_432.1
theorem d_law_727 : decode code 727 = .ok (.pop, 1) := dg_law_432.2.1
theorem d_law_728 : decode code 728 = .ok (.aload_n 2, 1) := dg_law_432.2.2.1
theorem d_law_729 : decode code 729 = .ok (.aload_n 0, 1) := dg_law_432.2.2.2.1
theorem d_law_730 : decode code 730 = .ok (.iload_n 3, 1) := dg_law_432.2.2.2.2.1
theorem d_law_731 : decode code 731 = .ok (.iconst 1, 1) := dg_law_432.2.2.2.2.2.1
theorem d_law_732 : decode code 732 = .ok (.iadd, 1) := dg_law_432.2.2.2.2.2.2.1
theorem d_law_733 : decode code 733 = .ok (.iaload, 1) := dg_law_432.2.2.2.2.2.2.2.1
theorem d_law_734 : decode code 734 = .ok (.aload_n 0, 1) := dg_law_432.2.2.2.2.2.2.2.2.1
theorem d_law_735 : decode code 735 = .ok (.iload_n 3, 1) := dg_law_432.2.2.2.2.2.2.2.2.2.1
theorem d_law_736 : decode code 736 = .ok (.iconst 2, 1) := dg_law_432.2.2.2.2.2.2.2.2.2.2.1
theorem d_law_737 : decode code 737 = .ok (.iadd, 1) := dg_law_432.2.2.2.2.2.2.2.2.2.2.2.1
theorem d_law_738 : decode code 738 = .ok (.iaload, 1) := dg_law_432.2.2.2.2.2.2.2.2.2.2.2.2.1
theorem d_law_739 : decode code 739 = .ok (.invokevirtual 85, 3) := dg_law_432.2.2.2.2.2.2.2.2.2.2.2.2.2.1
theorem d_law_742 : decode code 742 = .ok (.pop, 1) := dg_law_432.2.2.2.2.2.2.2.2.2.2.2.2.2.2.1
theorem d_law_743 : decode code 743 = .ok (.goto 631, 3) := dg_law_432.2.2.2.2.2.2.2.2.2.2.2.2.2.2.2.1
theorem dg_law_448 : (decode code 746 = .ok (.aload_n 1, 1)) ∧ (decode code 747 = .ok (.aload_n 0, 1)) ∧ (decode code 748 = .ok (.iload_n 3, 1)) ∧ (decode code 749 = .ok (.iconst 1, 1)) ∧ (decode code 750 = .ok (.iadd, 1)) ∧ (decode code 751 = .ok (.iaload, 1)) ∧ (decode code 752 = .ok (.invokevirtual 86, 3)) ∧ (decode code 755 = .ok (.pop, 1)) ∧ (decode code 756 = .ok (.aload_n 2, 1)) ∧ (decode code 757 = .ok (.aload_n 0, 1)) ∧ (decode code 758 = .ok (.iload_n 3, 1)) ∧ (decode code 759 = .ok (.iconst 1, 1)) ∧ (decode code 760 = .ok (.iadd, 1)) ∧ (decode code 761 = .ok (.iaload, 1)) ∧ (decode code 762 = .ok (.invokevirtual 89, 3)) ∧ (decode code 765 = .ok (.pop, 1)) ∧ True := fd_of (cc := code) [(746, .aload_n 1, 1), (747, .aload_n 0, 1), (748, .iload_n 3, 1), (749, .iconst 1, 1), (750, .iadd, 1), (751, .iaload, 1), (752, .invokevirtual 86, 3), (755, .pop, 1), (756, .aload_n 2, 1), (757, .aload_n 0, 1), (758, .iload_n 3, 1), (759, .iconst 1, 1), (760, .iadd, 1), (761, .iaload, 1), (762, .invokevirtual 89, 3), (765, .pop, 1)] (by decide +kernel)
theorem d_law_746 : decode code 746 = .ok (.aload_n 1, 1) := dg_law_448.1
theorem d_law_747 : decode code 747 = .ok (.aload_n 0, 1) := dg_law_448.2.1
theorem d_law_748 : decode code 748 = .ok (.iload_n 3, 1) := dg_law_448.2.2.1
theorem d_law_749 : decode code 749 = .ok (.iconst 1, 1) := dg_law_448.2.2.2.1
theorem d_law_750 : decode code 750 = .ok (.iadd, 1) := dg_law_448.2.2.2.2.1
theorem d_law_751 : decode code 751 = .ok (.iaload, 1) := dg_law_448.2.2.2.2.2.1
theorem d_law_752 : decode code 752 = .ok (.invokevirtual 86, 3) := dg_law_448.2.2.2.2.2.2.1
theorem d_law_755 : decode code 755 = .ok (.pop, 1) := dg_law_448.2.2.2.2.2.2.2.1
theorem d_law_756 : decode code 756 = .ok (.aload_n 2, 1) := dg_law_448.2.2.2.2.2.2.2.2.1
theorem d_law_757 : decode code 757 = .ok (.aload_n 0, 1) := dg_law_448.2.2.2.2.2.2.2.2.2.1
theorem d_law_758 : decode code 758 = .ok (.iload_n 3, 1) := dg_law_448.2.2.2.2.2.2.2.2.2.2.1
theorem d_law_759 : decode code 759 = .ok (.iconst 1, 1) := dg_law_448.2.2.2.2.2.2.2.2.2.2.2.1
theorem d_law_760 : decode code 760 = .ok (.iadd, 1) := dg_law_448.2.2.2.2.2.2.2.2.2.2.2.2.1
theorem d_law_761 : decode code 761 = .ok (.iaload, 1) := dg_law_448.2.2.2.2.2.2.2.2.2.2.2.2.2.1
theorem d_law_762 : decode code 762 = .ok (.invokevirtual 89, 3) := dg_law_448.2.2.2.2.2.2.2.2.2.2.2.2.2.2.1
theorem d_law_765 : decode code 765 = .ok (.pop, 1) := dg_law_448.2.2.2.2.2.2.2.2.2.2.2.2.2.2.2.1
theorem dg_law_464 : (decode code 766 = .ok (.goto 608, 3)) ∧ (decode code 769 = .ok (.aload_n 1, 1)) ∧ (decode code 770 = .ok (.aload_n 0, 1)) ∧ (decode code 771 = .ok (.iload_n 3, 1)) ∧ (decode code 772 = .ok (.iconst 1, 1)) ∧ (decode code 773 = .ok (.iadd, 1)) ∧ (decode code 774 = .ok (.iaload, 1)) ∧ (decode code 775 = .ok (.aload_n 0, 1)) ∧ (decode code 776 = .ok (.iload_n 3, 1)) ∧ (decode code 777 = .ok (.iconst 2, 1)) ∧ (decode code 778 = .ok (.iadd, 1)) ∧ (decode code 779 = .ok (.iaload, 1)) ∧ (decode code 780 = .ok (.invokevirtual 90, 3)) ∧ (decode code 783 = .ok (.pop, 1)) ∧ (decode code 784 = .ok (.aload_n 2, 1)) ∧ (decode code 785 = .ok (.aload_n 0, 1)) ∧ True := fd_of (cc := code) [(766, .goto 608, 3), (769, .aload_n 1, 1), (770, .aload_n 0, 1), (771, .iload_n 3, 1), (772, .iconst 1, 1), (773, .iadd, 1), (774, .iaload, 1), (775, .aload_n 0, 1), (776, .iload_n 3, 1), (777, .iconst 2, 1), (778, .iadd, 1), (779, .iaload, 1), (780, .invokevirtual 90, 3), (783, .pop, 1), (784, .aload_n 2, 1), (785, .aload_n 0, 1)] (by decide +kernel)
theorem d_law_766 : decode code 766 = .ok (.goto 608, 3) := dg_law_464.1
theorem d_law_769 : decode code 769 = .ok (.aload_n 1, 1) := dg_law_464.2.1
theorem d_law_770 : decode code 770 = .ok (.aload_n 0, 1) := dg_law_464.2.2.1
theorem d_law_771 : decode code 771 = .ok (.iload_n 3, 1) := dg_law_464.2.2.2.1
theorem d_law_772 : decode code 772 = .ok (.iconst 1, 1) := dg_law_464.2.2.2.2.1
theorem d_law_773 : decode code 773 = .ok (.iadd, 1) := dg_law_464.2.2.2.2.2.1
theorem d_law_774 : decode code 774 = .ok (.iaload, 1) := dg_law_464.2.2.2.2.2.2.1
theorem d_law_775 : decode code 775 = .ok (.aload_n 0, 1) := dg_law_464.2.2.2.2.2.2.2.1
theorem d_law_776 : decode code 776 = .ok (.iload_n 3, 1) := dg_law_464.2.2.2.2.2.2.2.2.1
theorem d_law_777 : decode code 777 = .ok (.iconst 2, 1) := dg_law_464.2.2.2.2.2.2.2.2.2.1
theorem d_law_778 : decode code 778 = .ok (.iadd, 1) := dg_law_464.2.2.2.2.2.2.2.2.2.2.1
theorem d_law_779 : decode code 779 = .ok (.iaload, 1) := dg_law_464.2.2.2.2.2.2.2.2.2.2.2.1
theorem d_law_780 : decode code 780 = .ok (.invokevirtual 90, 3) := dg_law_464.2.2.2.2.2.2.2.2.2.2.2.2.1
theorem d_law_783 : decode code 783 = .ok (.pop, 1) := dg_law_464.2.2.2.2.2.2.2.2.2.2.2.2.2.1
theorem d_law_784 : decode code 784 = .ok (.aload_n 2, 1) := dg_law_464.2.2.2.2.2.2.2.2.2.2.2.2.2.2.1
theorem d_law_785 : decode code 785 = .ok (.aload_n 0, 1) := dg_law_464.2.2.2.2.2.2.2.2.2.2.2.2.2.2.2.1
theorem dg_law_480 : (decode code 786 = .ok (.iload_n 3, 1)) ∧ (decode code 787 = .ok (.iconst 1, 1)) ∧ (decode code 788 = .ok (.iadd, 1)) ∧ (decode code 789 = .ok (.iaload, 1)) ∧ (decode code 790 = .ok (.aload_n 0, 1)) ∧ (decode code 791 = .ok (.iload_n 3, 1)) ∧ (decode code 792 = .ok (.iconst 2, 1)) ∧ (decode code 793 = .ok (.iadd, 1)) ∧ (decode code 794 = .ok (.iaload, 1)) ∧ (decode code 795 = .ok (.invokevirtual 93, 3)) ∧ (decode code 798 = .ok (.pop, 1)) ∧ (decode code 799 = .ok (.goto 575, 3)) ∧ (decode code 802 = .ok (.aload_n 1, 1)) ∧ (decode code 803 = .ok (.aload_n 0, 1)) ∧ (decode code 804 = .ok (.iload_n 3, 1)) ∧ (decode code 805 = .ok (.iconst 1, 1)) ∧ True := fd_of (cc := code) [(786, .iload_n 3, 1), (787, .iconst 1, 1), (788, .iadd, 1), (789, .iaload, 1), (790, .aload_n 0, 1), (791, .iload_n 3, 1), (792, .iconst 2, 1), (793, .iadd, 1), (794, .iaload, 1), (795, .invokevirtual 93, 3), (798, .pop, 1), (799, .goto 575, 3), (802, .aload_n 1, 1), (803, .aload_n 0, 1), (804, .iload_n 3, 1), (805, .iconst 1, 1)] (by decide +kernel)
theorem d_law_786 : decode code 786 = .ok (.iload_n 3, 1) := dg_law_480.1
theorem d_law_787 : decode code 787 = .ok (.iconst 1, 1) := dg_law_480.2.1
theorem d_law_788 : decode code 788 = .ok (.iadd, 1) := dg_law_480.2.2.1
theorem d_law_789 : decode code 789 = .ok (.iaload, 1) := dg_law_480.2.2.2.1
theorem d_law_790 : decode code 790 = .ok (.aload_n 0, 1) := dg_law_480.2.2.2.2.1
theorem d_law_791 : decode code 791 = .ok (.iload_n 3, 1) := dg_law_480.2.2.2.2.2.1
theorem d_law_792 : decode code 792 = .ok (.iconst 2, 1) := dg_law_480.2.2.2.2.2.2.1
theorem d_law_793 : decode code 793 = .ok (.iadd, 1) := dg_law_480.2.2.2.2.2.2.2.1
theorem d_law_794 : decode code 794 = .ok (.iaload, 1) := dg_law_480.2.2.2.2.2.2.2.2.1
theorem d_law_795 : decode code 795 = .ok (.invokevirtual 93, 3) := dg_law_480.2.2.2.2.2.2.2.2.2.1
theorem d_law_798 : decode code 798 = .ok (.pop, 1) := dg_law_480.2.2.2.2.2.2.2.2.2.2.1
theorem d_law_799 : decode code 799 = .ok (.goto 575, 3) := dg_law_480.2.2.2.2.2.2.2.2.2.2.2.1
theorem d_law_802 : decode code 802 = .ok (.aload_n 1, 1) := dg_law_480.2.2.2.2.2.2.2.2.2.2.2.2.1
theorem d_law_803 : decode code 803 = .ok (.aload_n 0, 1) := dg_law_480.2.2.2.2.2.2.2.2.2.2.2.2.2.1
theorem d_law_804 : decode code 804 = .ok (.iload_n 3, 1) := dg_law_480.2.2.2.2.2.2.2.2.2.2.2.2.2.2.1
theorem d_law_805 : decode code 805 = .ok (.iconst 1, 1) := dg_law_480.2.2.2.2.2.2.2.2.2.2.2.2.2.2.2.1
theorem dg_law_496 : (decode code 806 = .ok (.iadd, 1)) ∧ (decode code 807 = .ok (.iaload, 1)) ∧ (decode code 808 = .ok (.invokevirtual 94, 3)) ∧ (decode code 811 = .ok (.pop, 1)) ∧ (decode code 812 = .ok (.aload_n 2, 1)) ∧ (decode code 813 = .ok (.aload_n 0, 1)) ∧ (decode code 814 = .ok (.iload_n 3, 1)) ∧ (decode code 815 = .ok (.iconst 1, 1)) ∧ (decode code 816 = .ok (.iadd, 1)) ∧ (decode code 817 = .ok (.iaload, 1)) ∧ (decode code 818 = .ok (.invokevirtual 97, 3)) ∧ (decode code 821 = .ok (.pop, 1)) ∧ (decode code 822 = .ok (.goto 552, 3)) ∧ (decode code 825 = .ok (.aload_n 1, 1)) ∧ (decode code 826 = .ok (.aload_n 0, 1)) ∧ (decode code 827 = .ok (.iload_n 3, 1)) ∧ True := fd_of (cc := code) [(806, .iadd, 1), (807, .iaload, 1), (808, .invokevirtual 94, 3), (811, .pop, 1), (812, .aload_n 2, 1), (813, .aload_n 0, 1), (814, .iload_n 3, 1), (815, .iconst 1, 1), (816, .iadd, 1), (817, .iaload, 1), (818, .invokevirtual 97, 3), (821, .pop, 1), (822, .goto 552, 3), (825, .aload_n 1, 1), (826, .aload_n 0, 1), (827, .iload_n 3, 1)] (by decide +kernel)
theorem d_law_806 : decode code 806 = .ok (.iadd, 1) := dg_law_496.1
theorem d_law_807 : decode code 807 = .ok (.iaload, 1) := dg_law_496.2.1
theorem d_law_808 : decode code 808 = .ok (.invokevirtual 94, 3) := dg_law_496.2.2.1
theorem d_law_811 : decode code 811 = .ok (.pop, 1) := dg_law_496.2.2.2.1
theorem d_law_812 : decode code 812 = .ok (.aload_n 2, 1) := dg_law_496.2.2.2.2.1
theorem d_law_813 : decode code 813 = .ok (.aload_n 0, 1) := dg_law_496.2.2.2.2.2.1
theorem d_law_814 : decode code 814 = .ok (.iload_n 3, 1) := dg_law_496.2.2.2.2.2.2.1
theorem d_law_815 : decode code 815 = .ok (.iconst 1, 1) := dg_law_496.2.2.2.2.2.2.2.1
theorem d_law_816 : decode code 816 = .ok (.iadd, 1) := dg_law_496.2.2.2.2.2.2.2.2.1
theorem d_law_817 : decode code 817 = .ok (.iaload, 1) := dg_law_496.2.2.2.2.2.2.2.2.2.1
theorem d_law_818 : decode code 818 = .ok (.invokevirtual 97, 3) := dg_law_496.2.2.2.2.2.2.2.2.2.2.1
theorem d_law_821 : decode code 821 = .ok (.pop, 1) := dg_law_496.2.2.2.2.2.2.2.2.2.2.2.1
theorem d_law_822 : decode code 822 = .ok (.goto 552, 3) := dg_law_496.2.2.2.2.2.2.2.2.2.2.2.2.1
theorem d_law_825 : decode code 825 = .ok (.aload_n 1, 1) := dg_law_496.2.2.2.2.2.2.2.2.2.2.2.2.2.1
theorem d_law_826 : decode code 826 = .ok (.aload_n 0, 1) := dg_law_496.2.2.2.2.2.2.2.2.2.2.2.2.2.2.1
theorem d_law_827 : decode code 827 = .ok (.iload_n 3, 1) := dg_law_496.2.2.2.2.2.2.2.2.2.2.2.2.2.2.2.1
theorem dg_law_512 : (decode code 828 = .ok (.iconst 1, 1)) ∧ (decode code 829 = .ok (.iadd, 1)) ∧ (decode code 830 = .ok (.iaload, 1)) ∧ (decode code 831 = .ok (.invokevirtual 98, 3)) ∧ (decode code 834 = .ok (.pop, 1)) ∧ (decode code 835 = .ok (.aload_n 2, 1)) ∧ (decode code 836 = .ok (.aload_n 0, 1)) ∧ (decode code 837 = .ok (.iload_n 3, 1)) ∧ (decode code 838 = .ok (.iconst 1, 1)) ∧ (decode code 839 = .ok (.iadd, 1)) ∧ (decode code 840 = .ok (.iaload, 1)) ∧ (decode code 841 = .ok (.invokevirtual 101, 3)) ∧ (decode code 844 = .ok (.pop, 1)) ∧ (decode code 845 = .ok (.goto 529, 3)) ∧ (decode code 848 = .ok (.aload_n 1, 1)) ∧ (decode code 849 = .ok (.aload_n 0, 1)) ∧ True := fd_of (cc := code) [(828, .iconst 1, 1), (829, .iadd, 1), (830, .iaload, 1), (831, .invokevirtual 98, 3), (834, .pop, 1), (835, .aload_n 2, 1), (836, .aload_n 0, 1), (837, .iload_n 3, 1), (838, .iconst 1, 1), (839, .iadd, 1), (840, .iaload, 1), (841, .invokevirtual 101, 3), (844, .pop, 1), (845, .goto 529, 3), (848, .aload_n 1, 1), (849, .aload_n 0, 1)] (by decide +kernel)
theorem d_law_828 : decode code 828 = .ok (.iconst 1, 1) := dg_law_512.1
theorem d_law_829 : decode code 829 = .ok (.iadd, 1) := dg_law_512.2.1
theorem d_law_830 : decode code 830 = .ok (.iaload, 1) := dg_law_512.2.2.1
theorem d_law_831 : decode code 831 = .ok (.invokevirtual 98, 3) := dg_law_512.2.2.2.1
theorem d_law_834 : decode code 834 = .ok (.pop, 1) := dg_law_512.2.2.2.2.1
theorem d_law_835 : decode code 835 = .ok (.aload_n 2, 1) := dg_law_512.2.2.2.2.2.1
theorem d_law_836 : decode code 836 = .ok (.aload_n 0, 1) := dg_law_512.2.2.2.2.2.2.1
theorem d_law_837 : decode code 837 = .ok (.iload_n 3, 1) := dg_law_512.2.2.2.2.2.2.2.1
theorem d_law_838 : decode code 838 = .ok (.iconst 1, 1) := dg_law_512.2.2.2.2.2.2.2.2.1
theorem d_law_839 : decode code 839 = .ok (.iadd, 1) := dg_law_512.2.2.2.2.2.2.2.2.2.1
theorem d_law_840 : decode code 840 = .ok (.iaload, 1) := dg_law_512.2.2.2.2.2.2.2.2.2.2.1
theorem d_law_841 : decode code 841 = .ok (.invokevirtual 101, 3) := dg_law_512.2.2.2.2.2.2.2.2.2.2.2.1
theorem d_law_844 : decode code 844 = .ok (.pop, 1) := dg_law_512.2.2.2.2.2.2.2.2.2.2.2.2.1
theorem d_law_845 : decode code 845 = .ok (.goto 529, 3) := dg_law_512.2.2.2.2.2.2.2.2.2.2.2.2.2.1
theorem d_law_848 : decode code 848 = .ok (.aload_n 1, 1) := dg_law_512.2.2.2.2.2.2.2.2.2.2.2.2.2.2.1
theorem d_law_849 : decode code 849 = .ok (.aload_n 0, 1) := dg_law_512.2.2.2.2.2.2.2.2.2.2.2.2.2.2.2.1
theorem dg_law_528 : (decode code 850 = .ok (.iload_n 3, 1)) ∧ (decode code 851 = .ok (.iconst 1, 1)) ∧ (decode code 852 = .ok (.iadd, 1)) ∧ (decode code 853 = .ok (.iaload, 1)) ∧ (decode code 854 = .ok (.aload_n 0, 1)) ∧ (decode code 855 = .ok (.iload_n 3, 1)) ∧ (decode code 856 = .ok (.iconst 2, 1)) ∧ (decode code 857 = .ok (.iadd, 1)) ∧ (decode code 858 = .ok (.iaload, 1)) ∧ (decode code 859 = .ok (.invokevirtual 102, 3)) ∧ (decode code 862 = .ok (.pop, 1)) ∧ (decode code 863 = .ok (.aload_n 2, 1)) ∧ (decode code 864 = .ok (.aload_n 0, 1)) ∧ (decode code 865 = .ok (.iload_n 3, 1)) ∧ (decode code 866 = .ok (.iconst 1, 1)) ∧ (decode code 867 = .ok (.iadd, 1)) ∧ True := fd_of (cc := code) [(850, .iload_n 3, 1), (851, .iconst 1, 1), (852, .iadd, 1), (853, .iaload, 1), (854, .aload_n 0, 1), (855, .iload_n 3, 1), (856, .iconst 2, 1), (857, .iadd, 1), (858, .iaload, 1), (859, .invokevirtual 102, 3), (862, .pop, 1), (863, .aload_n 2, 1), (864, .aload_n 0, 1), (865, .iload_n 3, 1), (866, .iconst 1, 1), (867, .iadd, 1)] (by decide +kernel)
theorem d_law_850 : decode code 850 = .ok (.iload_n 3, 1) := dg_law_528.1
theorem d_law_851 : decode code 851 = .ok (.iconst 1, 1) := dg_law_528.2.1
theorem d_law_852 : decode code 852 = .ok (.iadd, 1) := dg_law_528.2.2.1
theorem d_law_853 : decode code 853 = .ok (.iaload, 1) := dg_law_528.2.2.2.1
theorem d_law_854 : decode code 854 = .ok (.aload_n 0, 1) := dg_law_528.2.2.2.2.1
theorem d_law_855 : decode code 855 = .ok (.iload_n 3, 1) := dg_law_528.2.2.2.2.2.1
theorem d_law_856 : decode code 856 = .ok (.iconst 2, 1) := dg_law_528.2.2.2.2.2.2.1
theorem d_law_857 : decode code 857 = .ok (.iadd, 1) := dg_law_528.2.2.2.2.2.2.2.1
theorem d_law_858 : decode code 858 = .ok (.iaload, 1) := dg_law_528.2.2.2.2.2.2.2.2.1
theorem d_law_859 : decode code 859 = .ok (.invokevirtual 102, 3) := dg_law_528.2.2.2.2.2.2.2.2.2.1
theorem d_law_862 : decode code 862 = .ok (.pop, 1) := dg_law_528.2.2.2.2.2.2.2.2.2.2.1
theorem d_law_863 : decode code 863 = .ok (.aload_n 2, 1) := dg_law_528.2.2.2.2.2.2.2.2.2.2.2.1
theorem d_law_864 : decode code 864 = .ok (.aload_n 0, 1) := dg_law_528.2.2.2.2.2.2.2.2.2.2.2.2.1
theorem d_law_865 : decode code 865 = .ok (.iload_n 3, 1) := dg_law_528.2.2.2.2.2.2.2.2.2.2.2.2.2.1
theorem d_law_866 : decode code 866 = .ok (.iconst 1, 1) := dg_law_528.2.2.2.2.2.2.2.2.2.2.2.2.2.2.1
theorem d_law_867 : decode code 867 = .ok (.iadd, 1) := dg_law_528.2.2.2.2.2.2.2.2.2.2.2.2.2.2.2.1
theorem dg_law_544 : (decode code 868 = .ok (.iaload, 1)) ∧ (decode code 869 = .ok (.aload_n 0, 1)) ∧ (decode code 870 = .ok (.iload_n 3, 1)) ∧ (decode code 871 = .ok (.iconst 2, 1)) ∧ (decode code 872 = .ok (.iadd, 1)) ∧ (decode code 873 = .ok (.iaload, 1)) ∧ (decode code 874 = .ok (.invokevirtual 105, 3)) ∧ (decode code 877 = .ok (.pop, 1)) ∧ (decode code 878 = .ok (.goto 496, 3)) ∧ (decode code 881 = .ok (.aload_n 1, 1)) ∧ (decode code 882 = .ok (.aload_n 0, 1)) ∧ (decode code 883 = .ok (.iload_n 3, 1)) ∧ (decode code 884 = .ok (.iconst 1, 1)) ∧ (decode code 885 = .ok (.iadd, 1)) ∧ (decode code 886 = .ok (.iaload, 1)) ∧ (decode code 887 = .ok (.invokevirtual 106, 3)) ∧ True := fd_of (cc := code) [(868, .iaload, 1), (869, .aload_n 0, 1), (870, .iload_n 3, 1), (871, .iconst 2, 1), (872, .iadd, 1), (873, .iaload, 1), (874, .invokevirtual 105, 3), (877, .pop, 1), (878, .goto 496, 3), (881, .aload_n 1, 1), (882, .aload_n 0, 1), (883, .iload_n 3, 1), (884, .iconst 1, 1), (885, .iadd, 1), (886, .iaload, 1), (887, .invokevirtual 106, 3)] (by decide +kernel)
theorem d_law_868 : decode code 868 = .ok (.iaload, 1) := dg_law_544.1
theorem d_law_869 : decode code 869 = .ok (.aload_n 0, 1) := dg_law_544.2.1
theorem d_law_870 : decode code 870 = .ok (.iload_n 3, 1) := dg_law_544.2.2.1
theorem d_law_871 : decode code 871 = .ok (.iconst 2, 1) := dg_law_544.2.2.2.1
theorem d_law_872 : decode code 872 = .ok (.iadd, 1) := dg_law_544.2.2.2.2.1
theorem d_law_873 : decode code 873 = .ok (.iaload, 1) := dg_law_544.2.2.2.2.2.1
theorem d_law_874 : decode code 874 = .ok (.invokevirtual 105, 3) := dg_law_544.2.2.2.2.2.2.1
theorem d_law_877 : decode code 877 = .ok (.pop, 1) := dg_law_544.2.2.2.2.2.2.2.1
theorem d_law_878 : decode code 878 = .ok (.goto 496, 3) := dg_law_544.2.2.2.2.2.2.2.2.1
theorem d_law_881 : decode code 881 = .ok (.aload_n 1, 1) := dg_law_544.2.2.2.2.2.2.2.2.2.1
theorem d_law_882 : decode code 882 = .ok (.aload_n 0, 1) := dg_law_544.2.2.2.2.2.2.2.2.2.2.1
theorem d_law_883 : decode code 883 = .ok (.iload_n 3, 1) := dg_law_544.2.2.2.2.2.2.2.2.2.2.2.1
theorem d_law_884 : decode code 884 = .ok (.iconst 1, 1) := dg_law_544.2.2.2.2.2.2.2.2.2.2.2.2.1
theorem d_law_885 : decode code 885 = .ok (.iadd, 1) := dg_law_544.2.2.2.2.2.2.2.2.2.2.2.2.2.1
theorem d_law_886 : decode code 886 = .ok (.iaload, 1) := dg_law_544.2.2.2.2.2.2.2.2.2.2.2.2.2.2.1
theorem d_law_887 : decode code 887 = .ok (.invokevirtual 106, 3) := dg_law_544.2.2.2.2.2.2.2.2.2.2.2.2.2.2.2.1
theorem dg_law_560 : (decode code 890 = .ok (.pop, 1)) ∧ (decode code 891 = .ok (.aload_n 2, 1)) ∧ (decode code 892 = .ok (.aload_n 0, 1)) ∧ (decode code 893 = .ok (.iload_n 3, 1)) ∧ (decode code 894 = .ok (.iconst 1, 1)) ∧ (decode code 895 = .ok (.iadd, 1)) ∧ (decode code 896 = .ok (.iaload, 1)) ∧ (decode code 897 = .ok (.invokevirtual 109, 3)) ∧ (decode code 900 = .ok (.pop, 1)) ∧ (decode code 901 = .ok (.goto 473, 3)) ∧ (decode code 904 = .ok (.aload_n 1, 1)) ∧ (decode code 905 = .ok (.aload_n 0, 1)) ∧ (decode code 906 = .ok (.iload_n 3, 1)) ∧ (decode code 907 = .ok (.iconst 1, 1)) ∧ (decode code 908 = .ok (.iadd, 1)) ∧ (decode code 909 = .ok (.iaload, 1)) ∧ True := fd_of (cc := code) [(890, .pop, 1), (891, .aload_n 2, 1), (892, .aload_n 0, 1), (893, .iload_n 3, 1), (894, .iconst 1, 1), (895, .iadd, 1), (896, .iaload, 1), (897, .invokevirtual 109, 3), (900, .pop, 1), (901, .goto 473, 3), (904, .aload_n 1, 1), (905, .aload_n 0, 1), (906, .iload_n 3, 1), (907, .iconst 1, 1), (908, .iadd, 1), (909, .iaload, 1)] (by decide +kernel)
theorem d_law_890 : decode code 890 = .ok (.pop, 1) := dg_law_560.1
theorem d_law_891 : decode code 891 = .ok (.aload_n 2, 1) := dg_law_560.2.1
theorem d_law_892 : decode code 892 = .ok (.aload_n 0, 1) := dg_law_560.2.2.1
theorem d_law_893 : decode code 893 = .ok (.iload_n 3, 1) := dg_law_560.2.2.2.1
theorem d_law_894 : decode code 894 = .ok (.iconst 1, 1) := dg_law_560.2.2.2.2.1
theorem d_law_895 : decode code 895 = .ok (.iadd, 1) := dg_law_560.2.2.2.2.2.1
theorem d_law_896 : decode code 896 = .ok (.iaload, 1) := dg_law_560.2.2.2.2.2.2.1
theorem d_law_897 : decode code 897 = .ok (.invokevirtual 109, 3) := dg_law_560.2.2.2.2.2.2.2.1
theorem d_law_900 : decode code 900 = .ok (.pop, 1) := dg_law_560.2.2.2.2.2.2.2.2.1
theorem d_law_901 : decode code 901 = .ok (.goto 473, 3) := dg_law_560.2.2.2.2.2.2.2.2.2.1
theorem d_law_904 : decode code 904 = .ok (.aload_n 1, 1) := dg_law_560.2.2.2.2.2.2.2.2.2.2.1
theorem d_law_905 : decode code 905 = .ok (.aload_n 0, 1) := dg_law_560.2.2.2.2.2.2.2.2.2.2.2.1
theorem d_law_906 : decode code 906 = .ok (.iload_n 3, 1) := dg_law_560.2.2.2.2.2.2.2.2.2.2.2.2.1
theorem d_law_907 : decode code 907 = .ok (.iconst 1, 1) := dg_law_560.2.2.2.2.2.2.2.2.2.2.2.2.2.1
theorem d_law_908 : decode code 908 = .ok (.iadd, 1) := dg_law_560.2.2.2.2.2.2.2.2.2.2.2.2.2.2.1
theorem d_law_909 : decode code 909 = .ok (.iaload, 1) := dg_law_560.2.2.2.2.2.2.2.2.2.2.2.2.2.2.2.1
theorem dg_law_576 : (decode code 910 = .ok (.invokevirtual 110, 3)) ∧ (decode code 913 = .ok (.pop, 1)) ∧ (decode code 914 = .ok (.aload_n 2, 1)) ∧ (decode code 915 = .ok (.aload_n 0, 1)) ∧ (decode code 916 = .ok (.iload_n 3, 1)) ∧ (decode code 917 = .ok (.iconst 1, 1)) ∧ (decode code 918 = .ok (.iadd, 1)) ∧ (decode code 919 = .ok (.iaload, 1)) ∧ (decode code 920 = .ok (.invokevirtual 113, 3)) ∧ (decode code 923 = .ok (.pop, 1)) ∧ (decode code 924 = .ok (.goto 450, 3)) ∧ (decode code 927 = .ok (.aload_n 1, 1)) ∧ (decode code 928 = .ok (.aload_n 0, 1)) ∧ (decode code 929 = .ok (.iload_n 3, 1)) ∧ (decode code 930 = .ok (.iconst 1, 1)) ∧ (decode code 931 = .ok (.iadd, 1)) ∧ True := fd_of (cc := code) [(910, .invokevirtual 110, 3), (913, .pop, 1), (914, .aload_n 2, 1), (915, .aload_n 0, 1), (916, .iload_n 3, 1), (917, .iconst 1, 1), (918, .iadd, 1), (919, .iaload, 1), (920, .invokevirtual 113, 3), (923, .pop, 1), (924, .goto 450, 3), (927, .aload_n 1, 1), (928, .aload_n 0, 1), (929, .iload_n 3, 1), (930, .iconst 1, 1), (931, .iadd, 1)] (by decide +kernel)
theorem d_law_910 : decode code 910 = .ok (.invokevirtual 110, 3) := dg_law_576.1
theorem d_law_913 : decode code 913 = .ok (.pop, 1) := dg_law_576.2.1
theorem d_law_914 : decode code 914 = .ok (.aload_n 2, 1) := dg_law_576.2.2.1
theorem d_law_915 : decode code 915 = .ok (.aload_n 0, 1) := dg_law_576.2.2.2.1
theorem d_law_916 : decode code 916 = .ok (.iload_n 3, 1) := dg_law_576.2.2.2.2.1
theorem d_law_917 : decode code 917 = .ok (.iconst 1, 1) := dg_law_576.2.2.2.2.2.1
theorem d_law_918 : decode code 918 = .ok (.iadd, 1) := dg_law_576.2.2.2.2.2.2.1
theorem d_law_919 : decode code 919 = .ok (.iaload, 1) := dg_law_576.2.2.2.2.2.2.2.1
theorem d_law_920 : decode code 920 = .ok (.invokevirtual 113, 3) := dg_law_576.2.2.2.2.2.2.2.2.1
theorem d_law_923 : decode code 923 = .ok (.pop, 1) := dg_law_576.2.2.2.2.2.2.2.2.2.1
theorem d_law_924 : decode code 924 = .ok (.goto 450, 3) := dg_law_576.2.2.2.2.2.2.2.2.2.2.1
theorem d_law_927 : decode code 927 = .ok (.aload_n 1, 1) := dg_law_576.2.2.2.2.2.2.2.2.2.2.2.1
theorem d_law_928 : decode code 928 = .ok (.aload_n 0, 1) := dg_law_576.2.2.2.2.2.2.2.2.2.2.2.2.1
theorem d_law_929 : decode code 929 = .ok (.iload_n 3, 1) := dg_law_576.2.2.2.2.2.2.2.2.2.2.2.2.2.1
theorem d_law_930 : decode code 930 = .ok (.iconst 1, 1) := dg_law_576.2.2.2.2.2.2.2.2.2.2.2.2.2.2.1
theorem d_law_931 : decode code 931 = .ok (.iadd, 1) := dg_law_576.2.2.2.2.2.2.2.2.2.2.2.2.2.2.2.1
theorem dg_law_592 : (decode code 932 = .ok (.iaload, 1)) ∧ (decode code 933 = .ok (.invokevirtual 114, 3)) ∧ (decode code 936 = .ok (.pop, 1)) ∧ (decode code 937 = .ok (.aload_n 2, 1)) ∧ (decode code 938 = .ok (.aload_n 0, 1)) ∧ (decode code 939 = .ok (.iload_n 3, 1)) ∧ (decode code 940 = .ok (.iconst 1, 1)) ∧ (decode code 941 = .ok (.iadd, 1)) ∧ (decode code 942 = .ok (.iaload, 1)) ∧ (decode code 943 = .ok (.invokevirtual 117, 3)) ∧ (decode code 946 = .ok (.pop, 1)) ∧ (decode code 947 = .ok (.goto 427, 3)) ∧ (decode code 950 = .ok (.aload_n 1, 1)) ∧ (decode code 951 = .ok (.aload_n 0, 1)) ∧ (decode code 952 = .ok (.iload_n 3, 1)) ∧ (decode code 953 = .ok (.iconst 1, 1)) ∧ True := fd_of (cc := code) [(932, .iaload, 1), (933, .invokevirtual 114, 3), (936, .pop, 1), (937, .aload_n 2, 1), (938, .aload_n 0, 1), (939, .iload_n 3, 1), (940, .iconst 1, 1), (941, .iadd, 1), (942, .iaload, 1), (943, .invokevirtual 117, 3), (946, .pop, 1), (947, .goto 427, 3), (950, .aload_n 1, 1), (951, .aload_n 0, 1), (952, .iload_n 3, 1), (953, .iconst 1, 1)] (by decide +kernel)
theorem d_law_932 : decode code 932 = .ok (.iaload, 1) := dg_law_592.1
theorem d_law_933 : decode code 933 = .ok (.invokevirtual 114, 3) := dg_law_592.2.1
theorem d_law_936 : decode code 936 = .ok (.pop, 1) := dg_law_592.2.2.1
theorem d_law_937 : decode code 937 = .ok (.aload_n 2, 1) := dg_law_592.2.2.2.1
theorem d_law_938 : decode code 938 = .ok (.aload_n 0, 1) := dg_law_592.2.2.2.2.1
theorem d_law_939 : decode code 939 = .ok (.iload_n 3, 1) := dg_law_592.2.2.2.2.2.1
theorem d_law_940 : decode code 940 = .ok (.iconst 1, 1) := dg_law_592.2.2.2.2.2.2.1
theorem d_law_941 : decode code 941 = .ok (.iadd, 1) := dg_law_592.2.2.2.2.2.2.2.1
theorem d_law_942 : decode code 942 = .ok (.iaload, 1) := dg_law_592.2.2.2.2.2.2.2.2.1
theorem d_law_943 : decode code 943 = .ok (.invokevirtual 117, 3) := dg_law_592.2.2.2.2.2.2.2.2.2.1
theorem d_law_946 : decode code 946 = .ok (.pop, 1) := dg_law_592.2.2.2.2.2.2.2.2.2.2.1
theorem d_law_947 : decode code 947 = .ok (.goto 427, 3) := dg_law_592.2.2.2.2.2.2.2.2.2.2.2.1
theorem d_law_950 : decode code 950 = .ok (.aload_n 1, 1) := dg_law_592.2.2.2.2.2.2.2.2.2.2.2.2.1
theorem d_law_951 : decode code 951 = .ok (.aload_n 0, 1) := dg_law_592.2.2.2.2.2.2.2.2.2.2.2.2.2.1
theorem d_law_952 : decode code 952 = .ok (.iload_n 3, 1) := dg_law_592.2.2.2.2.2.2.2.2.2.2.2.2.2.2.1
theorem d_law_953 : decode code 953 = .ok (.iconst 1, 1) := dg_law_592.2.2.2.2.2.2.2.2.2.2.2.2.2.2.2.1
theorem dg_law_608 : (decode code 954 = .ok (.iadd, 1)) ∧ (decode code 955 = .ok (.iaload, 1)) ∧ (decode code 956 = .ok (.aload_n 0, 1)) ∧ (decode code 957 = .ok (.iload_n 3, 1)) ∧ (decode code 958 = .ok (.iconst 2, 1)) ∧ (decode code 959 = .ok (.iadd, 1)) ∧ (decode code 960 = .ok (.iaload, 1)) ∧ (decode code 961 = .ok (.aload_n 0, 1)) ∧ (decode code 962 = .ok (.iload_n 3, 1)) ∧ (decode code 963 = .ok (.iconst 3, 1)) ∧ (decode code 964 = .ok (.iadd, 1)) ∧ (decode code 965 = .ok (.iaload, 1)) ∧ (decode code 966 = .ok (.aload_n 0, 1)) ∧ (decode code 967 = .ok (.iload_n 3, 1)) ∧ (decode code 968 = .ok (.iconst 4, 1)) ∧ (decode code 969 = .ok (.iadd, 1)) ∧ True := fd_of (cc := code) [(954, .iadd, 1), (955, .iaload, 1), (956, .aload_n 0, 1), (957, .iload_n 3, 1), (958, .iconst 2, 1), (959, .iadd, 1), (960, .iaload, 1), (961, .aload_n 0, 1), (962, .iload_n 3, 1), (963, .iconst 3, 1), (964, .iadd, 1), (965, .iaload, 1), (966, .aload_n 0, 1), (967, .iload_n 3, 1), (968, .iconst 4, 1), (969, .iadd, 1)] (by decide +kernel)
theorem d_law_954 : decode code 954 = .ok (.iadd, 1) := dg_law_608.1
theorem d_law_955 : decode code 955 = .ok (.iaload, 1) := dg_law_608.2.1
theorem d_law_956 : decode code 956 = .ok (.aload_n 0, 1) := dg_law_608.2.2.1
theorem d_law_957 : decode code 957 = .ok (.iload_n 3, 1) := dg_law_608.2.2.2.1
theorem d_law_958 : decode code 958 = .ok (.iconst 2, 1) := dg_law_608.2.2.2.2.1
theorem d_law_959 : decode code 959 = .ok (.iadd, 1) := dg_law_608.2.2.2.2.2.1
theorem d_law_960 : decode code 960 = .ok (.iaload, 1) := dg_law_608.2.2.2.2.2.2.1
theorem d_law_961 : decode code 961 = .ok (.aload_n 0, 1) := dg_law_608.2.2.2.2.2.2.2.1
theorem d_law_962 : decode code 962 = .ok (.iload_n 3, 1) := dg_law_608.2.2.2.2.2.2.2.2.1
theorem d_law_963 : decode code 963 = .ok (.iconst 3, 1) := dg_law_608.2.2.2.2.2.2.2.2.2.1
theorem d_law_964 : decode code 964 = .ok (.iadd, 1) := dg_law_608.2.2.2.2.2.2.2.2.2.2.1
theorem d_law_965 : decode code 965 = .ok (.iaload, 1) := dg_law_608.2.2.2.2.2.2.2.2.2.2.2.1
theorem d_law_966 : decode code 966 = .ok (.aload_n 0, 1) := dg_law_608.2.2.2.2.2.2.2.2.2.2.2.2.1
theorem d_law_967 : decode code 967 = .ok (.iload_n 3, 1) := dg_law_608.2.2.2.2.2.2.2.2.2.2.2.2.2.1
theorem d_law_968 : decode code 968 = .ok (.iconst 4, 1) := dg_law_608.2.2.2.2.2.2.2.2.2.2.2.2.2.2.1
theorem d_law_969 : decode code 969 = .ok (.iadd, 1) := dg_law_608.2.2.2.2.2.2.2.2.2.2.2.2.2.2.2.1
theorem dg_law_624 : (decode code 970 = .ok (.iaload, 1)) ∧ (decode code 971 = .ok (.ifCond .eq 7, 3)) ∧ (decode code 974 = .ok (.iconst 1, 1)) ∧ (decode code 975 = .ok (.goto 4, 3)) ∧ (decode code 978 = .ok (.iconst 0, 1)) ∧ (decode code 979 = .ok (.invokevirtual 118, 3)) ∧ (decode code 982 = .ok (.pop, 1)) ∧ (decode code 983 = .ok (.aload_n 2, 1)) ∧ (decode code 984 = .ok (.aload_n 0, 1)) ∧ (decode code 985 = .ok (.iload_n 3, 1)) ∧ (decode code 986 = .ok (.iconst 1, 1)) ∧ (decode code 987 = .ok (.iadd, 1)) ∧ (decode code 988 = .ok (.iaload, 1)) ∧ (decode code 989 = .ok (.aload_n 0, 1)) ∧ (decode code 990 = .ok (.iload_n 3, 1)) ∧ (decode code 991 = .ok (.iconst 2, 1)) ∧ True := fd_of (cc := code) [(970, .iaload, 1), (971, .ifCond .eq 7, 3), (974, .iconst 1, 1), (975, .goto 4, 3), (978, .iconst 0, 1), (979, .invokevirtual 118, 3), (982, .pop, 1), (983, .aload_n 2, 1), (984, .aload_n 0, 1), (985, .iload_n 3, 1), (986, .iconst 1, 1), (987, .iadd, 1), (988, .iaload, 1), (989, .aload_n 0, 1), (990, .iload_n 3, 1), (991, .iconst 2, 1)] (by decide +kernel)
theorem d_law_970 : decode code 970 = .ok (.iaload, 1) := dg_law_624.1
theorem d_law_971 : decode code 971 = .ok (.ifCond .eq 7, 3) := dg_law_624.2.1
theorem d_law_974 : decode code 974 = .ok (.iconst 1, 1) := dg_law_624.2.2.1
theorem d_law_975 : decode code 975 = .ok (.goto 4, 3) := dg_law_624.2.2.2.1
theorem d_law_978 : decode code 978 = .ok (.iconst 0, 1) := dg_law_624.2.2.2.2.1
theorem d_law_979 : decode code 979 = .ok (.invokevirtual 118, 3) := dg_law_624.2.2.2.2.2.1
theorem d_law_982 : decode code 982 = .ok (.pop, 1) := dg_law_624.2.2.2.2.2.2.1
theorem d_law_983 : decode code 983 = .ok (.aload_n 2, 1) := dg_law_624.2.2.2.2.2.2.2.1
theorem d_law_984 : decode code 984 = .ok (.aload_n 0, 1) := dg_law_624.2.2.2.2.2.2.2.2.1
theorem d_law_985 : decode code 985 = .ok (.iload_n 3, 1) := dg_law_624.2.2.2.2.2.2.2.2.2.1
theorem d_law_986 : decode code 986 = .ok (.iconst 1, 1) := dg_law_624.2.2.2.2.2.2.2.2.2.2.1
theorem d_law_987 : decode code 987 = .ok (.iadd, 1) := dg_law_624.2.2.2.2.2.2.2.2.2.2.2.1
theorem d_law_988 : decode code 988 = .ok (.iaload, 1) := dg_law_624.2.2.2.2.2.2.2.2.2.2.2.2.1
theorem d_law_989 : decode code 989 = .ok (.aload_n 0, 1) := dg_law_624.2.2.2.2.2.2.2.2.2.2.2.2.2.1
theorem d_law_990 : decode code 990 = .ok (.iload_n 3, 1) := dg_law_624.2.2.2.2.2.2.2.2.2.2.2.2.2.2.1
theorem d_law_991 : decode code 991 = .ok (.iconst 2, 1) := dg_law_624.2.2.2.2.2.2.2.2.2.2.2.2.2.2.2.1
theorem dg_law_640 : (decode code 992 = .ok (.iadd, 1)) ∧ (decode code 993 = .ok (.iaload, 1)) ∧ (decode code 994 = .ok (.aload_n 0, 1)) ∧ (decode code 995 = .ok (.iload_n 3, 1)) ∧ (decode code 996 = .ok (.iconst 3, 1)) ∧ (decode code 997 = .ok (.iadd, 1)) ∧ (decode code 998 = .ok (.iaload, 1)) ∧ (decode code 999 = .ok (.aload_n 0, 1)) ∧ (decode code 1000 = .ok (.iload_n 3, 1)) ∧ (decode code 1001 = .ok (.iconst 4, 1)) ∧ (decode code 1002 = .ok (.iadd, 1)) ∧ (decode code 1003 = .ok (.iaload, 1)) ∧ (decode code 1004 = .ok (.ifCond .eq 7, 3)) ∧ (decode code 1007 = .ok (.iconst 1, 1)) ∧ (decode code 1008 = .ok (.goto 4, 3)) ∧ (decode code 1011 = .ok (.iconst 0, 1)) ∧ True := fd_of (cc := code) [(992, .iadd, 1), (993, .iaload, 1), (994, .aload_n 0, 1), (995, .iload_n 3, 1), (996, .iconst 3, 1), (997, .iadd, 1), (998, .iaload, 1), (999, .aload_n 0, 1), (1000, .iload_n 3, 1), (1001, .iconst 4, 1), (1002, .iadd, 1), (1003, .iaload, 1), (1004, .ifCond .eq 7, 3), (1007, .iconst 1, 1), (1008, .goto 4, 3), (1011, .iconst 0, 1)] (by decide +kernel)
theorem d_law_992 : decode code 992 = .ok (.iadd, 1) := dg_law_640.1
theorem d_law_993 : decode code 993 = .ok (.iaload, 1) := dg_law_640.2.1
theorem d_law_994 : decode code 994 = .ok (.aload_n 0, 1) := dg_law_640.2.2.1
theorem d_law_995 : decode code 995 = .ok (.iload_n 3, 1) := dg_law_640.2.2.2.1
theorem d_law_996 : decode code 996 = .ok (.iconst 3, 1) := dg_law_640.2.2.2.2.1
theorem d_law_997 : decode code 997 = .ok (.iadd, 1) := dg_law_640.2.2.2.2.2.1
theorem d_law_998 : decode code 998 = .ok (.iaload, 1) := dg_law_640.2.2.2.2.2.2.1
theorem d_law_999 : decode code 999 = .ok (.aload_n 0, 1) := dg_law_640.2.2.2.2.2.2.2.1
theorem d_law_1000 : decode code 1000 = .ok (.iload_n 3, 1) := dg_law_640.2.2.2.2.2.2.2.2.1
theorem d_law_1001 : decode code 1001 = .ok (.iconst 4, 1) := dg_law_640.2.2.2.2.2.2.2.2.2.1
theorem d_law_1002 : decode code 1002 = .ok (.iadd, 1) := dg_law_640.2.2.2.2.2.2.2.2.2.2.1
theorem d_law_1003 : decode code 1003 = .ok (.iaload, 1) := dg_law_640.2.2.2.2.2.2.2.2.2.2.2.1
theorem d_law_1004 : decode code 1004 = .ok (.ifCond .eq 7, 3) := dg_law_640.2.2.2.2.2.2.2.2.2.2.2.2.1
theorem d_law_1007 : decode code 1007 = .ok (.iconst 1, 1) := dg_law_640.2.2.2.2.2.2.2.2.2.2.2.2.2.1
theorem d_law_1008 : decode code 1008 = .ok (.goto 4, 3) := dg_law_640.2.2.2.2.2.2.2.2.2.2.2.2.2.2.1
theorem d_law_1011 : decode code 1011 = .ok (.iconst 0, 1) := dg_law_640.2.2.2.2.2.2.2.2.2.2.2.2.2.2.2.1
theorem dg_law_656 : (decode code 1012 = .ok (.invokevirtual 122, 3)) ∧ (decode code 1015 = .ok (.pop, 1)) ∧ (decode code 1016 = .ok (.goto 358, 3)) ∧ (decode code 1019 = .ok (.aload_n 1, 1)) ∧ (decode code 1020 = .ok (.aload_n 0, 1)) ∧ (decode code 1021 = .ok (.iload_n 3, 1)) ∧ (decode code 1022 = .ok (.iconst 1, 1)) ∧ (decode code 1023 = .ok (.iadd, 1)) ∧ (decode code 1024 = .ok (.iaload, 1)) ∧ (decode code 1025 = .ok (.invokevirtual 123, 3)) ∧ (decode code 1028 = .ok (.pop, 1)) ∧ (decode code 1029 = .ok (.aload_n 2, 1)) ∧ (decode code 1030 = .ok (.aload_n 0, 1)) ∧ (decode code 1031 = .ok (.iload_n 3, 1)) ∧ (decode code 1032 = .ok (.iconst 1, 1)) ∧ (decode code 1033 = .ok (.iadd, 1)) ∧ True := fd_of (cc := code) [(1012, .invokevirtual 122, 3), (1015, .pop, 1), (1016, .goto 358, 3), (1019, .aload_n 1, 1), (1020, .aload_n 0, 1), (1021, .iload_n 3, 1), (1022, .iconst 1, 1), (1023, .iadd, 1), (1024, .iaload, 1), (1025, .invokevirtual 123, 3), (1028, .pop, 1), (1029, .aload_n 2, 1), (1030, .aload_n 0, 1), (1031, .iload_n 3, 1), (1032, .iconst 1, 1), (1033, .iadd, 1)] (by decide +kernel)
theorem d_law_1012 : decode code 1012 = .ok (.invokevirtual 122, 3) := dg_law_656.1
theorem d_law_1015 : decode code 1015 = .ok (.pop, 1) := dg_law_656.2.1
theorem d_law_1016 : decode code 1016 = .ok (.goto 358, 3) := dg_law_656.2.2.1
theorem d_law_1019 : decode code 1019 = .ok (.aload_n 1, 1) := dg_law_656.2.2.2.1
theorem d_law_1020 : decode code 1020 = .ok (.aload_n 0, 1) := dg_law_656.2.2.2.2.1
theorem d_law_1021 : decode code 1021 = .ok (.iload_n 3, 1) := dg_law_656.2.2.2.2.2.1
theorem d_law_1022 : decode code 1022 = .ok (.iconst 1, 1) := dg_law_656.2.2.2.2.2.2.1
theorem d_law_1023 : decode code 1023 = .ok (.iadd, 1) := dg_law_656.2.2.2.2.2.2.2.1
theorem d_law_1024 : decode code 1024 = .ok (.iaload, 1) := dg_law_656.2.2.2.2.2.2.2.2.1
theorem d_law_1025 : decode code 1025 = .ok (.invokevirtual 123, 3) := dg_law_656.2.2.2.2.2.2.2.2.2.1
theorem d_law_1028 : decode code 1028 = .ok (.pop, 1) := dg_law_656.2.2.2.2.2.2.2.2.2.2.1
theorem d_law_1029 : decode code 1029 = .ok (.aload_n 2, 1) := dg_law_656.2.2.2.2.2.2.2.2.2.2.2.1
theorem d_law_1030 : decode code 1030 = .ok (.aload_n 0, 1) := dg_law_656.2.2.2.2.2.2.2.2.2.2.2.2.1
theorem d_law_1031 : decode code 1031 = .ok (.iload_n 3, 1) := dg_law_656.2.2.2.2.2.2.2.2.2.2.2.2.2.1
theorem d_law_1032 : decode code 1032 = .ok (.iconst 1, 1) := dg_law_656.2.2.2.2.2.2.2.2.2.2.2.2.2.2.1
theorem d_law_1033 : decode code 1033 = .ok (.iadd, 1) := dg_law_656.2.2.2.2.2.2.2.2.2.2.2.2.2.2.2.1
theorem dg_law_672 : (decode code 1034 = .ok (.iaload, 1)) ∧ (decode code 1035 = .ok (.invokevirtual 126, 3)) ∧ (decode code 1038 = .ok (.pop, 1)) ∧ (decode code 1039 = .ok (.goto 335, 3)) ∧ (decode code 1042 = .ok (.aload_n 1, 1)) ∧ (decode code 1043 = .ok (.aload_n 0, 1)) ∧ (decode code 1044 = .ok (.iload_n 3, 1)) ∧ (decode code 1045 = .ok (.iconst 1, 1)) ∧ (decode code 1046 = .ok (.iadd, 1)) ∧ (decode code 1047 = .ok (.iaload, 1)) ∧ (decode code 1048 = .ok (.aload_n 0, 1)) ∧ (decode code 1049 = .ok (.iload_n 3, 1)) ∧ (decode code 1050 = .ok (.iconst 2, 1)) ∧ (decode code 1051 = .ok (.iadd, 1)) ∧ (decode code 1052 = .ok (.iaload, 1)) ∧ (decode code 1053 = .ok (.invokevirtual 127, 3)) ∧ True := fd_of (cc := code) [(1034, .iaload, 1), (1035, .invokevirtual 126, 3), (1038, .pop, 1), (1039, .goto 335, 3), (1042, .aload_n 1, 1), (1043, .aload_n 0, 1), (1044, .iload_n 3, 1), (1045, .iconst 1, 1), (1046, .iadd, 1), (1047, .iaload, 1), (1048, .aload_n 0, 1), (1049, .iload_n 3, 1), (1050, .iconst 2, 1), (1051, .iadd, 1), (1052, .iaload, 1), (1053, .invokevirtual 127, 3)] (by decide +kernel)
theorem d_law_1034 : decode code 1034 = .ok (.iaload, 1) := dg_law_672.1
theorem d_law_1035 : decode code 1035 = .ok (.invokevirtual 126, 3) := dg_law_672.2.1
theorem d_law_1038 : decode code 1038 = .ok (.pop, 1) := dg_law_672.2.2.1
theorem d_law_1039 : decode code 1039 = .ok (.goto 335, 3) := dg_law_672.2.2.2.1
theorem d_law_1042 : decode code 1042 = .ok (.aload_n 1, 1) := dg_law_672.2.2.2.2.1
theorem d_law_1043 : decode code 1043 = .ok (.aload_n 0, 1) := dg_law_672.2.2.2.2.2.1
theorem d_law_1044 : decode code 1044 = .ok (.iload_n 3, 1) := dg_law_672.2.2.2.2.2.2.1
theorem d_law_1045 : decode code 1045 = .ok (.iconst 1, 1) := dg_law_672.2.2.2.2.2.2.2.1
theorem d_law_1046 : decode code 1046 = .ok (.iadd, 1) := dg_law_672.2.2.2.2.2.2.2.2.1
theorem d_law_1047 : decode code 1047 = .ok (.iaload, 1) := dg_law_672.2.2.2.2.2.2.2.2.2.1
theorem d_law_1048 : decode code 1048 = .ok (.aload_n 0, 1) := dg_law_672.2.2.2.2.2.2.2.2.2.2.1
theorem d_law_1049 : decode code 1049 = .ok (.iload_n 3, 1) := dg_law_672.2.2.2.2.2.2.2.2.2.2.2.1
theorem d_law_1050 : decode code 1050 = .ok (.iconst 2, 1) := dg_law_672.2.2.2.2.2.2.2.2.2.2.2.2.1
theorem d_law_1051 : decode code 1051 = .ok (.iadd, 1) := dg_law_672.2.2.2.2.2.2.2.2.2.2.2.2.2.1
theorem d_law_1052 : decode code 1052 = .ok (.iaload, 1) := dg_law_672.2.2.2.2.2.2.2.2.2.2.2.2.2.2.1
theorem d_law_1053 : decode code 1053 = .ok (.invokevirtual 127, 3) := dg_law_672.2.2.2.2.2.2.2.2.2.2.2.2.2.2.2.1
theorem dg_law_688 : (decode code 1056 = .ok (.pop, 1)) ∧ (decode code 1057 = .ok (.aload_n 2, 1)) ∧ (decode code 1058 = .ok (.aload_n 0, 1)) ∧ (decode code 1059 = .ok (.iload_n 3, 1)) ∧ (decode code 1060 = .ok (.iconst 1, 1)) ∧ (decode code 1061 = .ok (.iadd, 1)) ∧ (decode code 1062 = .ok (.iaload, 1)) ∧ (decode code 1063 = .ok (.aload_n 0, 1)) ∧ (decode code 1064 = .ok (.iload_n 3, 1)) ∧ (decode code 1065 = .ok (.iconst 2, 1)) ∧ (decode code 1066 = .ok (.iadd, 1)) ∧ (decode code 1067 = .ok (.iaload, 1)) ∧ (decode code 1068 = .ok (.invokevirtual 130, 3)) ∧ (decode code 1071 = .ok (.pop, 1)) ∧ (decode code 1072 = .ok (.goto 302, 3)) ∧ (decode code 1075 = .ok (.aload_n 1, 1)) ∧ True := fd_of (cc := code) [(1056, .pop, 1), (1057, .aload_n 2, 1), (1058, .aload_n 0, 1), (1059, .iload_n 3, 1), (1060, .iconst 1, 1), (1061, .iadd, 1), (1062, .iaload, 1), (1063, .aload_n 0, 1), (1064, .iload_n 3, 1), (1065, .iconst 2, 1), (1066, .iadd, 1), (1067, .iaload, 1), (1068, .invokevirtual 130, 3), (1071, .pop, 1), (1072, .goto 302, 3), (1075, .aload_n 1, 1)] (by decide +kernel)
theorem d_law_1056 : decode code 1056 = .ok (.pop, 1) := dg_law_688.1
theorem d_law_1057 : decode code 1057 = .ok (.aload_n 2, 1) := dg_law_688.2.1
theorem d_law_1058 : decode code 1058 = .ok (.aload_n 0, 1) := dg_law_688.2.2.1
theorem d_law_1059 : decode code 1059 = .ok (.iload_n 3, 1) := dg_law_688.2.2.2.1
theorem d_law_1060 : decode code 1060 = .ok (.iconst 1, 1) := dg_law_688.2.2.2.2.1
theorem d_law_1061 : decode code 1061 = .ok (.iadd, 1) := dg_law_688.2.2.2.2.2.1
theorem d_law_1062 : decode code 1062 = .ok (.iaload, 1) := dg_law_688.2.2.2.2.2.2.1
theorem d_law_1063 : decode code 1063 = .ok (.aload_n 0, 1) := dg_law_688.2.2.2.2.2.2.2.1
theorem d_law_1064 : decode code 1064 = .ok (.iload_n 3, 1) := dg_law_688.2.2.2.2.2.2.2.2.1
theorem d_law_1065 : decode code 1065 = .ok (.iconst 2, 1) := dg_law_688.2.2.2.2.2.2.2.2.2.1
theorem d_law_1066 : decode code 1066 = .ok (.iadd, 1) := dg_law_688.2.2.2.2.2.2.2.2.2.2.1
theorem d_law_1067 : decode code 1067 = .ok (.iaload, 1) := dg_law_688.2.2.2.2.2.2.2.2.2.2.2.1
theorem d_law_1068 : decode code 1068 = .ok (.invokevirtual 130, 3) := dg_law_688.2.2.2.2.2.2.2.2.2.2.2.2.1
theorem d_law_1071 : decode code 1071 = .ok (.pop, 1) := dg_law_688.2.2.2.2.2.2.2.2.2.2.2.2.2.1
theorem d_law_1072 : decode code 1072 = .ok (.goto 302, 3) := dg_law_688.2.2.2.2.2.2.2.2.2.2.2.2.2.2.1
theorem d_law_1075 : decode code 1075 = .ok (.aload_n 1, 1) := dg_law_688.2.2.2.2.2.2.2.2.2.2.2.2.2.2.2.1
theorem dg_law_704 : (decode code 1076 = .ok (.invokevirtual 131, 3)) ∧ (decode code 1079 = .ok (.pop, 1)) ∧ (decode code 1080 = .ok (.aload_n 2, 1)) ∧ (decode code 1081 = .ok (.invokevirtual 134, 3)) ∧ (decode code 1084 = .ok (.pop, 1)) ∧ (decode code 1085 = .ok (.goto 289, 3)) ∧ (decode code 1088 = .ok (.aload_n 1, 1)) ∧ (decode code 1089 = .ok (.invokevirtual 135, 3)) ∧ (decode code 1092 = .ok (.pop, 1)) ∧ (decode code 1093 = .ok (.aload_n 2, 1)) ∧ (decode code 1094 = .ok (.invokevirtual 138, 3)) ∧ (decode code 1097 = .ok (.pop, 1)) ∧ (decode code 1098 = .ok (.goto 276, 3)) ∧ (decode code 1101 = .ok (.aload_n 1, 1)) ∧ (decode code 1102 = .ok (.invokevirtual 139, 3)) ∧ (decode code 1105 = .ok (.pop2, 1)) ∧ True := fd_of (cc := code) [(1076, .invokevirtual 131, 3), (1079, .pop, 1), (1080, .aload_n 2, 1), (1081, .invokevirtual 134, 3), (1084, .pop, 1), (1085, .goto 289, 3), (1088, .aload_n 1, 1), (1089, .invokevirtual 135, 3), (1092, .pop, 1), (1093, .aload_n 2, 1), (1094, .invokevirtual 138, 3), (1097, .pop, 1), (1098, .goto 276, 3), (1101, .aload_n 1, 1), (1102, .invokevirtual 139, 3), (1105, .pop2, 1)] (by decide +kernel)
theorem d_law_1076 : decode code 1076 = .ok (.invokevirtual 131, 3) := dg_law_704.1
theorem d_law_1079 : decode code 1079 = .ok (.pop, 1) := dg_law_704.2.1
theorem d_law_1080 : decode code 1080 = .ok (.aload_n 2, 1) := dg_law_704.2.2.1
theorem d_law_1081 : decode code 1081 = .ok (.invokevirtual 134, 3) := dg_law_704.2.2.2.1
theorem d_law_1084 : decode code 1084 = .ok (.pop, 1) := dg_law_704.2.2.2.2.1
theorem d_law_1085 : decode code 1085 = .ok (.goto 289, 3) := dg_law_704.2.2.2.2.2.1
theorem d_law_1088 : decode code 1088 = .ok (.aload_n 1, 1) := dg_law_704.2.2.2.2.2.2.1
theorem d_law_1089 : decode code 1089 = .ok (.invokevirtual 135, 3) := dg_law_704.2.2.2.2.2.2.2.1
theorem d_law_1092 : decode code 1092 = .ok (.pop, 1) := dg_law_704.2.2.2.2.2.2.2.2.1
theorem d_law_1093 : decode code 1093 = .ok (.aload_n 2, 1) := dg_law_704.2.2.2.2.2.2.2.2.2.1
theorem d_law_1094 : decode code 1094 = .ok (.invokevirtual 138, 3) := dg_law_704.2.2.2.2.2.2.2.2.2.2.1
theorem d_law_1097 : decode code 1097 = .ok (.pop, 1) := dg_law_704.2.2.2.2.2.2.2.2.2.2.2.1
theorem d_law_1098 : decode code 1098 = .ok (.goto 276, 3) := dg_law_704.2.2.2.2.2.2.2.2.2.2.2.2.1
theorem d_law_1101 : decode code 1101 = .ok (.aload_n 1, 1) := dg_law_704.2.2.2.2.2.2.2.2.2.2.2.2.2.1
theorem d_law_1102 : decode code 1102 = .ok (.invokevirtual 139, 3) := dg_law_704.2.2.2.2.2.2.2.2.2.2.2.2.2.2.1
theorem d_law_1105 : decode code 1105 = .ok (.pop2, 1) := dg_law_704.2.2.2.2.2.2.2.2.2.2.2.2.2.2.2.1
theorem dg_law_720 : (decode code 1106 = .ok (.aload_n 2, 1)) ∧ (decode code 1107 = .ok (.invokevirtual 142, 3)) ∧ (decode code 1110 = .ok (.pop2, 1)) ∧ (decode code 1111 = .ok (.goto 263, 3)) ∧ (decode code 1114 = .ok (.aload_n 1, 1)) ∧ (decode code 1115 = .ok (.aload_n 0, 1)) ∧ (decode code 1116 = .ok (.iload_n 3, 1)) ∧ (decode code 1117 = .ok (.iconst 1, 1)) ∧ (decode code 1118 = .ok (.iadd, 1)) ∧ (decode code 1119 = .ok (.iaload, 1)) ∧ (decode code 1120 = .ok (.invokevirtual 143, 3)) ∧ (decode code 1123 = .ok (.pop, 1)) ∧ (decode code 1124 = .ok (.aload_n 2, 1)) ∧ (decode code 1125 = .ok (.aload_n 0, 1)) ∧ (decode code 1126 = .ok (.iload_n 3, 1)) ∧ (decode code 1127 = .ok (.iconst 1, 1)) ∧ True := fd_of (cc := code) [(1106, .aload_n 2, 1), (1107, .invokevirtual 142, 3), (1110, .pop2, 1), (1111, .goto 263, 3), (1114, .aload_n 1, 1), (1115, .aload_n 0, 1), (1116, .iload_n 3, 1), (1117, .iconst 1, 1), (1118, .iadd, 1), (1119, .iaload, 1), (1120, .invokevirtual 143, 3), (1123, .pop, 1), (1124, .aload_n 2, 1), (1125, .aload_n 0, 1), (1126, .iload_n 3, 1), (1127, .iconst 1, 1)] (by decide +kernel)
theorem d_law_1106 : decode code 1106 = .ok (.aload_n 2, 1) := dg_law_720.1
theorem d_law_1107 : decode code 1107 = .ok (.invokevirtual 142, 3) := dg_law_720.2.1
theorem d_law_1110 : decode code 1110 = .ok (.pop2, 1) := dg_law_720.2.2.1
theorem d_law_1111 : decode code 1111 = .ok (.goto 263, 3) := dg_law_720.2.2.2.1
theorem d_law_1114 : decode code 1114 = .ok (.aload_n 1, 1) := dg_law_720.2.2.2.2.1
theorem d_law_1115 : decode code 1115 = .ok (.aload_n 0, 1) := dg_law_720.2.2.2.2.2.1
theorem d_law_1116 : decode code 1116 = .ok (.iload_n 3, 1) := dg_law_720.2.2.2.2.2.2.1
theorem d_law_1117 : decode code 1117 = .ok (.iconst 1, 1) := dg_law_720.2.2.2.2.2.2.2.1
theorem d_law_1118 : decode code 1118 = .ok (.iadd, 1) := dg_law_720.2.2.2.2.2.2.2.2.1
theorem d_law_1119 : decode code 1119 = .ok (.iaload, 1) := dg_law_720.2.2.2.2.2.2.2.2.2.1
theorem d_law_1120 : decode code 1120 = .ok (.invokevirtual 143, 3) := dg_law_720.2.2.2.2.2.2.2.2.2.2.1
theorem d_law_1123 : decode code 1123 = .ok (.pop, 1) := dg_law_720.2.2.2.2.2.2.2.2.2.2.2.1
theorem d_law_1124 : decode code 1124 = .ok (.aload_n 2, 1) := dg_law_720.2.2.2.2.2.2.2.2.2.2.2.2.1
theorem d_law_1125 : decode code 1125 = .ok (.aload_n 0, 1) := dg_law_720.2.2.2.2.2.2.2.2.2.2.2.2.2.1
theorem d_law_1126 : decode code 1126 = .ok (.iload_n 3, 1) := dg_law_720.2.2.2.2.2.2.2.2.2.2.2.2.2.2.1
theorem d_law_1127 : decode code 1127 = .ok (.iconst 1, 1) := dg_law_720.2.2.2.2.2.2.2.2.2.2.2.2.2.2.2.1
theorem dg_law_736 : (decode code 1128 = .ok (.iadd, 1)) ∧ (decode code 1129 = .ok (.iaload, 1)) ∧ (decode code 1130 = .ok (.invokevirtual 146, 3)) ∧ (decode code 1133 = .ok (.pop, 1)) ∧ (decode code 1134 = .ok (.goto 240, 3)) ∧ (decode code 1137 = .ok (.aload_n 1, 1)) ∧ (decode code 1138 = .ok (.invokevirtual 147, 3)) ∧ (decode code 1141 = .ok (.pop, 1)) ∧ (decode code 1142 = .ok (.aload_n 2, 1)) ∧ (decode code 1143 = .ok (.invokevirtual 150, 3)) ∧ (decode code 1146 = .ok (.pop, 1)) ∧ (decode code 1147 = .ok (.goto 227, 3)) ∧ (decode code 1150 = .ok (.aload_n 1, 1)) ∧ (decode code 1151 = .ok (.aload_n 0, 1)) ∧ (decode code 1152 = .ok (.iload_n 3, 1)) ∧ (decode code 1153 = .ok (.iconst 1, 1)) ∧ True := fd_of (cc := code) [(1128, .iadd, 1), (1129, .iaload, 1), (1130, .invokevirtual 146, 3), (1133, .pop, 1), (1134, .goto 240, 3), (1137, .aload_n 1, 1), (1138, .invokevirtual 147, 3), (1141, .pop, 1), (1142, .aload_n 2, 1), (1143, .invokevirtual 150, 3), (1146, .pop, 1), (1147, .goto 227, 3), (1150, .aload_n 1, 1), (1151, .aload_n 0, 1), (1152, .iload_n 3, 1), (1153, .iconst 1, 1)] (by decide +kernel)
theorem d_law_1128 : decode code 1128 = .ok (.iadd, 1) := dg_law_736.1
theorem d_law_1129 : decode code 1129 = .ok (.iaload, 1) := dg_law_736.2.1
theorem d_law_1130 : decode code 1130 = .ok (.invokevirtual 146, 3) := dg_law_736.2.2.1
theorem d_law_1133 : decode code 1133 = .ok (.pop, 1) := dg_law_736.2.2.2.1
theorem d_law_1134 : decode code 1134 = .ok (.goto 240, 3) := dg_law_736.2.2.2.2.1
theorem d_law_1137 : decode code 1137 = .ok (.aload_n 1, 1) := dg_law_736.2.2.2.2.2.1
theorem d_law_1138 : decode code 1138 = .ok (.invokevirtual 147, 3) := dg_law_736.2.2.2.2.2.2.1
theorem d_law_1141 : decode code 1141 = .ok (.pop, 1) := dg_law_736.2.2.2.2.2.2.2.1
theorem d_law_1142 : decode code 1142 = .ok (.aload_n 2, 1) := dg_law_736.2.2.2.2.2.2.2.2.1
theorem d_law_1143 : decode code 1143 = .ok (.invokevirtual 150, 3) := dg_law_736.2.2.2.2.2.2.2.2.2.1
theorem d_law_1146 : decode code 1146 = .ok (.pop, 1) := dg_law_736.2.2.2.2.2.2.2.2.2.2.1
theorem d_law_1147 : decode code 1147 = .ok (.goto 227, 3) := dg_law_736.2.2.2.2.2.2.2.2.2.2.2.1
theorem d_law_1150 : decode code 1150 = .ok (.aload_n 1, 1) := dg_law_736.2.2.2.2.2.2.2.2.2.2.2.2.1
theorem d_law_1151 : decode code 1151 = .ok (.aload_n 0, 1) := dg_law_736.2.2.2.2.2.2.2.2.2.2.2.2.2.1
theorem d_law_1152 : decode code 1152 = .ok (.iload_n 3, 1) := dg_law_736.2.2.2.2.2.2.2.2.2.2.2.2.2.2.1
theorem d_law_1153 : decode code 1153 = .ok (.iconst 1, 1) := dg_law_736.2.2.2.2.2.2.2.2.2.2.2.2.2.2.2.1
theorem dg_law_752 : (decode code 1154 = .ok (.iadd, 1)) ∧ (decode code 1155 = .ok (.iaload, 1)) ∧ (decode code 1156 = .ok (.invokevirtual 151, 3)) ∧ (decode code 1159 = .ok (.pop, 1)) ∧ (decode code 1160 = .ok (.aload_n 2, 1)) ∧ (decode code 1161 = .ok (.aload_n 0, 1)) ∧ (decode code 1162 = .ok (.iload_n 3, 1)) ∧ (decode code 1163 = .ok (.iconst 1, 1)) ∧ (decode code 1164 = .ok (.iadd, 1)) ∧ (decode code 1165 = .ok (.iaload, 1)) ∧ (decode code 1166 = .ok (.invokevirtual 154, 3)) ∧ (decode code 1169 = .ok (.pop, 1)) ∧ (decode code 1170 = .ok (.goto 204, 3)) ∧ (decode code 1173 = .ok (.aload_n 1, 1)) ∧ (decode code 1174 = .ok (.aload_n 0, 1)) ∧ (decode code 1175 = .ok (.iload_n 3, 1)) ∧ True := fd_of (cc := code) [(1154, .iadd, 1), (1155, .iaload, 1), (1156, .invokevirtual 151, 3), (1159, .pop, 1), (1160, .aload_n 2, 1), (1161, .aload_n 0, 1), (1162, .iload_n 3, 1), (1163, .iconst 1, 1), (1164, .iadd, 1), (1165, .iaload, 1), (1166, .invokevirtual 154, 3), (1169, .pop, 1), (1170, .goto 204, 3), (1173, .aload_n 1, 1), (1174, .aload_n 0, 1), (1175, .iload_n 3, 1)] (by decide +kernel)
theorem d_law_1154 : decode code 1154 = .ok (.iadd, 1) := dg_law_752.1
theorem d_law_1155 : decode code 1155 = .ok (.iaload, 1) := dg_law_752.2.1
theorem d_law_1156 : decode code 1156 = .ok (.invokevirtual 151, 3) := dg_law_752.2.2.1
theorem d_law_1159 : decode code 1159 = .ok (.pop, 1) := dg_law_752.2.2.2.1
theorem d_law_1160 : decode code 1160 = .ok (.aload_n 2, 1) := dg_law_752.2.2.2.2.1
theorem d_law_1161 : decode code 1161 = .ok (.aload_n 0, 1) := dg_law_752.2.2.2.2.2.1
theorem d_law_1162 : decode code 1162 = .ok (.iload_n 3, 1) := dg_law_752.2.2.2.2.2.2.1
theorem d_law_1163 : decode code 1163 = .ok (.iconst 1, 1) := dg_law_752.2.2.2.2.2.2.2.1
theorem d_law_1164 : decode code 1164 = .ok (.iadd, 1) := dg_law_752.2.2.2.2.2.2.2.2.1
theorem d_law_1165 : decode code 1165 = .ok (.iaload, 1) := dg_law_752.2.2.2.2.2.2.2.2.2.1
theorem d_law_1166 : decode code 1166 = .ok (.invokevirtual 154, 3) := dg_law_752.2.2.2.2.2.2.2.2.2.2.1
theorem d_law_1169 : decode code 1169 = .ok (.pop, 1) := dg_law_752.2.2.2.2.2.2.2.2.2.2.2.1
theorem d_law_1170 : decode code 1170 = .ok (.goto 204, 3) := dg_law_752.2.2.2.2.2.2.2.2.2.2.2.2.1
theorem d_law_1173 : decode code 1173 = .ok (.aload_n 1, 1) := dg_law_752.2.2.2.2.2.2.2.2.2.2.2.2.2.1
theorem d_law_1174 : decode code 1174 = .ok (.aload_n 0, 1) := dg_law_752.2.2.2.2.2.2.2.2.2.2.2.2.2.2.1
theorem d_law_1175 : decode code 1175 = .ok (.iload_n 3, 1) := dg_law_752.2.2.2.2.2.2.2.2.2.2.2.2.2.2.2.1
theorem dg_law_768 : (decode code 1176 = .ok (.iconst 1, 1)) ∧ (decode code 1177 = .ok (.iadd, 1)) ∧ (decode code 1178 = .ok (.iaload, 1)) ∧ (decode code 1179 = .ok (.aload_n 0, 1)) ∧ (decode code 1180 = .ok (.iload_n 3, 1)) ∧ (decode code 1181 = .ok (.iconst 2, 1)) ∧ (decode code 1182 = .ok (.iadd, 1)) ∧ (decode code 1183 = .ok (.iaload, 1)) ∧ (decode code 1184 = .ok (.aload_n 0, 1)) ∧ (decode code 1185 = .ok (.iload_n 3, 1)) ∧ (decode code 1186 = .ok (.iconst 3, 1)) ∧ (decode code 1187 = .ok (.iadd, 1)) ∧ (decode code 1188 = .ok (.iaload, 1)) ∧ (decode code 1189 = .ok (.aload_n 0, 1)) ∧ (decode code 1190 = .ok (.iload_n 3, 1)) ∧ (decode code 1191 = .ok (.iconst 4, 1)) ∧ True := fd_of (cc := code) [(1176, .iconst 1, 1), (1177, .iadd, 1), (1178, .iaload, 1), (1179, .aload_n 0, 1), (1180, .iload_n 3, 1), (1181, .iconst 2, 1), (1182, .iadd, 1), (1183, .iaload, 1), (1184, .aload_n 0, 1), (1185, .iload_n 3, 1), (1186, .iconst 3, 1), (1187, .iadd, 1), (1188, .iaload, 1), (1189, .aload_n 0, 1), (1190, .iload_n 3, 1), (1191, .iconst 4, 1)] (by decide +kernel)
theorem d_law_1176 : decode code 1176 = .ok (.iconst 1, 1) := dg_law_768.1
theorem d_law_1177 : decode code 1177 = .ok (.iadd, 1) := dg_law_768.2.1
theorem d_law_1178 : decode code 1178 = .ok (.iaload, 1) := dg_law_768.2.2.1
theorem d_law_1179 : decode code 1179 = .ok (.aload_n 0, 1) := dg_law_768.2.2.2.1
theorem d_law_1180 : decode code 1180 = .ok (.iload_n 3, 1) := dg_law_768.2.2.2.2.1
theorem d_law_1181 : decode code 1181 = .ok (.iconst 2, 1) := dg_law_768.2.2.2.2.2.1
theorem d_law_1182 : decode code 1182 = .ok (.iadd, 1) := dg_law_768.2.2.2.2.2.2.1
theorem d_law_1183 : decode code 1183 = .ok (.iaload, 1) := dg_law_768.2.2.2.2.2.2.2.1
theorem d_law_1184 : decode code 1184 = .ok (.aload_n 0, 1) := dg_law_768.2.2.2.2.2.2.2.2.1
theorem d_law_1185 : decode code 1185 = .ok (.iload_n 3, 1) := dg_law_768.2.2.2.2.2.2.2.2.2.1
theorem d_law_1186 : decode code 1186 = .ok (.iconst 3, 1) := dg_law_768.2.2.2.2.2.2.2.2.2.2.1
theorem d_law_1187 : decode code 1187 = .ok (.iadd, 1) := dg_law_768.2.2.2.2.2.2.2.2.2.2.2.1
theorem d_law_1188 : decode code 1188 = .ok (.iaload, 1) := dg_law_768.2.2.2.2.2.2.2.2.2.2.2.2.1
theorem d_law_1189 : decode code 1189 = .ok (.aload_n 0, 1) := dg_law_768.2.2.2.2.2.2.2.2.2.2.2.2.2.1
theorem d_law_1190 : decode code 1190 = .ok (.iload_n 3, 1) := dg_law_768.2.2.2.2.2.2.2.2.2.2.2.2.2.2.1
theorem d_law_1191 : decode code 1191 = .ok (.iconst 4, 1) := dg_law_768.2.2.2.2.2.2.2.2.2.2.2.2.2.2.2.1
theorem dg_law_784 : (decode code 1192 = .ok (.iadd, 1)) ∧ (decode code 1193 = .ok (.iaload, 1)) ∧ (decode code 1194 = .ok (.aload_n 0, 1)) ∧ (decode code 1195 = .ok (.iload_n 3, 1)) ∧ (decode code 1196 = .ok (.iconst 5, 1)) ∧ (decode code 1197 = .ok (.iadd, 1)) ∧ (decode code 1198 = .ok (.iaload, 1)) ∧ (decode code 1199 = .ok (.invokevirtual 155, 3)) ∧ (decode code 1202 = .ok (.pop, 1)) ∧ (decode code 1203 = .ok (.aload_n 2, 1)) ∧ (decode code 1204 = .ok (.aload_n 0, 1)) ∧ (decode code 1205 = .ok (.iload_n 3, 1)) ∧ (decode code 1206 = .ok (.iconst 1, 1)) ∧ (decode code 1207 = .ok (.iadd, 1)) ∧ (decode code 1208 = .ok (.iaload, 1)) ∧ (decode code 1209 = .ok (.aload_n 0, 1)) ∧ True := fd_of (cc := code) [(1192, .iadd, 1), (1193, .iaload, 1), (1194, .aload_n 0, 1), (1195, .iload_n 3, 1), (1196, .iconst 5, 1), (1197, .iadd, 1), (1198, .iaload, 1), (1199, .invokevirtual 155, 3), (1202, .pop, 1), (1203, .aload_n 2, 1), (1204, .aload_n 0, 1), (1205, .iload_n 3, 1), (1206, .iconst 1, 1), (1207, .iadd, 1), (1208, .iaload, 1), (1209, .aload_n 0, 1)] (by decide +kernel)
theorem d_law_1192 : decode code 1192 = .ok (.iadd, 1) := dg_law_784.1
theorem d_law_1193 : decode code 1193 = .ok (.iaload, 1) := dg_law_784.2.1
theorem d_law_1194 : decode code 1194 = .ok (.aload_n 0, 1) := dg_law_784.2.2.1
theorem d_law_1195 : decode code 1195 = .ok (.iload_n 3, 1) := dg_law_784.2.2.2.1
theorem d_law_1196 : decode code 1196 = .ok (.iconst 5, 1) := dg_law_784.2.2.2.2.1
theorem d_law_1197 : decode code 1197 = .ok (.iadd, 1) := dg_law_784.2.2.2.2.2.1
theorem d_law_1198 : decode code 1198 = .ok (.iaload, 1) := dg_law_784.2.2.2.2.2.2.1
theorem d_law_1199 : decode code 1199 = .ok (.invokevirtual 155, 3) := dg_law_784.2.2.2.2.2.2.2.1
theorem d_law_1202 : decode code 1202 = .ok (.pop, 1) := dg_law_784.2.2.2.2.2.2.2.2.1
theorem d_law_1203 : decode code 1203 = .ok (.aload_n 2, 1) := dg_law_784.2.2.2.2.2.2.2.2.2.1
theorem d_law_1204 : decode code 1204 = .ok (.aload_n 0, 1) := dg_law_784.2.2.2.2.2.2.2.2.2.2.1
theorem d_law_1205 : decode code 1205 = .ok (.iload_n 3, 1) := dg_law_784.2.2.2.2.2.2.2.2.2.2.2.1
theorem d_law_1206 : decode code 1206 = .ok (.iconst 1, 1) := dg_law_784.2.2.2.2.2.2.2.2.2.2.2.2.1
theorem d_law_1207 : decode code 1207 = .ok (.iadd, 1) := dg_law_784.2.2.2.2.2.2.2.2.2.2.2.2.2.1
theorem d_law_1208 : decode code 1208 = .ok (.iaload, 1) := dg_law_784.2.2.2.2.2.2.2.2.2.2.2.2.2.2.1
theorem d_law_1209 : decode code 1209 = .ok (.aload_n 0, 1) := dg_law_784.2.2.2.2.2.2.2.2.2.2.2.2.2.2.2.1
theorem dg_law_800 : (decode code 1210 = .ok (.iload_n 3, 1)) ∧ (decode code 1211 = .ok (.iconst 2, 1)) ∧ (decode code 1212 = .ok (.iadd, 1)) ∧ (decode code 1213 = .ok (.iaload, 1)) ∧ (decode code 1214 = .ok (.aload_n 0, 1)) ∧ (decode code 1215 = .ok (.iload_n 3, 1)) ∧ (decode code 1216 = .ok (.iconst 3, 1)) ∧ (decode code 1217 = .ok (.iadd, 1)) ∧ (decode code 1218 = .ok (.iaload, 1)) ∧ (decode code 1219 = .ok (.aload_n 0, 1)) ∧ (decode code 1220 = .ok (.iload_n 3, 1)) ∧ (decode code 1221 = .ok (.iconst 4, 1)) ∧ (decode code 1222 = .ok (.iadd, 1)) ∧ (decode code 1223 = .ok (.iaload, 1)) ∧ (decode code 1224 = .ok (.aload_n 0, 1)) ∧ (decode code 1225 = .ok (.iload_n 3, 1)) ∧ True := fd_of (cc := code) [(1210, .iload_n 3, 1), (1211, .iconst 2, 1), (1212, .iadd, 1), (1213, .iaload, 1), (1214, .aload_n 0, 1), (1215, .iload_n 3, 1), (1216, .iconst 3, 1), (1217, .iadd, 1), (1218, .iaload, 1), (1219, .aload_n 0, 1), (1220, .iload_n 3, 1), (1221, .iconst 4, 1), (1222, .iadd, 1), (1223, .iaload, 1), (1224, .aload_n 0, 1), (1225, .iload_n 3, 1)] (by decide +kernel)
theorem d_law_1210 : decode code 1210 = .ok (.iload_n 3, 1) := dg_law_800.1
theorem d_law_1211 : decode code 1211 = .ok (.iconst 2, 1) := dg_law_800.2.1
theorem d_law_1212 : decode code 1212 = .ok (.iadd, 1) := dg_law_800.2.2.1
theorem d_law_1213 : decode code 1213 = .ok (.iaload, 1) := dg_law_800.2.2.2.1
theorem d_law_1214 : decode code 1214 = .ok (.aload_n 0, 1) := dg_law_800.2.2.2.2.1
theorem d_law_1215 : decode code 1215 = .ok (.iload_n 3, 1) := dg_law_800.2.2.2.2.2.1
theorem d_law_1216 : decode code 1216 = .ok (.iconst 3, 1) := dg_law_800.2.2.2.2.2.2.1
theorem d_law_1217 : decode code 1217 = .ok (.iadd, 1) := dg_law_800.2.2.2.2.2.2.2.1
theorem d_law_1218 : decode code 1218 = .ok (.iaload, 1) := dg_law_800.2.2.2.2.2.2.2.2.1
theorem d_law_1219 : decode code 1219 = .ok (.aload_n 0, 1) := dg_law_800.2.2.2.2.2.2.2.2.2.1
theorem d_law_1220 : decode code 1220 = .ok (.iload_n 3, 1) := dg_law_800.2.2.2.2.2.2.2.2.2.2.1
theorem d_law_1221 : decode code 1221 = .ok (.iconst 4, 1) := dg_law_800.2.2.2.2.2.2.2.2.2.2.2.1
theorem d_law_1222 : decode code 1222 = .ok (.iadd, 1) := dg_law_800.2.2.2.2.2.2.2.2.2.2.2.2.1
theorem d_law_1223 : decode code 1223 = .ok (.iaload, 1) := dg_law_800.2.2.2.2.2.2.2.2.2.2.2.2.2.1
theorem d_law_1224 : decode code 1224 = .ok (.aload_n 0, 1) := dg_law_800.2.2.2.2.2.2.2.2.2.2.2.2.2.2.1
theorem d_law_1225 : decode code 1225 = .ok (.iload_n 3, 1) := dg_law_800.2.2.2.2.2.2.2.2.2.2.2.2.2.2.2.1
theorem dg_law_816 : (decode code 1226 = .ok (.iconst 5, 1)) ∧ (decode code 1227 = .ok (.iadd, 1)) ∧ (decode code 1228 = .ok (.iaload, 1)) ∧ (decode code 1229 = .ok (.invokevirtual 159, 3)) ∧ (decode code 1232 = .ok (.pop, 1)) ∧ (decode code 1233 = .ok (.goto 141, 3)) ∧ (decode code 1236 = .ok (.aload_n 1, 1)) ∧ (decode code 1237 = .ok (.aload_n 0, 1)) ∧ (decode code 1238 = .ok (.iload_n 3, 1)) ∧ (decode code 1239 = .ok (.iconst 1, 1)) ∧ (decode code 1240 = .ok (.iadd, 1)) ∧ (decode code 1241 = .ok (.iaload, 1)) ∧ (decode code 1242 = .ok (.aload_n 0, 1)) ∧ (decode code 1243 = .ok (.iload_n 3, 1)) ∧ (decode code 1244 = .ok (.iconst 2, 1)) ∧ (decode code 1245 = .ok (.iadd, 1)) ∧ True := fd_of (cc := code) [(1226, .iconst 5, 1), (1227, .iadd, 1), (1228, .iaload, 1), (1229, .invokevirtual 159, 3), (1232, .pop, 1), (1233, .goto 141, 3), (1236, .aload_n 1, 1), (1237, .aload_n 0, 1), (1238, .iload_n 3, 1), (1239, .iconst 1, 1), (1240, .iadd, 1), (1241, .iaload, 1), (1242, .aload_n 0, 1), (1243, .iload_n 3, 1), (1244, .iconst 2, 1), (1245, .iadd, 1)] (by decide +kernel)
theorem d_law_1226 : decode code 1226 = .ok (.iconst 5, 1) := dg_law_816.1
theorem d_law_1227 : decode code 1227 = .ok (.iadd, 1) := dg_law_816.2.1
theorem d_law_1228 : decode code 1228 = .ok (.iaload, 1) := dg_law_816.2.2.1
theorem d_law_1229 : decode code 1229 = .ok (.invokevirtual 159, 3) := dg_law_816.2.2.2.1
theorem d_law_1232 : decode code 1232 = .ok (.pop, 1) := dg_law_816.2.2.2.2.1
theorem d_law_1233 : decode code 1233 = .ok (.goto 141, 3) := dg_law_816.2.2.2.2.2.1
theorem d_law_1236 : decode code 1236 = .ok (.aload_n 1, 1) := dg_law_816.2.2.2.2.2.2.1
theorem d_law_1237 : decode code 1237 = .ok (.aload_n 0, 1) := dg_law_816.2.2.2.2.2.2.2.1
theorem d_law_1238 : decode code 1238 = .ok (.iload_n 3, 1) := dg_law_816.2.2.2.2.2.2.2.2.1
theorem d_law_1239 : decode code 1239 = .ok (.iconst 1, 1) := dg_law_816.2.2.2.2.2.2.2.2.2.1
theorem d_law_1240 : decode code 1240 = .ok (.iadd, 1) := dg_law_816.2.2.2.2.2.2.2.2.2.2.1
theorem d_law_1241 : decode code 1241 = .ok (.iaload, 1) := dg_law_816.2.2.2.2.2.2.2.2.2.2.2.1
theorem d_law_1242 : decode code 1242 = .ok (.aload_n 0, 1) := dg_law_816.2.2.2.2.2.2.2.2.2.2.2.2.1
theorem d_law_1243 : decode code 1243 = .ok (.iload_n 3, 1) := dg_law_816.2.2.2.2.2.2.2.2.2.2.2.2.2.1
theorem d_law_1244 : decode code 1244 = .ok (.iconst 2, 1) := dg_law_816.2.2.2.2.2.2.2.2.2.2.2.2.2.2.1
theorem d_law_1245 : decode code 1245 = .ok (.iadd, 1) := dg_law_816.2.2.2.2.2.2.2.2.2.2.2.2.2.2.2.1
theorem dg_law_832 : (decode code 1246 = .ok (.iaload, 1)) ∧ (decode code 1247 = .ok (.aload_n 0, 1)) ∧ (decode code 1248 = .ok (.iload_n 3, 1)) ∧ (decode code 1249 = .ok (.iconst 3, 1)) ∧ (decode code 1250 = .ok (.iadd, 1)) ∧ (decode code 1251 = .ok (.iaload, 1)) ∧ (decode code 1252 = .ok (.ifCond .eq 7, 3)) ∧ (decode code 1255 = .ok (.iconst 1, 1)) ∧ (decode code 1256 = .ok (.goto 4, 3)) ∧ (decode code 1259 = .ok (.iconst 0, 1)) ∧ (decode code 1260 = .ok (.invokevirtual 160, 3)) ∧ (decode code 1263 = .ok (.pop, 1)) ∧ (decode code 1264 = .ok (.aload_n 2, 1)) ∧ (decode code 1265 = .ok (.aload_n 0, 1)) ∧ (decode code 1266 = .ok (.iload_n 3, 1)) ∧ (decode code 1267 = .ok (.iconst 1, 1)) ∧ True := fd_of (cc := code) [(1246, .iaload, 1), (1247, .aload_n 0, 1), (1248, .iload_n 3, 1), (1249, .iconst 3, 1), (1250, .iadd, 1), (1251, .iaload, 1), (1252, .ifCond .eq 7, 3), (1255, .iconst 1, 1), (1256, .goto 4, 3), (1259, .iconst 0, 1), (1260, .invokevirtual 160, 3), (1263, .pop, 1), (1264, .aload_n 2, 1), (1265, .aload_n 0, 1), (1266, .iload_n 3, 1), (1267, .iconst 1, 1)] (by decide +kernel)
theorem d_law_1246 : decode code 1246 = .ok (.iaload, 1) := dg_law_832.1
theorem d_law_1247 : decode code 1247 = .ok (.aload_n 0, 1) := dg_law_832.2.1
theorem d_law_1248 : decode code 1248 = .ok (.iload_n 3, 1) := dg_law_832.2.2.1
theorem d_law_1249 : decode code 1249 = .ok (.iconst 3, 1) := dg_law_832.2.2.2.1
theorem d_law_1250 : decode code 1250 = .ok (.iadd, 1) := dg_law_832.2.2.2.2.1
theorem d_law_1251 : decode code 1251 = .ok (.iaload, 1) := dg_law_832.2.2.2.2.2.1
theorem d_law_1252 : decode code 1252 = .ok (.ifCond .eq 7, 3) := dg_law_832.2.2.2.2.2.2.1
theorem d_law_1255 : decode code 1255 = .ok (.iconst 1, 1) := dg_law_832.2.2.2.2.2.2.2.1
theorem d_law_1256 : decode code 1256 = .ok (.goto 4, 3) := dg_law_832.2.2.2.2.2.2.2.2.1
theorem d_law_1259 : decode code 1259 = .ok (.iconst 0, 1) := dg_law_832.2.2.2.2.2.2.2.2.2.1
theorem d_law_1260 : decode code 1260 = .ok (.invokevirtual 160, 3) := dg_law_832.2.2.2.2.2.2.2.2.2.2.1
theorem d_law_1263 : decode code 1263 = .ok (.pop, 1) := dg_law_832.2.2.2.2.2.2.2.2.2.2.2.1
theorem d_law_1264 : decode code 1264 = .ok (.aload_n 2, 1) := dg_law_832.2.2.2.2.2.2.2.2.2.2.2.2.1
theorem d_law_1265 : decode code 1265 = .ok (.aload_n 0, 1) := dg_law_832.2.2.2.2.2.2.2.2.2.2.2.2.2.1
theorem d_law_1266 : decode code 1266 = .ok (.iload_n 3, 1) := dg_law_832.2.2.2.2.2.2.2.2.2.2.2.2.2.2.1
theorem d_law_1267 : decode code 1267 = .ok (.iconst 1, 1) := dg_law_832.2.2.2.2.2.2.2.2.2.2.2.2.2.2.2.1
theorem dg_law_848 : (decode code 1268 = .ok (.iadd, 1)) ∧ (decode code 1269 = .ok (.iaload, 1)) ∧ (decode code 1270 = .ok (.aload_n 0, 1)) ∧ (decode code 1271 = .ok (.iload_n 3, 1)) ∧ (decode code 1272 = .ok (.iconst 2, 1)) ∧ (decode code 1273 = .ok (.iadd, 1)) ∧ (decode code 1274 = .ok (.iaload, 1)) ∧ (decode code 1275 = .ok (.aload_n 0, 1)) ∧ (decode code 1276 = .ok (.iload_n 3, 1)) ∧ (decode code 1277 = .ok (.iconst 3, 1)) ∧ (decode code 1278 = .ok (.iadd, 1)) ∧ (decode code 1279 = .ok (.iaload, 1)) ∧ (decode code 1280 = .ok (.ifCond .eq 7, 3)) ∧ (decode code 1283 = .ok (.iconst 1, 1)) ∧ (decode code 1284 = .ok (.goto 4, 3)) ∧ (decode code 1287 = .ok (.iconst 0, 1)) ∧ True := fd_of (cc := code) [(1268, .iadd, 1), (1269, .iaload, 1), (1270, .aload_n 0, 1), (1271, .iload_n 3, 1), (1272, .iconst 2, 1), (1273, .iadd, 1), (1274, .iaload, 1), (1275, .aload_n 0, 1), (1276, .iload_n 3, 1), (1277, .iconst 3, 1), (1278, .iadd, 1), (1279, .iaload, 1), (1280, .ifCond .eq 7, 3), (1283, .iconst 1, 1), (1284, .goto 4, 3), (1287, .iconst 0, 1)] (by decide +kernel)
theorem d_law_1268 : decode code 1268 = .ok (.iadd, 1) := dg_law_848.1
theorem d_law_1269 : decode code 1269 = .ok (.iaload, 1) := dg_law_848.2.1
theorem d_law_1270 : decode code 1270 = .ok (.aload_n 0, 1) := dg_law_848.2.2.1
theorem d_law_1271 : decode code 1271 = .ok (.iload_n 3, 1) := dg_law_848.2.2.2.1
theorem d_law_1272 : decode code 1272 = .ok (.iconst 2, 1) := dg_law_848.2.2.2.2.1
theorem d_law_1273 : decode code 1273 = .ok (.iadd, 1) := dg_law_848.2.2.2.2.2.1
theorem d_law_1274 : decode code 1274 = .ok (.iaload, 1) := dg_law_848.2.2.2.2.2.2.1
theorem d_law_1275 : decode code 1275 = .ok (.aload_n 0, 1) := dg_law_848.2.2.2.2.2.2.2.1
theorem d_law_1276 : decode code 1276 = .ok (.iload_n 3, 1) := dg_law_848.2.2.2.2.2.2.2.2.1
theorem d_law_1277 : decode code 1277 = .ok (.iconst 3, 1) := dg_law_848.2.2.2.2.2.2.2.2.2.1
theorem d_law_1278 : decode code 1278 = .ok (.iadd, 1) := dg_law_848.2.2.2.2.2.2.2.2.2.2.1
theorem d_law_1279 : decode code 1279 = .ok (.iaload, 1) := dg_law_848.2.2.2.2.2.2.2.2.2.2.2.1
theorem d_law_1280 : decode code 1280 = .ok (.ifCond .eq 7, 3) := dg_law_848.2.2.2.2.2.2.2.2.2.2.2.2.1
theorem d_law_1283 : decode code 1283 = .ok (.iconst 1, 1) := dg_law_848.2.2.2.2.2.2.2.2.2.2.2.2.2.1
theorem d_law_1284 : decode code 1284 = .ok (.goto 4, 3) := dg_law_848.2.2.2.2.2.2.2.2.2.2.2.2.2.2.1
theorem d_law_1287 : decode code 1287 = .ok (.iconst 0, 1) := dg_law_848.2.2.2.2.2.2.2.2.2.2.2.2.2.2.2.1
theorem dg_law_864 : (decode code 1288 = .ok (.invokevirtual 164, 3)) ∧ (decode code 1291 = .ok (.pop, 1)) ∧ (decode code 1292 = .ok (.goto 82, 3)) ∧ (decode code 1295 = .ok (.aload_n 1, 1)) ∧ (decode code 1296 = .ok (.aload_n 0, 1)) ∧ (decode code 1297 = .ok (.iload_n 3, 1)) ∧ (decode code 1298 = .ok (.iconst 1, 1)) ∧ (decode code 1299 = .ok (.iadd, 1)) ∧ (decode code 1300 = .ok (.iaload, 1)) ∧ (decode code 1301 = .ok (.invokevirtual 165, 3)) ∧ (decode code 1304 = .ok (.pop, 1)) ∧ (decode code 1305 = .ok (.aload_n 2, 1)) ∧ (decode code 1306 = .ok (.aload_n 0, 1)) ∧ (decode code 1307 = .ok (.iload_n 3, 1)) ∧ (decode code 1308 = .ok (.iconst 1, 1)) ∧ (decode code 1309 = .ok (.iadd, 1)) ∧ True := fd_of (cc := code) [(1288, .invokevirtual 164, 3), (1291, .pop, 1), (1292, .goto 82, 3), (1295, .aload_n 1, 1), (1296, .aload_n 0, 1), (1297, .iload_n 3, 1), (1298, .iconst 1, 1), (1299, .iadd, 1), (1300, .iaload, 1), (1301, .invokevirtual 165, 3), (1304, .pop, 1), (1305, .aload_n 2, 1), (1306, .aload_n 0, 1), (1307, .iload_n 3, 1), (1308, .iconst 1, 1), (1309, .iadd, 1)] (by decide +kernel)
theorem d_law_1288 : decode code 1288 = .ok (.invokevirtual 164, 3) := dg_law_864.1
theorem d_law_1291 : decode code 1291 = .ok (.pop, 1) := dg_law_864.2.1
theorem d_law_1292 : decode code 1292 = .ok (.goto 82, 3) := dg_law_864.2.2.1
theorem d_law_1295 : decode code 1295 = .ok (.aload_n 1, 1) := dg_law_864.2.2.2.1
theorem d_law_1296 : decode code 1296 = .ok (.aload_n 0, 1) := dg_law_864.2.2.2.2.1
theorem d_law_1297 : decode code 1297 = .ok (.iload_n 3, 1) := dg_law_864.2.2.2.2.2.1
theorem d_law_1298 : decode code 1298 = .ok (.iconst 1, 1) := dg_law_864.2.2.2.2.2.2.1
theorem d_law_1299 : decode code 1299 = .ok (.iadd, 1) := dg_law_864.2.2.2.2.2.2.2.1
theorem d_law_1300 : decode code 1300 = .ok (.iaload, 1) := dg_law_864.2.2.2.2.2.2.2.2.1
theorem d_law_1301 : decode code 1301 = .ok (.invokevirtual 165, 3) := dg_law_864.2.2.2.2.2.2.2.2.2.1
theorem d_law_1304 : decode code 1304 = .ok (.pop, 1) := dg_law_864.2.2.2.2.2.2.2.2.2.2.1
theorem d_law_1305 : decode code 1305 = .ok (.aload_n 2, 1) := dg_law_864.2.2.2.2.2.2.2.2.2.2.2.1
theorem d_law_1306 : decode code 1306 = .ok (.aload_n 0, 1) := dg_law_864.2.2.2.2.2.2.2.2.2.2.2.2.1
theorem d_law_1307 : decode code 1307 = .ok (.iload_n 3, 1) := dg_law_864.2.2.2.2.2.2.2.2.2.2.2.2.2.1
theorem d_law_1308 : decode code 1308 = .ok (.iconst 1, 1) := dg_law_864.2.2.2.2.2.2.2.2.2.2.2.2.2.2.1
theorem d_law_1309 : decode code 1309 = .ok (.iadd, 1) := dg_law_864.2.2.2.2.2.2.2.2.2.2.2.2.2.2.2.1
theorem dg_law_880 : (decode code 1310 = .ok (.iaload, 1)) ∧ (decode code 1311 = .ok (.invokevirtual 168, 3)) ∧ (decode code 1314 = .ok (.pop, 1)) ∧ (decode code 1315 = .ok (.goto 59, 3)) ∧ (decode code 1318 = .ok (.aload_n 1, 1)) ∧ (decode code 1319 = .ok (.aload_n 0, 1)) ∧ (decode code 1320 = .ok (.iload_n 3, 1)) ∧ (decode code 1321 = .ok (.iconst 1, 1)) ∧ (decode code 1322 = .ok (.iadd, 1)) ∧ (decode code 1323 = .ok (.iaload, 1)) ∧ (decode code 1324 = .ok (.invokevirtual 169, 3)) ∧ (decode code 1327 = .ok (.pop, 1)) ∧ (decode code 1328 = .ok (.aload_n 2, 1)) ∧ (decode code 1329 = .ok (.aload_n 0, 1)) ∧ (decode code 1330 = .ok (.iload_n 3, 1)) ∧ (decode code 1331 = .ok (.iconst 1, 1)) ∧ True := fd_of (cc := code) [(1310, .iaload, 1), (1311, .invokevirtual 168, 3), (1314, .pop, 1), (1315, .goto 59, 3), (1318, .aload_n 1, 1), (1319, .aload_n 0, 1), (1320, .iload_n 3, 1), (1321, .iconst 1, 1), (1322, .iadd, 1), (1323, .iaload, 1), (1324, .invokevirtual 169, 3), (1327, .pop, 1), (1328, .aload_n 2, 1), (1329, .aload_n 0, 1), (1330, .iload_n 3, 1), (1331, .iconst 1, 1)] (by decide +kernel)
theorem d_law_1310 : decode code 1310 = .ok (.iaload, 1) := dg_law_880.1
theorem d_law_1311 : decode code 1311 = .ok (.invokevirtual 168, 3) := dg_law_880.2.1
theorem d_law_1314 : decode code 1314 = .ok (.pop, 1) := dg_law_880.2.2.1
theorem d_law_1315 : decode code 1315 = .ok (.goto 59, 3) := dg_law_880.2.2.2.1
theorem d_law_1318 : decode code 1318 = .ok (.aload_n 1, 1) := dg_law_880.2.2.2.2.1
theorem d_law_1319 : decode code 1319 = .ok (.aload_n 0, 1) := dg_law_880.2.2.2.2.2.1
theorem d_law_1320 : decode code 1320 = .ok (.iload_n 3, 1) := dg_law_880.2.2.2.2.2.2.1
theorem d_law_1321 : decode code 1321 = .ok (.iconst 1, 1) := dg_law_880.2.2.2.2.2.2.2.1
theorem d_law_1322 : decode code 1322 = .ok (.iadd, 1) := dg_law_880.2.2.2.2.2.2.2.2.1
theorem d_law_1323 : decode code 1323 = .ok (.iaload, 1) := dg_law_880.2.2.2.2.2.2.2.2.2.1
theorem d_law_1324 : decode code 1324 = .ok (.invokevirtual 169, 3) := dg_law_880.2.2.2.2.2.2.2.2.2.2.1
theorem d_law_1327 : decode code 1327 = .ok (.pop, 1) := dg_law_880.2.2.2.2.2.2.2.2.2.2.2.1
theorem d_law_1328 : decode code 1328 = .ok (.aload_n 2, 1) := dg_law_880.2.2.2.2.2.2.2.2.2.2.2.2.1
theorem d_law_1329 : decode code 1329 = .ok (.aload_n 0, 1) := dg_law_880.2.2.2.2.2.2.2.2.2.2.2.2.2.1
theorem d_law_1330 : decode code 1330 = .ok (.iload_n 3, 1) := dg_law_880.2.2.2.2.2.2.2.2.2.2.2.2.2.2.1
theorem d_law_1331 : decode code 1331 = .ok (.iconst 1, 1) := dg_law_880.2.2.2.2.2.2.2.2.2.2.2.2.2.2.2.1
theorem dg_law_896 : (decode code 1332 = .ok (.iadd, 1)) ∧ (decode code 1333 = .ok (.iaload, 1)) ∧ (decode code 1334 = .ok (.invokevirtual 172, 3)) ∧ (decode code 1337 = .ok (.pop, 1)) ∧ (decode code 1338 = .ok (.goto 36, 3)) ∧ (decode code 1341 = .ok (.aload_n 1, 1)) ∧ (decode code 1342 = .ok (.aload_n 0, 1)) ∧ (decode code 1343 = .ok (.iload_n 3, 1)) ∧ (decode code 1344 = .ok (.iconst 1, 1)) ∧ (decode code 1345 = .ok (.iadd, 1)) ∧ (decode code 1346 = .ok (.iaload, 1)) ∧ (decode code 1347 = .ok (.aload_n 0, 1)) ∧ (decode code 1348 = .ok (.iload_n 3, 1)) ∧ (decode code 1349 = .ok (.iconst 2, 1)) ∧ (decode code 1350 = .ok (.iadd, 1)) ∧ (decode code 1351 = .ok (.iaload, 1)) ∧ True := fd_of (cc := code) [(1332, .iadd, 1), (1333, .iaload, 1), (1334, .invokevirtual 172, 3), (1337, .pop, 1), (1338, .goto 36, 3), (1341, .aload_n 1, 1), (1342, .aload_n 0, 1), (1343, .iload_n 3, 1), (1344, .iconst 1, 1), (1345, .iadd, 1), (1346, .iaload, 1), (1347, .aload_n 0, 1), (1348, .iload_n 3, 1), (1349, .iconst 2, 1), (1350, .iadd, 1), (1351, .iaload, 1)] (by decide +kernel)
theorem d_law_1332 : decode code 1332 = .ok (.iadd, 1) := dg_law_896.1
theorem d_law_1333 : decode code 1333 = .ok (.iaload, 1) := dg_law_896.2.1
theorem d_law_1334 : decode code 1334 = .ok (.invokevirtual 172, 3) := dg_law_896.2.2.1
theorem d_law_1337 : decode code 1337 = .ok (.pop, 1) := dg_law_896.2.2.2.1
theorem d_law_1338 : decode code 1338 = .ok (.goto 36, 3) := dg_law_896.2.2.2.2.1
theorem d_law_1341 : decode code 1341 = .ok (.aload_n 1, 1) := dg_law_896.2.2.2.2.2.1
theorem d_law_1342 : decode code 1342 = .ok (.aload_n 0, 1) := dg_law_896.2.2.2.2.2.2.1
theorem d_law_1343 : decode code 1343 = .ok (.iload_n 3, 1) := dg_law_896.2.2.2.2.2.2.2.1
theorem d_law_1344 : decode code 1344 = .ok (.iconst 1, 1) := dg_law_896.2.2.2.2.2.2.2.2.1
theorem d_law_1345 : decode code 1345 = .ok (.iadd, 1) := dg_law_896.2.2.2.2.2.2.2.2.2.1
theorem d_law_1346 : decode code 1346 = .ok (.iaload, 1) := dg_law_896.2.2.2.2.2.2.2.2.2.2.1
theorem d_law_1347 : decode code 1347 = .ok (.aload_n 0, 1) := dg_law_896.2.2.2.2.2.2.2.2.2.2.2.1
theorem d_law_1348 : decode code 1348 = .ok (.iload_n 3, 1) := dg_law_896.2.2.2.2.2.2.2.2.2.2.2.2.1
theorem d_law_1349 : decode code 1349 = .ok (.iconst 2, 1) := dg_law_896.2.2.2.2.2.2.2.2.2.2.2.2.2.1
theorem d_law_1350 : decode code 1350 = .ok (.iadd, 1) := dg_law_896.2.2.2.2.2.2.2.2.2.2.2.2.2.2.1
theorem d_law_1351 : decode code 1351 = .ok (.iaload, 1) := dg_law_896.2.2.2.2.2.2.2.2.2.2.2.2.2.2.2.1
theorem dg_law_912 : (decode code 1352 = .ok (.invokevirtual 173, 3)) ∧ (decode code 1355 = .ok (.aload_n 2, 1)) ∧ (decode code 1356 = .ok (.aload_n 0, 1)) ∧ (decode code 1357 = .ok (.iload_n 3, 1)) ∧ (decode code 1358 = .ok (.iconst 1, 1)) ∧ (decode code 1359 = .ok (.iadd, 1)) ∧ (decode code 1360 = .ok (.iaload, 1)) ∧ (decode code 1361 = .ok (.aload_n 0, 1)) ∧ (decode code 1362 = .ok (.iload_n 3, 1)) ∧ (decode code 1363 = .ok (.iconst 2, 1)) ∧ (decode code 1364 = .ok (.iadd, 1)) ∧ (decode code 1365 = .ok (.iaload, 1)) ∧ (decode code 1366 = .ok (.invokevirtual 176, 3)) ∧ (decode code 1369 = .ok (.if_icmp .eq 5, 3)) ∧ (decode code 1372 = .ok (.iconst 0, 1)) ∧ (decode code 1373 = .ok (.ireturn, 1)) ∧ True := fd_of (cc := code) [(1352, .invokevirtual 173, 3), (1355, .aload_n 2, 1), (1356, .aload_n 0, 1), (1357, .iload_n 3, 1), (1358, .iconst 1, 1), (1359, .iadd, 1), (1360, .iaload, 1), (1361, .aload_n 0, 1), (1362, .iload_n 3, 1), (1363, .iconst 2, 1), (1364, .iadd, 1), (1365, .iaload, 1), (1366, .invokevirtual 176, 3), (1369, .if_icmp .eq 5, 3), (1372, .iconst 0, 1), (1373, .ireturn, 1)] (by decide +kernel)
theorem d_law_1352 : decode code 1352 = .ok (.invokevirtual 173, 3) := dg_law_912.1
theorem d_law_1355 : decode code 1355 = .ok (.aload_n 2, 1) := dg_law_912.2.1
theorem d_law_1356 : decode code 1356 = .ok (.aload_n 0, 1) := dg_law_912.2.2.1
theorem d_law_1357 : decode code 1357 = .ok (.iload_n 3, 1) := dg_law_912.2.2.2.1
theorem d_law_1358 : decode code 1358 = .ok (.iconst 1, 1) := dg_law_912.2.2.2.2.1
theorem d_law_1359 : decode code 1359 = .ok (.iadd, 1) := dg_law_912.2.2.2.2.2.1
theorem d_law_1360 : decode code 1360 = .ok (.iaload, 1) := dg_law_912.2.2.2.2.2.2.1
theorem d_law_1361 : decode code 1361 = .ok (.aload_n 0, 1) := dg_law_912.2.2.2.2.2.2.2.1
theorem d_law_1362 : decode code 1362 = .ok (.iload_n 3, 1) := dg_law_912.2.2.2.2.2.2.2.2.1
theorem d_law_1363 : decode code 1363 = .ok (.iconst 2, 1) := dg_law_912.2.2.2.2.2.2.2.2.2.1
theorem d_law_1364 : decode code 1364 = .ok (.iadd, 1) := dg_law_912.2.2.2.2.2.2.2.2.2.2.1
theorem d_law_1365 : decode code 1365 = .ok (.iaload, 1) := dg_law_912.2.2.2.2.2.2.2.2.2.2.2.1
theorem d_law_1366 : decode code 1366 = .ok (.invokevirtual 176, 3) := dg_law_912.2.2.2.2.2.2.2.2.2.2.2.2.1
theorem d_law_1369 : decode code 1369 = .ok (.if_icmp .eq 5, 3) := dg_law_912.2.2.2.2.2.2.2.2.2.2.2.2.2.1
theorem d_law_1372 : decode code 1372 = .ok (.iconst 0, 1) := dg_law_912.2.2.2.2.2.2.2.2.2.2.2.2.2.2.1
theorem d_law_1373 : decode code 1373 = .ok (.ireturn, 1) := dg_law_912.2.2.2.2.2.2.2.2.2.2.2.2.2.2.2.1
theorem dg_law_928 : (decode code 1374 = .ok (.iinc 3 6, 3)) ∧ (decode code 1377 = .ok (.goto (-1359), 3)) ∧ (decode code 1380 = .ok (.iconst 1, 1)) ∧ (decode code 1381 = .ok (.ireturn, 1)) ∧ True := fd_of (cc := code) [(1374, .iinc 3 6, 3), (1377, .goto (-1359), 3), (1380, .iconst 1, 1), (1381, .ireturn, 1)] (by decide +kernel)
theorem d_law_1374 : decode code 1374 = .ok (.iinc 3 6, 3) := dg_law_928.1
theorem d_law_1377 : decode code 1377 = .ok (.goto (-1359), 3) := dg_law_928.2.1
theorem d_law_1380 : decode code 1380 = .ok (.iconst 1, 1) := dg_law_928.2.2.1
theorem d_law_1381 : decode code 1381 = .ok (.ireturn, 1) := dg_law_928.2.2.2.1
end
section
/-! what the law calls -/
theorem lwV_13 : mj_okV lw_tbl mj_CL R_law 13 mm_133 (5 + 1) 2 := ⟨Or.inl ((lw_in_1 (List.mem_of_getElem? (i := 225) (by decide +kernel)))), (lw_in_1 (List.mem_of_getElem? (i := 226) (by decide +kernel))), (lw_in_1 (List.mem_of_getElem? (i := 227) (by decide +kernel))), ⟨1, _, _, rfl, rfl⟩, ⟨5, rfl, by decide +kernel⟩, my_133⟩
theorem lwV_18 : mj_okV lw_tbl mj_CL R_law 18 mm_135 (1 + 1) 2 := ⟨Or.inl ((lw_in_1 (List.mem_of_getElem? (i := 233) (by decide +kernel)))), (lw_in_1 (List.mem_of_getElem? (i := 234) (by decide +kernel))), (lw_in_1 (List.mem_of_getElem? (i := 235) (by decide +kernel))), ⟨1, _, _, rfl, rfl⟩, ⟨1, rfl, by decide +kernel⟩, my_135⟩
theorem lwV_23 : mj_okV lw_tbl mj_CL R_law 23 mm_136 (0 + 1) 2 := ⟨Or.inl ((lw_in_1 (List.mem_of_getElem? (i := 237) (by decide +kernel)))), (lw_in_1 (List.mem_of_getElem? (i := 238) (by decide +kernel))), (lw_in_1 (List.mem_of_getElem? (i := 239) (by decide +kernel))), ⟨1, _, _, rfl, rfl⟩, ⟨0, rfl, by decide +kernel⟩, my_136⟩
theorem lwV_28 : mj_okV lw_tbl mj_CL R_law 28 mm_189 (1 + 1) 2 := ⟨Or.inl ((lw_in_2 (List.mem_of_getElem? (i := 215) (by decide +kernel)))), (lw_in_2 (List.mem_of_getElem? (i := 216) (by decide +kernel))), (lw_in_2 (List.mem_of_getElem? (i := 217) (by decide +kernel))), ⟨1, _, _, rfl, rfl⟩, ⟨1, rfl, by decide +kernel⟩, my_189⟩
theorem lwV_33 : mj_okV lw_tbl mj_CL R_law 33 mm_190 (1 + 1) 2 := ⟨Or.inl ((lw_in_2 (List.mem_of_getElem? (i := 219) (by decide +kernel)))), (lw_in_2 (List.mem_of_getElem? (i := 220) (by decide +kernel))), (lw_in_2 (List.mem_of_getElem? (i := 221) (by decide +kernel))), ⟨1, _, _, rfl, rfl⟩, ⟨1, rfl, by decide +kernel⟩, my_190⟩
theorem lwV_37 : mj_okV lw_tbl mj_CL R_law 37 mm_191 (3 + 1) 2 := ⟨Or.inl ((lw_in_2 (List.mem_of_getElem? (i := 223) (by decide +kernel)))), (lw_in_2 (List.mem_of_getElem? (i := 224) (by decide +kernel))), (lw_in_2 (List.mem_of_getElem? (i := 225) (by decide +kernel))), ⟨1, _, _, rfl, rfl⟩, ⟨3, rfl, by decide +kernel⟩, my_191⟩
theorem lwV_42 : mj_okV lw_tbl mj_CL R_law 42 mm_194 (3 + 1) 2 := ⟨Or.inl ((lw_in_2 (List.mem_of_getElem? (i := 234) (by decide +kernel)))), (lw_in_2 (List.mem_of_getElem? (i := 235) (by decide +kernel))), (lw_in_2 (List.mem_of_getElem? (i := 236) (by decide +kernel))), ⟨1, _, _, rfl, rfl⟩, ⟨3, rfl, by decide +kernel⟩, my_194⟩
theorem lwV_47 : mj_okV lw_tbl mj_CL R_law 47 mm_195 (2 + 1) 2 := ⟨Or.inl ((lw_in_2 (List.mem_of_getElem? (i := 239) (by decide +kernel)))), (lw_in_3 (List.mem_of_getElem? (i := 0) (by decide +kernel))), (lw_in_3 (List.mem_of_getElem? (i := 1) (by decide +kernel))), ⟨1, _, _, rfl, rfl⟩, ⟨2, rfl, by decide +kernel⟩, my_195⟩
theorem lwV_52 : mj_okV lw_tbl mj_CL R_law 52 mm_197 (1 + 1) 2 := ⟨Or.inl ((lw_in_3 (List.mem_of_getElem? (i := 7) (by decide +kernel)))), (lw_in_3 (List.mem_of_getElem? (i := 8) (by decide +kernel))), (lw_in_3 (List.mem_of_getElem? (i := 9) (by decide +kernel))), ⟨1, _, _, rfl, rfl⟩, ⟨1, rfl, by decide +kernel⟩, my_197⟩
theorem lwV_56 : mj_okV lw_tbl mj_CL R_law 56 mm_198 (3 + 1) 2 := ⟨Or.inl ((lw_in_3 (List.mem_of_getElem? (i := 12) (by decide +kernel)))), (lw_in_3 (List.mem_of_getElem? (i := 13) (by decide +kernel))), (lw_in_3 (List.mem_of_getElem? (i := 14) (by decide +kernel))), ⟨1, _, _, rfl, rfl⟩, ⟨3, rfl, by decide +kernel⟩, my_198⟩
theorem lwV_60 : mj_okV lw_tbl mj_CL R_law 60 mm_199 (1 + 1) 2 := ⟨Or.inl ((lw_in_3 (List.mem_of_getElem? (i := 23) (by decide +kernel)))), (lw_in_3 (List.mem_of_getElem? (i := 24) (by decide +kernel))), (lw_in_3 (List.mem_of_getElem? (i := 25) (by decide +kernel))), ⟨1, _, _, rfl, rfl⟩, ⟨1, rfl, by decide +kernel⟩, my_199⟩
theorem lwV_65 : mj_okV lw_tbl mj_CL R_law 65 mm_200 (0 + 1) 2 := ⟨Or.inl ((lw_in_3 (List.mem_of_getElem? (i := 27) (by decide +kernel)))), (lw_in_3 (List.mem_of_getElem? (i := 28) (by decide +kernel))), (lw_in_3 (List.mem_of_getElem? (i := 29) (by decide +kernel))), ⟨1, _, _, rfl, rfl⟩, ⟨0, rfl, by decide +kernel⟩, my_200⟩
theorem lwV_70 : mj_okV lw_tbl mj_CL R_law 70 mm_201 (1 + 1) 2 := ⟨Or.inl ((lw_in_3 (List.mem_of_getElem? (i := 31) (by decide +kernel)))), (lw_in_3 (List.mem_of_getElem? (i := 32) (by decide +kernel))), (lw_in_3 (List.mem_of_getElem? (i := 33) (by decide +kernel))), ⟨1, _, _, rfl, rfl⟩, ⟨1, rfl, by decide +kernel⟩, my_201⟩
theorem lwV_74 : mj_okV lw_tbl mj_CL R_law 74 mm_202 (2 + 1) 2 := ⟨Or.inl ((lw_in_3 (List.mem_of_getElem? (i := 36) (by decide +kernel)))), (lw_in_3 (List.mem_of_getElem? (i := 37) (by decide +kernel))), (lw_in_3 (List.mem_of_getElem? (i := 38) (by decide +kernel))), ⟨1, _, _, rfl, rfl⟩, ⟨2, rfl, by decide +kernel⟩, my_202⟩
theorem lwV_78 : mj_okV lw_tbl mj_CL R_law 78 mm_203 (3 + 1) 2 := ⟨Or.inl ((lw_in_3 (List.mem_of_getElem? (i := 42) (by decide +kernel)))), (lw_in_3 (List.mem_of_getElem? (i := 43) (by decide +kernel))), (lw_in_3 (List.mem_of_getElem? (i := 44) (by decide +kernel))), ⟨1, _, _, rfl, rfl⟩, ⟨3, rfl, by decide +kernel⟩, my_203⟩
theorem lwV_82 : mj_okV lw_tbl mj_CL R_law 82 mm_230 (2 + 1) 2 := ⟨Or.inl ((lw_in_3 (List.mem_of_getElem? (i := 177) (by decide +kernel)))), (lw_in_3 (List.mem_of_getElem? (i := 178) (by decide +kernel))), (lw_in_3 (List.mem_of_getElem? (i := 179) (by decide +kernel))), ⟨1, _, _, rfl, rfl⟩, ⟨2, rfl, by decide +kernel⟩, my_230⟩
theorem lwV_86 : mj_okV lw_tbl mj_CL R_law 86 mm_232 (1 + 1) 2 := ⟨Or.inl ((lw_in_3 (List.mem_of_getElem? (i := 186) (by decide +kernel)))), (lw_in_3 (List.mem_of_getElem? (i := 187) (by decide +kernel))), (lw_in_3 (List.mem_of_getElem? (i := 188) (by decide +kernel))), ⟨1, _, _, rfl, rfl⟩, ⟨1, rfl, by decide +kernel⟩, my_232⟩
theorem lwV_90 : mj_okV lw_tbl mj_CL R_law 90 mm_234 (2 + 1) 2 := ⟨Or.inl ((lw_in_3 (List.mem_of_getElem? (i := 194) (by decide +kernel)))), (lw_in_3 (List.mem_of_getElem? (i := 195) (by decide +kernel))), (lw_in_3 (List.mem_of_getElem? (i := 196) (by decide +kernel))), ⟨1, _, _, rfl, rfl⟩, ⟨2, rfl, by decide +kernel⟩, my_234⟩
theorem lwV_94 : mj_okV lw_tbl mj_CL R_law 94 mm_236 (1 + 1) 2 := ⟨Or.inl ((lw_in_3 (List.mem_of_getElem? (i := 201) (by decide +kernel)))), (lw_in_3 (List.mem_of_getElem? (i := 202) (by decide +kernel))), (lw_in_3 (List.mem_of_getElem? (i := 203) (by decide +kernel))), ⟨1, _, _, rfl, rfl⟩, ⟨1, rfl, by decide +kernel⟩, my_236⟩
theorem lwV_98 : mj_okV lw_tbl mj_CL R_law 98 mm_237 (1 + 1) 2 := ⟨Or.inl ((lw_in_3 (List.mem_of_getElem? (i := 205) (by decide +kernel)))), (lw_in_3 (List.mem_of_getElem? (i := 206) (by decide +kernel))), (lw_in_3 (List.mem_of_getElem? (i := 207) (by decide +kernel))), ⟨1, _, _, rfl, rfl⟩, ⟨1, rfl, by decide +kernel⟩, my_237⟩
theorem lwV_102 : mj_okV lw_tbl mj_CL R_law 102 mm_240 (2 + 1) 2 := ⟨Or.inl ((lw_in_3 (List.mem_of_getElem? (i := 217) (by decide +kernel)))), (lw_in_3 (List.mem_of_getElem? (i := 218) (by decide +kernel))), (lw_in_3 (List.mem_of_getElem? (i := 219) (by decide +kernel))), ⟨1, _, _, rfl, rfl⟩, ⟨2, rfl, by decide +kernel⟩, my_240⟩
theorem lwV_106 : mj_okV lw_tbl mj_CL R_law 106 mm_241 (1 + 1) 2 := ⟨Or.inl ((lw_in_3 (List.mem_of_getElem? (i := 221) (by decide +kernel)))), (lw_in_3 (List.mem_of_getElem? (i := 222) (by decide +kernel))), (lw_in_3 (List.mem_of_getElem? (i := 223) (by decide +kernel))), ⟨1, _, _, rfl, rfl⟩, ⟨1, rfl, by decide +kernel⟩, my_241⟩
theorem lwV_110 : mj_okV lw_tbl mj_CL R_law 110 mm_249 (1 + 1) 2 := ⟨Or.inl ((lw_in_4 (List.mem_of_getElem? (i := 17) (by decide +kernel)))), (lw_in_4 (List.mem_of_getElem? (i := 18) (by decide +kernel))), (lw_in_4 (List.mem_of_getElem? (i := 19) (by decide +kernel))), ⟨1, _, _, rfl, rfl⟩, ⟨1, rfl, by decide +kernel⟩, my_249⟩
theorem lwV_114 : mj_okV lw_tbl mj_CL R_law 114 mm_251 (1 + 1) 2 := ⟨Or.inl ((lw_in_4 (List.mem_of_getElem? (i := 25) (by decide +kernel)))), (lw_in_4 (List.mem_of_getElem? (i := 26) (by decide +kernel))), (lw_in_4 (List.mem_of_getElem? (i := 27) (by decide +kernel))), ⟨1, _, _, rfl, rfl⟩, ⟨1, rfl, by decide +kernel⟩, my_251⟩
theorem lwV_118 : mj_okV lw_tbl mj_CL R_law 118 mm_252 (4 + 1) 2 := ⟨Or.inl ((lw_in_4 (List.mem_of_getElem? (i := 29) (by decide +kernel)))), (lw_in_4 (List.mem_of_getElem? (i := 30) (by decide +kernel))), (lw_in_4 (List.mem_of_getElem? (i := 31) (by decide +kernel))), ⟨1, _, _, rfl, rfl⟩, ⟨4, rfl, by decide +kernel⟩, my_252⟩
theorem lwV_123 : mj_okV lw_tbl mj_CL R_law 123 mm_254 (1 + 1) 2 := ⟨Or.inl ((lw_in_4 (List.mem_of_getElem? (i := 38) (by decide +kernel)))), (lw_in_4 (List.mem_of_getElem? (i := 39) (by decide +kernel))), (lw_in_4 (List.mem_of_getElem? (i := 40) (by decide +kernel))), ⟨1, _, _, rfl, rfl⟩, ⟨1, rfl, by decide +kernel⟩, my_254⟩
theorem lwV_127 : mj_okV lw_tbl mj_CL R_law 127 mm_256 (2 + 1) 2 := ⟨Or.inl ((lw_in_4 (List.mem_of_getElem? (i := 48) (by decide +kernel)))), (lw_in_4 (List.mem_of_getElem? (i := 49) (by decide +kernel))), (lw_in_4 (List.mem_of_getElem? (i := 50) (by decide +kernel))), ⟨1, _, _, rfl, rfl⟩, ⟨2, rfl, by decide +kernel⟩, my_256⟩
theorem lwV_131 : mj_okV lw_tbl mj_CL R_law 131 mm_258 (0 + 1) 2 := ⟨Or.inl ((lw_in_4 (List.mem_of_getElem? (i := 56) (by decide +kernel)))), (lw_in_4 (List.mem_of_getElem? (i := 57) (by decide +kernel))), (lw_in_4 (List.mem_of_getElem? (i := 58) (by decide +kernel))), ⟨1, _, _, rfl, rfl⟩, ⟨0, rfl, by decide +kernel⟩, my_258⟩
theorem lwV_135 : mj_okV lw_tbl mj_CL R_law 135 mm_259 (0 + 1) 2 := ⟨Or.inl ((lw_in_4 (List.mem_of_getElem? (i := 60) (by decide +kernel)))), (lw_in_4 (List.mem_of_getElem? (i := 61) (by decide +kernel))), (lw_in_4 (List.mem_of_getElem? (i := 62) (by decide +kernel))), ⟨1, _, _, rfl, rfl⟩, ⟨0, rfl, by decide +kernel⟩, my_259⟩
theorem lwV_139 : mj_okV lw_tbl mj_CL R_law 139 mm_262 (0 + 1) 2 := ⟨Or.inl ((lw_in_4 (List.mem_of_getElem? (i := 74) (by decide +kernel)))), (lw_in_4 (List.mem_of_getElem? (i := 75) (by decide +kernel))), (lw_in_4 (List.mem_of_getElem? (i := 76) (by decide +kernel))), ⟨1, _, _, rfl, rfl⟩, ⟨0, rfl, by decide +kernel⟩, my_262⟩
theorem lwV_143 : mj_okV lw_tbl mj_CL R_law 143 mm_264 (1 + 1) 2 := ⟨Or.inl ((lw_in_4 (List.mem_of_getElem? (i := 85) (by decide +kernel)))), (lw_in_4 (List.mem_of_getElem? (i := 86) (by decide +kernel))), (lw_in_4 (List.mem_of_getElem? (i := 87) (by decide +kernel))), ⟨1, _, _, rfl, rfl⟩, ⟨1, rfl, by decide +kernel⟩, my_264⟩
theorem lwV_147 : mj_okV lw_tbl mj_CL R_law 147 mm_268 (0 + 1) 2 := ⟨Or.inl ((lw_in_4 (List.mem_of_getElem? (i := 106) (by decide +kernel)))), (lw_in_4 (List.mem_of_getElem? (i := 107) (by decide +kernel))), (lw_in_4 (List.mem_of_getElem? (i := 108) (by decide +kernel))), ⟨1, _, _, rfl, rfl⟩, ⟨0, rfl, by decide +kernel⟩, my_268⟩
theorem lwV_151 : mj_okV lw_tbl mj_CL R_law 151 mm_273 (1 + 1) 2 := ⟨Or.inl ((lw_in_4 (List.mem_of_getElem? (i := 126) (by decide +kernel)))), (lw_in_4 (List.mem_of_getElem? (i := 127) (by decide +kernel))), (lw_in_4 (List.mem_of_getElem? (i := 128) (by decide +kernel))), ⟨1, _, _, rfl, rfl⟩, ⟨1, rfl, by decide +kernel⟩, my_273⟩
theorem lwV_155 : mj_okV lw_tbl mj_CL R_law 155 mm_274 (5 + 1) 2 := ⟨Or.inl ((lw_in_4 (List.mem_of_getElem? (i := 137) (by decide +kernel)))), (lw_in_4 (List.mem_of_getElem? (i := 138) (by decide +kernel))), (lw_in_4 (List.mem_of_getElem? (i := 139) (by decide +kernel))), ⟨1, _, _, rfl, rfl⟩, ⟨5, rfl, by decide +kernel⟩, my_274⟩
theorem lwV_160 : mj_okV lw_tbl mj_CL R_law 160 mm_277 (3 + 1) 2 := ⟨Or.inl ((lw_in_4 (List.mem_of_getElem? (i := 147) (by decide +kernel)))), (lw_in_4 (List.mem_of_getElem? (i := 148) (by decide +kernel))), (lw_in_4 (List.mem_of_getElem? (i := 149) (by decide +kernel))), ⟨1, _, _, rfl, rfl⟩, ⟨3, rfl, by decide +kernel⟩, my_277⟩
theorem lwV_165 : mj_okV lw_tbl mj_CL R_law 165 mm_278 (1 + 1) 2 := ⟨Or.inl ((lw_in_4 (List.mem_of_getElem? (i := 151) (by decide +kernel)))), (lw_in_4 (List.mem_of_getElem? (i := 152) (by decide +kernel))), (lw_in_4 (List.mem_of_getElem? (i := 153) (by decide +kernel))), ⟨1, _, _, rfl, rfl⟩, ⟨1, rfl, by decide +kernel⟩, my_278⟩
theorem lwV_169 : mj_okV lw_tbl mj_CL R_law 169 mm_287 (1 + 1) 2 := ⟨Or.inl ((lw_in_4 (List.mem_of_getElem? (i := 190) (by decide +kernel)))), (lw_in_4 (List.mem_of_getElem? (i := 191) (by decide +kernel))), (lw_in_4 (List.mem_of_getElem? (i := 192) (by decide +kernel))), ⟨1, _, _, rfl, rfl⟩, ⟨1, rfl, by decide +kernel⟩, my_287⟩
theorem lwV_173 : mj_okV lw_tbl mj_CL R_law 173 mm_291 (2 + 1) 2 := ⟨Or.inl ((lw_in_4 (List.mem_of_getElem? (i := 207) (by decide +kernel)))), (lw_in_4 (List.mem_of_getElem? (i := 208) (by decide +kernel))), (lw_in_4 (List.mem_of_getElem? (i := 209) (by decide +kernel))), ⟨1, _, _, rfl, rfl⟩, ⟨2, rfl, by decide +kernel⟩, my_291⟩
theorem lwV_17 : mj_okV lw_tbl mj_CL R_law 17 mm_9 (5 + 1) 1 := ⟨Or.inl ((lw_in_5 (List.mem_of_getElem? (i := 212) (by decide +kernel)))), (lw_in_5 (List.mem_of_getElem? (i := 213) (by decide +kernel))), (lw_in_5 (List.mem_of_getElem? (i := 214) (by decide +kernel))), ⟨0, _, _, rfl, rfl⟩, ⟨5, rfl, by decide +kernel⟩, my_9⟩
theorem lwV_22 : mj_okV lw_tbl mj_CL R_law 22 mm_11 (1 + 1) 1 := ⟨Or.inl ((lw_in_5 (List.mem_of_getElem? (i := 220) (by decide +kernel)))), (lw_in_5 (List.mem_of_getElem? (i := 221) (by decide +kernel))), (lw_in_5 (List.mem_of_getElem? (i := 222) (by decide +kernel))), ⟨0, _, _, rfl, rfl⟩, ⟨1, rfl, by decide +kernel⟩, my_11⟩
theorem lwV_27 : mj_okV lw_tbl mj_CL R_law 27 mm_12 (0 + 1) 1 := ⟨Or.inl ((lw_in_5 (List.mem_of_getElem? (i := 224) (by decide +kernel)))), (lw_in_5 (List.mem_of_getElem? (i := 225) (by decide +kernel))), (lw_in_5 (List.mem_of_getElem? (i := 226) (by decide +kernel))), ⟨0, _, _, rfl, rfl⟩, ⟨0, rfl, by decide +kernel⟩, my_12⟩
theorem lwV_32 : mj_okV lw_tbl mj_CL R_law 32 mm_45 (1 + 1) 1 := ⟨Or.inl ((lw_in_6 (List.mem_of_getElem? (i := 129) (by decide +kernel)))), (lw_in_6 (List.mem_of_getElem? (i := 130) (by decide +kernel))), (lw_in_6 (List.mem_of_getElem? (i := 131) (by decide +kernel))), ⟨0, _, _, rfl, rfl⟩, ⟨1, rfl, by decide +kernel⟩, my_45⟩
theorem lwV_36 : mj_okV lw_tbl mj_CL R_law 36 mm_46 (1 + 1) 1 := ⟨Or.inl ((lw_in_6 (List.mem_of_getElem? (i := 133) (by decide +kernel)))), (lw_in_6 (List.mem_of_getElem? (i := 134) (by decide +kernel))), (lw_in_6 (List.mem_of_getElem? (i := 135) (by decide +kernel))), ⟨0, _, _, rfl, rfl⟩, ⟨1, rfl, by decide +kernel⟩, my_46⟩
theorem lwV_41 : mj_okV lw_tbl mj_CL R_law 41 mm_47 (3 + 1) 1 := ⟨Or.inl ((lw_in_6 (List.mem_of_getElem? (i := 137) (by decide +kernel)))), (lw_in_6 (List.mem_of_getElem? (i := 138) (by decide +kernel))), (lw_in_6 (List.mem_of_getElem? (i := 139) (by decide +kernel))), ⟨0, _, _, rfl, rfl⟩, ⟨3, rfl, by decide +kernel⟩, my_47⟩
theorem lwV_46 : mj_okV lw_tbl mj_CL R_law 46 mm_52 (3 + 1) 1 := ⟨Or.inl ((lw_in_6 (List.mem_of_getElem? (i := 156) (by decide +kernel)))), (lw_in_6 (List.mem_of_getElem? (i := 157) (by decide +kernel))), (lw_in_6 (List.mem_of_getElem? (i := 158) (by decide +kernel))), ⟨0, _, _, rfl, rfl⟩, ⟨3, rfl, by decide +kernel⟩, my_52⟩
theorem lwV_51 : mj_okV lw_tbl mj_CL R_law 51 mm_54 (2 + 1) 1 := ⟨Or.inl ((lw_in_6 (List.mem_of_getElem? (i := 164) (by decide +kernel)))), (lw_in_6 (List.mem_of_getElem? (i := 165) (by decide +kernel))), (lw_in_6 (List.mem_of_getElem? (i := 166) (by decide +kernel))), ⟨0, _, _, rfl, rfl⟩, ⟨2, rfl, by decide +kernel⟩, my_54⟩
theorem lwV_69 : mj_okV lw_tbl mj_CL R_law 69 mm_59 (0 + 1) 1 := ⟨Or.inl ((lw_in_6 (List.mem_of_getElem? (i := 184) (by decide +kernel)))), (lw_in_6 (List.mem_of_getElem? (i := 185) (by decide +kernel))), (lw_in_6 (List.mem_of_getElem? (i := 186) (by decide +kernel))), ⟨0, _, _, rfl, rfl⟩, ⟨0, rfl, by decide +kernel⟩, my_59⟩
theorem lwV_55 : mj_okV lw_tbl mj_CL R_law 55 mm_61 (1 + 1) 1 := ⟨Or.inl ((lw_in_6 (List.mem_of_getElem? (i := 192) (by decide +kernel)))), (lw_in_6 (List.mem_of_getElem? (i := 193) (by decide +kernel))), (lw_in_6 (List.mem_of_getElem? (i := 194) (by decide +kernel))), ⟨0, _, _, rfl, rfl⟩, ⟨1, rfl, by decide +kernel⟩, my_61⟩
theorem lwV_59 : mj_okV lw_tbl mj_CL R_law 59 mm_62 (3 + 1) 1 := ⟨Or.inl ((lw_in_6 (List.mem_of_getElem? (i := 196) (by decide +kernel)))), (lw_in_6 (List.mem_of_getElem? (i := 197) (by decide +kernel))), (lw_in_6 (List.mem_of_getElem? (i := 198) (by decide +kernel))), ⟨0, _, _, rfl, rfl⟩, ⟨3, rfl, by decide +kernel⟩, my_62⟩
theorem lwV_64 : mj_okV lw_tbl mj_CL R_law 64 mm_64 (1 + 1) 1 := ⟨Or.inl ((lw_in_6 (List.mem_of_getElem? (i := 204) (by decide +kernel)))), (lw_in_6 (List.mem_of_getElem? (i := 205) (by decide +kernel))), (lw_in_6 (List.mem_of_getElem? (i := 206) (by decide +kernel))), ⟨0, _, _, rfl, rfl⟩, ⟨1, rfl, by decide +kernel⟩, my_64⟩
theorem lwV_77 : mj_okV lw_tbl mj_CL R_law 77 mm_65 (2 + 1) 1 := ⟨Or.inl ((lw_in_6 (List.mem_of_getElem? (i := 208) (by decide +kernel)))), (lw_in_6 (List.mem_of_getElem? (i := 209) (by decide +kernel))), (lw_in_6 (List.mem_of_getElem? (i := 210) (by decide +kernel))), ⟨0, _, _, rfl, rfl⟩, ⟨2, rfl, by decide +kernel⟩, my_65⟩
theorem lwV_73 : mj_okV lw_tbl mj_CL R_law 73 mm_69 (1 + 1) 1 := ⟨Or.inl ((lw_in_6 (List.mem_of_getElem? (i := 224) (by decide +kernel)))), (lw_in_6 (List.mem_of_getElem? (i := 225) (by decide +kernel))), (lw_in_6 (List.mem_of_getElem? (i := 226) (by decide +kernel))), ⟨0, _, _, rfl, rfl⟩, ⟨1, rfl, by decide +kernel⟩, my_69⟩
theorem lwV_81 : mj_okV lw_tbl mj_CL R_law 81 mm_70 (3 + 1) 1 := ⟨Or.inl ((lw_in_6 (List.mem_of_getElem? (i := 228) (by decide +kernel)))), (lw_in_6 (List.mem_of_getElem? (i := 229) (by decide +kernel))), (lw_in_6 (List.mem_of_getElem? (i := 230) (by decide +kernel))), ⟨0, _, _, rfl, rfl⟩, ⟨3, rfl, by decide +kernel⟩, my_70⟩
theorem lwV_85 : mj_okV lw_tbl mj_CL R_law 85 mm_84 (2 + 1) 1 := ⟨Or.inl ((lw_in_7 (List.mem_of_getElem? (i := 43) (by decide +kernel)))), (lw_in_7 (List.mem_of_getElem? (i := 44) (by decide +kernel))), (lw_in_7 (List.mem_of_getElem? (i := 45) (by decide +kernel))), ⟨0, _, _, rfl, rfl⟩, ⟨2, rfl, by decide +kernel⟩, my_84⟩
theorem lwV_89 : mj_okV lw_tbl mj_CL R_law 89 mm_86 (1 + 1) 1 := ⟨Or.inl ((lw_in_7 (List.mem_of_getElem? (i := 52) (by decide +kernel)))), (lw_in_7 (List.mem_of_getElem? (i := 53) (by decide +kernel))), (lw_in_7 (List.mem_of_getElem? (i := 54) (by decide +kernel))), ⟨0, _, _, rfl, rfl⟩, ⟨1, rfl, by decide +kernel⟩, my_86⟩
theorem lwV_93 : mj_okV lw_tbl mj_CL R_law 93 mm_87 (2 + 1) 1 := ⟨Or.inl ((lw_in_7 (List.mem_of_getElem? (i := 56) (by decide +kernel)))), (lw_in_7 (List.mem_of_getElem? (i := 57) (by decide +kernel))), (lw_in_7 (List.mem_of_getElem? (i := 58) (by decide +kernel))), ⟨0, _, _, rfl, rfl⟩, ⟨2, rfl, by decide +kernel⟩, my_87⟩
theorem lwV_97 : mj_okV lw_tbl mj_CL R_law 97 mm_88 (1 + 1) 1 := ⟨Or.inl ((lw_in_7 (List.mem_of_getElem? (i := 60) (by decide +kernel)))), (lw_in_7 (List.mem_of_getElem? (i := 61) (by decide +kernel))), (lw_in_7 (List.mem_of_getElem? (i := 62) (by decide +kernel))), ⟨0, _, _, rfl, rfl⟩, ⟨1, rfl, by decide +kernel⟩, my_88⟩
theorem lwV_101 : mj_okV lw_tbl mj_CL R_law 101 mm_89 (1 + 1) 1 := ⟨Or.inl ((lw_in_7 (List.mem_of_getElem? (i := 64) (by decide +kernel)))), (lw_in_7 (List.mem_of_getElem? (i := 65) (by decide +kernel))), (lw_in_7 (List.mem_of_getElem? (i := 66) (by decide +kernel))), ⟨0, _, _, rfl, rfl⟩, ⟨1, rfl, by decide +kernel⟩, my_89⟩
theorem lwV_105 : mj_okV lw_tbl mj_CL R_law 105 mm_94 (2 + 1) 1 := ⟨Or.inl ((lw_in_7 (List.mem_of_getElem? (i := 84) (by decide +kernel)))), (lw_in_7 (List.mem_of_getElem? (i := 85) (by decide +kernel))), (lw_in_7 (List.mem_of_getElem? (i := 86) (by decide +kernel))), ⟨0, _, _, rfl, rfl⟩, ⟨2, rfl, by decide +kernel⟩, my_94⟩
theorem lwV_109 : mj_okV lw_tbl mj_CL R_law 109 mm_95 (1 + 1) 1 := ⟨Or.inl ((lw_in_7 (List.mem_of_getElem? (i := 88) (by decide +kernel)))), (lw_in_7 (List.mem_of_getElem? (i := 89) (by decide +kernel))), (lw_in_7 (List.mem_of_getElem? (i := 90) (by decide +kernel))), ⟨0, _, _, rfl, rfl⟩, ⟨1, rfl, by decide +kernel⟩, my_95⟩
theorem lwV_113 : mj_okV lw_tbl mj_CL R_law 113 mm_100 (1 + 1) 1 := ⟨Or.inl ((lw_in_7 (List.mem_of_getElem? (i := 108) (by decide +kernel)))), (lw_in_7 (List.mem_of_getElem? (i := 109) (by decide +kernel))), (lw_in_7 (List.mem_of_getElem? (i := 110) (by decide +kernel))), ⟨0, _, _, rfl, rfl⟩, ⟨1, rfl, by decide +kernel⟩, my_100⟩
theorem lwV_117 : mj_okV lw_tbl mj_CL R_law 117 mm_101 (1 + 1) 1 := ⟨Or.inl ((lw_in_7 (List.mem_of_getElem? (i := 112) (by decide +kernel)))), (lw_in_7 (List.mem_of_getElem? (i := 113) (by decide +kernel))), (lw_in_7 (List.mem_of_getElem? (i := 114) (by decide +kernel))), ⟨0, _, _, rfl, rfl⟩, ⟨1, rfl, by decide +kernel⟩, my_101⟩
theorem lwV_122 : mj_okV lw_tbl mj_CL R_law 122 mm_102 (4 + 1) 1 := ⟨Or.inl ((lw_in_7 (List.mem_of_getElem? (i := 116) (by decide +kernel)))), (lw_in_7 (List.mem_of_getElem? (i := 117) (by decide +kernel))), (lw_in_7 (List.mem_of_getElem? (i := 118) (by decide +kernel))), ⟨0, _, _, rfl, rfl⟩, ⟨4, rfl, by decide +kernel⟩, my_102⟩
theorem lwV_126 : mj_okV lw_tbl mj_CL R_law 126 mm_104 (1 + 1) 1 := ⟨Or.inl ((lw_in_7 (List.mem_of_getElem? (i := 123) (by decide +kernel)))), (lw_in_7 (List.mem_of_getElem? (i := 124) (by decide +kernel))), (lw_in_7 (List.mem_of_getElem? (i := 125) (by decide +kernel))), ⟨0, _, _, rfl, rfl⟩, ⟨1, rfl, by decide +kernel⟩, my_104⟩
theorem lwV_130 : mj_okV lw_tbl mj_CL R_law 130 mm_105 (2 + 1) 1 := ⟨Or.inl ((lw_in_7 (List.mem_of_getElem? (i := 127) (by decide +kernel)))), (lw_in_7 (List.mem_of_getElem? (i := 128) (by decide +kernel))), (lw_in_7 (List.mem_of_getElem? (i := 129) (by decide +kernel))), ⟨0, _, _, rfl, rfl⟩, ⟨2, rfl, by decide +kernel⟩, my_105⟩
theorem lwV_134 : mj_okV lw_tbl mj_CL R_law 134 mm_106 (0 + 1) 1 := ⟨Or.inl ((lw_in_7 (List.mem_of_getElem? (i := 131) (by decide +kernel)))), (lw_in_7 (List.mem_of_getElem? (i := 132) (by decide +kernel))), (lw_in_7 (List.mem_of_getElem? (i := 133) (by decide +kernel))), ⟨0, _, _, rfl, rfl⟩, ⟨0, rfl, by decide +kernel⟩, my_106⟩
theorem lwV_138 : mj_okV lw_tbl mj_CL R_law 138 mm_107 (0 + 1) 1 := ⟨Or.inl ((lw_in_7 (List.mem_of_getElem? (i := 135) (by decide +kernel)))), (lw_in_7 (List.mem_of_getElem? (i := 136) (by decide +kernel))), (lw_in_7 (List.mem_of_getElem? (i := 137) (by decide +kernel))), ⟨0, _, _, rfl, rfl⟩, ⟨0, rfl, by decide +kernel⟩, my_107⟩
theorem lwV_142 : mj_okV lw_tbl mj_CL R_law 142 mm_111 (0 + 1) 1 := ⟨Or.inl ((lw_in_7 (List.mem_of_getElem? (i := 151) (by decide +kernel)))), (lw_in_7 (List.mem_of_getElem? (i := 152) (by decide +kernel))), (lw_in_7 (List.mem_of_getElem? (i := 153) (by decide +kernel))), ⟨0, _, _, rfl, rfl⟩, ⟨0, rfl, by decide +kernel⟩, my_111⟩
theorem lwV_146 : mj_okV lw_tbl mj_CL R_law 146 mm_113 (1 + 1) 1 := ⟨Or.inl ((lw_in_7 (List.mem_of_getElem? (i := 159) (by decide +kernel)))), (lw_in_7 (List.mem_of_getElem? (i := 160) (by decide +kernel))), (lw_in_7 (List.mem_of_getElem? (i := 161) (by decide +kernel))), ⟨0, _, _, rfl, rfl⟩, ⟨1, rfl, by decide +kernel⟩, my_113⟩
theorem lwV_150 : mj_okV lw_tbl mj_CL R_law 150 mm_115 (0 + 1) 1 := ⟨Or.inl ((lw_in_7 (List.mem_of_getElem? (i := 167) (by decide +kernel)))), (lw_in_7 (List.mem_of_getElem? (i := 168) (by decide +kernel))), (lw_in_7 (List.mem_of_getElem? (i := 169) (by decide +kernel))), ⟨0, _, _, rfl, rfl⟩, ⟨0, rfl, by decide +kernel⟩, my_115⟩
theorem lwV_154 : mj_okV lw_tbl mj_CL R_law 154 mm_117 (1 + 1) 1 := ⟨Or.inl ((lw_in_7 (List.mem_of_getElem? (i := 175) (by decide +kernel)))), (lw_in_7 (List.mem_of_getElem? (i := 176) (by decide +kernel))), (lw_in_7 (List.mem_of_getElem? (i := 177) (by decide +kernel))), ⟨0, _, _, rfl, rfl⟩, ⟨1, rfl, by decide +kernel⟩, my_117⟩
theorem lwV_159 : mj_okV lw_tbl mj_CL R_law 159 mm_118 (5 + 1) 1 := ⟨Or.inl ((lw_in_7 (List.mem_of_getElem? (i := 179) (by decide +kernel)))), (lw_in_7 (List.mem_of_getElem? (i := 180) (by decide +kernel))), (lw_in_7 (List.mem_of_getElem? (i := 181) (by decide +kernel))), ⟨0, _, _, rfl, rfl⟩, ⟨5, rfl, by decide +kernel⟩, my_118⟩
theorem lwV_164 : mj_okV lw_tbl mj_CL R_law 164 mm_120 (3 + 1) 1 := ⟨Or.inl ((lw_in_7 (List.mem_of_getElem? (i := 186) (by decide +kernel)))), (lw_in_7 (List.mem_of_getElem? (i := 187) (by decide +kernel))), (lw_in_7 (List.mem_of_getElem? (i := 188) (by decide +kernel))), ⟨0, _, _, rfl, rfl⟩, ⟨3, rfl, by decide +kernel⟩, my_120⟩
theorem lwV_168 : mj_okV lw_tbl mj_CL R_law 168 mm_121 (1 + 1) 1 := ⟨Or.inl ((lw_in_7 (List.mem_of_getElem? (i := 190) (by decide +kernel)))), (lw_in_7 (List.mem_of_getElem? (i := 191) (by decide +kernel))), (lw_in_7 (List.mem_of_getElem? (i := 192) (by decide +kernel))), ⟨0, _, _, rfl, rfl⟩, ⟨1, rfl, by decide +kernel⟩, my_121⟩
theorem lwV_172 : mj_okV lw_tbl mj_CL R_law 172 mm_131 (1 + 1) 1 := ⟨Or.inl ((lw_in_7 (List.mem_of_getElem? (i := 230) (by decide +kernel)))), (lw_in_7 (List.mem_of_getElem? (i := 231) (by decide +kernel))), (lw_in_7 (List.mem_of_getElem? (i := 232) (by decide +kernel))), ⟨0, _, _, rfl, rfl⟩, ⟨1, rfl, by decide +kernel⟩, my_131⟩
theorem lwV_176 : mj_okV lw_tbl mj_CL R_law 176 mm_132 (2 + 1) 1 := ⟨Or.inl ((lw_in_7 (List.mem_of_getElem? (i := 235) (by decide +kernel)))), (lw_in_7 (List.mem_of_getElem? (i := 236) (by decide +kernel))), (lw_in_7 (List.mem_of_getElem? (i := 237) (by decide +kernel))), ⟨0, _, _, rfl, rfl⟩, ⟨2, rfl, by decide +kernel⟩, my_132⟩
theorem mj_Sok1 : ∀ z ∈ mj_S1, 3 ≤ z.1 → (mj_CL[z.1 - 3]?).map (fun q => q.2.2) = some z.2 := by decide +kernel
theorem mj_Sok2 : ∀ z ∈ mj_S2, 3 ≤ z.1 → (mj_CL[z.1 - 3]?).map (fun q => q.2.2) = some z.2 := by decide +kernel
theorem mj_Cs_of {S : mj_S} (h : ∀ z ∈ S, 3 ≤ z.1 → (mj_CL[z.1 - 3]?).map (fun q => q.2.2) = some z.2) : mj_Cs lw_tbl mj_CL mj_TY S := by
  refine ⟨mj_CL_ok, fun q t n hq => ?_⟩
  have h1 := h _ (List.mem_of_getElem? hq) (Nat.le_add_left 3 t)
  simp only [Nat.add_sub_cancel] at h1
  cases h2 : mj_CL[t]? with
  | none => rw [h2] at h1; cases h1
  | some x =>
    obtain ⟨C, T, N⟩ := x
    rw [h2] at h1
    simp only [Option.map_some, Option.some.injEq] at h1
    exact ⟨C, T, by rw [h1]⟩
end
