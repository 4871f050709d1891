/-! String.charAt of the class's one constant -/
def mm_jA : mj_M := (⟨"java/lang/String", "charAt", "(I)C"⟩, prog_18_method_56_code, 2, (some .char))
set_option maxRecDepth 100000 in
theorem my_jA : mj_okY lw_tbl mm_jA := ⟨(lw_in_0 (List.mem_of_getElem? (i := 106) rfl)), (lw_in_0 (List.mem_of_getElem? (i := 4) (by decide +kernel))), by decide, plainFor_of_name (by decide +kernel), by decide +kernel, by decide +kernel⟩
theorem dg_jA_0 : (decode prog_18_method_56_code 0 = .ok (.aload_n 0, 1)) ∧ (decode prog_18_method_56_code 1 = .ok (.invokevirtual 492, 3)) ∧ (decode prog_18_method_56_code 4 = .ok (.ifCond .eq 12, 3)) ∧ (decode prog_18_method_56_code 7 = .ok (.aload_n 0, 1)) ∧ (decode prog_18_method_56_code 8 = .ok (.getfield 9, 3)) ∧ (decode prog_18_method_56_code 11 = .ok (.iload_n 1, 1)) ∧ (decode prog_18_method_56_code 12 = .ok (.invokestatic 495, 3)) ∧ (decode prog_18_method_56_code 15 = .ok (.ireturn, 1)) ∧ (decode prog_18_method_56_code 16 = .ok (.aload_n 0, 1)) ∧ (decode prog_18_method_56_code 17 = .ok (.getfield 9, 3)) ∧ (decode prog_18_method_56_code 20 = .ok (.iload_n 1, 1)) ∧ (decode prog_18_method_56_code 21 = .ok (.invokestatic 498, 3)) ∧ (decode prog_18_method_56_code 24 = .ok (.ireturn, 1)) ∧ True := fd_of (cc := prog_18_method_56_code) [(0, .aload_n 0, 1), (1, .invokevirtual 492, 3), (4, .ifCond .eq 12, 3), (7, .aload_n 0, 1), (8, .getfield 9, 3), (11, .iload_n 1, 1), (12, .invokestatic 495, 3), (15, .ireturn, 1), (16, .aload_n 0, 1), (17, .getfield 9, 3), (20, .iload_n 1, 1), (21, .invokestatic 498, 3), (24, .ireturn, 1)] (by decide +kernel)
theorem d_jA_0 : decode prog_18_method_56_code 0 = .ok (.aload_n 0, 1) := dg_jA_0.1
theorem d_jA_1 : decode prog_18_method_56_code 1 = .ok (.invokevirtual 492, 3) := dg_jA_0.2.1
theorem d_jA_4 : decode prog_18_method_56_code 4 = .ok (.ifCond .eq 12, 3) := dg_jA_0.2.2.1
theorem d_jA_7 : decode prog_18_method_56_code 7 = .ok (.aload_n 0, 1) := dg_jA_0.2.2.2.1
theorem d_jA_8 : decode prog_18_method_56_code 8 = .ok (.getfield 9, 3) := dg_jA_0.2.2.2.2.1
theorem d_jA_11 : decode prog_18_method_56_code 11 = .ok (.iload_n 1, 1) := dg_jA_0.2.2.2.2.2.1
theorem d_jA_12 : decode prog_18_method_56_code 12 = .ok (.invokestatic 495, 3) := dg_jA_0.2.2.2.2.2.2.1
theorem d_jA_15 : decode prog_18_method_56_code 15 = .ok (.ireturn, 1) := dg_jA_0.2.2.2.2.2.2.2.1
theorem d_jA_16 : decode prog_18_method_56_code 16 = .ok (.aload_n 0, 1) := dg_jA_0.2.2.2.2.2.2.2.2.1
theorem d_jA_17 : decode prog_18_method_56_code 17 = .ok (.getfield 9, 3) := dg_jA_0.2.2.2.2.2.2.2.2.2.1
theorem d_jA_20 : decode prog_18_method_56_code 20 = .ok (.iload_n 1, 1) := dg_jA_0.2.2.2.2.2.2.2.2.2.2.1
theorem d_jA_21 : decode prog_18_method_56_code 21 = .ok (.invokestatic 498, 3) := dg_jA_0.2.2.2.2.2.2.2.2.2.2.2.1
theorem d_jA_24 : decode prog_18_method_56_code 24 = .ok (.ireturn, 1) := dg_jA_0.2.2.2.2.2.2.2.2.2.2.2.2.1
def mm_jB : mj_M := (⟨"java/lang/String", "isLatin1", "()Z"⟩, prog_18_method_154_code, 1, (some .boolean))
set_option maxRecDepth 100000 in
theorem my_jB : mj_okY lw_tbl mm_jB := ⟨(lw_in_0 (List.mem_of_getElem? (i := 110) rfl)), (lw_in_0 (List.mem_of_getElem? (i := 4) (by decide +kernel))), by decide, plainFor_of_name (by decide +kernel), by decide +kernel, by decide +kernel⟩
theorem dg_jB_0 : (decode prog_18_method_154_code 0 = .ok (.getstatic 38, 3)) ∧ (decode prog_18_method_154_code 3 = .ok (.ifCond .eq 14, 3)) ∧ (decode prog_18_method_154_code 6 = .ok (.aload_n 0, 1)) ∧ (decode prog_18_method_154_code 7 = .ok (.getfield 15, 3)) ∧ (decode prog_18_method_154_code 10 = .ok (.ifCond .ne 7, 3)) ∧ (decode prog_18_method_154_code 13 = .ok (.iconst 1, 1)) ∧ (decode prog_18_method_154_code 14 = .ok (.goto 4, 3)) ∧ (decode prog_18_method_154_code 17 = .ok (.iconst 0, 1)) ∧ (decode prog_18_method_154_code 18 = .ok (.ireturn, 1)) ∧ True := fd_of (cc := prog_18_method_154_code) [(0, .getstatic 38, 3), (3, .ifCond .eq 14, 3), (6, .aload_n 0, 1), (7, .getfield 15, 3), (10, .ifCond .ne 7, 3), (13, .iconst 1, 1), (14, .goto 4, 3), (17, .iconst 0, 1), (18, .ireturn, 1)] (by decide +kernel)
theorem d_jB_0 : decode prog_18_method_154_code 0 = .ok (.getstatic 38, 3) := dg_jB_0.1
theorem d_jB_3 : decode prog_18_method_154_code 3 = .ok (.ifCond .eq 14, 3) := dg_jB_0.2.1
theorem d_jB_6 : decode prog_18_method_154_code 6 = .ok (.aload_n 0, 1) := dg_jB_0.2.2.1
theorem d_jB_7 : decode prog_18_method_154_code 7 = .ok (.getfield 15, 3) := dg_jB_0.2.2.2.1
theorem d_jB_10 : decode prog_18_method_154_code 10 = .ok (.ifCond .ne 7, 3) := dg_jB_0.2.2.2.2.1
theorem d_jB_13 : decode prog_18_method_154_code 13 = .ok (.iconst 1, 1) := dg_jB_0.2.2.2.2.2.1
theorem d_jB_14 : decode prog_18_method_154_code 14 = .ok (.goto 4, 3) := dg_jB_0.2.2.2.2.2.2.1
theorem d_jB_17 : decode prog_18_method_154_code 17 = .ok (.iconst 0, 1) := dg_jB_0.2.2.2.2.2.2.2.1
theorem d_jB_18 : decode prog_18_method_154_code 18 = .ok (.ireturn, 1) := dg_jB_0.2.2.2.2.2.2.2.2.1
def mm_jC : mj_M := (⟨"java/lang/StringLatin1", "charAt", "([BI)C"⟩, prog_19_method_2_code, 2, (some .char))
set_option maxRecDepth 100000 in
theorem my_jC : mj_okY lw_tbl mm_jC := ⟨(lw_in_0 (List.mem_of_getElem? (i := 115) rfl)), (lw_in_0 (List.mem_of_getElem? (i := 5) (by decide +kernel))), by decide, plainFor_of_name (by decide +kernel), by decide +kernel, by decide +kernel⟩
theorem dg_jC_0 : (decode prog_19_method_2_code 0 = .ok (.iload_n 1, 1)) ∧ (decode prog_19_method_2_code 1 = .ok (.aload_n 0, 1)) ∧ (decode prog_19_method_2_code 2 = .ok (.arraylength, 1)) ∧ (decode prog_19_method_2_code 3 = .ok (.invokestatic 9, 3)) ∧ (decode prog_19_method_2_code 6 = .ok (.aload_n 0, 1)) ∧ (decode prog_19_method_2_code 7 = .ok (.iload_n 1, 1)) ∧ (decode prog_19_method_2_code 8 = .ok (.baload, 1)) ∧ (decode prog_19_method_2_code 9 = .ok (.sipush 255, 3)) ∧ (decode prog_19_method_2_code 12 = .ok (.iand, 1)) ∧ (decode prog_19_method_2_code 13 = .ok (.i2c, 1)) ∧ (decode prog_19_method_2_code 14 = .ok (.ireturn, 1)) ∧ True := fd_of (cc := prog_19_method_2_code) [(0, .iload_n 1, 1), (1, .aload_n 0, 1), (2, .arraylength, 1), (3, .invokestatic 9, 3), (6, .aload_n 0, 1), (7, .iload_n 1, 1), (8, .baload, 1), (9, .sipush 255, 3), (12, .iand, 1), (13, .i2c, 1), (14, .ireturn, 1)] (by decide +kernel)
theorem d_jC_0 : decode prog_19_method_2_code 0 = .ok (.iload_n 1, 1) := dg_jC_0.1
theorem d_jC_1 : decode prog_19_method_2_code 1 = .ok (.aload_n 0, 1) := dg_jC_0.2.1
theorem d_jC_2 : decode prog_19_method_2_code 2 = .ok (.arraylength, 1) := dg_jC_0.2.2.1
theorem d_jC_3 : decode prog_19_method_2_code 3 = .ok (.invokestatic 9, 3) := dg_jC_0.2.2.2.1
theorem d_jC_6 : decode prog_19_method_2_code 6 = .ok (.aload_n 0, 1) := dg_jC_0.2.2.2.2.1
theorem d_jC_7 : decode prog_19_method_2_code 7 = .ok (.iload_n 1, 1) := dg_jC_0.2.2.2.2.2.1
theorem d_jC_8 : decode prog_19_method_2_code 8 = .ok (.baload, 1) := dg_jC_0.2.2.2.2.2.2.1
theorem d_jC_9 : decode prog_19_method_2_code 9 = .ok (.sipush 255, 3) := dg_jC_0.2.2.2.2.2.2.2.1
theorem d_jC_12 : decode prog_19_method_2_code 12 = .ok (.iand, 1) := dg_jC_0.2.2.2.2.2.2.2.2.1
theorem d_jC_13 : decode prog_19_method_2_code 13 = .ok (.i2c, 1) := dg_jC_0.2.2.2.2.2.2.2.2.2.1
theorem d_jC_14 : decode prog_19_method_2_code 14 = .ok (.ireturn, 1) := dg_jC_0.2.2.2.2.2.2.2.2.2.2.1
def mm_jD : mj_M := (⟨"java/lang/String", "checkIndex", "(II)V"⟩, prog_18_method_155_code, 2, none)
set_option maxRecDepth 100000 in
theorem my_jD : mj_okY lw_tbl mm_jD := ⟨(lw_in_0 (List.mem_of_getElem? (i := 118) rfl)), (lw_in_0 (List.mem_of_getElem? (i := 4) (by decide +kernel))), by decide, plainFor_of_name (by decide +kernel), by decide +kernel, by decide +kernel⟩
theorem dg_jD_0 : (decode prog_18_method_155_code 0 = .ok (.iload_n 0, 1)) ∧ (decode prog_18_method_155_code 1 = .ok (.iload_n 1, 1)) ∧ (decode prog_18_method_155_code 2 = .ok (.getstatic 1053, 3)) ∧ (decode prog_18_method_155_code 5 = .ok (.invokestatic 1059, 3)) ∧ (decode prog_18_method_155_code 8 = .ok (.pop, 1)) ∧ (decode prog_18_method_155_code 9 = .ok (.return_, 1)) ∧ True := fd_of (cc := prog_18_method_155_code) [(0, .iload_n 0, 1), (1, .iload_n 1, 1), (2, .getstatic 1053, 3), (5, .invokestatic 1059, 3), (8, .pop, 1), (9, .return_, 1)] (by decide +kernel)
theorem d_jD_0 : decode prog_18_method_155_code 0 = .ok (.iload_n 0, 1) := dg_jD_0.1
theorem d_jD_1 : decode prog_18_method_155_code 1 = .ok (.iload_n 1, 1) := dg_jD_0.2.1
theorem d_jD_2 : decode prog_18_method_155_code 2 = .ok (.getstatic 1053, 3) := dg_jD_0.2.2.1
theorem d_jD_5 : decode prog_18_method_155_code 5 = .ok (.invokestatic 1059, 3) := dg_jD_0.2.2.2.1
theorem d_jD_8 : decode prog_18_method_155_code 8 = .ok (.pop, 1) := dg_jD_0.2.2.2.2.1
theorem d_jD_9 : decode prog_18_method_155_code 9 = .ok (.return_, 1) := dg_jD_0.2.2.2.2.2.1
def mm_jE : mj_M := (⟨"jdk/internal/util/Preconditions", "checkIndex", "(IILjava/util/function/BiFunction;)I"⟩, prog_22_method_11_code, 3, (some .int))
set_option maxRecDepth 100000 in
theorem my_jE : mj_okY lw_tbl mm_jE := ⟨(lw_in_0 (List.mem_of_getElem? (i := 123) rfl)), (lw_in_0 (List.mem_of_getElem? (i := 6) (by decide +kernel))), by decide, plainFor_of_name (by decide +kernel), by decide +kernel, by decide +kernel⟩
theorem dg_jE_0 : (decode prog_22_method_11_code 0 = .ok (.iload_n 0, 1)) ∧ (decode prog_22_method_11_code 1 = .ok (.ifCond .lt 8, 3)) ∧ (decode prog_22_method_11_code 4 = .ok (.iload_n 0, 1)) ∧ (decode prog_22_method_11_code 5 = .ok (.iload_n 1, 1)) ∧ (decode prog_22_method_11_code 6 = .ok (.if_icmp .lt 10, 3)) ∧ (decode prog_22_method_11_code 16 = .ok (.iload_n 0, 1)) ∧ (decode prog_22_method_11_code 17 = .ok (.ireturn, 1)) ∧ True := fd_of (cc := prog_22_method_11_code) [(0, .iload_n 0, 1), (1, .ifCond .lt 8, 3), (4, .iload_n 0, 1), (5, .iload_n 1, 1), (6, .if_icmp .lt 10, 3), (16, .iload_n 0, 1), (17, .ireturn, 1)] (by decide +kernel)
theorem d_jE_0 : decode prog_22_method_11_code 0 = .ok (.iload_n 0, 1) := dg_jE_0.1
theorem d_jE_1 : decode prog_22_method_11_code 1 = .ok (.ifCond .lt 8, 3) := dg_jE_0.2.1
theorem d_jE_4 : decode prog_22_method_11_code 4 = .ok (.iload_n 0, 1) := dg_jE_0.2.2.1
theorem d_jE_5 : decode prog_22_method_11_code 5 = .ok (.iload_n 1, 1) := dg_jE_0.2.2.2.1
theorem d_jE_6 : decode prog_22_method_11_code 6 = .ok (.if_icmp .lt 10, 3) := dg_jE_0.2.2.2.2.1
theorem d_jE_16 : decode prog_22_method_11_code 16 = .ok (.iload_n 0, 1) := dg_jE_0.2.2.2.2.2.1
theorem d_jE_17 : decode prog_22_method_11_code 17 = .ok (.ireturn, 1) := dg_jE_0.2.2.2.2.2.2.1
def mj_ownB : List Int32 := [119,105,115,104,32,32,114,111,119,32,32,32,107,110,111,116,32,32,116,105,101,32,32,32,116,104,105,110,103,32,114,117,108,101,32,32,108,101,115,115,32,32,109,111,114,101,32,32,111,114,32,32,32,32,97,110,100,32,32,32,110,111,116,32,32,32,97,108,108,32,32,32,104,97,115,32,32,32,109,97,110,121,32,32,111,102,32,32,32,32,109,105,110,32,32,32,109,97,120,32,32,32]
theorem mj_goodS {own : String} {x : Nat} {y : mj_M} (h1 : Cond.methodLink own x y.1 ∈ lw_tbl) (h2 : Cond.static y.1 ∈ lw_tbl) (hY : mj_okY lw_tbl y) : GoodIn (lw_tbl.filter goodWord) (va_wsS own x y.1 (mj_ws lw_tbl y)) := by
  intro w hw
  rcases List.mem_append.mp hw with hw | hw
  · simp only [List.mem_cons, List.not_mem_nil, or_false] at hw
    rcases hw with rfl | rfl | rfl
    · exact ⟨mj_good_in h1 rfl, good_of_word rfl⟩
    · exact ⟨mj_good_in h2 rfl, good_of_word rfl⟩
    · exact ⟨mj_good_in hY.2.1 rfl, good_of_word rfl⟩
  · exact mj_goodIn hY w hw
theorem c_jE (l : Launch) (i n : Int32) (w : Value) (hi : ¬ i < 0) (hn : i < n) (hw : w.category = 1) : Met l mm_jE.1 (mj_ws lw_tbl mm_jE) ({ frames := 0, cells := 0, slots := 0, locals := 0 }) (va_Pc [.int i, .int n, w] (fun _ => True)) (QcRead i) 0 0 (fun _ => False) := by
  refine Met.ofW (cc := prog_22_method_11_code) (maxL := 3) (ret := (some .int)) (by decide) rfl ?_
  intro p e s m args below meth c s₁ B hml hv
  obtain ⟨rfl, -⟩ := hv
  have hx := B.exec
  have hb := B.bytes
  have hr := B.returns
  have hts0 := atoms_spec (ws := mj_ws lw_tbl mm_jE) B.pre
  have hts : ∀ w ∈ lw_tbl.filter goodWord, w.before _ s = true := fun w hw => hts0 w (List.mem_cons_of_mem _ hw)
  have hown : s.vm.findClass "jdk/internal/util/Preconditions" = some m.cls := findClass_of_methodNamed B.named
  have hlocks := B.notSynchronized
  have hS : va_S (fun _ => False) s.heap s.heap [] := va_S.rf
  have hsz : (lg_sl ([.int i, .int n, w] : List Value)).length = 3 := by rw [lg_sl, List.flatMap_cons, List.flatMap_cons, List.flatMap_cons, hw]; rfl
  have hl := lv_entry ([.int i, .int n, w]) (n := 3) (Nat.le_of_eq hsz)
  rw [lg_entry_eq]
  generalize (lg_sl ([.int i, .int n, w]) ++ List.replicate (3 - (lg_sl ([.int i, .int n, w])).length) Slot.unset).toArray = ls at hl ⊢
  have hl : lv_has ls 3 [(0, .int i), (1, .int n)] := mj_sub hl (fun q hq => by simp only [List.mem_cons, List.not_mem_nil, or_false] at hq; rcases hq with rfl | rfl <;> simp [lv_args, Value.category])
  show W p l e ({ frames := 0, cells := 0, slots := 0, locals := 0 } : Room) s m _ below meth c s.heap [] 0 0 _ _
  refine lv_iload_n hx hb d_jE_0 rfl (lv_at hl 0 rfl) ?_
  refine lv_if_lt (tgt := 9) hx hb d_jE_1 (by decide) (fun q => absurd q hi) (fun _ => ?_)
  refine lv_iload_n hx hb d_jE_4 rfl (lv_at hl 0 rfl) ?_
  refine lv_iload_n hx hb d_jE_5 rfl (lv_at hl 1 rfl) ?_
  refine lv_icmp_lt (tgt := 16) hx hb d_jE_6 (by decide) (fun _ => ?_) (fun q => absurd hn q)
  refine lv_iload_n hx hb d_jE_16 rfl (lv_at hl 0 rfl) ?_
  exact W.iret hx hb hr (fun t ht hW => ⟨rfl, ht⟩) (fun q hq => by cases hq) d_jE_17
theorem c_jD (l : Launch) (i n : Int32) (hi : ¬ i < 0) (hn : i < n) : Met l mm_jD.1 (mj_ws lw_tbl mm_jD) ({ frames := 1, cells := 0, slots := 0, locals := 22 }) (va_Pc [.int i, .int n] (fun U => va_Zq "jdk/internal/util/Preconditions" "SIOOBE_FORMATTER" "Ljava/util/function/BiFunction;" (fun _ => False) U U.heap)) (va_Sv (fun _ => True)) 0 0 (fun _ => False) := by
  refine Met.ofW (cc := prog_18_method_155_code) (maxL := 2) (ret := none) (by decide) rfl ?_
  intro p e s m args below meth c s₁ B hml hv
  obtain ⟨rfl, hZ⟩ := hv
  have hx := B.exec
  have hb := B.bytes
  have hr := B.returns
  have hts0 := atoms_spec (ws := mj_ws lw_tbl mm_jD) B.pre
  have hts : ∀ w ∈ lw_tbl.filter goodWord, w.before _ s = true := fun w hw => hts0 w (List.mem_cons_of_mem _ hw)
  have hown : s.vm.findClass "java/lang/String" = some m.cls := findClass_of_methodNamed B.named
  have hlocks := B.notSynchronized
  have hS : va_S (fun _ => False) s.heap s.heap [] := va_S.rf
  have hl := lv_entry ([.int i, .int n]) (n := 2) (Nat.le_of_ble_eq_true rfl)
  rw [lg_entry_eq]
  generalize (lg_sl ([.int i, .int n]) ++ List.replicate (2 - (lg_sl ([.int i, .int n])).length) Slot.unset).toArray = ls at hl ⊢
  have hl : lv_has ls 2 [(0, .int i), (1, .int n)] := hl
  show W p l e ({ frames := 1, cells := 0, slots := 0, locals := 22 } : Room) s m _ below meth c s.heap [] 0 0 _ _
  refine lv_iload_n hx hb d_jD_0 rfl (lv_at hl 0 rfl) ?_
  refine lv_iload_n hx hb d_jD_1 rfl (lv_at hl 1 rfl) ?_
  rcases hZ with hZ | ⟨t, hZ⟩
  · refine va_gets hx hb hZ hS hown (hts _ (mj_good_in ((lw_in_0 (List.mem_of_getElem? (i := 119) (by decide +kernel)))) rfl)) (fun _ h9 => h9) d_jD_2 ?_
    refine W.callR (W.runS (As := [.int i, .int n, .null]) (rest := []) ⟨hx, hb, hml, hown, hts⟩ (c_jE l i n .null hi hn rfl) (va_cwS 3 hts (mj_goodS ((lw_in_0 (List.mem_of_getElem? (i := 121) (by decide +kernel)))) ((lw_in_0 (List.mem_of_getElem? (i := 122) (by decide +kernel)))) my_jE) rfl rfl rfl ⟨by decide +kernel, by decide +kernel, by decide +kernel⟩ ⟨Nat.le_of_ble_eq_true rfl, Nat.le_of_ble_eq_true rfl⟩) ⟨fun _ _ _ _ q => q, fun _ _ _ => ⟨rfl, trivial⟩⟩ rfl rfl hl.1 rfl (lv_room (Nat.le_of_ble_eq_true rfl)) d_jD_5 ⟨Nat.le_of_ble_eq_true rfl, Nat.le_of_ble_eq_true rfl⟩) ?_
    refine lv_pop hx hb d_jD_8 rfl ?_
    exact W.vret hx hb hr (fun t ht hW => ⟨rfl, trivial, ht⟩) (fun q hq => by cases hq) d_jD_9
  · refine va_gets hx hb hZ hS hown (hts _ (mj_good_in ((lw_in_0 (List.mem_of_getElem? (i := 119) (by decide +kernel)))) rfl)) (fun _ h9 => h9) d_jD_2 ?_
    refine W.callR (W.runS (As := [.int i, .int n, (.ref t)]) (rest := []) ⟨hx, hb, hml, hown, hts⟩ (c_jE l i n (.ref t) hi hn rfl) (va_cwS 3 hts (mj_goodS ((lw_in_0 (List.mem_of_getElem? (i := 121) (by decide +kernel)))) ((lw_in_0 (List.mem_of_getElem? (i := 122) (by decide +kernel)))) my_jE) rfl rfl rfl ⟨by decide +kernel, by decide +kernel, by decide +kernel⟩ ⟨Nat.le_of_ble_eq_true rfl, Nat.le_of_ble_eq_true rfl⟩) ⟨fun _ _ _ _ q => q, fun _ _ _ => ⟨rfl, trivial⟩⟩ rfl rfl hl.1 rfl (lv_room (Nat.le_of_ble_eq_true rfl)) d_jD_5 ⟨Nat.le_of_ble_eq_true rfl, Nat.le_of_ble_eq_true rfl⟩) ?_
    refine lv_pop hx hb d_jD_8 rfl ?_
    exact W.vret hx hb hr (fun t ht hW => ⟨rfl, trivial, ht⟩) (fun q hq => by cases hq) d_jD_9
theorem c_jC (l : Launch) (aV k : Nat) (hk : k < 102) : Met l mm_jC.1 (mj_ws lw_tbl mm_jC) ({ frames := 2, cells := 0, slots := 0, locals := 43 }) (va_Pc [.ref aV, .int (nI k)] (fun U => va_Zq "jdk/internal/util/Preconditions" "SIOOBE_FORMATTER" "Ljava/util/function/BiFunction;" (fun _ => False) U U.heap ∧ va_T .byte aV 102 (fun j => .int (mj_ownB.getD j 0)) (fun _ => False) U U.heap)) (QcRead (mj_ownB.getD k 0 &&& 255)) 0 0 (fun _ => False) := by
  refine Met.ofW (cc := prog_19_method_2_code) (maxL := 2) (ret := (some .char)) (by decide) rfl ?_
  intro p e s m args below meth c s₁ B hml hv
  obtain ⟨rfl, hZ, hT⟩ := hv
  have hx := B.exec
  have hb := B.bytes
  have hr := B.returns
  have hts0 := atoms_spec (ws := mj_ws lw_tbl mm_jC) B.pre
  have hts : ∀ w ∈ lw_tbl.filter goodWord, w.before _ s = true := fun w hw => hts0 w (List.mem_cons_of_mem _ hw)
  have hown : s.vm.findClass "java/lang/StringLatin1" = some m.cls := findClass_of_methodNamed B.named
  have hlocks := B.notSynchronized
  have hS : va_S (fun _ => False) s.heap s.heap [] := va_S.rf
  have hl := lv_entry ([.ref aV, .int (nI k)]) (n := 2) (Nat.le_of_ble_eq_true rfl)
  rw [lg_entry_eq]
  generalize (lg_sl ([.ref aV, .int (nI k)]) ++ List.replicate (2 - (lg_sl ([.ref aV, .int (nI k)])).length) Slot.unset).toArray = ls at hl ⊢
  have hl : lv_has ls 2 [(0, .ref aV), (1, .int (nI k))] := hl
  show W p l e ({ frames := 2, cells := 0, slots := 0, locals := 43 } : Room) s m _ below meth c s.heap [] 0 0 _ _
  refine lv_iload_n hx hb d_jC_0 rfl (lv_at hl 1 rfl) ?_
  refine lv_aload_n hx hb d_jC_1 rfl (lv_at hl 0 rfl) ?_
  refine va_tlen hx hb hT hS (v := 102) rfl d_jC_2 ?_
  have hlt : nI k < 102 := nI_lt (a := k) (b := 102) hk (by decide)
  refine va_csv (W.runS (As := [.int (nI k), .int 102]) (rest := []) ⟨hx, hb, hml, hown, hts⟩ (c_jD l (nI k) 102 (nI_pos (by omega)) hlt) (va_cwS 2 hts (mj_goodS ((lw_in_0 (List.mem_of_getElem? (i := 116) (by decide +kernel)))) ((lw_in_0 (List.mem_of_getElem? (i := 117) (by decide +kernel)))) my_jD) rfl rfl rfl ⟨by decide +kernel, by decide +kernel, by decide +kernel⟩ ⟨Nat.le_of_ble_eq_true rfl, Nat.le_of_ble_eq_true rfl⟩) ⟨fun a U g mk q => ⟨q.1, va_Zq.moved (u := U) (U := U.calling g mk a) (Vm.Alike.refl U.vm) q.2⟩, fun U hU hW => ⟨rfl, by show va_Zq _ _ _ _ U U.heap; rw [hU]; exact va_Zq.moved hW.alike hZ⟩⟩ rfl rfl hl.1 rfl (lv_room (Nat.le_of_ble_eq_true rfl)) d_jC_3 ⟨Nat.le_of_ble_eq_true rfl, Nat.le_of_ble_eq_true rfl⟩) (fun _ => ?_)
  refine lv_aload_n hx hb d_jC_6 rfl (lv_at hl 0 rfl) ?_
  refine lv_iload_n hx hb d_jC_7 rfl (lv_at hl 1 rfl) ?_
  refine va_tb hx hb hT hS (vp_in_nI hk (by decide)) (v := .int (mj_ownB.getD k 0)) (by rw [nI_clamp (by omega)]) d_jC_8 ?_
  refine lv_sipush (v := 255) hx hb d_jC_9 (by decide) ?_
  refine lv_iand hx hb d_jC_12 ?_
  refine lv_i2c (v := mj_ownB.getD k 0 &&& 255) hx hb d_jC_13 (sc_c2 _) ?_
  exact W.zret (ty := .char) hx hb hr (sc_nar _) (fun t ht hW => ⟨rfl, ht⟩) (fun q hq => by cases hq) d_jC_14
theorem mj_goodV {own : String} {x : Nat} {y : mj_M} (h1 : Cond.methodLink own x y.1 ∈ lw_tbl) (h2 : Cond.instanceMethod y.1 ∈ lw_tbl) (h3 : Cond.selects y.1.cls y.1 y.1 ∈ lw_tbl) (hY : mj_okY lw_tbl y) : GoodIn (lw_tbl.filter goodWord) (wsV own x y.1.cls y.1 (mj_ws lw_tbl y)) := by
  intro w hw
  rcases List.mem_append.mp hw with hw | hw
  · simp only [List.mem_cons, List.not_mem_nil, or_false] at hw
    rcases hw with rfl | rfl | rfl | rfl
    · exact ⟨mj_good_in h1 rfl, good_of_word rfl⟩
    · exact ⟨mj_good_in h2 rfl, good_of_word rfl⟩
    · exact ⟨mj_good_in h3 rfl, good_of_word rfl⟩
    · exact ⟨mj_good_in hY.2.1 rfl, good_of_word rfl⟩
  · exact mj_goodIn hY w hw
/-- the constant, where it lies, and what String reads beside it -/
def mj_str (aK aV : Nat) (A : Nat → Prop) (U : State) (H : Heap) : Prop := vk_S 1 [102] [mj_ownB] (fun _ => aK) (fun _ => aV) A U H ∧ va_Z "java/lang/String" "COMPACT_STRINGS" "Z" (.int 1) A U H ∧ va_Zq "jdk/internal/util/Preconditions" "SIOOBE_FORMATTER" "Ljava/util/function/BiFunction;" A U H
theorem mj_str.moved {aK aV : Nat} {A : Nat → Prop} {u U : State} {H : Heap} (hvm : u.vm.Alike U.vm) (h : mj_str aK aV A u H) : mj_str aK aV A U H := ⟨vk_S.moved hvm h.1, va_Z.moved hvm h.2.1, va_Zq.moved hvm h.2.2⟩
theorem mj_str.kept {aK aV : Nat} {A : Nat → Prop} {U : State} {H H1 : Heap} (h : mj_str aK aV A U H) (hq : ∀ a : Nat, a < H.size → ¬ A a → H1[a]? = H[a]?) : mj_str aK aV A U H1 := ⟨h.1.kept hq, h.2.1.kept hq, h.2.2.kept hq⟩
theorem mj_str.narrow {aK aV : Nat} {A B : Nat → Prop} {U : State} {H : Heap} (h : mj_str aK aV A U H) (hAB : ∀ q, B q → A q) : mj_str aK aV B U H := ⟨h.1.narrow hAB, h.2.1.narrow hAB, h.2.2.narrow hAB⟩
theorem c_jB (l : Launch) (aK : Nat) : Met l mm_jB.1 (mj_ws lw_tbl mm_jB) ({ frames := 0, cells := 0, slots := 0, locals := 0 }) (va_Pc [.ref aK] (fun U => va_Z "java/lang/String" "COMPACT_STRINGS" "Z" (.int 1) (fun _ => False) U U.heap ∧ va_OF "java/lang/String" "coder" "B" (.int 0) aK (fun _ => False) U U.heap)) (QcRead 1) 0 0 (fun _ => False) := by
  refine Met.ofW (cc := prog_18_method_154_code) (maxL := 1) (ret := (some .boolean)) (by decide) rfl ?_
  intro p e s m args below meth c s₁ B hml hv
  obtain ⟨rfl, hC, hO⟩ := hv
  have hx := B.exec
  have hb := B.bytes
  have hr := B.returns
  have hts0 := atoms_spec (ws := mj_ws lw_tbl mm_jB) B.pre
  have hts : ∀ w ∈ lw_tbl.filter goodWord, w.before _ s = true := fun w hw => hts0 w (List.mem_cons_of_mem _ hw)
  have hown : s.vm.findClass "java/lang/String" = some m.cls := findClass_of_methodNamed B.named
  have hlocks := B.notSynchronized
  have hS : va_S (fun _ => False) s.heap s.heap [] := va_S.rf
  have hl := lv_entry ([.ref aK]) (n := 1) (Nat.le_of_ble_eq_true rfl)
  rw [lg_entry_eq]
  generalize (lg_sl ([.ref aK]) ++ List.replicate (1 - (lg_sl ([.ref aK])).length) Slot.unset).toArray = ls at hl ⊢
  have hl : lv_has ls 1 [(0, .ref aK)] := hl
  show W p l e ({ frames := 0, cells := 0, slots := 0, locals := 0 } : Room) s m _ below meth c s.heap [] 0 0 _ _
  refine va_gets hx hb hC hS hown (hts _ (mj_good_in ((lw_in_0 (List.mem_of_getElem? (i := 111) (by decide +kernel)))) rfl)) (fun _ h9 => h9) d_jB_0 ?_
  refine lv_if_eq (tgt := 17) hx hb d_jB_3 (by decide) (fun q => absurd q (by decide)) (fun _ => ?_)
  refine lv_aload_n hx hb d_jB_6 rfl (lv_at hl 0 rfl) ?_
  refine vk_getf hx hb hO hS hown (hts _ (mj_good_in ((lw_in_7 (List.mem_of_getElem? (i := 239) (by decide +kernel)))) rfl)) (fun _ h9 => h9) d_jB_7 ?_
  refine lv_if_ne (tgt := 17) hx hb d_jB_10 (by decide) (fun q => absurd rfl q) (fun _ => ?_)
  refine lv_iconst (v := 1) hx hb d_jB_13 (by decide) ?_
  refine lv_goto (tgt := 18) hx hb d_jB_14 (by decide) ?_
  exact W.zret (ty := .boolean) hx hb hr rfl (fun t ht hW => ⟨rfl, ht⟩) (fun q hq => by cases hq) d_jB_18
/-- String.charAt of the constant -/
theorem c_jA (l : Launch) (aK aV k : Nat) (hk : k < 102) : Met l mm_jA.1 (mj_ws lw_tbl mm_jA) ({ frames := 3, cells := 0, slots := 0, locals := 64 }) (va_Pc [.ref aK, .int (nI k)] (fun U => mj_str aK aV (fun _ => False) U U.heap)) (QcRead (mj_ownB.getD k 0 &&& 255)) 0 0 (fun _ => False) := by
  refine Met.ofW (cc := prog_18_method_56_code) (maxL := 2) (ret := (some .char)) (by decide) rfl ?_
  intro p e s m args below meth c s₁ B hml hv
  obtain ⟨rfl, hT⟩ := hv
  have hx := B.exec
  have hb := B.bytes
  have hr := B.returns
  have hts0 := atoms_spec (ws := mj_ws lw_tbl mm_jA) B.pre
  have hts : ∀ w ∈ lw_tbl.filter goodWord, w.before _ s = true := fun w hw => hts0 w (List.mem_cons_of_mem _ hw)
  have hown : s.vm.findClass "java/lang/String" = some m.cls := findClass_of_methodNamed B.named
  have hlocks := B.notSynchronized
  have hS : va_S (fun _ => False) s.heap s.heap [] := va_S.rf
  have hl := lv_entry ([.ref aK, .int (nI k)]) (n := 2) (Nat.le_of_ble_eq_true rfl)
  rw [lg_entry_eq]
  generalize (lg_sl ([.ref aK, .int (nI k)]) ++ List.replicate (2 - (lg_sl ([.ref aK, .int (nI k)])).length) Slot.unset).toArray = ls at hl ⊢
  have hl : lv_has ls 2 [(0, .ref aK), (1, .int (nI k))] := hl
  show W p l e ({ frames := 3, cells := 0, slots := 0, locals := 64 } : Room) s m _ below meth c s.heap [] 0 0 _ _
  obtain ⟨hV, hC, hZ⟩ := hT
  have hO := (hV.1 0 (by decide)).2.1
  have hval := (hV.1 0 (by decide)).2.2.1
  have harr := (hV.1 0 (by decide)).2.2.2
  refine lv_aload_n hx hb d_jA_0 rfl (lv_at hl 0 rfl) ?_
  refine W.callR (W.runV (As := []) (rest := []) ⟨hx, hb, hml, hown, hts⟩ (c_jB l aK) (cwV 0 hts (mj_goodV ((lw_in_0 (List.mem_of_getElem? (i := 107) (by decide +kernel)))) ((lw_in_0 (List.mem_of_getElem? (i := 108) (by decide +kernel)))) ((lw_in_0 (List.mem_of_getElem? (i := 109) (by decide +kernel)))) my_jB) rfl rfl rfl ⟨rfl, by decide +kernel, by decide +kernel, by decide +kernel⟩ ⟨Nat.le_of_ble_eq_true rfl, Nat.le_of_ble_eq_true rfl⟩) ⟨fun a U g mk q => ⟨q.1, va_Z.moved (u := U) (U := U.calling g mk a) (Vm.Alike.refl U.vm) q.2.1, va_OF.moved (u := U) (U := U.calling g mk a) (Vm.Alike.refl U.vm) q.2.2⟩, vk_recv hV (i := 0) (by decide) hS, fun U hU hW => ⟨rfl, by show va_Z _ _ _ _ _ U U.heap; rw [hU]; exact va_Z.moved hW.alike hC, by show va_OF _ _ _ _ _ _ U U.heap; rw [hU]; exact va_OF.moved hW.alike hO⟩⟩ rfl rfl hl.1 rfl (lv_room (Nat.le_of_ble_eq_true rfl)) d_jA_1 ⟨Nat.le_of_ble_eq_true rfl, Nat.le_of_ble_eq_true rfl⟩) ?_
  refine W.eq (g2 := F0 m 4 ls [.int 1]) rfl ?_
  refine lv_if_eq (tgt := 16) hx hb d_jA_4 (by decide) (fun q => absurd q (by decide)) (fun _ => ?_)
  refine lv_aload_n hx hb d_jA_7 rfl (lv_at hl 0 rfl) ?_
  refine vk_getf hx hb hval hS hown (hts _ (mj_good_in ((lw_in_8 (List.mem_of_getElem? (i := 0) (by decide +kernel)))) rfl)) (fun _ h9 => h9) d_jA_8 ?_
  refine lv_iload_n hx hb d_jA_11 rfl (lv_at hl 1 rfl) ?_
  refine W.callR (W.runS (As := [.ref aV, .int (nI k)]) (rest := []) ⟨hx, hb, hml, hown, hts⟩ (c_jC l aV k hk) (va_cwS 2 hts (mj_goodS ((lw_in_0 (List.mem_of_getElem? (i := 113) (by decide +kernel)))) ((lw_in_0 (List.mem_of_getElem? (i := 114) (by decide +kernel)))) my_jC) rfl rfl rfl ⟨by decide +kernel, by decide +kernel, by decide +kernel⟩ ⟨Nat.le_of_ble_eq_true rfl, Nat.le_of_ble_eq_true rfl⟩) ⟨fun a U g mk q => ⟨q.1, va_Zq.moved (u := U) (U := U.calling g mk a) (Vm.Alike.refl U.vm) q.2.1, va_T.moved (u := U) (U := U.calling g mk a) (Vm.Alike.refl U.vm) q.2.2⟩, fun U hU hW => ⟨rfl, by show va_Zq _ _ _ _ U U.heap; rw [hU]; exact va_Zq.moved hW.alike hZ, by show va_T _ _ _ _ _ U U.heap; rw [hU]; exact va_T.moved hW.alike harr⟩⟩ rfl rfl hl.1 rfl (lv_room (Nat.le_of_ble_eq_true rfl)) d_jA_12 ⟨Nat.le_of_ble_eq_true rfl, Nat.le_of_ble_eq_true rfl⟩) ?_
  refine W.eq (g2 := F0 m 15 ls [.int (mj_ownB.getD k 0 &&& 255)]) rfl ?_
  exact W.zret (ty := .char) hx hb hr (sc_nar _) (fun t ht hW => ⟨rfl, ht⟩) (fun q hq => by cases hq) d_jA_15
