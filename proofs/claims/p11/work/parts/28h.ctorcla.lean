/-! constructors, by program, over the kit's rows (as the kit's worked module does) -/
theorem mj_cA0 {Dg : va_G} {cl : List vw_C} {cI cJ cZ cA : Nat} {s : State} (h : va_K Dg cl (mj_tys (cI, cJ, cZ) ++ [(cA, .int)]) s) : cA = cI := by
  have h1 : s.vm.findClass ("[" ++ FieldType.int.toString) = some cI := (h.2 0 _ rfl).2
  have h2 : s.vm.findClass ("[" ++ FieldType.int.toString) = some cA := (h.2 3 _ rfl).2
  exact Option.some.inj (h2.symm.trans h1)
theorem mj_cA1 {Dg : va_G} {cl : List vw_C} {cI cJ cZ cA : Nat} {s : State} (h : va_K Dg cl (mj_tys (cI, cJ, cZ) ++ [(cA, .long)]) s) : cA = cJ := by
  have h1 : s.vm.findClass ("[" ++ FieldType.long.toString) = some cJ := (h.2 1 _ rfl).2
  have h2 : s.vm.findClass ("[" ++ FieldType.long.toString) = some cA := (h.2 3 _ rfl).2
  exact Option.some.inj (h2.symm.trans h1)
theorem mj_cA2 {Dg : va_G} {cl : List vw_C} {cI cJ cZ cA : Nat} {s : State} (h : va_K Dg cl (mj_tys (cI, cJ, cZ) ++ [(cA, .boolean)]) s) : cA = cZ := by
  have h1 : s.vm.findClass ("[" ++ FieldType.boolean.toString) = some cZ := (h.2 2 _ rfl).2
  have h2 : s.vm.findClass ("[" ++ FieldType.boolean.toString) = some cA := (h.2 3 _ rfl).2
  exact Option.some.inj (h2.symm.trans h1)
def mj_kPc (Dg : va_G) (cI cJ cZ h0 : Nat) (w0 : va_W) (sz : Nat) : Array Value → State → Prop :=
  va_Pc [.ref h0] (fun U => U.heap.size = sz ∧ va_P Dg mj_CL w0 U.heap ∧ va_K Dg mj_CL (mj_tys (cI, cJ, cZ)) U ∧ va_D (fun _ => True) w0 ∧ ∀ w ∈ lw_tbl, mj_nest w = true → va_Nw w U)
theorem mj_kblind {Dg : va_G} {cI cJ cZ h0 sz : Nat} {w0 : va_W} : FrameBlind (mj_kPc Dg cI cJ cZ h0 w0 sz) := by
  intro a U g mk q
  obtain ⟨q0, q1, q2, q3, q5, q4⟩ := q
  refine ⟨q0, q1, q2, va_K.moved (u := U) (U := U.calling g mk a) (Vm.Alike.refl U.vm) q3, q5, fun w hw hn => ?_⟩
  have h1 := q4 w hw hn
  cases w <;> first | exact va_Nw.same (u := U) rfl rfl h1 | exact absurd (show false = true from hn) (by decide)
def mm_k4 : mj_M := (⟨"UnbeatenHouse$Judge", "<init>", "()V"⟩, prog_4_method_1_code, 1, none)
set_option maxRecDepth 100000 in
theorem my_k4 : mj_okY lw_tbl mm_k4 := ⟨(lw_in_1 (List.mem_of_getElem? (i := 19) rfl)), (lw_in_0 (List.mem_of_getElem? (i := 11) (by decide +kernel))), by decide, plainFor_of_name (by decide +kernel), by decide +kernel, by decide +kernel⟩
theorem dg_k4_0 : (decode prog_4_method_1_code 0 = .ok (.aload_n 0, 1)) ∧ (decode prog_4_method_1_code 1 = .ok (.invokespecial 3, 3)) ∧ (decode prog_4_method_1_code 4 = .ok (.aload_n 0, 1)) ∧ (decode prog_4_method_1_code 5 = .ok (.bipush 64, 2)) ∧ (decode prog_4_method_1_code 7 = .ok (.newarray .int, 2)) ∧ (decode prog_4_method_1_code 9 = .ok (.putfield 11, 3)) ∧ (decode prog_4_method_1_code 12 = .ok (.return_, 1)) ∧ True := fd_of (cc := prog_4_method_1_code) [(0, .aload_n 0, 1), (1, .invokespecial 3, 3), (4, .aload_n 0, 1), (5, .bipush 64, 2), (7, .newarray .int, 2), (9, .putfield 11, 3), (12, .return_, 1)] (by decide +kernel)
theorem d_k4_0 : decode prog_4_method_1_code 0 = .ok (.aload_n 0, 1) := dg_k4_0.1
theorem d_k4_1 : decode prog_4_method_1_code 1 = .ok (.invokespecial 3, 3) := dg_k4_0.2.1
theorem d_k4_4 : decode prog_4_method_1_code 4 = .ok (.aload_n 0, 1) := dg_k4_0.2.2.1
theorem d_k4_5 : decode prog_4_method_1_code 5 = .ok (.bipush 64, 2) := dg_k4_0.2.2.2.1
theorem d_k4_7 : decode prog_4_method_1_code 7 = .ok (.newarray .int, 2) := dg_k4_0.2.2.2.2.1
theorem d_k4_9 : decode prog_4_method_1_code 9 = .ok (.putfield 11, 3) := dg_k4_0.2.2.2.2.2.1
theorem d_k4_12 : decode prog_4_method_1_code 12 = .ok (.return_, 1) := dg_k4_0.2.2.2.2.2.2.1
/-- a new UnbeatenHouse$Judge -/
abbrev at_k4 (Dg : va_G) (cI cJ cZ : Nat) (A : Nat → Prop) (h0 : Nat) (_ : Unit) (t : State) : Prop := ∃ (z1 : Nat), va_P Dg mj_CL [(h0, .inr (4, [.ref z1, .int 0])), (z1, .inl (cI, 64, .inl (fun _ => 0)))] t.heap ∧ va_D A [(h0, .inr (4, [.ref z1, .int 0])), (z1, .inl (cI, 64, .inl (fun _ => 0)))]
set_option maxHeartbeats 8000000 in
set_option maxRecDepth 100000 in
theorem c_k4 (l : Launch) (Dg : va_G) (cI cJ cZ : Nat) (h0 sz : Nat) : Met l mm_k4.1 (mj_ws lw_tbl mm_k4) ({ frames := 1, cells := 1, slots := 64, locals := 12 }) (mj_kPc Dg cI cJ cZ h0 [(h0, .inr (4, [.null, .int 0]))] sz) (va_Qv (fun _ : Unit => True) (at_k4 Dg cI cJ cZ (va_A [(h0, .inr (4, [.null, .int 0]))] sz) h0) (va_A [(h0, .inr (4, [.null, .int 0]))] sz)) 1 64 (va_A [(h0, .inr (4, [.null, .int 0]))] sz) := by
  refine Met.ofW (cc := prog_4_method_1_code) (maxL := 1) (ret := none) (by decide) rfl ?_
  intro p e s m args below meth c s₁ B hml hv
  obtain ⟨rfl, hsz, hP, hK, hD0, hN⟩ := hv
  have hx := B.exec
  have hb := B.bytes
  have hr := B.returns
  have hts0 := atoms_spec (ws := mj_ws lw_tbl mm_k4) B.pre
  have hts : ∀ w ∈ lw_tbl.filter goodWord, w.before _ s = true := fun w hw => hts0 w (List.mem_cons_of_mem _ hw)
  have hown : s.vm.findClass "UnbeatenHouse$Judge" = some m.cls := findClass_of_methodNamed B.named
  have hlocks := B.notSynchronized
  have hin : meth.name = "<init>" := (name_of_methodNamed B.named B.method).1
  subst hsz
  have hD := hD0.self (sz := s.heap.size)
  generalize hAe : va_A [(h0, .inr (4, [.null, .int 0]))] s.heap.size = A at hD ⊢
  have hA : ∀ q : Nat, s.heap.size ≤ q → A q := fun q h => by rw [← hAe]; exact Or.inr h
  have hS : va_S A s.heap s.heap [] := va_S.rf
  have hP : va_P Dg mj_CL [(h0, .inr (4, [.null, .int 0]))] s.heap := hP
  have hl := lv_entry ([.ref h0]) (n := 1) (Nat.le_of_ble_eq_true rfl)
  rw [lg_entry_eq]
  generalize (lg_sl ([.ref h0]) ++ List.replicate (1 - (lg_sl ([.ref h0])).length) Slot.unset).toArray = ls at hl ⊢
  have hl : lv_has ls 1 [(0, .ref h0)] := hl
  show W p l e ({ frames := 1, cells := 1, slots := 64, locals := 12 } : Room) s m _ below meth c s.heap [] 0 0 _ _
  refine lv_aload_n hx hb d_k4_0 rfl (lv_at hl 0 rfl) ?_
  refine W.objInit hx hb hown (hts _ (mj_good_in ((lw_in_1 (List.mem_of_getElem? (i := 20) (by decide +kernel)))) rfl)) (hts _ (mj_good_in ((lw_in_0 (List.mem_of_getElem? (i := 28) (by decide +kernel)))) rfl)) (hts _ (mj_good_in ((lw_in_0 (List.mem_of_getElem? (i := 29) (by decide +kernel)))) rfl)) rfl (by rw [hml]; exact hl.1) rfl d_k4_1 (Nat.le_of_ble_eq_true rfl) (Nat.le_of_ble_eq_true rfl) ?_
  refine W.eq (g2 := F0 m 4 ls []) rfl ?_
  refine lv_aload_n hx hb d_k4_4 rfl (lv_at hl 0 rfl) ?_
  refine lv_bipush (v := 64) hx hb d_k4_5 (by decide) ?_
  refine va_newa (atype := .int) (ty := .int) (N' := 64) (a0 := (64, .inl (fun _ => 0))) hx hb (hts _ (mj_good_in ((lw_in_0 (List.mem_of_getElem? (i := 92) (by decide +kernel)))) rfl)) rfl hK hP hD hS hA (fun _ => rfl) (by decide) (by decide) (Nat.le_of_ble_eq_true rfl) (Nat.le_of_ble_eq_true rfl) (Nat.le_of_ble_eq_true rfl) d_k4_7 (fun q7 cA H hK1 hP hD hS => ?_)
  have hcA : cA = cI := mj_cA0 hK1
  rw [hcA] at hP hD
  clear hK1 hcA
  refine W.widen (k := 1) (n := 64) (Nat.le_of_ble_eq_true rfl) (Nat.le_of_ble_eq_true rfl) ?_
  have hP : va_P Dg mj_CL [(h0, .inr (4, [.null, .int 0])), (q7, .inl (cI, 64, .inl (fun _ => 0)))] H := hP
  have hD : va_D A [(h0, .inr (4, [.null, .int 0])), (q7, .inl (cI, 64, .inl (fun _ => 0)))] := hD
  refine va_putF (D := Dg) (ci := 4) (v := .ref q7) (ty := mj_TY 4 0) (C := "UnbeatenHouse$Judge") (T := mF_4) (N := 2) hx hb hts (mj_lays mc_4.1) (mj_TY 4) mc_4.2.1 mc_4.2.2 hown hK hP hD hS 0 rfl rfl 0 (by decide) (hts _ (mj_good_in ((lw_in_1 (List.mem_of_getElem? (i := 21) (by decide +kernel)))) rfl)) (fun _ h9 => h9) rfl hin rfl (mc_4.2.1 0 (by decide)) rfl rfl (Nat.le_of_ble_eq_true rfl) d_k4_9 (fun H locs hP hD hS => ?_)
  have hP : va_P Dg mj_CL [(h0, .inr (4, [.ref q7, .int 0])), (q7, .inl (cI, 64, .inl (fun _ => 0)))] H := hP
  have hD : va_D A [(h0, .inr (4, [.ref q7, .int 0])), (q7, .inl (cI, 64, .inl (fun _ => 0)))] := hD
  refine W.widen (k := 1) (n := 64) (Nat.le_of_ble_eq_true rfl) (Nat.le_of_ble_eq_true rfl) ?_
  exact W.vret hx hb hr (fun t ht hW => ⟨⟨(), rfl, trivial, q7, by rw [ht]; exact hP, hD⟩, hS.F ht⟩) hS.2.2 d_k4_12
def mm_k11 : mj_M := (⟨"UnbeatenHouse$Tale", "<init>", "()V"⟩, prog_11_method_1_code, 1, none)
set_option maxRecDepth 100000 in
theorem my_k11 : mj_okY lw_tbl mm_k11 := ⟨(lw_in_0 (List.mem_of_getElem? (i := 34) rfl)), (lw_in_0 (List.mem_of_getElem? (i := 2) (by decide +kernel))), by decide, plainFor_of_name (by decide +kernel), by decide +kernel, by decide +kernel⟩
theorem dg_k11_0 : (decode prog_11_method_1_code 0 = .ok (.aload_n 0, 1)) ∧ (decode prog_11_method_1_code 1 = .ok (.invokespecial 3, 3)) ∧ (decode prog_11_method_1_code 4 = .ok (.aload_n 0, 1)) ∧ (decode prog_11_method_1_code 5 = .ok (.bipush 6, 2)) ∧ (decode prog_11_method_1_code 7 = .ok (.newarray .int, 2)) ∧ (decode prog_11_method_1_code 9 = .ok (.putfield 9, 3)) ∧ (decode prog_11_method_1_code 12 = .ok (.aload_n 0, 1)) ∧ (decode prog_11_method_1_code 13 = .ok (.sipush 240, 3)) ∧ (decode prog_11_method_1_code 16 = .ok (.newarray .int, 2)) ∧ (decode prog_11_method_1_code 18 = .ok (.putfield 15, 3)) ∧ (decode prog_11_method_1_code 21 = .ok (.aload_n 0, 1)) ∧ (decode prog_11_method_1_code 22 = .ok (.iconst 4, 1)) ∧ (decode prog_11_method_1_code 23 = .ok (.newarray .boolean, 2)) ∧ (decode prog_11_method_1_code 25 = .ok (.putfield 18, 3)) ∧ (decode prog_11_method_1_code 28 = .ok (.aload_n 0, 1)) ∧ (decode prog_11_method_1_code 29 = .ok (.sipush 960, 3)) ∧ True := fd_of (cc := prog_11_method_1_code) [(0, .aload_n 0, 1), (1, .invokespecial 3, 3), (4, .aload_n 0, 1), (5, .bipush 6, 2), (7, .newarray .int, 2), (9, .putfield 9, 3), (12, .aload_n 0, 1), (13, .sipush 240, 3), (16, .newarray .int, 2), (18, .putfield 15, 3), (21, .aload_n 0, 1), (22, .iconst 4, 1), (23, .newarray .boolean, 2), (25, .putfield 18, 3), (28, .aload_n 0, 1), (29, .sipush 960, 3)] (by decide +kernel)
theorem d_k11_0 : decode prog_11_method_1_code 0 = .ok (.aload_n 0, 1) := dg_k11_0.1
theorem d_k11_1 : decode prog_11_method_1_code 1 = .ok (.invokespecial 3, 3) := dg_k11_0.2.1
theorem d_k11_4 : decode prog_11_method_1_code 4 = .ok (.aload_n 0, 1) := dg_k11_0.2.2.1
theorem d_k11_5 : decode prog_11_method_1_code 5 = .ok (.bipush 6, 2) := dg_k11_0.2.2.2.1
theorem d_k11_7 : decode prog_11_method_1_code 7 = .ok (.newarray .int, 2) := dg_k11_0.2.2.2.2.1
theorem d_k11_9 : decode prog_11_method_1_code 9 = .ok (.putfield 9, 3) := dg_k11_0.2.2.2.2.2.1
theorem d_k11_12 : decode prog_11_method_1_code 12 = .ok (.aload_n 0, 1) := dg_k11_0.2.2.2.2.2.2.1
theorem d_k11_13 : decode prog_11_method_1_code 13 = .ok (.sipush 240, 3) := dg_k11_0.2.2.2.2.2.2.2.1
theorem d_k11_16 : decode prog_11_method_1_code 16 = .ok (.newarray .int, 2) := dg_k11_0.2.2.2.2.2.2.2.2.1
theorem d_k11_18 : decode prog_11_method_1_code 18 = .ok (.putfield 15, 3) := dg_k11_0.2.2.2.2.2.2.2.2.2.1
theorem d_k11_21 : decode prog_11_method_1_code 21 = .ok (.aload_n 0, 1) := dg_k11_0.2.2.2.2.2.2.2.2.2.2.1
theorem d_k11_22 : decode prog_11_method_1_code 22 = .ok (.iconst 4, 1) := dg_k11_0.2.2.2.2.2.2.2.2.2.2.2.1
theorem d_k11_23 : decode prog_11_method_1_code 23 = .ok (.newarray .boolean, 2) := dg_k11_0.2.2.2.2.2.2.2.2.2.2.2.2.1
theorem d_k11_25 : decode prog_11_method_1_code 25 = .ok (.putfield 18, 3) := dg_k11_0.2.2.2.2.2.2.2.2.2.2.2.2.2.1
theorem d_k11_28 : decode prog_11_method_1_code 28 = .ok (.aload_n 0, 1) := dg_k11_0.2.2.2.2.2.2.2.2.2.2.2.2.2.2.1
theorem d_k11_29 : decode prog_11_method_1_code 29 = .ok (.sipush 960, 3) := dg_k11_0.2.2.2.2.2.2.2.2.2.2.2.2.2.2.2.1
theorem dg_k11_32 : (decode prog_11_method_1_code 32 = .ok (.newarray .int, 2)) ∧ (decode prog_11_method_1_code 34 = .ok (.putfield 22, 3)) ∧ (decode prog_11_method_1_code 37 = .ok (.aload_n 0, 1)) ∧ (decode prog_11_method_1_code 38 = .ok (.sipush 160, 3)) ∧ (decode prog_11_method_1_code 41 = .ok (.newarray .int, 2)) ∧ (decode prog_11_method_1_code 43 = .ok (.putfield 25, 3)) ∧ (decode prog_11_method_1_code 46 = .ok (.aload_n 0, 1)) ∧ (decode prog_11_method_1_code 47 = .ok (.bipush 24, 2)) ∧ (decode prog_11_method_1_code 49 = .ok (.newarray .int, 2)) ∧ (decode prog_11_method_1_code 51 = .ok (.putfield 28, 3)) ∧ (decode prog_11_method_1_code 54 = .ok (.aload_n 0, 1)) ∧ (decode prog_11_method_1_code 55 = .ok (.bipush 24, 2)) ∧ (decode prog_11_method_1_code 57 = .ok (.newarray .int, 2)) ∧ (decode prog_11_method_1_code 59 = .ok (.putfield 31, 3)) ∧ (decode prog_11_method_1_code 62 = .ok (.aload_n 0, 1)) ∧ (decode prog_11_method_1_code 63 = .ok (.sipush 900, 3)) ∧ True := fd_of (cc := prog_11_method_1_code) [(32, .newarray .int, 2), (34, .putfield 22, 3), (37, .aload_n 0, 1), (38, .sipush 160, 3), (41, .newarray .int, 2), (43, .putfield 25, 3), (46, .aload_n 0, 1), (47, .bipush 24, 2), (49, .newarray .int, 2), (51, .putfield 28, 3), (54, .aload_n 0, 1), (55, .bipush 24, 2), (57, .newarray .int, 2), (59, .putfield 31, 3), (62, .aload_n 0, 1), (63, .sipush 900, 3)] (by decide +kernel)
theorem d_k11_32 : decode prog_11_method_1_code 32 = .ok (.newarray .int, 2) := dg_k11_32.1
theorem d_k11_34 : decode prog_11_method_1_code 34 = .ok (.putfield 22, 3) := dg_k11_32.2.1
theorem d_k11_37 : decode prog_11_method_1_code 37 = .ok (.aload_n 0, 1) := dg_k11_32.2.2.1
theorem d_k11_38 : decode prog_11_method_1_code 38 = .ok (.sipush 160, 3) := dg_k11_32.2.2.2.1
theorem d_k11_41 : decode prog_11_method_1_code 41 = .ok (.newarray .int, 2) := dg_k11_32.2.2.2.2.1
theorem d_k11_43 : decode prog_11_method_1_code 43 = .ok (.putfield 25, 3) := dg_k11_32.2.2.2.2.2.1
theorem d_k11_46 : decode prog_11_method_1_code 46 = .ok (.aload_n 0, 1) := dg_k11_32.2.2.2.2.2.2.1
theorem d_k11_47 : decode prog_11_method_1_code 47 = .ok (.bipush 24, 2) := dg_k11_32.2.2.2.2.2.2.2.1
theorem d_k11_49 : decode prog_11_method_1_code 49 = .ok (.newarray .int, 2) := dg_k11_32.2.2.2.2.2.2.2.2.1
theorem d_k11_51 : decode prog_11_method_1_code 51 = .ok (.putfield 28, 3) := dg_k11_32.2.2.2.2.2.2.2.2.2.1
theorem d_k11_54 : decode prog_11_method_1_code 54 = .ok (.aload_n 0, 1) := dg_k11_32.2.2.2.2.2.2.2.2.2.2.1
theorem d_k11_55 : decode prog_11_method_1_code 55 = .ok (.bipush 24, 2) := dg_k11_32.2.2.2.2.2.2.2.2.2.2.2.1
theorem d_k11_57 : decode prog_11_method_1_code 57 = .ok (.newarray .int, 2) := dg_k11_32.2.2.2.2.2.2.2.2.2.2.2.2.1
theorem d_k11_59 : decode prog_11_method_1_code 59 = .ok (.putfield 31, 3) := dg_k11_32.2.2.2.2.2.2.2.2.2.2.2.2.2.1
theorem d_k11_62 : decode prog_11_method_1_code 62 = .ok (.aload_n 0, 1) := dg_k11_32.2.2.2.2.2.2.2.2.2.2.2.2.2.2.1
theorem d_k11_63 : decode prog_11_method_1_code 63 = .ok (.sipush 900, 3) := dg_k11_32.2.2.2.2.2.2.2.2.2.2.2.2.2.2.2.1
theorem dg_k11_66 : (decode prog_11_method_1_code 66 = .ok (.newarray .int, 2)) ∧ (decode prog_11_method_1_code 68 = .ok (.putfield 34, 3)) ∧ (decode prog_11_method_1_code 71 = .ok (.aload_n 0, 1)) ∧ (decode prog_11_method_1_code 72 = .ok (.bipush 12, 2)) ∧ (decode prog_11_method_1_code 74 = .ok (.newarray .int, 2)) ∧ (decode prog_11_method_1_code 76 = .ok (.putfield 37, 3)) ∧ (decode prog_11_method_1_code 79 = .ok (.return_, 1)) ∧ True := fd_of (cc := prog_11_method_1_code) [(66, .newarray .int, 2), (68, .putfield 34, 3), (71, .aload_n 0, 1), (72, .bipush 12, 2), (74, .newarray .int, 2), (76, .putfield 37, 3), (79, .return_, 1)] (by decide +kernel)
theorem d_k11_66 : decode prog_11_method_1_code 66 = .ok (.newarray .int, 2) := dg_k11_66.1
theorem d_k11_68 : decode prog_11_method_1_code 68 = .ok (.putfield 34, 3) := dg_k11_66.2.1
theorem d_k11_71 : decode prog_11_method_1_code 71 = .ok (.aload_n 0, 1) := dg_k11_66.2.2.1
theorem d_k11_72 : decode prog_11_method_1_code 72 = .ok (.bipush 12, 2) := dg_k11_66.2.2.2.1
theorem d_k11_74 : decode prog_11_method_1_code 74 = .ok (.newarray .int, 2) := dg_k11_66.2.2.2.2.1
theorem d_k11_76 : decode prog_11_method_1_code 76 = .ok (.putfield 37, 3) := dg_k11_66.2.2.2.2.2.1
theorem d_k11_79 : decode prog_11_method_1_code 79 = .ok (.return_, 1) := dg_k11_66.2.2.2.2.2.2.1
/-- a new UnbeatenHouse$Tale -/
abbrev at_k11 (Dg : va_G) (cI cJ cZ : Nat) (A : Nat → Prop) (h0 : Nat) (_ : Unit) (t : State) : Prop := ∃ (z1 z2 z3 z4 z5 z6 z7 z8 z9 : Nat), va_P Dg mj_CL [(h0, .inr (11, [.int 0, .ref z1, .ref z2, .ref z3, .ref z4, .ref z5, .ref z6, .ref z7, .ref z8, .int 0, .ref z9])), (z1, .inl (cI, 6, .inl (fun _ => 0))), (z2, .inl (cI, 240, .inl (fun _ => 0))), (z3, .inl (cZ, 4, .inl (fun _ => 0))), (z4, .inl (cI, 960, .inl (fun _ => 0))), (z5, .inl (cI, 160, .inl (fun _ => 0))), (z6, .inl (cI, 24, .inl (fun _ => 0))), (z7, .inl (cI, 24, .inl (fun _ => 0))), (z8, .inl (cI, 900, .inl (fun _ => 0))), (z9, .inl (cI, 12, .inl (fun _ => 0)))] t.heap ∧ va_D A [(h0, .inr (11, [.int 0, .ref z1, .ref z2, .ref z3, .ref z4, .ref z5, .ref z6, .ref z7, .ref z8, .int 0, .ref z9])), (z1, .inl (cI, 6, .inl (fun _ => 0))), (z2, .inl (cI, 240, .inl (fun _ => 0))), (z3, .inl (cZ, 4, .inl (fun _ => 0))), (z4, .inl (cI, 960, .inl (fun _ => 0))), (z5, .inl (cI, 160, .inl (fun _ => 0))), (z6, .inl (cI, 24, .inl (fun _ => 0))), (z7, .inl (cI, 24, .inl (fun _ => 0))), (z8, .inl (cI, 900, .inl (fun _ => 0))), (z9, .inl (cI, 12, .inl (fun _ => 0)))]
set_option maxHeartbeats 8000000 in
set_option maxRecDepth 100000 in
theorem c_k11 (l : Launch) (Dg : va_G) (cI cJ cZ : Nat) (h0 sz : Nat) : Met l mm_k11.1 (mj_ws lw_tbl mm_k11) ({ frames := 1, cells := 9, slots := 2330, locals := 12 }) (mj_kPc Dg cI cJ cZ h0 [(h0, .inr (11, [.int 0, .null, .null, .null, .null, .null, .null, .null, .null, .int 0, .null]))] sz) (va_Qv (fun _ : Unit => True) (at_k11 Dg cI cJ cZ (va_A [(h0, .inr (11, [.int 0, .null, .null, .null, .null, .null, .null, .null, .null, .int 0, .null]))] sz) h0) (va_A [(h0, .inr (11, [.int 0, .null, .null, .null, .null, .null, .null, .null, .null, .int 0, .null]))] sz)) 9 2330 (va_A [(h0, .inr (11, [.int 0, .null, .null, .null, .null, .null, .null, .null, .null, .int 0, .null]))] sz) := by
  refine Met.ofW (cc := prog_11_method_1_code) (maxL := 1) (ret := none) (by decide) rfl ?_
  intro p e s m args below meth c s₁ B hml hv
  obtain ⟨rfl, hsz, hP, hK, hD0, hN⟩ := hv
  have hx := B.exec
  have hb := B.bytes
  have hr := B.returns
  have hts0 := atoms_spec (ws := mj_ws lw_tbl mm_k11) B.pre
  have hts : ∀ w ∈ lw_tbl.filter goodWord, w.before _ s = true := fun w hw => hts0 w (List.mem_cons_of_mem _ hw)
  have hown : s.vm.findClass "UnbeatenHouse$Tale" = some m.cls := findClass_of_methodNamed B.named
  have hlocks := B.notSynchronized
  have hin : meth.name = "<init>" := (name_of_methodNamed B.named B.method).1
  subst hsz
  have hD := hD0.self (sz := s.heap.size)
  generalize hAe : va_A [(h0, .inr (11, [.int 0, .null, .null, .null, .null, .null, .null, .null, .null, .int 0, .null]))] s.heap.size = A at hD ⊢
  have hA : ∀ q : Nat, s.heap.size ≤ q → A q := fun q h => by rw [← hAe]; exact Or.inr h
  have hS : va_S A s.heap s.heap [] := va_S.rf
  have hP : va_P Dg mj_CL [(h0, .inr (11, [.int 0, .null, .null, .null, .null, .null, .null, .null, .null, .int 0, .null]))] s.heap := hP
  have hl := lv_entry ([.ref h0]) (n := 1) (Nat.le_of_ble_eq_true rfl)
  rw [lg_entry_eq]
  generalize (lg_sl ([.ref h0]) ++ List.replicate (1 - (lg_sl ([.ref h0])).length) Slot.unset).toArray = ls at hl ⊢
  have hl : lv_has ls 1 [(0, .ref h0)] := hl
  show W p l e ({ frames := 1, cells := 9, slots := 2330, locals := 12 } : Room) s m _ below meth c s.heap [] 0 0 _ _
  refine lv_aload_n hx hb d_k11_0 rfl (lv_at hl 0 rfl) ?_
  refine W.objInit hx hb hown (hts _ (mj_good_in ((lw_in_0 (List.mem_of_getElem? (i := 35) (by decide +kernel)))) rfl)) (hts _ (mj_good_in ((lw_in_0 (List.mem_of_getElem? (i := 28) (by decide +kernel)))) rfl)) (hts _ (mj_good_in ((lw_in_0 (List.mem_of_getElem? (i := 29) (by decide +kernel)))) rfl)) rfl (by rw [hml]; exact hl.1) rfl d_k11_1 (Nat.le_of_ble_eq_true rfl) (Nat.le_of_ble_eq_true rfl) ?_
  refine W.eq (g2 := F0 m 4 ls []) rfl ?_
  refine lv_aload_n hx hb d_k11_4 rfl (lv_at hl 0 rfl) ?_
  refine lv_bipush (v := 6) hx hb d_k11_5 (by decide) ?_
  refine va_newa (atype := .int) (ty := .int) (N' := 6) (a0 := (6, .inl (fun _ => 0))) hx hb (hts _ (mj_good_in ((lw_in_0 (List.mem_of_getElem? (i := 92) (by decide +kernel)))) rfl)) rfl hK hP hD hS hA (fun _ => rfl) (by decide) (by decide) (Nat.le_of_ble_eq_true rfl) (Nat.le_of_ble_eq_true rfl) (Nat.le_of_ble_eq_true rfl) d_k11_7 (fun q7 cA H hK1 hP hD hS => ?_)
  have hcA : cA = cI := mj_cA0 hK1
  rw [hcA] at hP hD
  clear hK1 hcA
  refine W.widen (k := 1) (n := 6) (Nat.le_of_ble_eq_true rfl) (Nat.le_of_ble_eq_true rfl) ?_
  have hP : va_P Dg mj_CL [(h0, .inr (11, [.int 0, .null, .null, .null, .null, .null, .null, .null, .null, .int 0, .null])), (q7, .inl (cI, 6, .inl (fun _ => 0)))] H := hP
  have hD : va_D A [(h0, .inr (11, [.int 0, .null, .null, .null, .null, .null, .null, .null, .null, .int 0, .null])), (q7, .inl (cI, 6, .inl (fun _ => 0)))] := hD
  refine va_putF (D := Dg) (ci := 11) (v := .ref q7) (ty := mj_TY 11 1) (C := "UnbeatenHouse$Tale") (T := mF_11) (N := 11) hx hb hts (mj_lays mc_11.1) (mj_TY 11) mc_11.2.1 mc_11.2.2 hown hK hP hD hS 0 rfl rfl 1 (by decide) (hts _ (mj_good_in ((lw_in_0 (List.mem_of_getElem? (i := 39) (by decide +kernel)))) rfl)) (fun _ h9 => h9) rfl hin rfl (mc_11.2.1 1 (by decide)) rfl rfl (Nat.le_of_ble_eq_true rfl) d_k11_9 (fun H locs hP hD hS => ?_)
  have hP : va_P Dg mj_CL [(h0, .inr (11, [.int 0, .ref q7, .null, .null, .null, .null, .null, .null, .null, .int 0, .null])), (q7, .inl (cI, 6, .inl (fun _ => 0)))] H := hP
  have hD : va_D A [(h0, .inr (11, [.int 0, .ref q7, .null, .null, .null, .null, .null, .null, .null, .int 0, .null])), (q7, .inl (cI, 6, .inl (fun _ => 0)))] := hD
  refine lv_aload_n hx hb d_k11_12 rfl (lv_at hl 0 rfl) ?_
  refine lv_sipush (v := 240) hx hb d_k11_13 (by decide) ?_
  refine va_newa (atype := .int) (ty := .int) (N' := 240) (a0 := (240, .inl (fun _ => 0))) hx hb (hts _ (mj_good_in ((lw_in_0 (List.mem_of_getElem? (i := 92) (by decide +kernel)))) rfl)) rfl hK hP hD hS hA (fun _ => rfl) (by decide) (by decide) (Nat.le_of_ble_eq_true rfl) (Nat.le_of_ble_eq_true rfl) (Nat.le_of_ble_eq_true rfl) d_k11_16 (fun q16 cA H hK1 hP hD hS => ?_)
  have hcA : cA = cI := mj_cA0 hK1
  rw [hcA] at hP hD
  clear hK1 hcA
  refine W.widen (k := 2) (n := 246) (Nat.le_of_ble_eq_true rfl) (Nat.le_of_ble_eq_true rfl) ?_
  have hP : va_P Dg mj_CL [(h0, .inr (11, [.int 0, .ref q7, .null, .null, .null, .null, .null, .null, .null, .int 0, .null])), (q7, .inl (cI, 6, .inl (fun _ => 0))), (q16, .inl (cI, 240, .inl (fun _ => 0)))] H := hP
  have hD : va_D A [(h0, .inr (11, [.int 0, .ref q7, .null, .null, .null, .null, .null, .null, .null, .int 0, .null])), (q7, .inl (cI, 6, .inl (fun _ => 0))), (q16, .inl (cI, 240, .inl (fun _ => 0)))] := hD
  refine va_putF (D := Dg) (ci := 11) (v := .ref q16) (ty := mj_TY 11 2) (C := "UnbeatenHouse$Tale") (T := mF_11) (N := 11) hx hb hts (mj_lays mc_11.1) (mj_TY 11) mc_11.2.1 mc_11.2.2 hown hK hP hD hS 0 rfl rfl 2 (by decide) (hts _ (mj_good_in ((lw_in_0 (List.mem_of_getElem? (i := 45) (by decide +kernel)))) rfl)) (fun _ h9 => h9) rfl hin rfl (mc_11.2.1 2 (by decide)) rfl rfl (Nat.le_of_ble_eq_true rfl) d_k11_18 (fun H locs hP hD hS => ?_)
  have hP : va_P Dg mj_CL [(h0, .inr (11, [.int 0, .ref q7, .ref q16, .null, .null, .null, .null, .null, .null, .int 0, .null])), (q7, .inl (cI, 6, .inl (fun _ => 0))), (q16, .inl (cI, 240, .inl (fun _ => 0)))] H := hP
  have hD : va_D A [(h0, .inr (11, [.int 0, .ref q7, .ref q16, .null, .null, .null, .null, .null, .null, .int 0, .null])), (q7, .inl (cI, 6, .inl (fun _ => 0))), (q16, .inl (cI, 240, .inl (fun _ => 0)))] := hD
  refine lv_aload_n hx hb d_k11_21 rfl (lv_at hl 0 rfl) ?_
  refine lv_iconst (v := 4) hx hb d_k11_22 (by decide) ?_
  refine va_newa (atype := .boolean) (ty := .boolean) (N' := 4) (a0 := (4, .inl (fun _ => 0))) hx hb (hts _ (mj_good_in ((lw_in_0 (List.mem_of_getElem? (i := 93) (by decide +kernel)))) rfl)) rfl hK hP hD hS hA (fun _ => rfl) (by decide) (by decide) (Nat.le_of_ble_eq_true rfl) (Nat.le_of_ble_eq_true rfl) (Nat.le_of_ble_eq_true rfl) d_k11_23 (fun q23 cA H hK1 hP hD hS => ?_)
  have hcA : cA = cZ := mj_cA2 hK1
  rw [hcA] at hP hD
  clear hK1 hcA
  refine W.widen (k := 3) (n := 250) (Nat.le_of_ble_eq_true rfl) (Nat.le_of_ble_eq_true rfl) ?_
  have hP : va_P Dg mj_CL [(h0, .inr (11, [.int 0, .ref q7, .ref q16, .null, .null, .null, .null, .null, .null, .int 0, .null])), (q7, .inl (cI, 6, .inl (fun _ => 0))), (q16, .inl (cI, 240, .inl (fun _ => 0))), (q23, .inl (cZ, 4, .inl (fun _ => 0)))] H := hP
  have hD : va_D A [(h0, .inr (11, [.int 0, .ref q7, .ref q16, .null, .null, .null, .null, .null, .null, .int 0, .null])), (q7, .inl (cI, 6, .inl (fun _ => 0))), (q16, .inl (cI, 240, .inl (fun _ => 0))), (q23, .inl (cZ, 4, .inl (fun _ => 0)))] := hD
  refine va_putF (D := Dg) (ci := 11) (v := .ref q23) (ty := mj_TY 11 3) (C := "UnbeatenHouse$Tale") (T := mF_11) (N := 11) hx hb hts (mj_lays mc_11.1) (mj_TY 11) mc_11.2.1 mc_11.2.2 hown hK hP hD hS 0 rfl rfl 3 (by decide) (hts _ (mj_good_in ((lw_in_0 (List.mem_of_getElem? (i := 47) (by decide +kernel)))) rfl)) (fun _ h9 => h9) rfl hin rfl (mc_11.2.1 3 (by decide)) rfl rfl (Nat.le_of_ble_eq_true rfl) d_k11_25 (fun H locs hP hD hS => ?_)
  have hP : va_P Dg mj_CL [(h0, .inr (11, [.int 0, .ref q7, .ref q16, .ref q23, .null, .null, .null, .null, .null, .int 0, .null])), (q7, .inl (cI, 6, .inl (fun _ => 0))), (q16, .inl (cI, 240, .inl (fun _ => 0))), (q23, .inl (cZ, 4, .inl (fun _ => 0)))] H := hP
  have hD : va_D A [(h0, .inr (11, [.int 0, .ref q7, .ref q16, .ref q23, .null, .null, .null, .null, .null, .int 0, .null])), (q7, .inl (cI, 6, .inl (fun _ => 0))), (q16, .inl (cI, 240, .inl (fun _ => 0))), (q23, .inl (cZ, 4, .inl (fun _ => 0)))] := hD
  refine lv_aload_n hx hb d_k11_28 rfl (lv_at hl 0 rfl) ?_
  refine lv_sipush (v := 960) hx hb d_k11_29 (by decide) ?_
  refine va_newa (atype := .int) (ty := .int) (N' := 960) (a0 := (960, .inl (fun _ => 0))) hx hb (hts _ (mj_good_in ((lw_in_0 (List.mem_of_getElem? (i := 92) (by decide +kernel)))) rfl)) rfl hK hP hD hS hA (fun _ => rfl) (by decide) (by decide) (Nat.le_of_ble_eq_true rfl) (Nat.le_of_ble_eq_true rfl) (Nat.le_of_ble_eq_true rfl) d_k11_32 (fun q32 cA H hK1 hP hD hS => ?_)
  have hcA : cA = cI := mj_cA0 hK1
  rw [hcA] at hP hD
  clear hK1 hcA
  refine W.widen (k := 4) (n := 1210) (Nat.le_of_ble_eq_true rfl) (Nat.le_of_ble_eq_true rfl) ?_
  have hP : va_P Dg mj_CL [(h0, .inr (11, [.int 0, .ref q7, .ref q16, .ref q23, .null, .null, .null, .null, .null, .int 0, .null])), (q7, .inl (cI, 6, .inl (fun _ => 0))), (q16, .inl (cI, 240, .inl (fun _ => 0))), (q23, .inl (cZ, 4, .inl (fun _ => 0))), (q32, .inl (cI, 960, .inl (fun _ => 0)))] H := hP
  have hD : va_D A [(h0, .inr (11, [.int 0, .ref q7, .ref q16, .ref q23, .null, .null, .null, .null, .null, .int 0, .null])), (q7, .inl (cI, 6, .inl (fun _ => 0))), (q16, .inl (cI, 240, .inl (fun _ => 0))), (q23, .inl (cZ, 4, .inl (fun _ => 0))), (q32, .inl (cI, 960, .inl (fun _ => 0)))] := hD
  refine va_putF (D := Dg) (ci := 11) (v := .ref q32) (ty := mj_TY 11 4) (C := "UnbeatenHouse$Tale") (T := mF_11) (N := 11) hx hb hts (mj_lays mc_11.1) (mj_TY 11) mc_11.2.1 mc_11.2.2 hown hK hP hD hS 0 rfl rfl 4 (by decide) (hts _ (mj_good_in ((lw_in_0 (List.mem_of_getElem? (i := 49) (by decide +kernel)))) rfl)) (fun _ h9 => h9) rfl hin rfl (mc_11.2.1 4 (by decide)) rfl rfl (Nat.le_of_ble_eq_true rfl) d_k11_34 (fun H locs hP hD hS => ?_)
  have hP : va_P Dg mj_CL [(h0, .inr (11, [.int 0, .ref q7, .ref q16, .ref q23, .ref q32, .null, .null, .null, .null, .int 0, .null])), (q7, .inl (cI, 6, .inl (fun _ => 0))), (q16, .inl (cI, 240, .inl (fun _ => 0))), (q23, .inl (cZ, 4, .inl (fun _ => 0))), (q32, .inl (cI, 960, .inl (fun _ => 0)))] H := hP
  have hD : va_D A [(h0, .inr (11, [.int 0, .ref q7, .ref q16, .ref q23, .ref q32, .null, .null, .null, .null, .int 0, .null])), (q7, .inl (cI, 6, .inl (fun _ => 0))), (q16, .inl (cI, 240, .inl (fun _ => 0))), (q23, .inl (cZ, 4, .inl (fun _ => 0))), (q32, .inl (cI, 960, .inl (fun _ => 0)))] := hD
  refine lv_aload_n hx hb d_k11_37 rfl (lv_at hl 0 rfl) ?_
  refine lv_sipush (v := 160) hx hb d_k11_38 (by decide) ?_
  refine va_newa (atype := .int) (ty := .int) (N' := 160) (a0 := (160, .inl (fun _ => 0))) hx hb (hts _ (mj_good_in ((lw_in_0 (List.mem_of_getElem? (i := 92) (by decide +kernel)))) rfl)) rfl hK hP hD hS hA (fun _ => rfl) (by decide) (by decide) (Nat.le_of_ble_eq_true rfl) (Nat.le_of_ble_eq_true rfl) (Nat.le_of_ble_eq_true rfl) d_k11_41 (fun q41 cA H hK1 hP hD hS => ?_)
  have hcA : cA = cI := mj_cA0 hK1
  rw [hcA] at hP hD
  clear hK1 hcA
  refine W.widen (k := 5) (n := 1370) (Nat.le_of_ble_eq_true rfl) (Nat.le_of_ble_eq_true rfl) ?_
  have hP : va_P Dg mj_CL [(h0, .inr (11, [.int 0, .ref q7, .ref q16, .ref q23, .ref q32, .null, .null, .null, .null, .int 0, .null])), (q7, .inl (cI, 6, .inl (fun _ => 0))), (q16, .inl (cI, 240, .inl (fun _ => 0))), (q23, .inl (cZ, 4, .inl (fun _ => 0))), (q32, .inl (cI, 960, .inl (fun _ => 0))), (q41, .inl (cI, 160, .inl (fun _ => 0)))] H := hP
  have hD : va_D A [(h0, .inr (11, [.int 0, .ref q7, .ref q16, .ref q23, .ref q32, .null, .null, .null, .null, .int 0, .null])), (q7, .inl (cI, 6, .inl (fun _ => 0))), (q16, .inl (cI, 240, .inl (fun _ => 0))), (q23, .inl (cZ, 4, .inl (fun _ => 0))), (q32, .inl (cI, 960, .inl (fun _ => 0))), (q41, .inl (cI, 160, .inl (fun _ => 0)))] := hD
  refine va_putF (D := Dg) (ci := 11) (v := .ref q41) (ty := mj_TY 11 5) (C := "UnbeatenHouse$Tale") (T := mF_11) (N := 11) hx hb hts (mj_lays mc_11.1) (mj_TY 11) mc_11.2.1 mc_11.2.2 hown hK hP hD hS 0 rfl rfl 5 (by decide) (hts _ (mj_good_in ((lw_in_0 (List.mem_of_getElem? (i := 54) (by decide +kernel)))) rfl)) (fun _ h9 => h9) rfl hin rfl (mc_11.2.1 5 (by decide)) rfl rfl (Nat.le_of_ble_eq_true rfl) d_k11_43 (fun H locs hP hD hS => ?_)
  have hP : va_P Dg mj_CL [(h0, .inr (11, [.int 0, .ref q7, .ref q16, .ref q23, .ref q32, .ref q41, .null, .null, .null, .int 0, .null])), (q7, .inl (cI, 6, .inl (fun _ => 0))), (q16, .inl (cI, 240, .inl (fun _ => 0))), (q23, .inl (cZ, 4, .inl (fun _ => 0))), (q32, .inl (cI, 960, .inl (fun _ => 0))), (q41, .inl (cI, 160, .inl (fun _ => 0)))] H := hP
  have hD : va_D A [(h0, .inr (11, [.int 0, .ref q7, .ref q16, .ref q23, .ref q32, .ref q41, .null, .null, .null, .int 0, .null])), (q7, .inl (cI, 6, .inl (fun _ => 0))), (q16, .inl (cI, 240, .inl (fun _ => 0))), (q23, .inl (cZ, 4, .inl (fun _ => 0))), (q32, .inl (cI, 960, .inl (fun _ => 0))), (q41, .inl (cI, 160, .inl (fun _ => 0)))] := hD
  refine lv_aload_n hx hb d_k11_46 rfl (lv_at hl 0 rfl) ?_
  refine lv_bipush (v := 24) hx hb d_k11_47 (by decide) ?_
  refine va_newa (atype := .int) (ty := .int) (N' := 24) (a0 := (24, .inl (fun _ => 0))) hx hb (hts _ (mj_good_in ((lw_in_0 (List.mem_of_getElem? (i := 92) (by decide +kernel)))) rfl)) rfl hK hP hD hS hA (fun _ => rfl) (by decide) (by decide) (Nat.le_of_ble_eq_true rfl) (Nat.le_of_ble_eq_true rfl) (Nat.le_of_ble_eq_true rfl) d_k11_49 (fun q49 cA H hK1 hP hD hS => ?_)
  have hcA : cA = cI := mj_cA0 hK1
  rw [hcA] at hP hD
  clear hK1 hcA
  refine W.widen (k := 6) (n := 1394) (Nat.le_of_ble_eq_true rfl) (Nat.le_of_ble_eq_true rfl) ?_
  have hP : va_P Dg mj_CL [(h0, .inr (11, [.int 0, .ref q7, .ref q16, .ref q23, .ref q32, .ref q41, .null, .null, .null, .int 0, .null])), (q7, .inl (cI, 6, .inl (fun _ => 0))), (q16, .inl (cI, 240, .inl (fun _ => 0))), (q23, .inl (cZ, 4, .inl (fun _ => 0))), (q32, .inl (cI, 960, .inl (fun _ => 0))), (q41, .inl (cI, 160, .inl (fun _ => 0))), (q49, .inl (cI, 24, .inl (fun _ => 0)))] H := hP
  have hD : va_D A [(h0, .inr (11, [.int 0, .ref q7, .ref q16, .ref q23, .ref q32, .ref q41, .null, .null, .null, .int 0, .null])), (q7, .inl (cI, 6, .inl (fun _ => 0))), (q16, .inl (cI, 240, .inl (fun _ => 0))), (q23, .inl (cZ, 4, .inl (fun _ => 0))), (q32, .inl (cI, 960, .inl (fun _ => 0))), (q41, .inl (cI, 160, .inl (fun _ => 0))), (q49, .inl (cI, 24, .inl (fun _ => 0)))] := hD
  refine va_putF (D := Dg) (ci := 11) (v := .ref q49) (ty := mj_TY 11 6) (C := "UnbeatenHouse$Tale") (T := mF_11) (N := 11) hx hb hts (mj_lays mc_11.1) (mj_TY 11) mc_11.2.1 mc_11.2.2 hown hK hP hD hS 0 rfl rfl 6 (by decide) (hts _ (mj_good_in ((lw_in_0 (List.mem_of_getElem? (i := 58) (by decide +kernel)))) rfl)) (fun _ h9 => h9) rfl hin rfl (mc_11.2.1 6 (by decide)) rfl rfl (Nat.le_of_ble_eq_true rfl) d_k11_51 (fun H locs hP hD hS => ?_)
  have hP : va_P Dg mj_CL [(h0, .inr (11, [.int 0, .ref q7, .ref q16, .ref q23, .ref q32, .ref q41, .ref q49, .null, .null, .int 0, .null])), (q7, .inl (cI, 6, .inl (fun _ => 0))), (q16, .inl (cI, 240, .inl (fun _ => 0))), (q23, .inl (cZ, 4, .inl (fun _ => 0))), (q32, .inl (cI, 960, .inl (fun _ => 0))), (q41, .inl (cI, 160, .inl (fun _ => 0))), (q49, .inl (cI, 24, .inl (fun _ => 0)))] H := hP
  have hD : va_D A [(h0, .inr (11, [.int 0, .ref q7, .ref q16, .ref q23, .ref q32, .ref q41, .ref q49, .null, .null, .int 0, .null])), (q7, .inl (cI, 6, .inl (fun _ => 0))), (q16, .inl (cI, 240, .inl (fun _ => 0))), (q23, .inl (cZ, 4, .inl (fun _ => 0))), (q32, .inl (cI, 960, .inl (fun _ => 0))), (q41, .inl (cI, 160, .inl (fun _ => 0))), (q49, .inl (cI, 24, .inl (fun _ => 0)))] := hD
  refine lv_aload_n hx hb d_k11_54 rfl (lv_at hl 0 rfl) ?_
  refine lv_bipush (v := 24) hx hb d_k11_55 (by decide) ?_
  refine va_newa (atype := .int) (ty := .int) (N' := 24) (a0 := (24, .inl (fun _ => 0))) hx hb (hts _ (mj_good_in ((lw_in_0 (List.mem_of_getElem? (i := 92) (by decide +kernel)))) rfl)) rfl hK hP hD hS hA (fun _ => rfl) (by decide) (by decide) (Nat.le_of_ble_eq_true rfl) (Nat.le_of_ble_eq_true rfl) (Nat.le_of_ble_eq_true rfl) d_k11_57 (fun q57 cA H hK1 hP hD hS => ?_)
  have hcA : cA = cI := mj_cA0 hK1
  rw [hcA] at hP hD
  clear hK1 hcA
  refine W.widen (k := 7) (n := 1418) (Nat.le_of_ble_eq_true rfl) (Nat.le_of_ble_eq_true rfl) ?_
  obtain ⟨hP, hD⟩ : (fun w : va_W => va_P Dg mj_CL w H ∧ va_D A w) [(h0, Sum.inr (11, [kz0, Value.ref q7, Value.ref q16, Value.ref q23, Value.ref q32, Value.ref q41, Value.ref q49, kzn, kzn, kz0, kzn])), kaI q7 cI 6, kaI q16 cI 240, kaI q23 cZ 4, kaI q32 cI 960, kaI q41 cI 160, kaI q49 cI 24, kaI q57 cI 24] := ⟨hP, hD⟩
  refine va_putF (D := Dg) (ci := 11) (v := .ref q57) (ty := mj_TY 11 7) (C := "UnbeatenHouse$Tale") (T := mF_11) (N := 11) hx hb hts (mj_lays mc_11.1) (mj_TY 11) mc_11.2.1 mc_11.2.2 hown hK hP hD hS 0 rfl rfl 7 (by decide) (hts _ (mj_good_in ((lw_in_0 (List.mem_of_getElem? (i := 61) (by decide +kernel)))) rfl)) (fun _ h9 => h9) rfl hin rfl (mc_11.2.1 7 (by decide)) rfl rfl (Nat.le_of_ble_eq_true rfl) d_k11_59 (fun H locs hP hD hS => ?_)
  obtain ⟨hP, hD⟩ : (fun w : va_W => va_P Dg mj_CL w H ∧ va_D A w) [(h0, Sum.inr (11, [kz0, Value.ref q7, Value.ref q16, Value.ref q23, Value.ref q32, Value.ref q41, Value.ref q49, Value.ref q57, kzn, kz0, kzn])), kaI q7 cI 6, kaI q16 cI 240, kaI q23 cZ 4, kaI q32 cI 960, kaI q41 cI 160, kaI q49 cI 24, kaI q57 cI 24] := ⟨hP, hD⟩
  refine lv_aload_n hx hb d_k11_62 rfl (lv_at hl 0 rfl) ?_
  refine lv_sipush (v := 900) hx hb d_k11_63 (by decide) ?_
  refine va_newa (atype := .int) (ty := .int) (N' := 900) (a0 := (900, .inl (fun _ => 0))) hx hb (hts _ (mj_good_in ((lw_in_0 (List.mem_of_getElem? (i := 92) (by decide +kernel)))) rfl)) rfl hK hP hD hS hA (fun _ => rfl) (by decide) (by decide) (Nat.le_of_ble_eq_true rfl) (Nat.le_of_ble_eq_true rfl) (Nat.le_of_ble_eq_true rfl) d_k11_66 (fun q66 cA H hK1 hP hD hS => ?_)
  have hcA : cA = cI := mj_cA0 hK1
  rw [hcA] at hP hD
  clear hK1 hcA
  refine W.widen (k := 8) (n := 2318) (Nat.le_of_ble_eq_true rfl) (Nat.le_of_ble_eq_true rfl) ?_
  obtain ⟨hP, hD⟩ : (fun w : va_W => va_P Dg mj_CL w H ∧ va_D A w) [(h0, Sum.inr (11, [kz0, Value.ref q7, Value.ref q16, Value.ref q23, Value.ref q32, Value.ref q41, Value.ref q49, Value.ref q57, kzn, kz0, kzn])), kaI q7 cI 6, kaI q16 cI 240, kaI q23 cZ 4, kaI q32 cI 960, kaI q41 cI 160, kaI q49 cI 24, kaI q57 cI 24, kaI q66 cI 900] := ⟨hP, hD⟩
  refine va_putF (D := Dg) (ci := 11) (v := .ref q66) (ty := mj_TY 11 8) (C := "UnbeatenHouse$Tale") (T := mF_11) (N := 11) hx hb hts (mj_lays mc_11.1) (mj_TY 11) mc_11.2.1 mc_11.2.2 hown hK hP hD hS 0 rfl rfl 8 (by decide) (hts _ (mj_good_in ((lw_in_0 (List.mem_of_getElem? (i := 64) (by decide +kernel)))) rfl)) (fun _ h9 => h9) rfl hin rfl (mc_11.2.1 8 (by decide)) rfl rfl (Nat.le_of_ble_eq_true rfl) d_k11_68 (fun H locs hP hD hS => ?_)
  obtain ⟨hP, hD⟩ : (fun w : va_W => va_P Dg mj_CL w H ∧ va_D A w) [(h0, Sum.inr (11, [kz0, Value.ref q7, Value.ref q16, Value.ref q23, Value.ref q32, Value.ref q41, Value.ref q49, Value.ref q57, Value.ref q66, kz0, kzn])), kaI q7 cI 6, kaI q16 cI 240, kaI q23 cZ 4, kaI q32 cI 960, kaI q41 cI 160, kaI q49 cI 24, kaI q57 cI 24, kaI q66 cI 900] := ⟨hP, hD⟩
  refine lv_aload_n hx hb d_k11_71 rfl (lv_at hl 0 rfl) ?_
  refine lv_bipush (v := 12) hx hb d_k11_72 (by decide) ?_
  refine va_newa (atype := .int) (ty := .int) (N' := 12) (a0 := (12, .inl (fun _ => 0))) hx hb (hts _ (mj_good_in ((lw_in_0 (List.mem_of_getElem? (i := 92) (by decide +kernel)))) rfl)) rfl hK hP hD hS hA (fun _ => rfl) (by decide) (by decide) (Nat.le_of_ble_eq_true rfl) (Nat.le_of_ble_eq_true rfl) (Nat.le_of_ble_eq_true rfl) d_k11_74 (fun q74 cA H hK1 hP hD hS => ?_)
  have hcA : cA = cI := mj_cA0 hK1
  rw [hcA] at hP hD
  clear hK1 hcA
  refine W.widen (k := 9) (n := 2330) (Nat.le_of_ble_eq_true rfl) (Nat.le_of_ble_eq_true rfl) ?_
  obtain ⟨hP, hD⟩ : (fun w : va_W => va_P Dg mj_CL w H ∧ va_D A w) [(h0, Sum.inr (11, [kz0, Value.ref q7, Value.ref q16, Value.ref q23, Value.ref q32, Value.ref q41, Value.ref q49, Value.ref q57, Value.ref q66, kz0, kzn])), kaI q7 cI 6, kaI q16 cI 240, kaI q23 cZ 4, kaI q32 cI 960, kaI q41 cI 160, kaI q49 cI 24, kaI q57 cI 24, kaI q66 cI 900, kaI q74 cI 12] := ⟨hP, hD⟩
  refine va_putF (D := Dg) (ci := 11) (v := .ref q74) (ty := mj_TY 11 10) (C := "UnbeatenHouse$Tale") (T := mF_11) (N := 11) hx hb hts (mj_lays mc_11.1) (mj_TY 11) mc_11.2.1 mc_11.2.2 hown hK hP hD hS 0 rfl rfl 10 (by decide) (hts _ (mj_good_in ((lw_in_0 (List.mem_of_getElem? (i := 67) (by decide +kernel)))) rfl)) (fun _ h9 => h9) rfl hin rfl (mc_11.2.1 10 (by decide)) rfl rfl (Nat.le_of_ble_eq_true rfl) d_k11_76 (fun H locs hP hD hS => ?_)
  obtain ⟨hP, hD⟩ : (fun w : va_W => va_P Dg mj_CL w H ∧ va_D A w) [(h0, Sum.inr (11, [kz0, Value.ref q7, Value.ref q16, Value.ref q23, Value.ref q32, Value.ref q41, Value.ref q49, Value.ref q57, Value.ref q66, kz0, Value.ref q74])), kaI q7 cI 6, kaI q16 cI 240, kaI q23 cZ 4, kaI q32 cI 960, kaI q41 cI 160, kaI q49 cI 24, kaI q57 cI 24, kaI q66 cI 900, kaI q74 cI 12] := ⟨hP, hD⟩
  refine W.widen (k := 9) (n := 2330) (Nat.le_of_ble_eq_true rfl) (Nat.le_of_ble_eq_true rfl) ?_
  exact W.vret hx hb hr (fun t ht hW => ⟨⟨(), rfl, trivial, q7, q16, q23, q32, q41, q49, q57, q66, q74, by rw [ht]; exact hP, hD⟩, hS.F ht⟩) hS.2.2 d_k11_79
def mm_k9 : mj_M := (⟨"UnbeatenHouse$Rows", "<init>", "()V"⟩, prog_9_method_1_code, 1, none)
set_option maxRecDepth 100000 in
theorem my_k9 : mj_okY lw_tbl mm_k9 := ⟨(lw_in_0 (List.mem_of_getElem? (i := 188) rfl)), (lw_in_0 (List.mem_of_getElem? (i := 8) (by decide +kernel))), by decide, plainFor_of_name (by decide +kernel), by decide +kernel, by decide +kernel⟩
theorem dg_k9_0 : (decode prog_9_method_1_code 0 = .ok (.aload_n 0, 1)) ∧ (decode prog_9_method_1_code 1 = .ok (.invokespecial 3, 3)) ∧ (decode prog_9_method_1_code 4 = .ok (.aload_n 0, 1)) ∧ (decode prog_9_method_1_code 5 = .ok (.sipush 160, 3)) ∧ (decode prog_9_method_1_code 8 = .ok (.newarray .int, 2)) ∧ (decode prog_9_method_1_code 10 = .ok (.putfield 9, 3)) ∧ (decode prog_9_method_1_code 13 = .ok (.aload_n 0, 1)) ∧ (decode prog_9_method_1_code 14 = .ok (.sipush 160, 3)) ∧ (decode prog_9_method_1_code 17 = .ok (.newarray .int, 2)) ∧ (decode prog_9_method_1_code 19 = .ok (.putfield 15, 3)) ∧ (decode prog_9_method_1_code 22 = .ok (.aload_n 0, 1)) ∧ (decode prog_9_method_1_code 23 = .ok (.sipush 160, 3)) ∧ (decode prog_9_method_1_code 26 = .ok (.newarray .int, 2)) ∧ (decode prog_9_method_1_code 28 = .ok (.putfield 18, 3)) ∧ (decode prog_9_method_1_code 31 = .ok (.aload_n 0, 1)) ∧ (decode prog_9_method_1_code 32 = .ok (.bipush 40, 2)) ∧ True := fd_of (cc := prog_9_method_1_code) [(0, .aload_n 0, 1), (1, .invokespecial 3, 3), (4, .aload_n 0, 1), (5, .sipush 160, 3), (8, .newarray .int, 2), (10, .putfield 9, 3), (13, .aload_n 0, 1), (14, .sipush 160, 3), (17, .newarray .int, 2), (19, .putfield 15, 3), (22, .aload_n 0, 1), (23, .sipush 160, 3), (26, .newarray .int, 2), (28, .putfield 18, 3), (31, .aload_n 0, 1), (32, .bipush 40, 2)] (by decide +kernel)
theorem d_k9_0 : decode prog_9_method_1_code 0 = .ok (.aload_n 0, 1) := dg_k9_0.1
theorem d_k9_1 : decode prog_9_method_1_code 1 = .ok (.invokespecial 3, 3) := dg_k9_0.2.1
theorem d_k9_4 : decode prog_9_method_1_code 4 = .ok (.aload_n 0, 1) := dg_k9_0.2.2.1
theorem d_k9_5 : decode prog_9_method_1_code 5 = .ok (.sipush 160, 3) := dg_k9_0.2.2.2.1
theorem d_k9_8 : decode prog_9_method_1_code 8 = .ok (.newarray .int, 2) := dg_k9_0.2.2.2.2.1
theorem d_k9_10 : decode prog_9_method_1_code 10 = .ok (.putfield 9, 3) := dg_k9_0.2.2.2.2.2.1
theorem d_k9_13 : decode prog_9_method_1_code 13 = .ok (.aload_n 0, 1) := dg_k9_0.2.2.2.2.2.2.1
theorem d_k9_14 : decode prog_9_method_1_code 14 = .ok (.sipush 160, 3) := dg_k9_0.2.2.2.2.2.2.2.1
theorem d_k9_17 : decode prog_9_method_1_code 17 = .ok (.newarray .int, 2) := dg_k9_0.2.2.2.2.2.2.2.2.1
theorem d_k9_19 : decode prog_9_method_1_code 19 = .ok (.putfield 15, 3) := dg_k9_0.2.2.2.2.2.2.2.2.2.1
theorem d_k9_22 : decode prog_9_method_1_code 22 = .ok (.aload_n 0, 1) := dg_k9_0.2.2.2.2.2.2.2.2.2.2.1
theorem d_k9_23 : decode prog_9_method_1_code 23 = .ok (.sipush 160, 3) := dg_k9_0.2.2.2.2.2.2.2.2.2.2.2.1
theorem d_k9_26 : decode prog_9_method_1_code 26 = .ok (.newarray .int, 2) := dg_k9_0.2.2.2.2.2.2.2.2.2.2.2.2.1
theorem d_k9_28 : decode prog_9_method_1_code 28 = .ok (.putfield 18, 3) := dg_k9_0.2.2.2.2.2.2.2.2.2.2.2.2.2.1
theorem d_k9_31 : decode prog_9_method_1_code 31 = .ok (.aload_n 0, 1) := dg_k9_0.2.2.2.2.2.2.2.2.2.2.2.2.2.2.1
theorem d_k9_32 : decode prog_9_method_1_code 32 = .ok (.bipush 40, 2) := dg_k9_0.2.2.2.2.2.2.2.2.2.2.2.2.2.2.2.1
theorem dg_k9_34 : (decode prog_9_method_1_code 34 = .ok (.newarray .int, 2)) ∧ (decode prog_9_method_1_code 36 = .ok (.putfield 21, 3)) ∧ (decode prog_9_method_1_code 39 = .ok (.return_, 1)) ∧ True := fd_of (cc := prog_9_method_1_code) [(34, .newarray .int, 2), (36, .putfield 21, 3), (39, .return_, 1)] (by decide +kernel)
theorem d_k9_34 : decode prog_9_method_1_code 34 = .ok (.newarray .int, 2) := dg_k9_34.1
theorem d_k9_36 : decode prog_9_method_1_code 36 = .ok (.putfield 21, 3) := dg_k9_34.2.1
theorem d_k9_39 : decode prog_9_method_1_code 39 = .ok (.return_, 1) := dg_k9_34.2.2.1
/-- a new UnbeatenHouse$Rows -/
abbrev at_k9 (Dg : va_G) (cI cJ cZ : Nat) (A : Nat → Prop) (h0 : Nat) (_ : Unit) (t : State) : Prop := ∃ (z1 z2 z3 z4 : Nat), va_P Dg mj_CL [(h0, .inr (9, [.int 0, .int 0, .ref z1, .ref z2, .ref z3, .long 0, .long 0, .ref z4])), (z1, .inl (cI, 160, .inl (fun _ => 0))), (z2, .inl (cI, 160, .inl (fun _ => 0))), (z3, .inl (cI, 160, .inl (fun _ => 0))), (z4, .inl (cI, 40, .inl (fun _ => 0)))] t.heap ∧ va_D A [(h0, .inr (9, [.int 0, .int 0, .ref z1, .ref z2, .ref z3, .long 0, .long 0, .ref z4])), (z1, .inl (cI, 160, .inl (fun _ => 0))), (z2, .inl (cI, 160, .inl (fun _ => 0))), (z3, .inl (cI, 160, .inl (fun _ => 0))), (z4, .inl (cI, 40, .inl (fun _ => 0)))]
set_option maxHeartbeats 8000000 in
set_option maxRecDepth 100000 in
theorem c_k9 (l : Launch) (Dg : va_G) (cI cJ cZ : Nat) (h0 sz : Nat) : Met l mm_k9.1 (mj_ws lw_tbl mm_k9) ({ frames := 1, cells := 4, slots := 520, locals := 12 }) (mj_kPc Dg cI cJ cZ h0 [(h0, .inr (9, [.int 0, .int 0, .null, .null, .null, .long 0, .long 0, .null]))] sz) (va_Qv (fun _ : Unit => True) (at_k9 Dg cI cJ cZ (va_A [(h0, .inr (9, [.int 0, .int 0, .null, .null, .null, .long 0, .long 0, .null]))] sz) h0) (va_A [(h0, .inr (9, [.int 0, .int 0, .null, .null, .null, .long 0, .long 0, .null]))] sz)) 4 520 (va_A [(h0, .inr (9, [.int 0, .int 0, .null, .null, .null, .long 0, .long 0, .null]))] sz) := by
  refine Met.ofW (cc := prog_9_method_1_code) (maxL := 1) (ret := none) (by decide) rfl ?_
  intro p e s m args below meth c s₁ B hml hv
  obtain ⟨rfl, hsz, hP, hK, hD0, hN⟩ := hv
  have hx := B.exec
  have hb := B.bytes
  have hr := B.returns
  have hts0 := atoms_spec (ws := mj_ws lw_tbl mm_k9) B.pre
  have hts : ∀ w ∈ lw_tbl.filter goodWord, w.before _ s = true := fun w hw => hts0 w (List.mem_cons_of_mem _ hw)
  have hown : s.vm.findClass "UnbeatenHouse$Rows" = some m.cls := findClass_of_methodNamed B.named
  have hlocks := B.notSynchronized
  have hin : meth.name = "<init>" := (name_of_methodNamed B.named B.method).1
  subst hsz
  have hD := hD0.self (sz := s.heap.size)
  generalize hAe : va_A [(h0, .inr (9, [.int 0, .int 0, .null, .null, .null, .long 0, .long 0, .null]))] s.heap.size = A at hD ⊢
  have hA : ∀ q : Nat, s.heap.size ≤ q → A q := fun q h => by rw [← hAe]; exact Or.inr h
  have hS : va_S A s.heap s.heap [] := va_S.rf
  have hP : va_P Dg mj_CL [(h0, .inr (9, [.int 0, .int 0, .null, .null, .null, .long 0, .long 0, .null]))] s.heap := hP
  have hl := lv_entry ([.ref h0]) (n := 1) (Nat.le_of_ble_eq_true rfl)
  rw [lg_entry_eq]
  generalize (lg_sl ([.ref h0]) ++ List.replicate (1 - (lg_sl ([.ref h0])).length) Slot.unset).toArray = ls at hl ⊢
  have hl : lv_has ls 1 [(0, .ref h0)] := hl
  show W p l e ({ frames := 1, cells := 4, slots := 520, locals := 12 } : Room) s m _ below meth c s.heap [] 0 0 _ _
  refine lv_aload_n hx hb d_k9_0 rfl (lv_at hl 0 rfl) ?_
  refine W.objInit hx hb hown (hts _ (mj_good_in ((lw_in_0 (List.mem_of_getElem? (i := 189) (by decide +kernel)))) rfl)) (hts _ (mj_good_in ((lw_in_0 (List.mem_of_getElem? (i := 28) (by decide +kernel)))) rfl)) (hts _ (mj_good_in ((lw_in_0 (List.mem_of_getElem? (i := 29) (by decide +kernel)))) rfl)) rfl (by rw [hml]; exact hl.1) rfl d_k9_1 (Nat.le_of_ble_eq_true rfl) (Nat.le_of_ble_eq_true rfl) ?_
  refine W.eq (g2 := F0 m 4 ls []) rfl ?_
  refine lv_aload_n hx hb d_k9_4 rfl (lv_at hl 0 rfl) ?_
  refine lv_sipush (v := 160) hx hb d_k9_5 (by decide) ?_
  refine va_newa (atype := .int) (ty := .int) (N' := 160) (a0 := (160, .inl (fun _ => 0))) hx hb (hts _ (mj_good_in ((lw_in_0 (List.mem_of_getElem? (i := 92) (by decide +kernel)))) rfl)) rfl hK hP hD hS hA (fun _ => rfl) (by decide) (by decide) (Nat.le_of_ble_eq_true rfl) (Nat.le_of_ble_eq_true rfl) (Nat.le_of_ble_eq_true rfl) d_k9_8 (fun q8 cA H hK1 hP hD hS => ?_)
  have hcA : cA = cI := mj_cA0 hK1
  rw [hcA] at hP hD
  clear hK1 hcA
  refine W.widen (k := 1) (n := 160) (Nat.le_of_ble_eq_true rfl) (Nat.le_of_ble_eq_true rfl) ?_
  have hP : va_P Dg mj_CL [(h0, .inr (9, [.int 0, .int 0, .null, .null, .null, .long 0, .long 0, .null])), (q8, .inl (cI, 160, .inl (fun _ => 0)))] H := hP
  have hD : va_D A [(h0, .inr (9, [.int 0, .int 0, .null, .null, .null, .long 0, .long 0, .null])), (q8, .inl (cI, 160, .inl (fun _ => 0)))] := hD
  refine va_putF (D := Dg) (ci := 9) (v := .ref q8) (ty := mj_TY 9 2) (C := "UnbeatenHouse$Rows") (T := mF_9) (N := 8) hx hb hts (mj_lays mc_9.1) (mj_TY 9) mc_9.2.1 mc_9.2.2 hown hK hP hD hS 0 rfl rfl 2 (by decide) (hts _ (mj_good_in ((lw_in_0 (List.mem_of_getElem? (i := 195) (by decide +kernel)))) rfl)) (fun _ h9 => h9) rfl hin rfl (mc_9.2.1 2 (by decide)) rfl rfl (Nat.le_of_ble_eq_true rfl) d_k9_10 (fun H locs hP hD hS => ?_)
  have hP : va_P Dg mj_CL [(h0, .inr (9, [.int 0, .int 0, .ref q8, .null, .null, .long 0, .long 0, .null])), (q8, .inl (cI, 160, .inl (fun _ => 0)))] H := hP
  have hD : va_D A [(h0, .inr (9, [.int 0, .int 0, .ref q8, .null, .null, .long 0, .long 0, .null])), (q8, .inl (cI, 160, .inl (fun _ => 0)))] := hD
  refine lv_aload_n hx hb d_k9_13 rfl (lv_at hl 0 rfl) ?_
  refine lv_sipush (v := 160) hx hb d_k9_14 (by decide) ?_
  refine va_newa (atype := .int) (ty := .int) (N' := 160) (a0 := (160, .inl (fun _ => 0))) hx hb (hts _ (mj_good_in ((lw_in_0 (List.mem_of_getElem? (i := 92) (by decide +kernel)))) rfl)) rfl hK hP hD hS hA (fun _ => rfl) (by decide) (by decide) (Nat.le_of_ble_eq_true rfl) (Nat.le_of_ble_eq_true rfl) (Nat.le_of_ble_eq_true rfl) d_k9_17 (fun q17 cA H hK1 hP hD hS => ?_)
  have hcA : cA = cI := mj_cA0 hK1
  rw [hcA] at hP hD
  clear hK1 hcA
  refine W.widen (k := 2) (n := 320) (Nat.le_of_ble_eq_true rfl) (Nat.le_of_ble_eq_true rfl) ?_
  have hP : va_P Dg mj_CL [(h0, .inr (9, [.int 0, .int 0, .ref q8, .null, .null, .long 0, .long 0, .null])), (q8, .inl (cI, 160, .inl (fun _ => 0))), (q17, .inl (cI, 160, .inl (fun _ => 0)))] H := hP
  have hD : va_D A [(h0, .inr (9, [.int 0, .int 0, .ref q8, .null, .null, .long 0, .long 0, .null])), (q8, .inl (cI, 160, .inl (fun _ => 0))), (q17, .inl (cI, 160, .inl (fun _ => 0)))] := hD
  refine va_putF (D := Dg) (ci := 9) (v := .ref q17) (ty := mj_TY 9 3) (C := "UnbeatenHouse$Rows") (T := mF_9) (N := 8) hx hb hts (mj_lays mc_9.1) (mj_TY 9) mc_9.2.1 mc_9.2.2 hown hK hP hD hS 0 rfl rfl 3 (by decide) (hts _ (mj_good_in ((lw_in_0 (List.mem_of_getElem? (i := 198) (by decide +kernel)))) rfl)) (fun _ h9 => h9) rfl hin rfl (mc_9.2.1 3 (by decide)) rfl rfl (Nat.le_of_ble_eq_true rfl) d_k9_19 (fun H locs hP hD hS => ?_)
  have hP : va_P Dg mj_CL [(h0, .inr (9, [.int 0, .int 0, .ref q8, .ref q17, .null, .long 0, .long 0, .null])), (q8, .inl (cI, 160, .inl (fun _ => 0))), (q17, .inl (cI, 160, .inl (fun _ => 0)))] H := hP
  have hD : va_D A [(h0, .inr (9, [.int 0, .int 0, .ref q8, .ref q17, .null, .long 0, .long 0, .null])), (q8, .inl (cI, 160, .inl (fun _ => 0))), (q17, .inl (cI, 160, .inl (fun _ => 0)))] := hD
  refine lv_aload_n hx hb d_k9_22 rfl (lv_at hl 0 rfl) ?_
  refine lv_sipush (v := 160) hx hb d_k9_23 (by decide) ?_
  refine va_newa (atype := .int) (ty := .int) (N' := 160) (a0 := (160, .inl (fun _ => 0))) hx hb (hts _ (mj_good_in ((lw_in_0 (List.mem_of_getElem? (i := 92) (by decide +kernel)))) rfl)) rfl hK hP hD hS hA (fun _ => rfl) (by decide) (by decide) (Nat.le_of_ble_eq_true rfl) (Nat.le_of_ble_eq_true rfl) (Nat.le_of_ble_eq_true rfl) d_k9_26 (fun q26 cA H hK1 hP hD hS => ?_)
  have hcA : cA = cI := mj_cA0 hK1
  rw [hcA] at hP hD
  clear hK1 hcA
  refine W.widen (k := 3) (n := 480) (Nat.le_of_ble_eq_true rfl) (Nat.le_of_ble_eq_true rfl) ?_
  have hP : va_P Dg mj_CL [(h0, .inr (9, [.int 0, .int 0, .ref q8, .ref q17, .null, .long 0, .long 0, .null])), (q8, .inl (cI, 160, .inl (fun _ => 0))), (q17, .inl (cI, 160, .inl (fun _ => 0))), (q26, .inl (cI, 160, .inl (fun _ => 0)))] H := hP
  have hD : va_D A [(h0, .inr (9, [.int 0, .int 0, .ref q8, .ref q17, .null, .long 0, .long 0, .null])), (q8, .inl (cI, 160, .inl (fun _ => 0))), (q17, .inl (cI, 160, .inl (fun _ => 0))), (q26, .inl (cI, 160, .inl (fun _ => 0)))] := hD
  refine va_putF (D := Dg) (ci := 9) (v := .ref q26) (ty := mj_TY 9 4) (C := "UnbeatenHouse$Rows") (T := mF_9) (N := 8) hx hb hts (mj_lays mc_9.1) (mj_TY 9) mc_9.2.1 mc_9.2.2 hown hK hP hD hS 0 rfl rfl 4 (by decide) (hts _ (mj_good_in ((lw_in_0 (List.mem_of_getElem? (i := 200) (by decide +kernel)))) rfl)) (fun _ h9 => h9) rfl hin rfl (mc_9.2.1 4 (by decide)) rfl rfl (Nat.le_of_ble_eq_true rfl) d_k9_28 (fun H locs hP hD hS => ?_)
  have hP : va_P Dg mj_CL [(h0, .inr (9, [.int 0, .int 0, .ref q8, .ref q17, .ref q26, .long 0, .long 0, .null])), (q8, .inl (cI, 160, .inl (fun _ => 0))), (q17, .inl (cI, 160, .inl (fun _ => 0))), (q26, .inl (cI, 160, .inl (fun _ => 0)))] H := hP
  have hD : va_D A [(h0, .inr (9, [.int 0, .int 0, .ref q8, .ref q17, .ref q26, .long 0, .long 0, .null])), (q8, .inl (cI, 160, .inl (fun _ => 0))), (q17, .inl (cI, 160, .inl (fun _ => 0))), (q26, .inl (cI, 160, .inl (fun _ => 0)))] := hD
  refine lv_aload_n hx hb d_k9_31 rfl (lv_at hl 0 rfl) ?_
  refine lv_bipush (v := 40) hx hb d_k9_32 (by decide) ?_
  refine va_newa (atype := .int) (ty := .int) (N' := 40) (a0 := (40, .inl (fun _ => 0))) hx hb (hts _ (mj_good_in ((lw_in_0 (List.mem_of_getElem? (i := 92) (by decide +kernel)))) rfl)) rfl hK hP hD hS hA (fun _ => rfl) (by decide) (by decide) (Nat.le_of_ble_eq_true rfl) (Nat.le_of_ble_eq_true rfl) (Nat.le_of_ble_eq_true rfl) d_k9_34 (fun q34 cA H hK1 hP hD hS => ?_)
  have hcA : cA = cI := mj_cA0 hK1
  rw [hcA] at hP hD
  clear hK1 hcA
  refine W.widen (k := 4) (n := 520) (Nat.le_of_ble_eq_true rfl) (Nat.le_of_ble_eq_true rfl) ?_
  have hP : va_P Dg mj_CL [(h0, .inr (9, [.int 0, .int 0, .ref q8, .ref q17, .ref q26, .long 0, .long 0, .null])), (q8, .inl (cI, 160, .inl (fun _ => 0))), (q17, .inl (cI, 160, .inl (fun _ => 0))), (q26, .inl (cI, 160, .inl (fun _ => 0))), (q34, .inl (cI, 40, .inl (fun _ => 0)))] H := hP
  have hD : va_D A [(h0, .inr (9, [.int 0, .int 0, .ref q8, .ref q17, .ref q26, .long 0, .long 0, .null])), (q8, .inl (cI, 160, .inl (fun _ => 0))), (q17, .inl (cI, 160, .inl (fun _ => 0))), (q26, .inl (cI, 160, .inl (fun _ => 0))), (q34, .inl (cI, 40, .inl (fun _ => 0)))] := hD
  refine va_putF (D := Dg) (ci := 9) (v := .ref q34) (ty := mj_TY 9 7) (C := "UnbeatenHouse$Rows") (T := mF_9) (N := 8) hx hb hts (mj_lays mc_9.1) (mj_TY 9) mc_9.2.1 mc_9.2.2 hown hK hP hD hS 0 rfl rfl 7 (by decide) (hts _ (mj_good_in ((lw_in_0 (List.mem_of_getElem? (i := 207) (by decide +kernel)))) rfl)) (fun _ h9 => h9) rfl hin rfl (mc_9.2.1 7 (by decide)) rfl rfl (Nat.le_of_ble_eq_true rfl) d_k9_36 (fun H locs hP hD hS => ?_)
  have hP : va_P Dg mj_CL [(h0, .inr (9, [.int 0, .int 0, .ref q8, .ref q17, .ref q26, .long 0, .long 0, .ref q34])), (q8, .inl (cI, 160, .inl (fun _ => 0))), (q17, .inl (cI, 160, .inl (fun _ => 0))), (q26, .inl (cI, 160, .inl (fun _ => 0))), (q34, .inl (cI, 40, .inl (fun _ => 0)))] H := hP
  have hD : va_D A [(h0, .inr (9, [.int 0, .int 0, .ref q8, .ref q17, .ref q26, .long 0, .long 0, .ref q34])), (q8, .inl (cI, 160, .inl (fun _ => 0))), (q17, .inl (cI, 160, .inl (fun _ => 0))), (q26, .inl (cI, 160, .inl (fun _ => 0))), (q34, .inl (cI, 40, .inl (fun _ => 0)))] := hD
  refine W.widen (k := 4) (n := 520) (Nat.le_of_ble_eq_true rfl) (Nat.le_of_ble_eq_true rfl) ?_
  exact W.vret hx hb hr (fun t ht hW => ⟨⟨(), rfl, trivial, q8, q17, q26, q34, by rw [ht]; exact hP, hD⟩, hS.F ht⟩) hS.2.2 d_k9_39
def mm_k7 : mj_M := (⟨"UnbeatenHouse$Pool", "<init>", "()V"⟩, prog_7_method_1_code, 1, none)
set_option maxRecDepth 100000 in
theorem my_k7 : mj_okY lw_tbl mm_k7 := ⟨(lw_in_0 (List.mem_of_getElem? (i := 230) rfl)), (lw_in_0 (List.mem_of_getElem? (i := 9) (by decide +kernel))), by decide, plainFor_of_name (by decide +kernel), by decide +kernel, by decide +kernel⟩
theorem dg_k7_0 : (decode prog_7_method_1_code 0 = .ok (.aload_n 0, 1)) ∧ (decode prog_7_method_1_code 1 = .ok (.invokespecial 3, 3)) ∧ (decode prog_7_method_1_code 4 = .ok (.aload_n 0, 1)) ∧ (decode prog_7_method_1_code 5 = .ok (.sipush 26244, 3)) ∧ (decode prog_7_method_1_code 8 = .ok (.newarray .int, 2)) ∧ (decode prog_7_method_1_code 10 = .ok (.putfield 9, 3)) ∧ (decode prog_7_method_1_code 13 = .ok (.aload_n 0, 1)) ∧ (decode prog_7_method_1_code 14 = .ok (.sipush 6561, 3)) ∧ (decode prog_7_method_1_code 17 = .ok (.newarray .long, 2)) ∧ (decode prog_7_method_1_code 19 = .ok (.putfield 15, 3)) ∧ (decode prog_7_method_1_code 22 = .ok (.aload_n 0, 1)) ∧ (decode prog_7_method_1_code 23 = .ok (.sipush 6561, 3)) ∧ (decode prog_7_method_1_code 26 = .ok (.newarray .int, 2)) ∧ (decode prog_7_method_1_code 28 = .ok (.putfield 19, 3)) ∧ (decode prog_7_method_1_code 31 = .ok (.return_, 1)) ∧ True := fd_of (cc := prog_7_method_1_code) [(0, .aload_n 0, 1), (1, .invokespecial 3, 3), (4, .aload_n 0, 1), (5, .sipush 26244, 3), (8, .newarray .int, 2), (10, .putfield 9, 3), (13, .aload_n 0, 1), (14, .sipush 6561, 3), (17, .newarray .long, 2), (19, .putfield 15, 3), (22, .aload_n 0, 1), (23, .sipush 6561, 3), (26, .newarray .int, 2), (28, .putfield 19, 3), (31, .return_, 1)] (by decide +kernel)
theorem d_k7_0 : decode prog_7_method_1_code 0 = .ok (.aload_n 0, 1) := dg_k7_0.1
theorem d_k7_1 : decode prog_7_method_1_code 1 = .ok (.invokespecial 3, 3) := dg_k7_0.2.1
theorem d_k7_4 : decode prog_7_method_1_code 4 = .ok (.aload_n 0, 1) := dg_k7_0.2.2.1
theorem d_k7_5 : decode prog_7_method_1_code 5 = .ok (.sipush 26244, 3) := dg_k7_0.2.2.2.1
theorem d_k7_8 : decode prog_7_method_1_code 8 = .ok (.newarray .int, 2) := dg_k7_0.2.2.2.2.1
theorem d_k7_10 : decode prog_7_method_1_code 10 = .ok (.putfield 9, 3) := dg_k7_0.2.2.2.2.2.1
theorem d_k7_13 : decode prog_7_method_1_code 13 = .ok (.aload_n 0, 1) := dg_k7_0.2.2.2.2.2.2.1
theorem d_k7_14 : decode prog_7_method_1_code 14 = .ok (.sipush 6561, 3) := dg_k7_0.2.2.2.2.2.2.2.1
theorem d_k7_17 : decode prog_7_method_1_code 17 = .ok (.newarray .long, 2) := dg_k7_0.2.2.2.2.2.2.2.2.1
theorem d_k7_19 : decode prog_7_method_1_code 19 = .ok (.putfield 15, 3) := dg_k7_0.2.2.2.2.2.2.2.2.2.1
theorem d_k7_22 : decode prog_7_method_1_code 22 = .ok (.aload_n 0, 1) := dg_k7_0.2.2.2.2.2.2.2.2.2.2.1
theorem d_k7_23 : decode prog_7_method_1_code 23 = .ok (.sipush 6561, 3) := dg_k7_0.2.2.2.2.2.2.2.2.2.2.2.1
theorem d_k7_26 : decode prog_7_method_1_code 26 = .ok (.newarray .int, 2) := dg_k7_0.2.2.2.2.2.2.2.2.2.2.2.2.1
theorem d_k7_28 : decode prog_7_method_1_code 28 = .ok (.putfield 19, 3) := dg_k7_0.2.2.2.2.2.2.2.2.2.2.2.2.2.1
theorem d_k7_31 : decode prog_7_method_1_code 31 = .ok (.return_, 1) := dg_k7_0.2.2.2.2.2.2.2.2.2.2.2.2.2.2.1
/-- a new UnbeatenHouse$Pool -/
abbrev at_k7 (Dg : va_G) (cI cJ cZ : Nat) (A : Nat → Prop) (h0 : Nat) (_ : Unit) (t : State) : Prop := ∃ (z1 z2 z3 : Nat), va_P Dg mj_CL [(h0, .inr (7, [.ref z1, .ref z2, .ref z3, .int 0, .int 0])), (z1, .inl (cI, 26244, .inl (fun _ => 0))), (z2, .inl (cJ, 6561, .inr (.inl (fun _ => 0)))), (z3, .inl (cI, 6561, .inl (fun _ => 0)))] t.heap ∧ va_D A [(h0, .inr (7, [.ref z1, .ref z2, .ref z3, .int 0, .int 0])), (z1, .inl (cI, 26244, .inl (fun _ => 0))), (z2, .inl (cJ, 6561, .inr (.inl (fun _ => 0)))), (z3, .inl (cI, 6561, .inl (fun _ => 0)))]
set_option maxHeartbeats 8000000 in
set_option maxRecDepth 100000 in
theorem c_k7 (l : Launch) (Dg : va_G) (cI cJ cZ : Nat) (h0 sz : Nat) : Met l mm_k7.1 (mj_ws lw_tbl mm_k7) ({ frames := 1, cells := 3, slots := 39366, locals := 12 }) (mj_kPc Dg cI cJ cZ h0 [(h0, .inr (7, [.null, .null, .null, .int 0, .int 0]))] sz) (va_Qv (fun _ : Unit => True) (at_k7 Dg cI cJ cZ (va_A [(h0, .inr (7, [.null, .null, .null, .int 0, .int 0]))] sz) h0) (va_A [(h0, .inr (7, [.null, .null, .null, .int 0, .int 0]))] sz)) 3 39366 (va_A [(h0, .inr (7, [.null, .null, .null, .int 0, .int 0]))] sz) := by
  refine Met.ofW (cc := prog_7_method_1_code) (maxL := 1) (ret := none) (by decide) rfl ?_
  intro p e s m args below meth c s₁ B hml hv
  obtain ⟨rfl, hsz, hP, hK, hD0, hN⟩ := hv
  have hx := B.exec
  have hb := B.bytes
  have hr := B.returns
  have hts0 := atoms_spec (ws := mj_ws lw_tbl mm_k7) B.pre
  have hts : ∀ w ∈ lw_tbl.filter goodWord, w.before _ s = true := fun w hw => hts0 w (List.mem_cons_of_mem _ hw)
  have hown : s.vm.findClass "UnbeatenHouse$Pool" = some m.cls := findClass_of_methodNamed B.named
  have hlocks := B.notSynchronized
  have hin : meth.name = "<init>" := (name_of_methodNamed B.named B.method).1
  subst hsz
  have hD := hD0.self (sz := s.heap.size)
  generalize hAe : va_A [(h0, .inr (7, [.null, .null, .null, .int 0, .int 0]))] s.heap.size = A at hD ⊢
  have hA : ∀ q : Nat, s.heap.size ≤ q → A q := fun q h => by rw [← hAe]; exact Or.inr h
  have hS : va_S A s.heap s.heap [] := va_S.rf
  have hP : va_P Dg mj_CL [(h0, .inr (7, [.null, .null, .null, .int 0, .int 0]))] s.heap := hP
  have hl := lv_entry ([.ref h0]) (n := 1) (Nat.le_of_ble_eq_true rfl)
  rw [lg_entry_eq]
  generalize (lg_sl ([.ref h0]) ++ List.replicate (1 - (lg_sl ([.ref h0])).length) Slot.unset).toArray = ls at hl ⊢
  have hl : lv_has ls 1 [(0, .ref h0)] := hl
  show W p l e ({ frames := 1, cells := 3, slots := 39366, locals := 12 } : Room) s m _ below meth c s.heap [] 0 0 _ _
  refine lv_aload_n hx hb d_k7_0 rfl (lv_at hl 0 rfl) ?_
  refine W.objInit hx hb hown (hts _ (mj_good_in ((lw_in_0 (List.mem_of_getElem? (i := 231) (by decide +kernel)))) rfl)) (hts _ (mj_good_in ((lw_in_0 (List.mem_of_getElem? (i := 28) (by decide +kernel)))) rfl)) (hts _ (mj_good_in ((lw_in_0 (List.mem_of_getElem? (i := 29) (by decide +kernel)))) rfl)) rfl (by rw [hml]; exact hl.1) rfl d_k7_1 (Nat.le_of_ble_eq_true rfl) (Nat.le_of_ble_eq_true rfl) ?_
  refine W.eq (g2 := F0 m 4 ls []) rfl ?_
  refine lv_aload_n hx hb d_k7_4 rfl (lv_at hl 0 rfl) ?_
  refine lv_sipush (v := 26244) hx hb d_k7_5 (by decide) ?_
  refine va_newa (atype := .int) (ty := .int) (N' := 26244) (a0 := (26244, .inl (fun _ => 0))) hx hb (hts _ (mj_good_in ((lw_in_0 (List.mem_of_getElem? (i := 92) (by decide +kernel)))) rfl)) rfl hK hP hD hS hA (fun _ => rfl) (by decide) (by decide) (Nat.le_of_ble_eq_true rfl) (Nat.le_of_ble_eq_true rfl) (Nat.le_of_ble_eq_true rfl) d_k7_8 (fun q8 cA H hK1 hP hD hS => ?_)
  have hcA : cA = cI := mj_cA0 hK1
  rw [hcA] at hP hD
  clear hK1 hcA
  refine W.widen (k := 1) (n := 26244) (Nat.le_of_ble_eq_true rfl) (Nat.le_of_ble_eq_true rfl) ?_
  have hP : va_P Dg mj_CL [(h0, .inr (7, [.null, .null, .null, .int 0, .int 0])), (q8, .inl (cI, 26244, .inl (fun _ => 0)))] H := hP
  have hD : va_D A [(h0, .inr (7, [.null, .null, .null, .int 0, .int 0])), (q8, .inl (cI, 26244, .inl (fun _ => 0)))] := hD
  refine va_putF (D := Dg) (ci := 7) (v := .ref q8) (ty := mj_TY 7 0) (C := "UnbeatenHouse$Pool") (T := mF_7) (N := 5) hx hb hts (mj_lays mc_7.1) (mj_TY 7) mc_7.2.1 mc_7.2.2 hown hK hP hD hS 0 rfl rfl 0 (by decide) (hts _ (mj_good_in ((lw_in_0 (List.mem_of_getElem? (i := 232) (by decide +kernel)))) rfl)) (fun _ h9 => h9) rfl hin rfl (mc_7.2.1 0 (by decide)) rfl rfl (Nat.le_of_ble_eq_true rfl) d_k7_10 (fun H locs hP hD hS => ?_)
  have hP : va_P Dg mj_CL [(h0, .inr (7, [.ref q8, .null, .null, .int 0, .int 0])), (q8, .inl (cI, 26244, .inl (fun _ => 0)))] H := hP
  have hD : va_D A [(h0, .inr (7, [.ref q8, .null, .null, .int 0, .int 0])), (q8, .inl (cI, 26244, .inl (fun _ => 0)))] := hD
  refine lv_aload_n hx hb d_k7_13 rfl (lv_at hl 0 rfl) ?_
  refine lv_sipush (v := 6561) hx hb d_k7_14 (by decide) ?_
  refine va_newa (atype := .long) (ty := .long) (N' := 6561) (a0 := (6561, .inr (.inl (fun _ => 0)))) hx hb (hts _ (mj_good_in ((lw_in_1 (List.mem_of_getElem? (i := 8) (by decide +kernel)))) rfl)) rfl hK hP hD hS hA (fun _ => rfl) (by decide) (by decide) (Nat.le_of_ble_eq_true rfl) (Nat.le_of_ble_eq_true rfl) (Nat.le_of_ble_eq_true rfl) d_k7_17 (fun q17 cA H hK1 hP hD hS => ?_)
  have hcA : cA = cJ := mj_cA1 hK1
  rw [hcA] at hP hD
  clear hK1 hcA
  refine W.widen (k := 2) (n := 32805) (Nat.le_of_ble_eq_true rfl) (Nat.le_of_ble_eq_true rfl) ?_
  have hP : va_P Dg mj_CL [(h0, .inr (7, [.ref q8, .null, .null, .int 0, .int 0])), (q8, .inl (cI, 26244, .inl (fun _ => 0))), (q17, .inl (cJ, 6561, .inr (.inl (fun _ => 0))))] H := hP
  have hD : va_D A [(h0, .inr (7, [.ref q8, .null, .null, .int 0, .int 0])), (q8, .inl (cI, 26244, .inl (fun _ => 0))), (q17, .inl (cJ, 6561, .inr (.inl (fun _ => 0))))] := hD
  refine va_putF (D := Dg) (ci := 7) (v := .ref q17) (ty := mj_TY 7 1) (C := "UnbeatenHouse$Pool") (T := mF_7) (N := 5) hx hb hts (mj_lays mc_7.1) (mj_TY 7) mc_7.2.1 mc_7.2.2 hown hK hP hD hS 0 rfl rfl 1 (by decide) (hts _ (mj_good_in ((lw_in_0 (List.mem_of_getElem? (i := 233) (by decide +kernel)))) rfl)) (fun _ h9 => h9) rfl hin rfl (mc_7.2.1 1 (by decide)) rfl rfl (Nat.le_of_ble_eq_true rfl) d_k7_19 (fun H locs hP hD hS => ?_)
  have hP : va_P Dg mj_CL [(h0, .inr (7, [.ref q8, .ref q17, .null, .int 0, .int 0])), (q8, .inl (cI, 26244, .inl (fun _ => 0))), (q17, .inl (cJ, 6561, .inr (.inl (fun _ => 0))))] H := hP
  have hD : va_D A [(h0, .inr (7, [.ref q8, .ref q17, .null, .int 0, .int 0])), (q8, .inl (cI, 26244, .inl (fun _ => 0))), (q17, .inl (cJ, 6561, .inr (.inl (fun _ => 0))))] := hD
  refine lv_aload_n hx hb d_k7_22 rfl (lv_at hl 0 rfl) ?_
  refine lv_sipush (v := 6561) hx hb d_k7_23 (by decide) ?_
  refine va_newa (atype := .int) (ty := .int) (N' := 6561) (a0 := (6561, .inl (fun _ => 0))) hx hb (hts _ (mj_good_in ((lw_in_0 (List.mem_of_getElem? (i := 92) (by decide +kernel)))) rfl)) rfl hK hP hD hS hA (fun _ => rfl) (by decide) (by decide) (Nat.le_of_ble_eq_true rfl) (Nat.le_of_ble_eq_true rfl) (Nat.le_of_ble_eq_true rfl) d_k7_26 (fun q26 cA H hK1 hP hD hS => ?_)
  have hcA : cA = cI := mj_cA0 hK1
  rw [hcA] at hP hD
  clear hK1 hcA
  refine W.widen (k := 3) (n := 39366) (Nat.le_of_ble_eq_true rfl) (Nat.le_of_ble_eq_true rfl) ?_
  have hP : va_P Dg mj_CL [(h0, .inr (7, [.ref q8, .ref q17, .null, .int 0, .int 0])), (q8, .inl (cI, 26244, .inl (fun _ => 0))), (q17, .inl (cJ, 6561, .inr (.inl (fun _ => 0)))), (q26, .inl (cI, 6561, .inl (fun _ => 0)))] H := hP
  have hD : va_D A [(h0, .inr (7, [.ref q8, .ref q17, .null, .int 0, .int 0])), (q8, .inl (cI, 26244, .inl (fun _ => 0))), (q17, .inl (cJ, 6561, .inr (.inl (fun _ => 0)))), (q26, .inl (cI, 6561, .inl (fun _ => 0)))] := hD
  refine va_putF (D := Dg) (ci := 7) (v := .ref q26) (ty := mj_TY 7 2) (C := "UnbeatenHouse$Pool") (T := mF_7) (N := 5) hx hb hts (mj_lays mc_7.1) (mj_TY 7) mc_7.2.1 mc_7.2.2 hown hK hP hD hS 0 rfl rfl 2 (by decide) (hts _ (mj_good_in ((lw_in_0 (List.mem_of_getElem? (i := 234) (by decide +kernel)))) rfl)) (fun _ h9 => h9) rfl hin rfl (mc_7.2.1 2 (by decide)) rfl rfl (Nat.le_of_ble_eq_true rfl) d_k7_28 (fun H locs hP hD hS => ?_)
  have hP : va_P Dg mj_CL [(h0, .inr (7, [.ref q8, .ref q17, .ref q26, .int 0, .int 0])), (q8, .inl (cI, 26244, .inl (fun _ => 0))), (q17, .inl (cJ, 6561, .inr (.inl (fun _ => 0)))), (q26, .inl (cI, 6561, .inl (fun _ => 0)))] H := hP
  have hD : va_D A [(h0, .inr (7, [.ref q8, .ref q17, .ref q26, .int 0, .int 0])), (q8, .inl (cI, 26244, .inl (fun _ => 0))), (q17, .inl (cJ, 6561, .inr (.inl (fun _ => 0)))), (q26, .inl (cI, 6561, .inl (fun _ => 0)))] := hD
  refine W.widen (k := 3) (n := 39366) (Nat.le_of_ble_eq_true rfl) (Nat.le_of_ble_eq_true rfl) ?_
  exact W.vret hx hb hr (fun t ht hW => ⟨⟨(), rfl, trivial, q8, q17, q26, by rw [ht]; exact hP, hD⟩, hS.F ht⟩) hS.2.2 d_k7_31
def mm_k3 : mj_M := (⟨"UnbeatenHouse$Gatherer", "<init>", "()V"⟩, prog_3_method_1_code, 1, none)
set_option maxRecDepth 100000 in
theorem my_k3 : mj_okY lw_tbl mm_k3 := ⟨(lw_in_1 (List.mem_of_getElem? (i := 13) rfl)), (lw_in_0 (List.mem_of_getElem? (i := 10) (by decide +kernel))), by decide, plainFor_of_name (by decide +kernel), by decide +kernel, by decide +kernel⟩
theorem dg_k3_0 : (decode prog_3_method_1_code 0 = .ok (.aload_n 0, 1)) ∧ (decode prog_3_method_1_code 1 = .ok (.invokespecial 3, 3)) ∧ (decode prog_3_method_1_code 4 = .ok (.aload_n 0, 1)) ∧ (decode prog_3_method_1_code 5 = .ok (.new 9, 3)) ∧ (decode prog_3_method_1_code 8 = .ok (.dup, 1)) ∧ (decode prog_3_method_1_code 9 = .ok (.invokespecial 11, 3)) ∧ (decode prog_3_method_1_code 12 = .ok (.putfield 12, 3)) ∧ (decode prog_3_method_1_code 15 = .ok (.aload_n 0, 1)) ∧ (decode prog_3_method_1_code 16 = .ok (.bipush 40, 2)) ∧ (decode prog_3_method_1_code 18 = .ok (.newarray .int, 2)) ∧ (decode prog_3_method_1_code 20 = .ok (.putfield 18, 3)) ∧ (decode prog_3_method_1_code 23 = .ok (.aload_n 0, 1)) ∧ (decode prog_3_method_1_code 24 = .ok (.iconst 4, 1)) ∧ (decode prog_3_method_1_code 25 = .ok (.newarray .int, 2)) ∧ (decode prog_3_method_1_code 27 = .ok (.putfield 22, 3)) ∧ (decode prog_3_method_1_code 30 = .ok (.return_, 1)) ∧ True := fd_of (cc := prog_3_method_1_code) [(0, .aload_n 0, 1), (1, .invokespecial 3, 3), (4, .aload_n 0, 1), (5, .new 9, 3), (8, .dup, 1), (9, .invokespecial 11, 3), (12, .putfield 12, 3), (15, .aload_n 0, 1), (16, .bipush 40, 2), (18, .newarray .int, 2), (20, .putfield 18, 3), (23, .aload_n 0, 1), (24, .iconst 4, 1), (25, .newarray .int, 2), (27, .putfield 22, 3), (30, .return_, 1)] (by decide +kernel)
theorem d_k3_0 : decode prog_3_method_1_code 0 = .ok (.aload_n 0, 1) := dg_k3_0.1
theorem d_k3_1 : decode prog_3_method_1_code 1 = .ok (.invokespecial 3, 3) := dg_k3_0.2.1
theorem d_k3_4 : decode prog_3_method_1_code 4 = .ok (.aload_n 0, 1) := dg_k3_0.2.2.1
theorem d_k3_5 : decode prog_3_method_1_code 5 = .ok (.new 9, 3) := dg_k3_0.2.2.2.1
theorem d_k3_8 : decode prog_3_method_1_code 8 = .ok (.dup, 1) := dg_k3_0.2.2.2.2.1
theorem d_k3_9 : decode prog_3_method_1_code 9 = .ok (.invokespecial 11, 3) := dg_k3_0.2.2.2.2.2.1
theorem d_k3_12 : decode prog_3_method_1_code 12 = .ok (.putfield 12, 3) := dg_k3_0.2.2.2.2.2.2.1
theorem d_k3_15 : decode prog_3_method_1_code 15 = .ok (.aload_n 0, 1) := dg_k3_0.2.2.2.2.2.2.2.1
theorem d_k3_16 : decode prog_3_method_1_code 16 = .ok (.bipush 40, 2) := dg_k3_0.2.2.2.2.2.2.2.2.1
theorem d_k3_18 : decode prog_3_method_1_code 18 = .ok (.newarray .int, 2) := dg_k3_0.2.2.2.2.2.2.2.2.2.1
theorem d_k3_20 : decode prog_3_method_1_code 20 = .ok (.putfield 18, 3) := dg_k3_0.2.2.2.2.2.2.2.2.2.2.1
theorem d_k3_23 : decode prog_3_method_1_code 23 = .ok (.aload_n 0, 1) := dg_k3_0.2.2.2.2.2.2.2.2.2.2.2.1
theorem d_k3_24 : decode prog_3_method_1_code 24 = .ok (.iconst 4, 1) := dg_k3_0.2.2.2.2.2.2.2.2.2.2.2.2.1
theorem d_k3_25 : decode prog_3_method_1_code 25 = .ok (.newarray .int, 2) := dg_k3_0.2.2.2.2.2.2.2.2.2.2.2.2.2.1
theorem d_k3_27 : decode prog_3_method_1_code 27 = .ok (.putfield 22, 3) := dg_k3_0.2.2.2.2.2.2.2.2.2.2.2.2.2.2.1
theorem d_k3_30 : decode prog_3_method_1_code 30 = .ok (.return_, 1) := dg_k3_0.2.2.2.2.2.2.2.2.2.2.2.2.2.2.2.1
/-- a new UnbeatenHouse$Gatherer -/
abbrev at_k3 (Dg : va_G) (cI cJ cZ : Nat) (A : Nat → Prop) (h0 : Nat) (_ : Unit) (t : State) : Prop := ∃ (z1 z2 z3 z4 : Nat), va_P Dg mj_CL [(h0, .inr (3, [.ref z1, .ref z3, .ref z4])), (z1, .inr (4, [.ref z2, .int 0])), (z2, .inl (cI, 64, .inl (fun _ => 0))), (z3, .inl (cI, 40, .inl (fun _ => 0))), (z4, .inl (cI, 4, .inl (fun _ => 0)))] t.heap ∧ va_D A [(h0, .inr (3, [.ref z1, .ref z3, .ref z4])), (z1, .inr (4, [.ref z2, .int 0])), (z2, .inl (cI, 64, .inl (fun _ => 0))), (z3, .inl (cI, 40, .inl (fun _ => 0))), (z4, .inl (cI, 4, .inl (fun _ => 0)))]
set_option maxHeartbeats 8000000 in
set_option maxRecDepth 100000 in
theorem c_k3 (l : Launch) (Dg : va_G) (cI cJ cZ : Nat) (h0 sz : Nat) : Met l mm_k3.1 (mj_ws lw_tbl mm_k3) ({ frames := 2, cells := 4, slots := 110, locals := 36 }) (mj_kPc Dg cI cJ cZ h0 [(h0, .inr (3, [.null, .null, .null]))] sz) (va_Qv (fun _ : Unit => True) (at_k3 Dg cI cJ cZ (va_A [(h0, .inr (3, [.null, .null, .null]))] sz) h0) (va_A [(h0, .inr (3, [.null, .null, .null]))] sz)) 4 110 (va_A [(h0, .inr (3, [.null, .null, .null]))] sz) := by
  refine Met.ofW (cc := prog_3_method_1_code) (maxL := 1) (ret := none) (by decide) rfl ?_
  intro p e s m args below meth c s₁ B hml hv
  obtain ⟨rfl, hsz, hP, hK, hD0, hN⟩ := hv
  have hx := B.exec
  have hb := B.bytes
  have hr := B.returns
  have hts0 := atoms_spec (ws := mj_ws lw_tbl mm_k3) B.pre
  have hts : ∀ w ∈ lw_tbl.filter goodWord, w.before _ s = true := fun w hw => hts0 w (List.mem_cons_of_mem _ hw)
  have hown : s.vm.findClass "UnbeatenHouse$Gatherer" = some m.cls := findClass_of_methodNamed B.named
  have hlocks := B.notSynchronized
  have hin : meth.name = "<init>" := (name_of_methodNamed B.named B.method).1
  subst hsz
  have hD := hD0.self (sz := s.heap.size)
  generalize hAe : va_A [(h0, .inr (3, [.null, .null, .null]))] s.heap.size = A at hD ⊢
  have hA : ∀ q : Nat, s.heap.size ≤ q → A q := fun q h => by rw [← hAe]; exact Or.inr h
  have hS : va_S A s.heap s.heap [] := va_S.rf
  have hP : va_P Dg mj_CL [(h0, .inr (3, [.null, .null, .null]))] s.heap := hP
  have hl := lv_entry ([.ref h0]) (n := 1) (Nat.le_of_ble_eq_true rfl)
  rw [lg_entry_eq]
  generalize (lg_sl ([.ref h0]) ++ List.replicate (1 - (lg_sl ([.ref h0])).length) Slot.unset).toArray = ls at hl ⊢
  have hl : lv_has ls 1 [(0, .ref h0)] := hl
  show W p l e ({ frames := 2, cells := 4, slots := 110, locals := 36 } : Room) s m _ below meth c s.heap [] 0 0 _ _
  refine lv_aload_n hx hb d_k3_0 rfl (lv_at hl 0 rfl) ?_
  refine W.objInit hx hb hown (hts _ (mj_good_in ((lw_in_1 (List.mem_of_getElem? (i := 14) (by decide +kernel)))) rfl)) (hts _ (mj_good_in ((lw_in_0 (List.mem_of_getElem? (i := 28) (by decide +kernel)))) rfl)) (hts _ (mj_good_in ((lw_in_0 (List.mem_of_getElem? (i := 29) (by decide +kernel)))) rfl)) rfl (by rw [hml]; exact hl.1) rfl d_k3_1 (Nat.le_of_ble_eq_true rfl) (Nat.le_of_ble_eq_true rfl) ?_
  refine W.eq (g2 := F0 m 4 ls []) rfl ?_
  refine lv_aload_n hx hb d_k3_4 rfl (lv_at hl 0 rfl) ?_
  refine va_new (ci := 4) (fs := [.null, .int 0]) (C := "UnbeatenHouse$Judge") (T := mF_4) (N := 2) hx hb hts (mj_lays mc_4.1) (mj_TY 4) mc_4.2.1 hown (hts _ (mj_good_in ((lw_in_1 (List.mem_of_getElem? (i := 15) (by decide +kernel)))) rfl)) (hts _ (mj_good_in ((lw_in_1 (List.mem_of_getElem? (i := 16) (by decide +kernel)))) rfl)) (hts _ (mj_good_in ((lw_in_0 (List.mem_of_getElem? (i := 11) (by decide +kernel)))) rfl)) hK hP hD hS hA rfl (by decide +kernel) (Nat.le_of_ble_eq_true rfl) (Nat.le_of_ble_eq_true rfl) d_k3_5 (fun q5 H hP hD hS => ?_)
  refine W.widen (k := 1) (n := 2) (Nat.le_of_ble_eq_true rfl) (Nat.le_of_ble_eq_true rfl) ?_
  have hP : va_P Dg mj_CL [(h0, .inr (3, [.null, .null, .null])), (q5, .inr (4, [.null, .int 0]))] H := hP
  have hD : va_D A [(h0, .inr (3, [.null, .null, .null])), (q5, .inr (4, [.null, .int 0]))] := hD
  refine lv_dup hx hb d_k3_8 rfl ?_
  have hPc := hP.sub (ws' := [(q5, .inr (4, [.null, .int 0]))]) [1] rfl
  have hDc := hD.sub (ws' := [(q5, .inr (4, [.null, .int 0]))]) [1] (by decide) rfl
  have hFc := va_free (wc := [(q5, .inr (4, [.null, .int 0]))]) hD hS hA [1] rfl
  refine va_callv (va_runIN (As := []) (rest := [.ref q5, .ref h0]) ⟨hx, hb, hml, hown, hts⟩ (c_k4 l Dg cI cJ cZ q5 H.size) (⟨va_cnB 0 hts (mj_goodIn my_k4) rfl rfl rfl (hN (.methodLinkNest "UnbeatenHouse$Gatherer" 11 mm_k4.1 "UnbeatenHouse") ((lw_in_1 (List.mem_of_getElem? (i := 17) (by decide +kernel)))) rfl) (hts _ (mj_good_in ((lw_in_0 (List.mem_of_getElem? (i := 11) (by decide +kernel)))) rfl)) ⟨by decide +kernel, by decide +kernel, by decide +kernel⟩ ⟨Nat.le_of_ble_eq_true rfl, Nat.le_of_ble_eq_true rfl⟩, rfl, hts _ (mj_good_in ((lw_in_1 (List.mem_of_getElem? (i := 18) (by decide +kernel)))) rfl)⟩) ⟨mj_kblind, fun U hU hW => ⟨rfl, by rw [hU], by rw [hU]; exact hPc, va_K.moved hW.alike hK, hDc.weaken (fun _ _ _ _ => trivial), mj_nw hW hN⟩⟩ rfl rfl hl.1 rfl (lv_room (Nat.le_of_ble_eq_true rfl)) d_k3_9 ⟨Nat.le_of_ble_eq_true rfl, Nat.le_of_ble_eq_true rfl⟩) hS (fun q _ h => hFc q h) hFc (fun u t H1 locs ht hvm hw hB hz1 hk1 hS => ?_)
  obtain ⟨q9_0, hP1, hD1⟩ := hB
  rw [ht] at hP1
  obtain ⟨hP, hD⟩ := va_join (wr := [(h0, .inr (3, [.null, .null, .null]))]) (w1 := [(q5, .inr (4, [.ref q9_0, .int 0])), (q9_0, .inl (cI, 64, .inl (fun _ => 0)))]) hP hD [1] [0] rfl rfl (by decide) (by decide) hk1 hFc hP1 hD1
  generalize H1 = H at hP hS ⊢
  refine W.widen (k := 2) (n := 66) (Nat.le_of_ble_eq_true rfl) (Nat.le_of_ble_eq_true rfl) ?_
  have hP : va_P Dg mj_CL [(h0, .inr (3, [.null, .null, .null])), (q5, .inr (4, [.ref q9_0, .int 0])), (q9_0, .inl (cI, 64, .inl (fun _ => 0)))] H := hP
  have hD : va_D A [(h0, .inr (3, [.null, .null, .null])), (q5, .inr (4, [.ref q9_0, .int 0])), (q9_0, .inl (cI, 64, .inl (fun _ => 0)))] := hD
  refine va_putF (D := Dg) (ci := 3) (v := .ref q5) (ty := mj_TY 3 0) (C := "UnbeatenHouse$Gatherer") (T := mF_3) (N := 3) hx hb hts (mj_lays mc_3.1) (mj_TY 3) mc_3.2.1 mc_3.2.2 hown hK hP hD hS 0 rfl rfl 0 (by decide) (hts _ (mj_good_in ((lw_in_1 (List.mem_of_getElem? (i := 28) (by decide +kernel)))) rfl)) (fun _ h9 => h9) rfl hin rfl (mc_3.2.1 0 (by decide)) rfl rfl (Nat.le_of_ble_eq_true rfl) d_k3_12 (fun H locs hP hD hS => ?_)
  have hP : va_P Dg mj_CL [(h0, .inr (3, [.ref q5, .null, .null])), (q5, .inr (4, [.ref q9_0, .int 0])), (q9_0, .inl (cI, 64, .inl (fun _ => 0)))] H := hP
  have hD : va_D A [(h0, .inr (3, [.ref q5, .null, .null])), (q5, .inr (4, [.ref q9_0, .int 0])), (q9_0, .inl (cI, 64, .inl (fun _ => 0)))] := hD
  refine lv_aload_n hx hb d_k3_15 rfl (lv_at hl 0 rfl) ?_
  refine lv_bipush (v := 40) hx hb d_k3_16 (by decide) ?_
  refine va_newa (atype := .int) (ty := .int) (N' := 40) (a0 := (40, .inl (fun _ => 0))) hx hb (hts _ (mj_good_in ((lw_in_0 (List.mem_of_getElem? (i := 92) (by decide +kernel)))) rfl)) rfl hK hP hD hS hA (fun _ => rfl) (by decide) (by decide) (Nat.le_of_ble_eq_true rfl) (Nat.le_of_ble_eq_true rfl) (Nat.le_of_ble_eq_true rfl) d_k3_18 (fun q18 cA H hK1 hP hD hS => ?_)
  have hcA : cA = cI := mj_cA0 hK1
  rw [hcA] at hP hD
  clear hK1 hcA
  refine W.widen (k := 3) (n := 106) (Nat.le_of_ble_eq_true rfl) (Nat.le_of_ble_eq_true rfl) ?_
  have hP : va_P Dg mj_CL [(h0, .inr (3, [.ref q5, .null, .null])), (q5, .inr (4, [.ref q9_0, .int 0])), (q9_0, .inl (cI, 64, .inl (fun _ => 0))), (q18, .inl (cI, 40, .inl (fun _ => 0)))] H := hP
  have hD : va_D A [(h0, .inr (3, [.ref q5, .null, .null])), (q5, .inr (4, [.ref q9_0, .int 0])), (q9_0, .inl (cI, 64, .inl (fun _ => 0))), (q18, .inl (cI, 40, .inl (fun _ => 0)))] := hD
  refine va_putF (D := Dg) (ci := 3) (v := .ref q18) (ty := mj_TY 3 1) (C := "UnbeatenHouse$Gatherer") (T := mF_3) (N := 3) hx hb hts (mj_lays mc_3.1) (mj_TY 3) mc_3.2.1 mc_3.2.2 hown hK hP hD hS 0 rfl rfl 1 (by decide) (hts _ (mj_good_in ((lw_in_1 (List.mem_of_getElem? (i := 29) (by decide +kernel)))) rfl)) (fun _ h9 => h9) rfl hin rfl (mc_3.2.1 1 (by decide)) rfl rfl (Nat.le_of_ble_eq_true rfl) d_k3_20 (fun H locs hP hD hS => ?_)
  have hP : va_P Dg mj_CL [(h0, .inr (3, [.ref q5, .ref q18, .null])), (q5, .inr (4, [.ref q9_0, .int 0])), (q9_0, .inl (cI, 64, .inl (fun _ => 0))), (q18, .inl (cI, 40, .inl (fun _ => 0)))] H := hP
  have hD : va_D A [(h0, .inr (3, [.ref q5, .ref q18, .null])), (q5, .inr (4, [.ref q9_0, .int 0])), (q9_0, .inl (cI, 64, .inl (fun _ => 0))), (q18, .inl (cI, 40, .inl (fun _ => 0)))] := hD
  refine lv_aload_n hx hb d_k3_23 rfl (lv_at hl 0 rfl) ?_
  refine lv_iconst (v := 4) hx hb d_k3_24 (by decide) ?_
  refine va_newa (atype := .int) (ty := .int) (N' := 4) (a0 := (4, .inl (fun _ => 0))) hx hb (hts _ (mj_good_in ((lw_in_0 (List.mem_of_getElem? (i := 92) (by decide +kernel)))) rfl)) rfl hK hP hD hS hA (fun _ => rfl) (by decide) (by decide) (Nat.le_of_ble_eq_true rfl) (Nat.le_of_ble_eq_true rfl) (Nat.le_of_ble_eq_true rfl) d_k3_25 (fun q25 cA H hK1 hP hD hS => ?_)
  have hcA : cA = cI := mj_cA0 hK1
  rw [hcA] at hP hD
  clear hK1 hcA
  refine W.widen (k := 4) (n := 110) (Nat.le_of_ble_eq_true rfl) (Nat.le_of_ble_eq_true rfl) ?_
  have hP : va_P Dg mj_CL [(h0, .inr (3, [.ref q5, .ref q18, .null])), (q5, .inr (4, [.ref q9_0, .int 0])), (q9_0, .inl (cI, 64, .inl (fun _ => 0))), (q18, .inl (cI, 40, .inl (fun _ => 0))), (q25, .inl (cI, 4, .inl (fun _ => 0)))] H := hP
  have hD : va_D A [(h0, .inr (3, [.ref q5, .ref q18, .null])), (q5, .inr (4, [.ref q9_0, .int 0])), (q9_0, .inl (cI, 64, .inl (fun _ => 0))), (q18, .inl (cI, 40, .inl (fun _ => 0))), (q25, .inl (cI, 4, .inl (fun _ => 0)))] := hD
  refine va_putF (D := Dg) (ci := 3) (v := .ref q25) (ty := mj_TY 3 2) (C := "UnbeatenHouse$Gatherer") (T := mF_3) (N := 3) hx hb hts (mj_lays mc_3.1) (mj_TY 3) mc_3.2.1 mc_3.2.2 hown hK hP hD hS 0 rfl rfl 2 (by decide) (hts _ (mj_good_in ((lw_in_1 (List.mem_of_getElem? (i := 30) (by decide +kernel)))) rfl)) (fun _ h9 => h9) rfl hin rfl (mc_3.2.1 2 (by decide)) rfl rfl (Nat.le_of_ble_eq_true rfl) d_k3_27 (fun H locs hP hD hS => ?_)
  have hP : va_P Dg mj_CL [(h0, .inr (3, [.ref q5, .ref q18, .ref q25])), (q5, .inr (4, [.ref q9_0, .int 0])), (q9_0, .inl (cI, 64, .inl (fun _ => 0))), (q18, .inl (cI, 40, .inl (fun _ => 0))), (q25, .inl (cI, 4, .inl (fun _ => 0)))] H := hP
  have hD : va_D A [(h0, .inr (3, [.ref q5, .ref q18, .ref q25])), (q5, .inr (4, [.ref q9_0, .int 0])), (q9_0, .inl (cI, 64, .inl (fun _ => 0))), (q18, .inl (cI, 40, .inl (fun _ => 0))), (q25, .inl (cI, 4, .inl (fun _ => 0)))] := hD
  refine W.widen (k := 4) (n := 110) (Nat.le_of_ble_eq_true rfl) (Nat.le_of_ble_eq_true rfl) ?_
  exact W.vret hx hb hr (fun t ht hW => ⟨⟨(), rfl, trivial, q5, q9_0, q18, q25, by rw [ht]; exact hP, hD⟩, hS.F ht⟩) hS.2.2 d_k3_30
def mm_k2 : mj_M := (⟨"UnbeatenHouse$Front", "<init>", "()V"⟩, prog_2_method_1_code, 1, none)
set_option maxRecDepth 100000 in
theorem my_k2 : mj_okY lw_tbl mm_k2 := ⟨(lw_in_1 (List.mem_of_getElem? (i := 42) rfl)), (lw_in_0 (List.mem_of_getElem? (i := 12) (by decide +kernel))), by decide, plainFor_of_name (by decide +kernel), by decide +kernel, by decide +kernel⟩
theorem dg_k2_0 : (decode prog_2_method_1_code 0 = .ok (.aload_n 0, 1)) ∧ (decode prog_2_method_1_code 1 = .ok (.invokespecial 3, 3)) ∧ (decode prog_2_method_1_code 4 = .ok (.aload_n 0, 1)) ∧ (decode prog_2_method_1_code 5 = .ok (.iconst (-1), 1)) ∧ (decode prog_2_method_1_code 6 = .ok (.putfield 9, 3)) ∧ (decode prog_2_method_1_code 9 = .ok (.aload_n 0, 1)) ∧ (decode prog_2_method_1_code 10 = .ok (.sipush 400, 3)) ∧ (decode prog_2_method_1_code 13 = .ok (.newarray .int, 2)) ∧ (decode prog_2_method_1_code 15 = .ok (.putfield 15, 3)) ∧ (decode prog_2_method_1_code 18 = .ok (.aload_n 0, 1)) ∧ (decode prog_2_method_1_code 19 = .ok (.bipush 100, 2)) ∧ (decode prog_2_method_1_code 21 = .ok (.newarray .long, 2)) ∧ (decode prog_2_method_1_code 23 = .ok (.putfield 19, 3)) ∧ (decode prog_2_method_1_code 26 = .ok (.return_, 1)) ∧ True := fd_of (cc := prog_2_method_1_code) [(0, .aload_n 0, 1), (1, .invokespecial 3, 3), (4, .aload_n 0, 1), (5, .iconst (-1), 1), (6, .putfield 9, 3), (9, .aload_n 0, 1), (10, .sipush 400, 3), (13, .newarray .int, 2), (15, .putfield 15, 3), (18, .aload_n 0, 1), (19, .bipush 100, 2), (21, .newarray .long, 2), (23, .putfield 19, 3), (26, .return_, 1)] (by decide +kernel)
theorem d_k2_0 : decode prog_2_method_1_code 0 = .ok (.aload_n 0, 1) := dg_k2_0.1
theorem d_k2_1 : decode prog_2_method_1_code 1 = .ok (.invokespecial 3, 3) := dg_k2_0.2.1
theorem d_k2_4 : decode prog_2_method_1_code 4 = .ok (.aload_n 0, 1) := dg_k2_0.2.2.1
theorem d_k2_5 : decode prog_2_method_1_code 5 = .ok (.iconst (-1), 1) := dg_k2_0.2.2.2.1
theorem d_k2_6 : decode prog_2_method_1_code 6 = .ok (.putfield 9, 3) := dg_k2_0.2.2.2.2.1
theorem d_k2_9 : decode prog_2_method_1_code 9 = .ok (.aload_n 0, 1) := dg_k2_0.2.2.2.2.2.1
theorem d_k2_10 : decode prog_2_method_1_code 10 = .ok (.sipush 400, 3) := dg_k2_0.2.2.2.2.2.2.1
theorem d_k2_13 : decode prog_2_method_1_code 13 = .ok (.newarray .int, 2) := dg_k2_0.2.2.2.2.2.2.2.1
theorem d_k2_15 : decode prog_2_method_1_code 15 = .ok (.putfield 15, 3) := dg_k2_0.2.2.2.2.2.2.2.2.1
theorem d_k2_18 : decode prog_2_method_1_code 18 = .ok (.aload_n 0, 1) := dg_k2_0.2.2.2.2.2.2.2.2.2.1
theorem d_k2_19 : decode prog_2_method_1_code 19 = .ok (.bipush 100, 2) := dg_k2_0.2.2.2.2.2.2.2.2.2.2.1
theorem d_k2_21 : decode prog_2_method_1_code 21 = .ok (.newarray .long, 2) := dg_k2_0.2.2.2.2.2.2.2.2.2.2.2.1
theorem d_k2_23 : decode prog_2_method_1_code 23 = .ok (.putfield 19, 3) := dg_k2_0.2.2.2.2.2.2.2.2.2.2.2.2.1
theorem d_k2_26 : decode prog_2_method_1_code 26 = .ok (.return_, 1) := dg_k2_0.2.2.2.2.2.2.2.2.2.2.2.2.2.1
/-- a new UnbeatenHouse$Front -/
abbrev at_k2 (Dg : va_G) (cI cJ cZ : Nat) (A : Nat → Prop) (h0 : Nat) (_ : Unit) (t : State) : Prop := ∃ (z1 z2 : Nat), va_P Dg mj_CL [(h0, .inr (2, [.int (-1), .int 0, .ref z1, .ref z2])), (z1, .inl (cI, 400, .inl (fun _ => 0))), (z2, .inl (cJ, 100, .inr (.inl (fun _ => 0))))] t.heap ∧ va_D A [(h0, .inr (2, [.int (-1), .int 0, .ref z1, .ref z2])), (z1, .inl (cI, 400, .inl (fun _ => 0))), (z2, .inl (cJ, 100, .inr (.inl (fun _ => 0))))]
set_option maxHeartbeats 8000000 in
set_option maxRecDepth 100000 in
theorem c_k2 (l : Launch) (Dg : va_G) (cI cJ cZ : Nat) (h0 sz : Nat) : Met l mm_k2.1 (mj_ws lw_tbl mm_k2) ({ frames := 1, cells := 2, slots := 500, locals := 12 }) (mj_kPc Dg cI cJ cZ h0 [(h0, .inr (2, [.int 0, .int 0, .null, .null]))] sz) (va_Qv (fun _ : Unit => True) (at_k2 Dg cI cJ cZ (va_A [(h0, .inr (2, [.int 0, .int 0, .null, .null]))] sz) h0) (va_A [(h0, .inr (2, [.int 0, .int 0, .null, .null]))] sz)) 2 500 (va_A [(h0, .inr (2, [.int 0, .int 0, .null, .null]))] sz) := by
  refine Met.ofW (cc := prog_2_method_1_code) (maxL := 1) (ret := none) (by decide) rfl ?_
  intro p e s m args below meth c s₁ B hml hv
  obtain ⟨rfl, hsz, hP, hK, hD0, hN⟩ := hv
  have hx := B.exec
  have hb := B.bytes
  have hr := B.returns
  have hts0 := atoms_spec (ws := mj_ws lw_tbl mm_k2) B.pre
  have hts : ∀ w ∈ lw_tbl.filter goodWord, w.before _ s = true := fun w hw => hts0 w (List.mem_cons_of_mem _ hw)
  have hown : s.vm.findClass "UnbeatenHouse$Front" = some m.cls := findClass_of_methodNamed B.named
  have hlocks := B.notSynchronized
  have hin : meth.name = "<init>" := (name_of_methodNamed B.named B.method).1
  subst hsz
  have hD := hD0.self (sz := s.heap.size)
  generalize hAe : va_A [(h0, .inr (2, [.int 0, .int 0, .null, .null]))] s.heap.size = A at hD ⊢
  have hA : ∀ q : Nat, s.heap.size ≤ q → A q := fun q h => by rw [← hAe]; exact Or.inr h
  have hS : va_S A s.heap s.heap [] := va_S.rf
  have hP : va_P Dg mj_CL [(h0, .inr (2, [.int 0, .int 0, .null, .null]))] s.heap := hP
  have hl := lv_entry ([.ref h0]) (n := 1) (Nat.le_of_ble_eq_true rfl)
  rw [lg_entry_eq]
  generalize (lg_sl ([.ref h0]) ++ List.replicate (1 - (lg_sl ([.ref h0])).length) Slot.unset).toArray = ls at hl ⊢
  have hl : lv_has ls 1 [(0, .ref h0)] := hl
  show W p l e ({ frames := 1, cells := 2, slots := 500, locals := 12 } : Room) s m _ below meth c s.heap [] 0 0 _ _
  refine lv_aload_n hx hb d_k2_0 rfl (lv_at hl 0 rfl) ?_
  refine W.objInit hx hb hown (hts _ (mj_good_in ((lw_in_1 (List.mem_of_getElem? (i := 43) (by decide +kernel)))) rfl)) (hts _ (mj_good_in ((lw_in_0 (List.mem_of_getElem? (i := 28) (by decide +kernel)))) rfl)) (hts _ (mj_good_in ((lw_in_0 (List.mem_of_getElem? (i := 29) (by decide +kernel)))) rfl)) rfl (by rw [hml]; exact hl.1) rfl d_k2_1 (Nat.le_of_ble_eq_true rfl) (Nat.le_of_ble_eq_true rfl) ?_
  refine W.eq (g2 := F0 m 4 ls []) rfl ?_
  refine lv_aload_n hx hb d_k2_4 rfl (lv_at hl 0 rfl) ?_
  refine lv_iconst (v := (-1)) hx hb d_k2_5 (by decide) ?_
  refine va_put (D := Dg) (ci := 2) (v := .int (-1)) (ty := mj_TY 2 0) (C := "UnbeatenHouse$Front") (T := mF_2) (N := 4) hx hb hts (mj_lays mc_2.1) (mj_TY 2) mc_2.2.1 mc_2.2.2 hown hK hP hD hS 0 rfl rfl 0 (by decide) (hts _ (mj_good_in ((lw_in_1 (List.mem_of_getElem? (i := 44) (by decide +kernel)))) rfl)) (fun _ h9 => h9) rfl (mc_2.2.1 0 (by decide)) rfl rfl (Nat.le_of_ble_eq_true rfl) d_k2_6 (fun H locs hP hD hS => ?_)
  have hP : va_P Dg mj_CL [(h0, .inr (2, [.int (-1), .int 0, .null, .null]))] H := hP
  have hD : va_D A [(h0, .inr (2, [.int (-1), .int 0, .null, .null]))] := hD
  refine lv_aload_n hx hb d_k2_9 rfl (lv_at hl 0 rfl) ?_
  refine lv_sipush (v := 400) hx hb d_k2_10 (by decide) ?_
  refine va_newa (atype := .int) (ty := .int) (N' := 400) (a0 := (400, .inl (fun _ => 0))) hx hb (hts _ (mj_good_in ((lw_in_0 (List.mem_of_getElem? (i := 92) (by decide +kernel)))) rfl)) rfl hK hP hD hS hA (fun _ => rfl) (by decide) (by decide) (Nat.le_of_ble_eq_true rfl) (Nat.le_of_ble_eq_true rfl) (Nat.le_of_ble_eq_true rfl) d_k2_13 (fun q13 cA H hK1 hP hD hS => ?_)
  have hcA : cA = cI := mj_cA0 hK1
  rw [hcA] at hP hD
  clear hK1 hcA
  refine W.widen (k := 1) (n := 400) (Nat.le_of_ble_eq_true rfl) (Nat.le_of_ble_eq_true rfl) ?_
  have hP : va_P Dg mj_CL [(h0, .inr (2, [.int (-1), .int 0, .null, .null])), (q13, .inl (cI, 400, .inl (fun _ => 0)))] H := hP
  have hD : va_D A [(h0, .inr (2, [.int (-1), .int 0, .null, .null])), (q13, .inl (cI, 400, .inl (fun _ => 0)))] := hD
  refine va_putF (D := Dg) (ci := 2) (v := .ref q13) (ty := mj_TY 2 2) (C := "UnbeatenHouse$Front") (T := mF_2) (N := 4) hx hb hts (mj_lays mc_2.1) (mj_TY 2) mc_2.2.1 mc_2.2.2 hown hK hP hD hS 0 rfl rfl 2 (by decide) (hts _ (mj_good_in ((lw_in_1 (List.mem_of_getElem? (i := 51) (by decide +kernel)))) rfl)) (fun _ h9 => h9) rfl hin rfl (mc_2.2.1 2 (by decide)) rfl rfl (Nat.le_of_ble_eq_true rfl) d_k2_15 (fun H locs hP hD hS => ?_)
  have hP : va_P Dg mj_CL [(h0, .inr (2, [.int (-1), .int 0, .ref q13, .null])), (q13, .inl (cI, 400, .inl (fun _ => 0)))] H := hP
  have hD : va_D A [(h0, .inr (2, [.int (-1), .int 0, .ref q13, .null])), (q13, .inl (cI, 400, .inl (fun _ => 0)))] := hD
  refine lv_aload_n hx hb d_k2_18 rfl (lv_at hl 0 rfl) ?_
  refine lv_bipush (v := 100) hx hb d_k2_19 (by decide) ?_
  refine va_newa (atype := .long) (ty := .long) (N' := 100) (a0 := (100, .inr (.inl (fun _ => 0)))) hx hb (hts _ (mj_good_in ((lw_in_1 (List.mem_of_getElem? (i := 8) (by decide +kernel)))) rfl)) rfl hK hP hD hS hA (fun _ => rfl) (by decide) (by decide) (Nat.le_of_ble_eq_true rfl) (Nat.le_of_ble_eq_true rfl) (Nat.le_of_ble_eq_true rfl) d_k2_21 (fun q21 cA H hK1 hP hD hS => ?_)
  have hcA : cA = cJ := mj_cA1 hK1
  rw [hcA] at hP hD
  clear hK1 hcA
  refine W.widen (k := 2) (n := 500) (Nat.le_of_ble_eq_true rfl) (Nat.le_of_ble_eq_true rfl) ?_
  have hP : va_P Dg mj_CL [(h0, .inr (2, [.int (-1), .int 0, .ref q13, .null])), (q13, .inl (cI, 400, .inl (fun _ => 0))), (q21, .inl (cJ, 100, .inr (.inl (fun _ => 0))))] H := hP
  have hD : va_D A [(h0, .inr (2, [.int (-1), .int 0, .ref q13, .null])), (q13, .inl (cI, 400, .inl (fun _ => 0))), (q21, .inl (cJ, 100, .inr (.inl (fun _ => 0))))] := hD
  refine va_putF (D := Dg) (ci := 2) (v := .ref q21) (ty := mj_TY 2 3) (C := "UnbeatenHouse$Front") (T := mF_2) (N := 4) hx hb hts (mj_lays mc_2.1) (mj_TY 2) mc_2.2.1 mc_2.2.2 hown hK hP hD hS 0 rfl rfl 3 (by decide) (hts _ (mj_good_in ((lw_in_1 (List.mem_of_getElem? (i := 54) (by decide +kernel)))) rfl)) (fun _ h9 => h9) rfl hin rfl (mc_2.2.1 3 (by decide)) rfl rfl (Nat.le_of_ble_eq_true rfl) d_k2_23 (fun H locs hP hD hS => ?_)
  have hP : va_P Dg mj_CL [(h0, .inr (2, [.int (-1), .int 0, .ref q13, .ref q21])), (q13, .inl (cI, 400, .inl (fun _ => 0))), (q21, .inl (cJ, 100, .inr (.inl (fun _ => 0))))] H := hP
  have hD : va_D A [(h0, .inr (2, [.int (-1), .int 0, .ref q13, .ref q21])), (q13, .inl (cI, 400, .inl (fun _ => 0))), (q21, .inl (cJ, 100, .inr (.inl (fun _ => 0))))] := hD
  refine W.widen (k := 2) (n := 500) (Nat.le_of_ble_eq_true rfl) (Nat.le_of_ble_eq_true rfl) ?_
  exact W.vret hx hb hr (fun t ht hW => ⟨⟨(), rfl, trivial, q13, q21, by rw [ht]; exact hP, hD⟩, hS.F ht⟩) hS.2.2 d_k2_26
def mm_k6 : mj_M := (⟨"UnbeatenHouse$Picker", "<init>", "()V"⟩, prog_6_method_1_code, 1, none)
set_option maxRecDepth 100000 in
theorem my_k6 : mj_okY lw_tbl mm_k6 := ⟨(lw_in_1 (List.mem_of_getElem? (i := 69) rfl)), (lw_in_0 (List.mem_of_getElem? (i := 13) (by decide +kernel))), by decide, plainFor_of_name (by decide +kernel), by decide +kernel, by decide +kernel⟩
theorem dg_k6_0 : (decode prog_6_method_1_code 0 = .ok (.aload_n 0, 1)) ∧ (decode prog_6_method_1_code 1 = .ok (.invokespecial 3, 3)) ∧ (decode prog_6_method_1_code 4 = .ok (.aload_n 0, 1)) ∧ (decode prog_6_method_1_code 5 = .ok (.sipush 576, 3)) ∧ (decode prog_6_method_1_code 8 = .ok (.newarray .int, 2)) ∧ (decode prog_6_method_1_code 10 = .ok (.putfield 11, 3)) ∧ (decode prog_6_method_1_code 13 = .ok (.aload_n 0, 1)) ∧ (decode prog_6_method_1_code 14 = .ok (.bipush 16, 2)) ∧ (decode prog_6_method_1_code 16 = .ok (.newarray .int, 2)) ∧ (decode prog_6_method_1_code 18 = .ok (.putfield 15, 3)) ∧ (decode prog_6_method_1_code 21 = .ok (.aload_n 0, 1)) ∧ (decode prog_6_method_1_code 22 = .ok (.bipush 16, 2)) ∧ (decode prog_6_method_1_code 24 = .ok (.newarray .int, 2)) ∧ (decode prog_6_method_1_code 26 = .ok (.putfield 18, 3)) ∧ (decode prog_6_method_1_code 29 = .ok (.return_, 1)) ∧ True := fd_of (cc := prog_6_method_1_code) [(0, .aload_n 0, 1), (1, .invokespecial 3, 3), (4, .aload_n 0, 1), (5, .sipush 576, 3), (8, .newarray .int, 2), (10, .putfield 11, 3), (13, .aload_n 0, 1), (14, .bipush 16, 2), (16, .newarray .int, 2), (18, .putfield 15, 3), (21, .aload_n 0, 1), (22, .bipush 16, 2), (24, .newarray .int, 2), (26, .putfield 18, 3), (29, .return_, 1)] (by decide +kernel)
theorem d_k6_0 : decode prog_6_method_1_code 0 = .ok (.aload_n 0, 1) := dg_k6_0.1
theorem d_k6_1 : decode prog_6_method_1_code 1 = .ok (.invokespecial 3, 3) := dg_k6_0.2.1
theorem d_k6_4 : decode prog_6_method_1_code 4 = .ok (.aload_n 0, 1) := dg_k6_0.2.2.1
theorem d_k6_5 : decode prog_6_method_1_code 5 = .ok (.sipush 576, 3) := dg_k6_0.2.2.2.1
theorem d_k6_8 : decode prog_6_method_1_code 8 = .ok (.newarray .int, 2) := dg_k6_0.2.2.2.2.1
theorem d_k6_10 : decode prog_6_method_1_code 10 = .ok (.putfield 11, 3) := dg_k6_0.2.2.2.2.2.1
theorem d_k6_13 : decode prog_6_method_1_code 13 = .ok (.aload_n 0, 1) := dg_k6_0.2.2.2.2.2.2.1
theorem d_k6_14 : decode prog_6_method_1_code 14 = .ok (.bipush 16, 2) := dg_k6_0.2.2.2.2.2.2.2.1
theorem d_k6_16 : decode prog_6_method_1_code 16 = .ok (.newarray .int, 2) := dg_k6_0.2.2.2.2.2.2.2.2.1
theorem d_k6_18 : decode prog_6_method_1_code 18 = .ok (.putfield 15, 3) := dg_k6_0.2.2.2.2.2.2.2.2.2.1
theorem d_k6_21 : decode prog_6_method_1_code 21 = .ok (.aload_n 0, 1) := dg_k6_0.2.2.2.2.2.2.2.2.2.2.1
theorem d_k6_22 : decode prog_6_method_1_code 22 = .ok (.bipush 16, 2) := dg_k6_0.2.2.2.2.2.2.2.2.2.2.2.1
theorem d_k6_24 : decode prog_6_method_1_code 24 = .ok (.newarray .int, 2) := dg_k6_0.2.2.2.2.2.2.2.2.2.2.2.2.1
theorem d_k6_26 : decode prog_6_method_1_code 26 = .ok (.putfield 18, 3) := dg_k6_0.2.2.2.2.2.2.2.2.2.2.2.2.2.1
theorem d_k6_29 : decode prog_6_method_1_code 29 = .ok (.return_, 1) := dg_k6_0.2.2.2.2.2.2.2.2.2.2.2.2.2.2.1
/-- a new UnbeatenHouse$Picker -/
abbrev at_k6 (Dg : va_G) (cI cJ cZ : Nat) (A : Nat → Prop) (h0 : Nat) (_ : Unit) (t : State) : Prop := ∃ (z1 z2 z3 : Nat), va_P Dg mj_CL [(h0, .inr (6, [.int 0, .ref z1, .ref z2, .ref z3, .int 0])), (z1, .inl (cI, 576, .inl (fun _ => 0))), (z2, .inl (cI, 16, .inl (fun _ => 0))), (z3, .inl (cI, 16, .inl (fun _ => 0)))] t.heap ∧ va_D A [(h0, .inr (6, [.int 0, .ref z1, .ref z2, .ref z3, .int 0])), (z1, .inl (cI, 576, .inl (fun _ => 0))), (z2, .inl (cI, 16, .inl (fun _ => 0))), (z3, .inl (cI, 16, .inl (fun _ => 0)))]
set_option maxHeartbeats 8000000 in
set_option maxRecDepth 100000 in
theorem c_k6 (l : Launch) (Dg : va_G) (cI cJ cZ : Nat) (h0 sz : Nat) : Met l mm_k6.1 (mj_ws lw_tbl mm_k6) ({ frames := 1, cells := 3, slots := 608, locals := 12 }) (mj_kPc Dg cI cJ cZ h0 [(h0, .inr (6, [.int 0, .null, .null, .null, .int 0]))] sz) (va_Qv (fun _ : Unit => True) (at_k6 Dg cI cJ cZ (va_A [(h0, .inr (6, [.int 0, .null, .null, .null, .int 0]))] sz) h0) (va_A [(h0, .inr (6, [.int 0, .null, .null, .null, .int 0]))] sz)) 3 608 (va_A [(h0, .inr (6, [.int 0, .null, .null, .null, .int 0]))] sz) := by
  refine Met.ofW (cc := prog_6_method_1_code) (maxL := 1) (ret := none) (by decide) rfl ?_
  intro p e s m args below meth c s₁ B hml hv
  obtain ⟨rfl, hsz, hP, hK, hD0, hN⟩ := hv
  have hx := B.exec
  have hb := B.bytes
  have hr := B.returns
  have hts0 := atoms_spec (ws := mj_ws lw_tbl mm_k6) B.pre
  have hts : ∀ w ∈ lw_tbl.filter goodWord, w.before _ s = true := fun w hw => hts0 w (List.mem_cons_of_mem _ hw)
  have hown : s.vm.findClass "UnbeatenHouse$Picker" = some m.cls := findClass_of_methodNamed B.named
  have hlocks := B.notSynchronized
  have hin : meth.name = "<init>" := (name_of_methodNamed B.named B.method).1
  subst hsz
  have hD := hD0.self (sz := s.heap.size)
  generalize hAe : va_A [(h0, .inr (6, [.int 0, .null, .null, .null, .int 0]))] s.heap.size = A at hD ⊢
  have hA : ∀ q : Nat, s.heap.size ≤ q → A q := fun q h => by rw [← hAe]; exact Or.inr h
  have hS : va_S A s.heap s.heap [] := va_S.rf
  have hP : va_P Dg mj_CL [(h0, .inr (6, [.int 0, .null, .null, .null, .int 0]))] s.heap := hP
  have hl := lv_entry ([.ref h0]) (n := 1) (Nat.le_of_ble_eq_true rfl)
  rw [lg_entry_eq]
  generalize (lg_sl ([.ref h0]) ++ List.replicate (1 - (lg_sl ([.ref h0])).length) Slot.unset).toArray = ls at hl ⊢
  have hl : lv_has ls 1 [(0, .ref h0)] := hl
  show W p l e ({ frames := 1, cells := 3, slots := 608, locals := 12 } : Room) s m _ below meth c s.heap [] 0 0 _ _
  refine lv_aload_n hx hb d_k6_0 rfl (lv_at hl 0 rfl) ?_
  refine W.objInit hx hb hown (hts _ (mj_good_in ((lw_in_1 (List.mem_of_getElem? (i := 70) (by decide +kernel)))) rfl)) (hts _ (mj_good_in ((lw_in_0 (List.mem_of_getElem? (i := 28) (by decide +kernel)))) rfl)) (hts _ (mj_good_in ((lw_in_0 (List.mem_of_getElem? (i := 29) (by decide +kernel)))) rfl)) rfl (by rw [hml]; exact hl.1) rfl d_k6_1 (Nat.le_of_ble_eq_true rfl) (Nat.le_of_ble_eq_true rfl) ?_
  refine W.eq (g2 := F0 m 4 ls []) rfl ?_
  refine lv_aload_n hx hb d_k6_4 rfl (lv_at hl 0 rfl) ?_
  refine lv_sipush (v := 576) hx hb d_k6_5 (by decide) ?_
  refine va_newa (atype := .int) (ty := .int) (N' := 576) (a0 := (576, .inl (fun _ => 0))) hx hb (hts _ (mj_good_in ((lw_in_0 (List.mem_of_getElem? (i := 92) (by decide +kernel)))) rfl)) rfl hK hP hD hS hA (fun _ => rfl) (by decide) (by decide) (Nat.le_of_ble_eq_true rfl) (Nat.le_of_ble_eq_true rfl) (Nat.le_of_ble_eq_true rfl) d_k6_8 (fun q8 cA H hK1 hP hD hS => ?_)
  have hcA : cA = cI := mj_cA0 hK1
  rw [hcA] at hP hD
  clear hK1 hcA
  refine W.widen (k := 1) (n := 576) (Nat.le_of_ble_eq_true rfl) (Nat.le_of_ble_eq_true rfl) ?_
  have hP : va_P Dg mj_CL [(h0, .inr (6, [.int 0, .null, .null, .null, .int 0])), (q8, .inl (cI, 576, .inl (fun _ => 0)))] H := hP
  have hD : va_D A [(h0, .inr (6, [.int 0, .null, .null, .null, .int 0])), (q8, .inl (cI, 576, .inl (fun _ => 0)))] := hD
  refine va_putF (D := Dg) (ci := 6) (v := .ref q8) (ty := mj_TY 6 1) (C := "UnbeatenHouse$Picker") (T := mF_6) (N := 5) hx hb hts (mj_lays mc_6.1) (mj_TY 6) mc_6.2.1 mc_6.2.2 hown hK hP hD hS 0 rfl rfl 1 (by decide) (hts _ (mj_good_in ((lw_in_1 (List.mem_of_getElem? (i := 72) (by decide +kernel)))) rfl)) (fun _ h9 => h9) rfl hin rfl (mc_6.2.1 1 (by decide)) rfl rfl (Nat.le_of_ble_eq_true rfl) d_k6_10 (fun H locs hP hD hS => ?_)
  have hP : va_P Dg mj_CL [(h0, .inr (6, [.int 0, .ref q8, .null, .null, .int 0])), (q8, .inl (cI, 576, .inl (fun _ => 0)))] H := hP
  have hD : va_D A [(h0, .inr (6, [.int 0, .ref q8, .null, .null, .int 0])), (q8, .inl (cI, 576, .inl (fun _ => 0)))] := hD
  refine lv_aload_n hx hb d_k6_13 rfl (lv_at hl 0 rfl) ?_
  refine lv_bipush (v := 16) hx hb d_k6_14 (by decide) ?_
  refine va_newa (atype := .int) (ty := .int) (N' := 16) (a0 := (16, .inl (fun _ => 0))) hx hb (hts _ (mj_good_in ((lw_in_0 (List.mem_of_getElem? (i := 92) (by decide +kernel)))) rfl)) rfl hK hP hD hS hA (fun _ => rfl) (by decide) (by decide) (Nat.le_of_ble_eq_true rfl) (Nat.le_of_ble_eq_true rfl) (Nat.le_of_ble_eq_true rfl) d_k6_16 (fun q16 cA H hK1 hP hD hS => ?_)
  have hcA : cA = cI := mj_cA0 hK1
  rw [hcA] at hP hD
  clear hK1 hcA
  refine W.widen (k := 2) (n := 592) (Nat.le_of_ble_eq_true rfl) (Nat.le_of_ble_eq_true rfl) ?_
  have hP : va_P Dg mj_CL [(h0, .inr (6, [.int 0, .ref q8, .null, .null, .int 0])), (q8, .inl (cI, 576, .inl (fun _ => 0))), (q16, .inl (cI, 16, .inl (fun _ => 0)))] H := hP
  have hD : va_D A [(h0, .inr (6, [.int 0, .ref q8, .null, .null, .int 0])), (q8, .inl (cI, 576, .inl (fun _ => 0))), (q16, .inl (cI, 16, .inl (fun _ => 0)))] := hD
  refine va_putF (D := Dg) (ci := 6) (v := .ref q16) (ty := mj_TY 6 2) (C := "UnbeatenHouse$Picker") (T := mF_6) (N := 5) hx hb hts (mj_lays mc_6.1) (mj_TY 6) mc_6.2.1 mc_6.2.2 hown hK hP hD hS 0 rfl rfl 2 (by decide) (hts _ (mj_good_in ((lw_in_1 (List.mem_of_getElem? (i := 73) (by decide +kernel)))) rfl)) (fun _ h9 => h9) rfl hin rfl (mc_6.2.1 2 (by decide)) rfl rfl (Nat.le_of_ble_eq_true rfl) d_k6_18 (fun H locs hP hD hS => ?_)
  have hP : va_P Dg mj_CL [(h0, .inr (6, [.int 0, .ref q8, .ref q16, .null, .int 0])), (q8, .inl (cI, 576, .inl (fun _ => 0))), (q16, .inl (cI, 16, .inl (fun _ => 0)))] H := hP
  have hD : va_D A [(h0, .inr (6, [.int 0, .ref q8, .ref q16, .null, .int 0])), (q8, .inl (cI, 576, .inl (fun _ => 0))), (q16, .inl (cI, 16, .inl (fun _ => 0)))] := hD
  refine lv_aload_n hx hb d_k6_21 rfl (lv_at hl 0 rfl) ?_
  refine lv_bipush (v := 16) hx hb d_k6_22 (by decide) ?_
  refine va_newa (atype := .int) (ty := .int) (N' := 16) (a0 := (16, .inl (fun _ => 0))) hx hb (hts _ (mj_good_in ((lw_in_0 (List.mem_of_getElem? (i := 92) (by decide +kernel)))) rfl)) rfl hK hP hD hS hA (fun _ => rfl) (by decide) (by decide) (Nat.le_of_ble_eq_true rfl) (Nat.le_of_ble_eq_true rfl) (Nat.le_of_ble_eq_true rfl) d_k6_24 (fun q24 cA H hK1 hP hD hS => ?_)
  have hcA : cA = cI := mj_cA0 hK1
  rw [hcA] at hP hD
  clear hK1 hcA
  refine W.widen (k := 3) (n := 608) (Nat.le_of_ble_eq_true rfl) (Nat.le_of_ble_eq_true rfl) ?_
  have hP : va_P Dg mj_CL [(h0, .inr (6, [.int 0, .ref q8, .ref q16, .null, .int 0])), (q8, .inl (cI, 576, .inl (fun _ => 0))), (q16, .inl (cI, 16, .inl (fun _ => 0))), (q24, .inl (cI, 16, .inl (fun _ => 0)))] H := hP
  have hD : va_D A [(h0, .inr (6, [.int 0, .ref q8, .ref q16, .null, .int 0])), (q8, .inl (cI, 576, .inl (fun _ => 0))), (q16, .inl (cI, 16, .inl (fun _ => 0))), (q24, .inl (cI, 16, .inl (fun _ => 0)))] := hD
  refine va_putF (D := Dg) (ci := 6) (v := .ref q24) (ty := mj_TY 6 3) (C := "UnbeatenHouse$Picker") (T := mF_6) (N := 5) hx hb hts (mj_lays mc_6.1) (mj_TY 6) mc_6.2.1 mc_6.2.2 hown hK hP hD hS 0 rfl rfl 3 (by decide) (hts _ (mj_good_in ((lw_in_1 (List.mem_of_getElem? (i := 74) (by decide +kernel)))) rfl)) (fun _ h9 => h9) rfl hin rfl (mc_6.2.1 3 (by decide)) rfl rfl (Nat.le_of_ble_eq_true rfl) d_k6_26 (fun H locs hP hD hS => ?_)
  have hP : va_P Dg mj_CL [(h0, .inr (6, [.int 0, .ref q8, .ref q16, .ref q24, .int 0])), (q8, .inl (cI, 576, .inl (fun _ => 0))), (q16, .inl (cI, 16, .inl (fun _ => 0))), (q24, .inl (cI, 16, .inl (fun _ => 0)))] H := hP
  have hD : va_D A [(h0, .inr (6, [.int 0, .ref q8, .ref q16, .ref q24, .int 0])), (q8, .inl (cI, 576, .inl (fun _ => 0))), (q16, .inl (cI, 16, .inl (fun _ => 0))), (q24, .inl (cI, 16, .inl (fun _ => 0)))] := hD
  refine W.widen (k := 3) (n := 608) (Nat.le_of_ble_eq_true rfl) (Nat.le_of_ble_eq_true rfl) ?_
  exact W.vret hx hb hr (fun t ht hW => ⟨⟨(), rfl, trivial, q8, q16, q24, by rw [ht]; exact hP, hD⟩, hS.F ht⟩) hS.2.2 d_k6_29
def mm_k12 : mj_M := (⟨"UnbeatenHouse$Weighings", "<init>", "()V"⟩, prog_12_method_1_code, 1, none)
set_option maxRecDepth 100000 in
theorem my_k12 : mj_okY lw_tbl mm_k12 := ⟨(lw_in_1 (List.mem_of_getElem? (i := 93) rfl)), (lw_in_0 (List.mem_of_getElem? (i := 14) (by decide +kernel))), by decide, plainFor_of_name (by decide +kernel), by decide +kernel, by decide +kernel⟩
theorem dg_k12_0 : (decode prog_12_method_1_code 0 = .ok (.aload_n 0, 1)) ∧ (decode prog_12_method_1_code 1 = .ok (.invokespecial 3, 3)) ∧ (decode prog_12_method_1_code 4 = .ok (.aload_n 0, 1)) ∧ (decode prog_12_method_1_code 5 = .ok (.iconst 4, 1)) ∧ (decode prog_12_method_1_code 6 = .ok (.putfield 9, 3)) ∧ (decode prog_12_method_1_code 9 = .ok (.aload_n 0, 1)) ∧ (decode prog_12_method_1_code 10 = .ok (.sipush 1820, 3)) ∧ (decode prog_12_method_1_code 13 = .ok (.newarray .int, 2)) ∧ (decode prog_12_method_1_code 15 = .ok (.putfield 15, 3)) ∧ (decode prog_12_method_1_code 18 = .ok (.return_, 1)) ∧ True := fd_of (cc := prog_12_method_1_code) [(0, .aload_n 0, 1), (1, .invokespecial 3, 3), (4, .aload_n 0, 1), (5, .iconst 4, 1), (6, .putfield 9, 3), (9, .aload_n 0, 1), (10, .sipush 1820, 3), (13, .newarray .int, 2), (15, .putfield 15, 3), (18, .return_, 1)] (by decide +kernel)
theorem d_k12_0 : decode prog_12_method_1_code 0 = .ok (.aload_n 0, 1) := dg_k12_0.1
theorem d_k12_1 : decode prog_12_method_1_code 1 = .ok (.invokespecial 3, 3) := dg_k12_0.2.1
theorem d_k12_4 : decode prog_12_method_1_code 4 = .ok (.aload_n 0, 1) := dg_k12_0.2.2.1
theorem d_k12_5 : decode prog_12_method_1_code 5 = .ok (.iconst 4, 1) := dg_k12_0.2.2.2.1
theorem d_k12_6 : decode prog_12_method_1_code 6 = .ok (.putfield 9, 3) := dg_k12_0.2.2.2.2.1
theorem d_k12_9 : decode prog_12_method_1_code 9 = .ok (.aload_n 0, 1) := dg_k12_0.2.2.2.2.2.1
theorem d_k12_10 : decode prog_12_method_1_code 10 = .ok (.sipush 1820, 3) := dg_k12_0.2.2.2.2.2.2.1
theorem d_k12_13 : decode prog_12_method_1_code 13 = .ok (.newarray .int, 2) := dg_k12_0.2.2.2.2.2.2.2.1
theorem d_k12_15 : decode prog_12_method_1_code 15 = .ok (.putfield 15, 3) := dg_k12_0.2.2.2.2.2.2.2.2.1
theorem d_k12_18 : decode prog_12_method_1_code 18 = .ok (.return_, 1) := dg_k12_0.2.2.2.2.2.2.2.2.2.1
/-- a new UnbeatenHouse$Weighings -/
abbrev at_k12 (Dg : va_G) (cI cJ cZ : Nat) (A : Nat → Prop) (h0 : Nat) (_ : Unit) (t : State) : Prop := ∃ (z1 : Nat), va_P Dg mj_CL [(h0, .inr (12, [.int 4, .int 0, .int 0, .ref z1])), (z1, .inl (cI, 1820, .inl (fun _ => 0)))] t.heap ∧ va_D A [(h0, .inr (12, [.int 4, .int 0, .int 0, .ref z1])), (z1, .inl (cI, 1820, .inl (fun _ => 0)))]
set_option maxHeartbeats 8000000 in
set_option maxRecDepth 100000 in
theorem c_k12 (l : Launch) (Dg : va_G) (cI cJ cZ : Nat) (h0 sz : Nat) : Met l mm_k12.1 (mj_ws lw_tbl mm_k12) ({ frames := 1, cells := 1, slots := 1820, locals := 12 }) (mj_kPc Dg cI cJ cZ h0 [(h0, .inr (12, [.int 0, .int 0, .int 0, .null]))] sz) (va_Qv (fun _ : Unit => True) (at_k12 Dg cI cJ cZ (va_A [(h0, .inr (12, [.int 0, .int 0, .int 0, .null]))] sz) h0) (va_A [(h0, .inr (12, [.int 0, .int 0, .int 0, .null]))] sz)) 1 1820 (va_A [(h0, .inr (12, [.int 0, .int 0, .int 0, .null]))] sz) := by
  refine Met.ofW (cc := prog_12_method_1_code) (maxL := 1) (ret := none) (by decide) rfl ?_
  intro p e s m args below meth c s₁ B hml hv
  obtain ⟨rfl, hsz, hP, hK, hD0, hN⟩ := hv
  have hx := B.exec
  have hb := B.bytes
  have hr := B.returns
  have hts0 := atoms_spec (ws := mj_ws lw_tbl mm_k12) B.pre
  have hts : ∀ w ∈ lw_tbl.filter goodWord, w.before _ s = true := fun w hw => hts0 w (List.mem_cons_of_mem _ hw)
  have hown : s.vm.findClass "UnbeatenHouse$Weighings" = some m.cls := findClass_of_methodNamed B.named
  have hlocks := B.notSynchronized
  have hin : meth.name = "<init>" := (name_of_methodNamed B.named B.method).1
  subst hsz
  have hD := hD0.self (sz := s.heap.size)
  generalize hAe : va_A [(h0, .inr (12, [.int 0, .int 0, .int 0, .null]))] s.heap.size = A at hD ⊢
  have hA : ∀ q : Nat, s.heap.size ≤ q → A q := fun q h => by rw [← hAe]; exact Or.inr h
  have hS : va_S A s.heap s.heap [] := va_S.rf
  have hP : va_P Dg mj_CL [(h0, .inr (12, [.int 0, .int 0, .int 0, .null]))] s.heap := hP
  have hl := lv_entry ([.ref h0]) (n := 1) (Nat.le_of_ble_eq_true rfl)
  rw [lg_entry_eq]
  generalize (lg_sl ([.ref h0]) ++ List.replicate (1 - (lg_sl ([.ref h0])).length) Slot.unset).toArray = ls at hl ⊢
  have hl : lv_has ls 1 [(0, .ref h0)] := hl
  show W p l e ({ frames := 1, cells := 1, slots := 1820, locals := 12 } : Room) s m _ below meth c s.heap [] 0 0 _ _
  refine lv_aload_n hx hb d_k12_0 rfl (lv_at hl 0 rfl) ?_
  refine W.objInit hx hb hown (hts _ (mj_good_in ((lw_in_1 (List.mem_of_getElem? (i := 94) (by decide +kernel)))) rfl)) (hts _ (mj_good_in ((lw_in_0 (List.mem_of_getElem? (i := 28) (by decide +kernel)))) rfl)) (hts _ (mj_good_in ((lw_in_0 (List.mem_of_getElem? (i := 29) (by decide +kernel)))) rfl)) rfl (by rw [hml]; exact hl.1) rfl d_k12_1 (Nat.le_of_ble_eq_true rfl) (Nat.le_of_ble_eq_true rfl) ?_
  refine W.eq (g2 := F0 m 4 ls []) rfl ?_
  refine lv_aload_n hx hb d_k12_4 rfl (lv_at hl 0 rfl) ?_
  refine lv_iconst (v := 4) hx hb d_k12_5 (by decide) ?_
  refine va_put (D := Dg) (ci := 12) (v := .int 4) (ty := mj_TY 12 0) (C := "UnbeatenHouse$Weighings") (T := mF_12) (N := 4) hx hb hts (mj_lays mc_12.1) (mj_TY 12) mc_12.2.1 mc_12.2.2 hown hK hP hD hS 0 rfl rfl 0 (by decide) (hts _ (mj_good_in ((lw_in_1 (List.mem_of_getElem? (i := 95) (by decide +kernel)))) rfl)) (fun _ h9 => h9) rfl (mc_12.2.1 0 (by decide)) rfl rfl (Nat.le_of_ble_eq_true rfl) d_k12_6 (fun H locs hP hD hS => ?_)
  have hP : va_P Dg mj_CL [(h0, .inr (12, [.int 4, .int 0, .int 0, .null]))] H := hP
  have hD : va_D A [(h0, .inr (12, [.int 4, .int 0, .int 0, .null]))] := hD
  refine lv_aload_n hx hb d_k12_9 rfl (lv_at hl 0 rfl) ?_
  refine lv_sipush (v := 1820) hx hb d_k12_10 (by decide) ?_
  refine va_newa (atype := .int) (ty := .int) (N' := 1820) (a0 := (1820, .inl (fun _ => 0))) hx hb (hts _ (mj_good_in ((lw_in_0 (List.mem_of_getElem? (i := 92) (by decide +kernel)))) rfl)) rfl hK hP hD hS hA (fun _ => rfl) (by decide) (by decide) (Nat.le_of_ble_eq_true rfl) (Nat.le_of_ble_eq_true rfl) (Nat.le_of_ble_eq_true rfl) d_k12_13 (fun q13 cA H hK1 hP hD hS => ?_)
  have hcA : cA = cI := mj_cA0 hK1
  rw [hcA] at hP hD
  clear hK1 hcA
  refine W.widen (k := 1) (n := 1820) (Nat.le_of_ble_eq_true rfl) (Nat.le_of_ble_eq_true rfl) ?_
  have hP : va_P Dg mj_CL [(h0, .inr (12, [.int 4, .int 0, .int 0, .null])), (q13, .inl (cI, 1820, .inl (fun _ => 0)))] H := hP
  have hD : va_D A [(h0, .inr (12, [.int 4, .int 0, .int 0, .null])), (q13, .inl (cI, 1820, .inl (fun _ => 0)))] := hD
  refine va_putF (D := Dg) (ci := 12) (v := .ref q13) (ty := mj_TY 12 3) (C := "UnbeatenHouse$Weighings") (T := mF_12) (N := 4) hx hb hts (mj_lays mc_12.1) (mj_TY 12) mc_12.2.1 mc_12.2.2 hown hK hP hD hS 0 rfl rfl 3 (by decide) (hts _ (mj_good_in ((lw_in_1 (List.mem_of_getElem? (i := 101) (by decide +kernel)))) rfl)) (fun _ h9 => h9) rfl hin rfl (mc_12.2.1 3 (by decide)) rfl rfl (Nat.le_of_ble_eq_true rfl) d_k12_15 (fun H locs hP hD hS => ?_)
  have hP : va_P Dg mj_CL [(h0, .inr (12, [.int 4, .int 0, .int 0, .ref q13])), (q13, .inl (cI, 1820, .inl (fun _ => 0)))] H := hP
  have hD : va_D A [(h0, .inr (12, [.int 4, .int 0, .int 0, .ref q13])), (q13, .inl (cI, 1820, .inl (fun _ => 0)))] := hD
  refine W.widen (k := 1) (n := 1820) (Nat.le_of_ble_eq_true rfl) (Nat.le_of_ble_eq_true rfl) ?_
  exact W.vret hx hb hr (fun t ht hW => ⟨⟨(), rfl, trivial, q13, by rw [ht]; exact hP, hD⟩, hS.F ht⟩) hS.2.2 d_k12_18
def mm_k10 : mj_M := (⟨"UnbeatenHouse$Sayings", "<init>", "()V"⟩, prog_10_method_1_code, 1, none)
set_option maxRecDepth 100000 in
theorem my_k10 : mj_okY lw_tbl mm_k10 := ⟨(lw_in_1 (List.mem_of_getElem? (i := 116) rfl)), (lw_in_0 (List.mem_of_getElem? (i := 15) (by decide +kernel))), by decide, plainFor_of_name (by decide +kernel), by decide +kernel, by decide +kernel⟩
theorem dg_k10_0 : (decode prog_10_method_1_code 0 = .ok (.aload_n 0, 1)) ∧ (decode prog_10_method_1_code 1 = .ok (.invokespecial 3, 3)) ∧ (decode prog_10_method_1_code 4 = .ok (.aload_n 0, 1)) ∧ (decode prog_10_method_1_code 5 = .ok (.bipush 12, 2)) ∧ (decode prog_10_method_1_code 7 = .ok (.newarray .int, 2)) ∧ (decode prog_10_method_1_code 9 = .ok (.putfield 9, 3)) ∧ (decode prog_10_method_1_code 12 = .ok (.aload_n 0, 1)) ∧ (decode prog_10_method_1_code 13 = .ok (.bipush 12, 2)) ∧ (decode prog_10_method_1_code 15 = .ok (.newarray .int, 2)) ∧ (decode prog_10_method_1_code 17 = .ok (.putfield 15, 3)) ∧ (decode prog_10_method_1_code 20 = .ok (.aload_n 0, 1)) ∧ (decode prog_10_method_1_code 21 = .ok (.sipush 1600, 3)) ∧ (decode prog_10_method_1_code 24 = .ok (.newarray .long, 2)) ∧ (decode prog_10_method_1_code 26 = .ok (.putfield 18, 3)) ∧ (decode prog_10_method_1_code 29 = .ok (.aload_n 0, 1)) ∧ (decode prog_10_method_1_code 30 = .ok (.sipush 4096, 3)) ∧ True := fd_of (cc := prog_10_method_1_code) [(0, .aload_n 0, 1), (1, .invokespecial 3, 3), (4, .aload_n 0, 1), (5, .bipush 12, 2), (7, .newarray .int, 2), (9, .putfield 9, 3), (12, .aload_n 0, 1), (13, .bipush 12, 2), (15, .newarray .int, 2), (17, .putfield 15, 3), (20, .aload_n 0, 1), (21, .sipush 1600, 3), (24, .newarray .long, 2), (26, .putfield 18, 3), (29, .aload_n 0, 1), (30, .sipush 4096, 3)] (by decide +kernel)
theorem d_k10_0 : decode prog_10_method_1_code 0 = .ok (.aload_n 0, 1) := dg_k10_0.1
theorem d_k10_1 : decode prog_10_method_1_code 1 = .ok (.invokespecial 3, 3) := dg_k10_0.2.1
theorem d_k10_4 : decode prog_10_method_1_code 4 = .ok (.aload_n 0, 1) := dg_k10_0.2.2.1
theorem d_k10_5 : decode prog_10_method_1_code 5 = .ok (.bipush 12, 2) := dg_k10_0.2.2.2.1
theorem d_k10_7 : decode prog_10_method_1_code 7 = .ok (.newarray .int, 2) := dg_k10_0.2.2.2.2.1
theorem d_k10_9 : decode prog_10_method_1_code 9 = .ok (.putfield 9, 3) := dg_k10_0.2.2.2.2.2.1
theorem d_k10_12 : decode prog_10_method_1_code 12 = .ok (.aload_n 0, 1) := dg_k10_0.2.2.2.2.2.2.1
theorem d_k10_13 : decode prog_10_method_1_code 13 = .ok (.bipush 12, 2) := dg_k10_0.2.2.2.2.2.2.2.1
theorem d_k10_15 : decode prog_10_method_1_code 15 = .ok (.newarray .int, 2) := dg_k10_0.2.2.2.2.2.2.2.2.1
theorem d_k10_17 : decode prog_10_method_1_code 17 = .ok (.putfield 15, 3) := dg_k10_0.2.2.2.2.2.2.2.2.2.1
theorem d_k10_20 : decode prog_10_method_1_code 20 = .ok (.aload_n 0, 1) := dg_k10_0.2.2.2.2.2.2.2.2.2.2.1
theorem d_k10_21 : decode prog_10_method_1_code 21 = .ok (.sipush 1600, 3) := dg_k10_0.2.2.2.2.2.2.2.2.2.2.2.1
theorem d_k10_24 : decode prog_10_method_1_code 24 = .ok (.newarray .long, 2) := dg_k10_0.2.2.2.2.2.2.2.2.2.2.2.2.1
theorem d_k10_26 : decode prog_10_method_1_code 26 = .ok (.putfield 18, 3) := dg_k10_0.2.2.2.2.2.2.2.2.2.2.2.2.2.1
theorem d_k10_29 : decode prog_10_method_1_code 29 = .ok (.aload_n 0, 1) := dg_k10_0.2.2.2.2.2.2.2.2.2.2.2.2.2.2.1
theorem d_k10_30 : decode prog_10_method_1_code 30 = .ok (.sipush 4096, 3) := dg_k10_0.2.2.2.2.2.2.2.2.2.2.2.2.2.2.2.1
theorem dg_k10_33 : (decode prog_10_method_1_code 33 = .ok (.newarray .boolean, 2)) ∧ (decode prog_10_method_1_code 35 = .ok (.putfield 22, 3)) ∧ (decode prog_10_method_1_code 38 = .ok (.return_, 1)) ∧ True := fd_of (cc := prog_10_method_1_code) [(33, .newarray .boolean, 2), (35, .putfield 22, 3), (38, .return_, 1)] (by decide +kernel)
theorem d_k10_33 : decode prog_10_method_1_code 33 = .ok (.newarray .boolean, 2) := dg_k10_33.1
theorem d_k10_35 : decode prog_10_method_1_code 35 = .ok (.putfield 22, 3) := dg_k10_33.2.1
theorem d_k10_38 : decode prog_10_method_1_code 38 = .ok (.return_, 1) := dg_k10_33.2.2.1
/-- a new UnbeatenHouse$Sayings -/
abbrev at_k10 (Dg : va_G) (cI cJ cZ : Nat) (A : Nat → Prop) (h0 : Nat) (_ : Unit) (t : State) : Prop := ∃ (z1 z2 z3 z4 : Nat), va_P Dg mj_CL [(h0, .inr (10, [.int 0, .ref z1, .ref z2, .ref z3, .ref z4, .int 0, .int 0, .int 0])), (z1, .inl (cI, 12, .inl (fun _ => 0))), (z2, .inl (cI, 12, .inl (fun _ => 0))), (z3, .inl (cJ, 1600, .inr (.inl (fun _ => 0)))), (z4, .inl (cZ, 4096, .inl (fun _ => 0)))] t.heap ∧ va_D A [(h0, .inr (10, [.int 0, .ref z1, .ref z2, .ref z3, .ref z4, .int 0, .int 0, .int 0])), (z1, .inl (cI, 12, .inl (fun _ => 0))), (z2, .inl (cI, 12, .inl (fun _ => 0))), (z3, .inl (cJ, 1600, .inr (.inl (fun _ => 0)))), (z4, .inl (cZ, 4096, .inl (fun _ => 0)))]
set_option maxHeartbeats 8000000 in
set_option maxRecDepth 100000 in
theorem c_k10 (l : Launch) (Dg : va_G) (cI cJ cZ : Nat) (h0 sz : Nat) : Met l mm_k10.1 (mj_ws lw_tbl mm_k10) ({ frames := 1, cells := 4, slots := 5720, locals := 12 }) (mj_kPc Dg cI cJ cZ h0 [(h0, .inr (10, [.int 0, .null, .null, .null, .null, .int 0, .int 0, .int 0]))] sz) (va_Qv (fun _ : Unit => True) (at_k10 Dg cI cJ cZ (va_A [(h0, .inr (10, [.int 0, .null, .null, .null, .null, .int 0, .int 0, .int 0]))] sz) h0) (va_A [(h0, .inr (10, [.int 0, .null, .null, .null, .null, .int 0, .int 0, .int 0]))] sz)) 4 5720 (va_A [(h0, .inr (10, [.int 0, .null, .null, .null, .null, .int 0, .int 0, .int 0]))] sz) := by
  refine Met.ofW (cc := prog_10_method_1_code) (maxL := 1) (ret := none) (by decide) rfl ?_
  intro p e s m args below meth c s₁ B hml hv
  obtain ⟨rfl, hsz, hP, hK, hD0, hN⟩ := hv
  have hx := B.exec
  have hb := B.bytes
  have hr := B.returns
  have hts0 := atoms_spec (ws := mj_ws lw_tbl mm_k10) B.pre
  have hts : ∀ w ∈ lw_tbl.filter goodWord, w.before _ s = true := fun w hw => hts0 w (List.mem_cons_of_mem _ hw)
  have hown : s.vm.findClass "UnbeatenHouse$Sayings" = some m.cls := findClass_of_methodNamed B.named
  have hlocks := B.notSynchronized
  have hin : meth.name = "<init>" := (name_of_methodNamed B.named B.method).1
  subst hsz
  have hD := hD0.self (sz := s.heap.size)
  generalize hAe : va_A [(h0, .inr (10, [.int 0, .null, .null, .null, .null, .int 0, .int 0, .int 0]))] s.heap.size = A at hD ⊢
  have hA : ∀ q : Nat, s.heap.size ≤ q → A q := fun q h => by rw [← hAe]; exact Or.inr h
  have hS : va_S A s.heap s.heap [] := va_S.rf
  have hP : va_P Dg mj_CL [(h0, .inr (10, [.int 0, .null, .null, .null, .null, .int 0, .int 0, .int 0]))] s.heap := hP
  have hl := lv_entry ([.ref h0]) (n := 1) (Nat.le_of_ble_eq_true rfl)
  rw [lg_entry_eq]
  generalize (lg_sl ([.ref h0]) ++ List.replicate (1 - (lg_sl ([.ref h0])).length) Slot.unset).toArray = ls at hl ⊢
  have hl : lv_has ls 1 [(0, .ref h0)] := hl
  show W p l e ({ frames := 1, cells := 4, slots := 5720, locals := 12 } : Room) s m _ below meth c s.heap [] 0 0 _ _
  refine lv_aload_n hx hb d_k10_0 rfl (lv_at hl 0 rfl) ?_
  refine W.objInit hx hb hown (hts _ (mj_good_in ((lw_in_1 (List.mem_of_getElem? (i := 117) (by decide +kernel)))) rfl)) (hts _ (mj_good_in ((lw_in_0 (List.mem_of_getElem? (i := 28) (by decide +kernel)))) rfl)) (hts _ (mj_good_in ((lw_in_0 (List.mem_of_getElem? (i := 29) (by decide +kernel)))) rfl)) rfl (by rw [hml]; exact hl.1) rfl d_k10_1 (Nat.le_of_ble_eq_true rfl) (Nat.le_of_ble_eq_true rfl) ?_
  refine W.eq (g2 := F0 m 4 ls []) rfl ?_
  refine lv_aload_n hx hb d_k10_4 rfl (lv_at hl 0 rfl) ?_
  refine lv_bipush (v := 12) hx hb d_k10_5 (by decide) ?_
  refine va_newa (atype := .int) (ty := .int) (N' := 12) (a0 := (12, .inl (fun _ => 0))) hx hb (hts _ (mj_good_in ((lw_in_0 (List.mem_of_getElem? (i := 92) (by decide +kernel)))) rfl)) rfl hK hP hD hS hA (fun _ => rfl) (by decide) (by decide) (Nat.le_of_ble_eq_true rfl) (Nat.le_of_ble_eq_true rfl) (Nat.le_of_ble_eq_true rfl) d_k10_7 (fun q7 cA H hK1 hP hD hS => ?_)
  have hcA : cA = cI := mj_cA0 hK1
  rw [hcA] at hP hD
  clear hK1 hcA
  refine W.widen (k := 1) (n := 12) (Nat.le_of_ble_eq_true rfl) (Nat.le_of_ble_eq_true rfl) ?_
  have hP : va_P Dg mj_CL [(h0, .inr (10, [.int 0, .null, .null, .null, .null, .int 0, .int 0, .int 0])), (q7, .inl (cI, 12, .inl (fun _ => 0)))] H := hP
  have hD : va_D A [(h0, .inr (10, [.int 0, .null, .null, .null, .null, .int 0, .int 0, .int 0])), (q7, .inl (cI, 12, .inl (fun _ => 0)))] := hD
  refine va_putF (D := Dg) (ci := 10) (v := .ref q7) (ty := mj_TY 10 1) (C := "UnbeatenHouse$Sayings") (T := mF_10) (N := 8) hx hb hts (mj_lays mc_10.1) (mj_TY 10) mc_10.2.1 mc_10.2.2 hown hK hP hD hS 0 rfl rfl 1 (by decide) (hts _ (mj_good_in ((lw_in_1 (List.mem_of_getElem? (i := 120) (by decide +kernel)))) rfl)) (fun _ h9 => h9) rfl hin rfl (mc_10.2.1 1 (by decide)) rfl rfl (Nat.le_of_ble_eq_true rfl) d_k10_9 (fun H locs hP hD hS => ?_)
  have hP : va_P Dg mj_CL [(h0, .inr (10, [.int 0, .ref q7, .null, .null, .null, .int 0, .int 0, .int 0])), (q7, .inl (cI, 12, .inl (fun _ => 0)))] H := hP
  have hD : va_D A [(h0, .inr (10, [.int 0, .ref q7, .null, .null, .null, .int 0, .int 0, .int 0])), (q7, .inl (cI, 12, .inl (fun _ => 0)))] := hD
  refine lv_aload_n hx hb d_k10_12 rfl (lv_at hl 0 rfl) ?_
  refine lv_bipush (v := 12) hx hb d_k10_13 (by decide) ?_
  refine va_newa (atype := .int) (ty := .int) (N' := 12) (a0 := (12, .inl (fun _ => 0))) hx hb (hts _ (mj_good_in ((lw_in_0 (List.mem_of_getElem? (i := 92) (by decide +kernel)))) rfl)) rfl hK hP hD hS hA (fun _ => rfl) (by decide) (by decide) (Nat.le_of_ble_eq_true rfl) (Nat.le_of_ble_eq_true rfl) (Nat.le_of_ble_eq_true rfl) d_k10_15 (fun q15 cA H hK1 hP hD hS => ?_)
  have hcA : cA = cI := mj_cA0 hK1
  rw [hcA] at hP hD
  clear hK1 hcA
  refine W.widen (k := 2) (n := 24) (Nat.le_of_ble_eq_true rfl) (Nat.le_of_ble_eq_true rfl) ?_
  have hP : va_P Dg mj_CL [(h0, .inr (10, [.int 0, .ref q7, .null, .null, .null, .int 0, .int 0, .int 0])), (q7, .inl (cI, 12, .inl (fun _ => 0))), (q15, .inl (cI, 12, .inl (fun _ => 0)))] H := hP
  have hD : va_D A [(h0, .inr (10, [.int 0, .ref q7, .null, .null, .null, .int 0, .int 0, .int 0])), (q7, .inl (cI, 12, .inl (fun _ => 0))), (q15, .inl (cI, 12, .inl (fun _ => 0)))] := hD
  refine va_putF (D := Dg) (ci := 10) (v := .ref q15) (ty := mj_TY 10 2) (C := "UnbeatenHouse$Sayings") (T := mF_10) (N := 8) hx hb hts (mj_lays mc_10.1) (mj_TY 10) mc_10.2.1 mc_10.2.2 hown hK hP hD hS 0 rfl rfl 2 (by decide) (hts _ (mj_good_in ((lw_in_1 (List.mem_of_getElem? (i := 121) (by decide +kernel)))) rfl)) (fun _ h9 => h9) rfl hin rfl (mc_10.2.1 2 (by decide)) rfl rfl (Nat.le_of_ble_eq_true rfl) d_k10_17 (fun H locs hP hD hS => ?_)
  have hP : va_P Dg mj_CL [(h0, .inr (10, [.int 0, .ref q7, .ref q15, .null, .null, .int 0, .int 0, .int 0])), (q7, .inl (cI, 12, .inl (fun _ => 0))), (q15, .inl (cI, 12, .inl (fun _ => 0)))] H := hP
  have hD : va_D A [(h0, .inr (10, [.int 0, .ref q7, .ref q15, .null, .null, .int 0, .int 0, .int 0])), (q7, .inl (cI, 12, .inl (fun _ => 0))), (q15, .inl (cI, 12, .inl (fun _ => 0)))] := hD
  refine lv_aload_n hx hb d_k10_20 rfl (lv_at hl 0 rfl) ?_
  refine lv_sipush (v := 1600) hx hb d_k10_21 (by decide) ?_
  refine va_newa (atype := .long) (ty := .long) (N' := 1600) (a0 := (1600, .inr (.inl (fun _ => 0)))) hx hb (hts _ (mj_good_in ((lw_in_1 (List.mem_of_getElem? (i := 8) (by decide +kernel)))) rfl)) rfl hK hP hD hS hA (fun _ => rfl) (by decide) (by decide) (Nat.le_of_ble_eq_true rfl) (Nat.le_of_ble_eq_true rfl) (Nat.le_of_ble_eq_true rfl) d_k10_24 (fun q24 cA H hK1 hP hD hS => ?_)
  have hcA : cA = cJ := mj_cA1 hK1
  rw [hcA] at hP hD
  clear hK1 hcA
  refine W.widen (k := 3) (n := 1624) (Nat.le_of_ble_eq_true rfl) (Nat.le_of_ble_eq_true rfl) ?_
  have hP : va_P Dg mj_CL [(h0, .inr (10, [.int 0, .ref q7, .ref q15, .null, .null, .int 0, .int 0, .int 0])), (q7, .inl (cI, 12, .inl (fun _ => 0))), (q15, .inl (cI, 12, .inl (fun _ => 0))), (q24, .inl (cJ, 1600, .inr (.inl (fun _ => 0))))] H := hP
  have hD : va_D A [(h0, .inr (10, [.int 0, .ref q7, .ref q15, .null, .null, .int 0, .int 0, .int 0])), (q7, .inl (cI, 12, .inl (fun _ => 0))), (q15, .inl (cI, 12, .inl (fun _ => 0))), (q24, .inl (cJ, 1600, .inr (.inl (fun _ => 0))))] := hD
  refine va_putF (D := Dg) (ci := 10) (v := .ref q24) (ty := mj_TY 10 3) (C := "UnbeatenHouse$Sayings") (T := mF_10) (N := 8) hx hb hts (mj_lays mc_10.1) (mj_TY 10) mc_10.2.1 mc_10.2.2 hown hK hP hD hS 0 rfl rfl 3 (by decide) (hts _ (mj_good_in ((lw_in_1 (List.mem_of_getElem? (i := 122) (by decide +kernel)))) rfl)) (fun _ h9 => h9) rfl hin rfl (mc_10.2.1 3 (by decide)) rfl rfl (Nat.le_of_ble_eq_true rfl) d_k10_26 (fun H locs hP hD hS => ?_)
  have hP : va_P Dg mj_CL [(h0, .inr (10, [.int 0, .ref q7, .ref q15, .ref q24, .null, .int 0, .int 0, .int 0])), (q7, .inl (cI, 12, .inl (fun _ => 0))), (q15, .inl (cI, 12, .inl (fun _ => 0))), (q24, .inl (cJ, 1600, .inr (.inl (fun _ => 0))))] H := hP
  have hD : va_D A [(h0, .inr (10, [.int 0, .ref q7, .ref q15, .ref q24, .null, .int 0, .int 0, .int 0])), (q7, .inl (cI, 12, .inl (fun _ => 0))), (q15, .inl (cI, 12, .inl (fun _ => 0))), (q24, .inl (cJ, 1600, .inr (.inl (fun _ => 0))))] := hD
  refine lv_aload_n hx hb d_k10_29 rfl (lv_at hl 0 rfl) ?_
  refine lv_sipush (v := 4096) hx hb d_k10_30 (by decide) ?_
  refine va_newa (atype := .boolean) (ty := .boolean) (N' := 4096) (a0 := (4096, .inl (fun _ => 0))) hx hb (hts _ (mj_good_in ((lw_in_0 (List.mem_of_getElem? (i := 93) (by decide +kernel)))) rfl)) rfl hK hP hD hS hA (fun _ => rfl) (by decide) (by decide) (Nat.le_of_ble_eq_true rfl) (Nat.le_of_ble_eq_true rfl) (Nat.le_of_ble_eq_true rfl) d_k10_33 (fun q33 cA H hK1 hP hD hS => ?_)
  have hcA : cA = cZ := mj_cA2 hK1
  rw [hcA] at hP hD
  clear hK1 hcA
  refine W.widen (k := 4) (n := 5720) (Nat.le_of_ble_eq_true rfl) (Nat.le_of_ble_eq_true rfl) ?_
  have hP : va_P Dg mj_CL [(h0, .inr (10, [.int 0, .ref q7, .ref q15, .ref q24, .null, .int 0, .int 0, .int 0])), (q7, .inl (cI, 12, .inl (fun _ => 0))), (q15, .inl (cI, 12, .inl (fun _ => 0))), (q24, .inl (cJ, 1600, .inr (.inl (fun _ => 0)))), (q33, .inl (cZ, 4096, .inl (fun _ => 0)))] H := hP
  have hD : va_D A [(h0, .inr (10, [.int 0, .ref q7, .ref q15, .ref q24, .null, .int 0, .int 0, .int 0])), (q7, .inl (cI, 12, .inl (fun _ => 0))), (q15, .inl (cI, 12, .inl (fun _ => 0))), (q24, .inl (cJ, 1600, .inr (.inl (fun _ => 0)))), (q33, .inl (cZ, 4096, .inl (fun _ => 0)))] := hD
  refine va_putF (D := Dg) (ci := 10) (v := .ref q33) (ty := mj_TY 10 4) (C := "UnbeatenHouse$Sayings") (T := mF_10) (N := 8) hx hb hts (mj_lays mc_10.1) (mj_TY 10) mc_10.2.1 mc_10.2.2 hown hK hP hD hS 0 rfl rfl 4 (by decide) (hts _ (mj_good_in ((lw_in_1 (List.mem_of_getElem? (i := 123) (by decide +kernel)))) rfl)) (fun _ h9 => h9) rfl hin rfl (mc_10.2.1 4 (by decide)) rfl rfl (Nat.le_of_ble_eq_true rfl) d_k10_35 (fun H locs hP hD hS => ?_)
  have hP : va_P Dg mj_CL [(h0, .inr (10, [.int 0, .ref q7, .ref q15, .ref q24, .ref q33, .int 0, .int 0, .int 0])), (q7, .inl (cI, 12, .inl (fun _ => 0))), (q15, .inl (cI, 12, .inl (fun _ => 0))), (q24, .inl (cJ, 1600, .inr (.inl (fun _ => 0)))), (q33, .inl (cZ, 4096, .inl (fun _ => 0)))] H := hP
  have hD : va_D A [(h0, .inr (10, [.int 0, .ref q7, .ref q15, .ref q24, .ref q33, .int 0, .int 0, .int 0])), (q7, .inl (cI, 12, .inl (fun _ => 0))), (q15, .inl (cI, 12, .inl (fun _ => 0))), (q24, .inl (cJ, 1600, .inr (.inl (fun _ => 0)))), (q33, .inl (cZ, 4096, .inl (fun _ => 0)))] := hD
  refine W.widen (k := 4) (n := 5720) (Nat.le_of_ble_eq_true rfl) (Nat.le_of_ble_eq_true rfl) ?_
  exact W.vret hx hb hr (fun t ht hW => ⟨⟨(), rfl, trivial, q7, q15, q24, q33, by rw [ht]; exact hP, hD⟩, hS.F ht⟩) hS.2.2 d_k10_38
def mm_k5 : mj_M := (⟨"UnbeatenHouse$People", "<init>", "()V"⟩, prog_5_method_1_code, 1, none)
set_option maxRecDepth 100000 in
theorem my_k5 : mj_okY lw_tbl mm_k5 := ⟨(lw_in_1 (List.mem_of_getElem? (i := 151) rfl)), (lw_in_0 (List.mem_of_getElem? (i := 16) (by decide +kernel))), by decide, plainFor_of_name (by decide +kernel), by decide +kernel, by decide +kernel⟩
theorem dg_k5_0 : (decode prog_5_method_1_code 0 = .ok (.aload_n 0, 1)) ∧ (decode prog_5_method_1_code 1 = .ok (.invokespecial 3, 3)) ∧ (decode prog_5_method_1_code 4 = .ok (.aload_n 0, 1)) ∧ (decode prog_5_method_1_code 5 = .ok (.bipush 24, 2)) ∧ (decode prog_5_method_1_code 7 = .ok (.newarray .int, 2)) ∧ (decode prog_5_method_1_code 9 = .ok (.putfield 9, 3)) ∧ (decode prog_5_method_1_code 12 = .ok (.aload_n 0, 1)) ∧ (decode prog_5_method_1_code 13 = .ok (.bipush 6, 2)) ∧ (decode prog_5_method_1_code 15 = .ok (.newarray .boolean, 2)) ∧ (decode prog_5_method_1_code 17 = .ok (.putfield 15, 3)) ∧ (decode prog_5_method_1_code 20 = .ok (.aload_n 0, 1)) ∧ (decode prog_5_method_1_code 21 = .ok (.bipush 6, 2)) ∧ (decode prog_5_method_1_code 23 = .ok (.newarray .long, 2)) ∧ (decode prog_5_method_1_code 25 = .ok (.putfield 19, 3)) ∧ (decode prog_5_method_1_code 28 = .ok (.aload_n 0, 1)) ∧ (decode prog_5_method_1_code 29 = .ok (.sipush 240, 3)) ∧ True := fd_of (cc := prog_5_method_1_code) [(0, .aload_n 0, 1), (1, .invokespecial 3, 3), (4, .aload_n 0, 1), (5, .bipush 24, 2), (7, .newarray .int, 2), (9, .putfield 9, 3), (12, .aload_n 0, 1), (13, .bipush 6, 2), (15, .newarray .boolean, 2), (17, .putfield 15, 3), (20, .aload_n 0, 1), (21, .bipush 6, 2), (23, .newarray .long, 2), (25, .putfield 19, 3), (28, .aload_n 0, 1), (29, .sipush 240, 3)] (by decide +kernel)
theorem d_k5_0 : decode prog_5_method_1_code 0 = .ok (.aload_n 0, 1) := dg_k5_0.1
theorem d_k5_1 : decode prog_5_method_1_code 1 = .ok (.invokespecial 3, 3) := dg_k5_0.2.1
theorem d_k5_4 : decode prog_5_method_1_code 4 = .ok (.aload_n 0, 1) := dg_k5_0.2.2.1
theorem d_k5_5 : decode prog_5_method_1_code 5 = .ok (.bipush 24, 2) := dg_k5_0.2.2.2.1
theorem d_k5_7 : decode prog_5_method_1_code 7 = .ok (.newarray .int, 2) := dg_k5_0.2.2.2.2.1
theorem d_k5_9 : decode prog_5_method_1_code 9 = .ok (.putfield 9, 3) := dg_k5_0.2.2.2.2.2.1
theorem d_k5_12 : decode prog_5_method_1_code 12 = .ok (.aload_n 0, 1) := dg_k5_0.2.2.2.2.2.2.1
theorem d_k5_13 : decode prog_5_method_1_code 13 = .ok (.bipush 6, 2) := dg_k5_0.2.2.2.2.2.2.2.1
theorem d_k5_15 : decode prog_5_method_1_code 15 = .ok (.newarray .boolean, 2) := dg_k5_0.2.2.2.2.2.2.2.2.1
theorem d_k5_17 : decode prog_5_method_1_code 17 = .ok (.putfield 15, 3) := dg_k5_0.2.2.2.2.2.2.2.2.2.1
theorem d_k5_20 : decode prog_5_method_1_code 20 = .ok (.aload_n 0, 1) := dg_k5_0.2.2.2.2.2.2.2.2.2.2.1
theorem d_k5_21 : decode prog_5_method_1_code 21 = .ok (.bipush 6, 2) := dg_k5_0.2.2.2.2.2.2.2.2.2.2.2.1
theorem d_k5_23 : decode prog_5_method_1_code 23 = .ok (.newarray .long, 2) := dg_k5_0.2.2.2.2.2.2.2.2.2.2.2.2.1
theorem d_k5_25 : decode prog_5_method_1_code 25 = .ok (.putfield 19, 3) := dg_k5_0.2.2.2.2.2.2.2.2.2.2.2.2.2.1
theorem d_k5_28 : decode prog_5_method_1_code 28 = .ok (.aload_n 0, 1) := dg_k5_0.2.2.2.2.2.2.2.2.2.2.2.2.2.2.1
theorem d_k5_29 : decode prog_5_method_1_code 29 = .ok (.sipush 240, 3) := dg_k5_0.2.2.2.2.2.2.2.2.2.2.2.2.2.2.2.1
theorem dg_k5_32 : (decode prog_5_method_1_code 32 = .ok (.newarray .int, 2)) ∧ (decode prog_5_method_1_code 34 = .ok (.putfield 23, 3)) ∧ (decode prog_5_method_1_code 37 = .ok (.return_, 1)) ∧ True := fd_of (cc := prog_5_method_1_code) [(32, .newarray .int, 2), (34, .putfield 23, 3), (37, .return_, 1)] (by decide +kernel)
theorem d_k5_32 : decode prog_5_method_1_code 32 = .ok (.newarray .int, 2) := dg_k5_32.1
theorem d_k5_34 : decode prog_5_method_1_code 34 = .ok (.putfield 23, 3) := dg_k5_32.2.1
theorem d_k5_37 : decode prog_5_method_1_code 37 = .ok (.return_, 1) := dg_k5_32.2.2.1
/-- a new UnbeatenHouse$People -/
abbrev at_k5 (Dg : va_G) (cI cJ cZ : Nat) (A : Nat → Prop) (h0 : Nat) (_ : Unit) (t : State) : Prop := ∃ (z1 z2 z3 z4 : Nat), va_P Dg mj_CL [(h0, .inr (5, [.ref z1, .ref z2, .ref z3, .ref z4, .int 0, .long 0])), (z1, .inl (cI, 24, .inl (fun _ => 0))), (z2, .inl (cZ, 6, .inl (fun _ => 0))), (z3, .inl (cJ, 6, .inr (.inl (fun _ => 0)))), (z4, .inl (cI, 240, .inl (fun _ => 0)))] t.heap ∧ va_D A [(h0, .inr (5, [.ref z1, .ref z2, .ref z3, .ref z4, .int 0, .long 0])), (z1, .inl (cI, 24, .inl (fun _ => 0))), (z2, .inl (cZ, 6, .inl (fun _ => 0))), (z3, .inl (cJ, 6, .inr (.inl (fun _ => 0)))), (z4, .inl (cI, 240, .inl (fun _ => 0)))]
set_option maxHeartbeats 8000000 in
set_option maxRecDepth 100000 in
theorem c_k5 (l : Launch) (Dg : va_G) (cI cJ cZ : Nat) (h0 sz : Nat) : Met l mm_k5.1 (mj_ws lw_tbl mm_k5) ({ frames := 1, cells := 4, slots := 276, locals := 12 }) (mj_kPc Dg cI cJ cZ h0 [(h0, .inr (5, [.null, .null, .null, .null, .int 0, .long 0]))] sz) (va_Qv (fun _ : Unit => True) (at_k5 Dg cI cJ cZ (va_A [(h0, .inr (5, [.null, .null, .null, .null, .int 0, .long 0]))] sz) h0) (va_A [(h0, .inr (5, [.null, .null, .null, .null, .int 0, .long 0]))] sz)) 4 276 (va_A [(h0, .inr (5, [.null, .null, .null, .null, .int 0, .long 0]))] sz) := by
  refine Met.ofW (cc := prog_5_method_1_code) (maxL := 1) (ret := none) (by decide) rfl ?_
  intro p e s m args below meth c s₁ B hml hv
  obtain ⟨rfl, hsz, hP, hK, hD0, hN⟩ := hv
  have hx := B.exec
  have hb := B.bytes
  have hr := B.returns
  have hts0 := atoms_spec (ws := mj_ws lw_tbl mm_k5) B.pre
  have hts : ∀ w ∈ lw_tbl.filter goodWord, w.before _ s = true := fun w hw => hts0 w (List.mem_cons_of_mem _ hw)
  have hown : s.vm.findClass "UnbeatenHouse$People" = some m.cls := findClass_of_methodNamed B.named
  have hlocks := B.notSynchronized
  have hin : meth.name = "<init>" := (name_of_methodNamed B.named B.method).1
  subst hsz
  have hD := hD0.self (sz := s.heap.size)
  generalize hAe : va_A [(h0, .inr (5, [.null, .null, .null, .null, .int 0, .long 0]))] s.heap.size = A at hD ⊢
  have hA : ∀ q : Nat, s.heap.size ≤ q → A q := fun q h => by rw [← hAe]; exact Or.inr h
  have hS : va_S A s.heap s.heap [] := va_S.rf
  have hP : va_P Dg mj_CL [(h0, .inr (5, [.null, .null, .null, .null, .int 0, .long 0]))] s.heap := hP
  have hl := lv_entry ([.ref h0]) (n := 1) (Nat.le_of_ble_eq_true rfl)
  rw [lg_entry_eq]
  generalize (lg_sl ([.ref h0]) ++ List.replicate (1 - (lg_sl ([.ref h0])).length) Slot.unset).toArray = ls at hl ⊢
  have hl : lv_has ls 1 [(0, .ref h0)] := hl
  show W p l e ({ frames := 1, cells := 4, slots := 276, locals := 12 } : Room) s m _ below meth c s.heap [] 0 0 _ _
  refine lv_aload_n hx hb d_k5_0 rfl (lv_at hl 0 rfl) ?_
  refine W.objInit hx hb hown (hts _ (mj_good_in ((lw_in_1 (List.mem_of_getElem? (i := 152) (by decide +kernel)))) rfl)) (hts _ (mj_good_in ((lw_in_0 (List.mem_of_getElem? (i := 28) (by decide +kernel)))) rfl)) (hts _ (mj_good_in ((lw_in_0 (List.mem_of_getElem? (i := 29) (by decide +kernel)))) rfl)) rfl (by rw [hml]; exact hl.1) rfl d_k5_1 (Nat.le_of_ble_eq_true rfl) (Nat.le_of_ble_eq_true rfl) ?_
  refine W.eq (g2 := F0 m 4 ls []) rfl ?_
  refine lv_aload_n hx hb d_k5_4 rfl (lv_at hl 0 rfl) ?_
  refine lv_bipush (v := 24) hx hb d_k5_5 (by decide) ?_
  refine va_newa (atype := .int) (ty := .int) (N' := 24) (a0 := (24, .inl (fun _ => 0))) hx hb (hts _ (mj_good_in ((lw_in_0 (List.mem_of_getElem? (i := 92) (by decide +kernel)))) rfl)) rfl hK hP hD hS hA (fun _ => rfl) (by decide) (by decide) (Nat.le_of_ble_eq_true rfl) (Nat.le_of_ble_eq_true rfl) (Nat.le_of_ble_eq_true rfl) d_k5_7 (fun q7 cA H hK1 hP hD hS => ?_)
  have hcA : cA = cI := mj_cA0 hK1
  rw [hcA] at hP hD
  clear hK1 hcA
  refine W.widen (k := 1) (n := 24) (Nat.le_of_ble_eq_true rfl) (Nat.le_of_ble_eq_true rfl) ?_
  have hP : va_P Dg mj_CL [(h0, .inr (5, [.null, .null, .null, .null, .int 0, .long 0])), (q7, .inl (cI, 24, .inl (fun _ => 0)))] H := hP
  have hD : va_D A [(h0, .inr (5, [.null, .null, .null, .null, .int 0, .long 0])), (q7, .inl (cI, 24, .inl (fun _ => 0)))] := hD
  refine va_putF (D := Dg) (ci := 5) (v := .ref q7) (ty := mj_TY 5 0) (C := "UnbeatenHouse$People") (T := mF_5) (N := 6) hx hb hts (mj_lays mc_5.1) (mj_TY 5) mc_5.2.1 mc_5.2.2 hown hK hP hD hS 0 rfl rfl 0 (by decide) (hts _ (mj_good_in ((lw_in_1 (List.mem_of_getElem? (i := 153) (by decide +kernel)))) rfl)) (fun _ h9 => h9) rfl hin rfl (mc_5.2.1 0 (by decide)) rfl rfl (Nat.le_of_ble_eq_true rfl) d_k5_9 (fun H locs hP hD hS => ?_)
  have hP : va_P Dg mj_CL [(h0, .inr (5, [.ref q7, .null, .null, .null, .int 0, .long 0])), (q7, .inl (cI, 24, .inl (fun _ => 0)))] H := hP
  have hD : va_D A [(h0, .inr (5, [.ref q7, .null, .null, .null, .int 0, .long 0])), (q7, .inl (cI, 24, .inl (fun _ => 0)))] := hD
  refine lv_aload_n hx hb d_k5_12 rfl (lv_at hl 0 rfl) ?_
  refine lv_bipush (v := 6) hx hb d_k5_13 (by decide) ?_
  refine va_newa (atype := .boolean) (ty := .boolean) (N' := 6) (a0 := (6, .inl (fun _ => 0))) hx hb (hts _ (mj_good_in ((lw_in_0 (List.mem_of_getElem? (i := 93) (by decide +kernel)))) rfl)) rfl hK hP hD hS hA (fun _ => rfl) (by decide) (by decide) (Nat.le_of_ble_eq_true rfl) (Nat.le_of_ble_eq_true rfl) (Nat.le_of_ble_eq_true rfl) d_k5_15 (fun q15 cA H hK1 hP hD hS => ?_)
  have hcA : cA = cZ := mj_cA2 hK1
  rw [hcA] at hP hD
  clear hK1 hcA
  refine W.widen (k := 2) (n := 30) (Nat.le_of_ble_eq_true rfl) (Nat.le_of_ble_eq_true rfl) ?_
  have hP : va_P Dg mj_CL [(h0, .inr (5, [.ref q7, .null, .null, .null, .int 0, .long 0])), (q7, .inl (cI, 24, .inl (fun _ => 0))), (q15, .inl (cZ, 6, .inl (fun _ => 0)))] H := hP
  have hD : va_D A [(h0, .inr (5, [.ref q7, .null, .null, .null, .int 0, .long 0])), (q7, .inl (cI, 24, .inl (fun _ => 0))), (q15, .inl (cZ, 6, .inl (fun _ => 0)))] := hD
  refine va_putF (D := Dg) (ci := 5) (v := .ref q15) (ty := mj_TY 5 1) (C := "UnbeatenHouse$People") (T := mF_5) (N := 6) hx hb hts (mj_lays mc_5.1) (mj_TY 5) mc_5.2.1 mc_5.2.2 hown hK hP hD hS 0 rfl rfl 1 (by decide) (hts _ (mj_good_in ((lw_in_1 (List.mem_of_getElem? (i := 155) (by decide +kernel)))) rfl)) (fun _ h9 => h9) rfl hin rfl (mc_5.2.1 1 (by decide)) rfl rfl (Nat.le_of_ble_eq_true rfl) d_k5_17 (fun H locs hP hD hS => ?_)
  have hP : va_P Dg mj_CL [(h0, .inr (5, [.ref q7, .ref q15, .null, .null, .int 0, .long 0])), (q7, .inl (cI, 24, .inl (fun _ => 0))), (q15, .inl (cZ, 6, .inl (fun _ => 0)))] H := hP
  have hD : va_D A [(h0, .inr (5, [.ref q7, .ref q15, .null, .null, .int 0, .long 0])), (q7, .inl (cI, 24, .inl (fun _ => 0))), (q15, .inl (cZ, 6, .inl (fun _ => 0)))] := hD
  refine lv_aload_n hx hb d_k5_20 rfl (lv_at hl 0 rfl) ?_
  refine lv_bipush (v := 6) hx hb d_k5_21 (by decide) ?_
  refine va_newa (atype := .long) (ty := .long) (N' := 6) (a0 := (6, .inr (.inl (fun _ => 0)))) hx hb (hts _ (mj_good_in ((lw_in_1 (List.mem_of_getElem? (i := 8) (by decide +kernel)))) rfl)) rfl hK hP hD hS hA (fun _ => rfl) (by decide) (by decide) (Nat.le_of_ble_eq_true rfl) (Nat.le_of_ble_eq_true rfl) (Nat.le_of_ble_eq_true rfl) d_k5_23 (fun q23 cA H hK1 hP hD hS => ?_)
  have hcA : cA = cJ := mj_cA1 hK1
  rw [hcA] at hP hD
  clear hK1 hcA
  refine W.widen (k := 3) (n := 36) (Nat.le_of_ble_eq_true rfl) (Nat.le_of_ble_eq_true rfl) ?_
  have hP : va_P Dg mj_CL [(h0, .inr (5, [.ref q7, .ref q15, .null, .null, .int 0, .long 0])), (q7, .inl (cI, 24, .inl (fun _ => 0))), (q15, .inl (cZ, 6, .inl (fun _ => 0))), (q23, .inl (cJ, 6, .inr (.inl (fun _ => 0))))] H := hP
  have hD : va_D A [(h0, .inr (5, [.ref q7, .ref q15, .null, .null, .int 0, .long 0])), (q7, .inl (cI, 24, .inl (fun _ => 0))), (q15, .inl (cZ, 6, .inl (fun _ => 0))), (q23, .inl (cJ, 6, .inr (.inl (fun _ => 0))))] := hD
  refine va_putF (D := Dg) (ci := 5) (v := .ref q23) (ty := mj_TY 5 2) (C := "UnbeatenHouse$People") (T := mF_5) (N := 6) hx hb hts (mj_lays mc_5.1) (mj_TY 5) mc_5.2.1 mc_5.2.2 hown hK hP hD hS 0 rfl rfl 2 (by decide) (hts _ (mj_good_in ((lw_in_1 (List.mem_of_getElem? (i := 157) (by decide +kernel)))) rfl)) (fun _ h9 => h9) rfl hin rfl (mc_5.2.1 2 (by decide)) rfl rfl (Nat.le_of_ble_eq_true rfl) d_k5_25 (fun H locs hP hD hS => ?_)
  have hP : va_P Dg mj_CL [(h0, .inr (5, [.ref q7, .ref q15, .ref q23, .null, .int 0, .long 0])), (q7, .inl (cI, 24, .inl (fun _ => 0))), (q15, .inl (cZ, 6, .inl (fun _ => 0))), (q23, .inl (cJ, 6, .inr (.inl (fun _ => 0))))] H := hP
  have hD : va_D A [(h0, .inr (5, [.ref q7, .ref q15, .ref q23, .null, .int 0, .long 0])), (q7, .inl (cI, 24, .inl (fun _ => 0))), (q15, .inl (cZ, 6, .inl (fun _ => 0))), (q23, .inl (cJ, 6, .inr (.inl (fun _ => 0))))] := hD
  refine lv_aload_n hx hb d_k5_28 rfl (lv_at hl 0 rfl) ?_
  refine lv_sipush (v := 240) hx hb d_k5_29 (by decide) ?_
  refine va_newa (atype := .int) (ty := .int) (N' := 240) (a0 := (240, .inl (fun _ => 0))) hx hb (hts _ (mj_good_in ((lw_in_0 (List.mem_of_getElem? (i := 92) (by decide +kernel)))) rfl)) rfl hK hP hD hS hA (fun _ => rfl) (by decide) (by decide) (Nat.le_of_ble_eq_true rfl) (Nat.le_of_ble_eq_true rfl) (Nat.le_of_ble_eq_true rfl) d_k5_32 (fun q32 cA H hK1 hP hD hS => ?_)
  have hcA : cA = cI := mj_cA0 hK1
  rw [hcA] at hP hD
  clear hK1 hcA
  refine W.widen (k := 4) (n := 276) (Nat.le_of_ble_eq_true rfl) (Nat.le_of_ble_eq_true rfl) ?_
  have hP : va_P Dg mj_CL [(h0, .inr (5, [.ref q7, .ref q15, .ref q23, .null, .int 0, .long 0])), (q7, .inl (cI, 24, .inl (fun _ => 0))), (q15, .inl (cZ, 6, .inl (fun _ => 0))), (q23, .inl (cJ, 6, .inr (.inl (fun _ => 0)))), (q32, .inl (cI, 240, .inl (fun _ => 0)))] H := hP
  have hD : va_D A [(h0, .inr (5, [.ref q7, .ref q15, .ref q23, .null, .int 0, .long 0])), (q7, .inl (cI, 24, .inl (fun _ => 0))), (q15, .inl (cZ, 6, .inl (fun _ => 0))), (q23, .inl (cJ, 6, .inr (.inl (fun _ => 0)))), (q32, .inl (cI, 240, .inl (fun _ => 0)))] := hD
  refine va_putF (D := Dg) (ci := 5) (v := .ref q32) (ty := mj_TY 5 3) (C := "UnbeatenHouse$People") (T := mF_5) (N := 6) hx hb hts (mj_lays mc_5.1) (mj_TY 5) mc_5.2.1 mc_5.2.2 hown hK hP hD hS 0 rfl rfl 3 (by decide) (hts _ (mj_good_in ((lw_in_1 (List.mem_of_getElem? (i := 159) (by decide +kernel)))) rfl)) (fun _ h9 => h9) rfl hin rfl (mc_5.2.1 3 (by decide)) rfl rfl (Nat.le_of_ble_eq_true rfl) d_k5_34 (fun H locs hP hD hS => ?_)
  have hP : va_P Dg mj_CL [(h0, .inr (5, [.ref q7, .ref q15, .ref q23, .ref q32, .int 0, .long 0])), (q7, .inl (cI, 24, .inl (fun _ => 0))), (q15, .inl (cZ, 6, .inl (fun _ => 0))), (q23, .inl (cJ, 6, .inr (.inl (fun _ => 0)))), (q32, .inl (cI, 240, .inl (fun _ => 0)))] H := hP
  have hD : va_D A [(h0, .inr (5, [.ref q7, .ref q15, .ref q23, .ref q32, .int 0, .long 0])), (q7, .inl (cI, 24, .inl (fun _ => 0))), (q15, .inl (cZ, 6, .inl (fun _ => 0))), (q23, .inl (cJ, 6, .inr (.inl (fun _ => 0)))), (q32, .inl (cI, 240, .inl (fun _ => 0)))] := hD
  refine W.widen (k := 4) (n := 276) (Nat.le_of_ble_eq_true rfl) (Nat.le_of_ble_eq_true rfl) ?_
  exact W.vret hx hb hr (fun t ht hW => ⟨⟨(), rfl, trivial, q7, q15, q23, q32, by rw [ht]; exact hP, hD⟩, hS.F ht⟩) hS.2.2 d_k5_37
