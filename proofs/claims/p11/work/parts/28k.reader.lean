/-! the Reader's constructor: its own words out of the constant; and the constructor of the class -/
def mj_kPcS (Dg : va_G) (cI cJ cZ aK aV h0 : Nat) (w0 : va_W) (sz : Nat) : Array Value → State → Prop := fun v U =>
  mj_kPc Dg cI cJ cZ h0 w0 sz v U ∧ vk_R "UnbeatenHouse$Reader" 29 "wish  row   knot  tie   thing rule  less  more  or    and   not   all   has   many  of    min   max   " aK U ∧ mj_str aK aV (va_A w0 sz) U U.heap
theorem mj_kblindS {Dg : va_G} {cI cJ cZ aK aV h0 sz : Nat} {w0 : va_W} : FrameBlind (mj_kPcS Dg cI cJ cZ aK aV h0 w0 sz) := by
  intro a U g mk q
  exact ⟨mj_kblind a U g mk q.1, vk_R.same (u := U) rfl q.2.1, mj_str.moved (u := U) (U := U.calling g mk a) (Vm.Alike.refl U.vm) q.2.2⟩
theorem mj_strTo {s U : State} {aK aV : Nat} {A B : Nat → Prop} {H : Heap} {locs : List Loc} (hW : s.WarmedH U.vm) (hU : U.heap = H) (hT : mj_str aK aV A s s.heap) (hS : va_S A s.heap H locs) (hF : ∀ q, B q → A q) : mj_str aK aV B U U.heap := by
  rw [hU]
  exact mj_str.moved hW.alike ((hT.kept hS.2.1).narrow hF)
def rd_ch (k : Nat) : Int32 := mj_ownB.getD k 0 &&& 255
/-- word n's code as far as its letter k -/
def rd_c (n : Nat) : Nat → Int32
  | 0 => 0
  | k + 1 => rd_c n k * 32 + rd_ch (6 * n + k) - 96
def rd_len (n : Nat) : Nat := [4, 3, 4, 3, 5, 4, 4, 4, 2, 3, 3, 3, 3, 4, 2, 3, 3].getD n 0
def rd_f (n k : Nat) : Nat → Int32 := fun j => if j < n then rd_c j (rd_len j) else if j = n then rd_c n k else 0
theorem rd_go : ∀ n, n < 17 → ∀ k, k < rd_len n → ¬ rd_ch (6 * n + k) = 32 := by decide +kernel
theorem rd_end : ∀ n, n < 17 → rd_len n < 6 ∧ rd_ch (6 * n + rd_len n) = 32 := by decide +kernel
theorem rd_up {n k : Nat} (hn : n < 17) : upd (rd_f n k) (nI n).toNatClampNeg (rd_c n k * 32 + rd_ch (6 * n + k) - 96) = rd_f n (k + 1) := by
  rw [nI_clamp (by omega)]
  funext j
  unfold upd rd_f
  by_cases e : j = n
  · subst e
    simp [rd_c]
  · simp [e]
theorem rd_next {n : Nat} : rd_f n (rd_len n) = rd_f (n + 1) 0 := by
  funext j
  unfold rd_f
  by_cases h : j < n
  · rw [if_pos h, if_pos (by omega)]
  · rw [if_neg h]
    by_cases e : j = n
    · subst e
      rw [if_pos rfl, if_pos (by omega)]
    · rw [if_neg e, if_neg (by omega)]
      by_cases e2 : j = n + 1
      · subst e2
        rw [if_pos rfl]
        rfl
      · rw [if_neg e2]
theorem rd_0 : rd_f 0 0 = fun _ => 0 := by
  funext j
  unfold rd_f
  rw [if_neg (by omega)]
  by_cases e : j = 0
  · rw [if_pos e]; rfl
  · rw [if_neg e]
theorem rd_ix (n k : Nat) : nI n * (6 : Int32) + nI k = nI (6 * n + k) := by
  rw [show (6 : Int32) = nI 6 from rfl, pk_mul, nI_add, Nat.mul_comm]
def mm_k8 : mj_M := (⟨"UnbeatenHouse$Reader", "<init>", "()V"⟩, prog_8_method_1_code, 3, none)
set_option maxRecDepth 100000 in
theorem my_k8 : mj_okY lw_tbl mm_k8 := ⟨(lw_in_0 (List.mem_of_getElem? (i := 98) rfl)), (lw_in_0 (List.mem_of_getElem? (i := 3) (by decide +kernel))), by decide, plainFor_of_name (by decide +kernel), by decide +kernel, by decide +kernel⟩
theorem dg_k8_0 : (decode prog_8_method_1_code 0 = .ok (.aload_n 0, 1)) ∧ (decode prog_8_method_1_code 1 = .ok (.invokespecial 3, 3)) ∧ (decode prog_8_method_1_code 4 = .ok (.aload_n 0, 1)) ∧ (decode prog_8_method_1_code 5 = .ok (.bipush 17, 2)) ∧ (decode prog_8_method_1_code 7 = .ok (.newarray .int, 2)) ∧ (decode prog_8_method_1_code 9 = .ok (.putfield 9, 3)) ∧ (decode prog_8_method_1_code 12 = .ok (.aload_n 0, 1)) ∧ (decode prog_8_method_1_code 13 = .ok (.sipush 900, 3)) ∧ (decode prog_8_method_1_code 16 = .ok (.newarray .int, 2)) ∧ (decode prog_8_method_1_code 18 = .ok (.putfield 15, 3)) ∧ (decode prog_8_method_1_code 21 = .ok (.aload_n 0, 1)) ∧ (decode prog_8_method_1_code 22 = .ok (.new 18, 3)) ∧ (decode prog_8_method_1_code 25 = .ok (.dup, 1)) ∧ (decode prog_8_method_1_code 26 = .ok (.invokespecial 20, 3)) ∧ (decode prog_8_method_1_code 29 = .ok (.putfield 21, 3)) ∧ (decode prog_8_method_1_code 32 = .ok (.aload_n 0, 1)) ∧ True := fd_of (cc := prog_8_method_1_code) [(0, .aload_n 0, 1), (1, .invokespecial 3, 3), (4, .aload_n 0, 1), (5, .bipush 17, 2), (7, .newarray .int, 2), (9, .putfield 9, 3), (12, .aload_n 0, 1), (13, .sipush 900, 3), (16, .newarray .int, 2), (18, .putfield 15, 3), (21, .aload_n 0, 1), (22, .new 18, 3), (25, .dup, 1), (26, .invokespecial 20, 3), (29, .putfield 21, 3), (32, .aload_n 0, 1)] (by decide +kernel)
theorem d_k8_0 : decode prog_8_method_1_code 0 = .ok (.aload_n 0, 1) := dg_k8_0.1
theorem d_k8_1 : decode prog_8_method_1_code 1 = .ok (.invokespecial 3, 3) := dg_k8_0.2.1
theorem d_k8_4 : decode prog_8_method_1_code 4 = .ok (.aload_n 0, 1) := dg_k8_0.2.2.1
theorem d_k8_5 : decode prog_8_method_1_code 5 = .ok (.bipush 17, 2) := dg_k8_0.2.2.2.1
theorem d_k8_7 : decode prog_8_method_1_code 7 = .ok (.newarray .int, 2) := dg_k8_0.2.2.2.2.1
theorem d_k8_9 : decode prog_8_method_1_code 9 = .ok (.putfield 9, 3) := dg_k8_0.2.2.2.2.2.1
theorem d_k8_12 : decode prog_8_method_1_code 12 = .ok (.aload_n 0, 1) := dg_k8_0.2.2.2.2.2.2.1
theorem d_k8_13 : decode prog_8_method_1_code 13 = .ok (.sipush 900, 3) := dg_k8_0.2.2.2.2.2.2.2.1
theorem d_k8_16 : decode prog_8_method_1_code 16 = .ok (.newarray .int, 2) := dg_k8_0.2.2.2.2.2.2.2.2.1
theorem d_k8_18 : decode prog_8_method_1_code 18 = .ok (.putfield 15, 3) := dg_k8_0.2.2.2.2.2.2.2.2.2.1
theorem d_k8_21 : decode prog_8_method_1_code 21 = .ok (.aload_n 0, 1) := dg_k8_0.2.2.2.2.2.2.2.2.2.2.1
theorem d_k8_22 : decode prog_8_method_1_code 22 = .ok (.new 18, 3) := dg_k8_0.2.2.2.2.2.2.2.2.2.2.2.1
theorem d_k8_25 : decode prog_8_method_1_code 25 = .ok (.dup, 1) := dg_k8_0.2.2.2.2.2.2.2.2.2.2.2.2.1
theorem d_k8_26 : decode prog_8_method_1_code 26 = .ok (.invokespecial 20, 3) := dg_k8_0.2.2.2.2.2.2.2.2.2.2.2.2.2.1
theorem d_k8_29 : decode prog_8_method_1_code 29 = .ok (.putfield 21, 3) := dg_k8_0.2.2.2.2.2.2.2.2.2.2.2.2.2.2.1
theorem d_k8_32 : decode prog_8_method_1_code 32 = .ok (.aload_n 0, 1) := dg_k8_0.2.2.2.2.2.2.2.2.2.2.2.2.2.2.2.1
theorem dg_k8_33 : (decode prog_8_method_1_code 33 = .ok (.iconst (-1), 1)) ∧ (decode prog_8_method_1_code 34 = .ok (.putfield 25, 3)) ∧ (decode prog_8_method_1_code 37 = .ok (.iconst 0, 1)) ∧ (decode prog_8_method_1_code 38 = .ok (.istore_n 1, 1)) ∧ (decode prog_8_method_1_code 39 = .ok (.iload_n 1, 1)) ∧ (decode prog_8_method_1_code 40 = .ok (.bipush 17, 2)) ∧ (decode prog_8_method_1_code 42 = .ok (.if_icmp .ge 69, 3)) ∧ (decode prog_8_method_1_code 45 = .ok (.iconst 0, 1)) ∧ (decode prog_8_method_1_code 46 = .ok (.istore_n 2, 1)) ∧ (decode prog_8_method_1_code 47 = .ok (.iload_n 2, 1)) ∧ (decode prog_8_method_1_code 48 = .ok (.bipush 6, 2)) ∧ (decode prog_8_method_1_code 50 = .ok (.if_icmp .ge 55, 3)) ∧ (decode prog_8_method_1_code 53 = .ok (.ldc 29, 2)) ∧ (decode prog_8_method_1_code 55 = .ok (.iload_n 1, 1)) ∧ (decode prog_8_method_1_code 56 = .ok (.bipush 6, 2)) ∧ (decode prog_8_method_1_code 58 = .ok (.imul, 1)) ∧ True := fd_of (cc := prog_8_method_1_code) [(33, .iconst (-1), 1), (34, .putfield 25, 3), (37, .iconst 0, 1), (38, .istore_n 1, 1), (39, .iload_n 1, 1), (40, .bipush 17, 2), (42, .if_icmp .ge 69, 3), (45, .iconst 0, 1), (46, .istore_n 2, 1), (47, .iload_n 2, 1), (48, .bipush 6, 2), (50, .if_icmp .ge 55, 3), (53, .ldc 29, 2), (55, .iload_n 1, 1), (56, .bipush 6, 2), (58, .imul, 1)] (by decide +kernel)
theorem d_k8_33 : decode prog_8_method_1_code 33 = .ok (.iconst (-1), 1) := dg_k8_33.1
theorem d_k8_34 : decode prog_8_method_1_code 34 = .ok (.putfield 25, 3) := dg_k8_33.2.1
theorem d_k8_37 : decode prog_8_method_1_code 37 = .ok (.iconst 0, 1) := dg_k8_33.2.2.1
theorem d_k8_38 : decode prog_8_method_1_code 38 = .ok (.istore_n 1, 1) := dg_k8_33.2.2.2.1
theorem d_k8_39 : decode prog_8_method_1_code 39 = .ok (.iload_n 1, 1) := dg_k8_33.2.2.2.2.1
theorem d_k8_40 : decode prog_8_method_1_code 40 = .ok (.bipush 17, 2) := dg_k8_33.2.2.2.2.2.1
theorem d_k8_42 : decode prog_8_method_1_code 42 = .ok (.if_icmp .ge 69, 3) := dg_k8_33.2.2.2.2.2.2.1
theorem d_k8_45 : decode prog_8_method_1_code 45 = .ok (.iconst 0, 1) := dg_k8_33.2.2.2.2.2.2.2.1
theorem d_k8_46 : decode prog_8_method_1_code 46 = .ok (.istore_n 2, 1) := dg_k8_33.2.2.2.2.2.2.2.2.1
theorem d_k8_47 : decode prog_8_method_1_code 47 = .ok (.iload_n 2, 1) := dg_k8_33.2.2.2.2.2.2.2.2.2.1
theorem d_k8_48 : decode prog_8_method_1_code 48 = .ok (.bipush 6, 2) := dg_k8_33.2.2.2.2.2.2.2.2.2.2.1
theorem d_k8_50 : decode prog_8_method_1_code 50 = .ok (.if_icmp .ge 55, 3) := dg_k8_33.2.2.2.2.2.2.2.2.2.2.2.1
theorem d_k8_53 : decode prog_8_method_1_code 53 = .ok (.ldc 29, 2) := dg_k8_33.2.2.2.2.2.2.2.2.2.2.2.2.1
theorem d_k8_55 : decode prog_8_method_1_code 55 = .ok (.iload_n 1, 1) := dg_k8_33.2.2.2.2.2.2.2.2.2.2.2.2.2.1
theorem d_k8_56 : decode prog_8_method_1_code 56 = .ok (.bipush 6, 2) := dg_k8_33.2.2.2.2.2.2.2.2.2.2.2.2.2.2.1
theorem d_k8_58 : decode prog_8_method_1_code 58 = .ok (.imul, 1) := dg_k8_33.2.2.2.2.2.2.2.2.2.2.2.2.2.2.2.1
theorem dg_k8_59 : (decode prog_8_method_1_code 59 = .ok (.iload_n 2, 1)) ∧ (decode prog_8_method_1_code 60 = .ok (.iadd, 1)) ∧ (decode prog_8_method_1_code 61 = .ok (.invokevirtual 31, 3)) ∧ (decode prog_8_method_1_code 64 = .ok (.bipush 32, 2)) ∧ (decode prog_8_method_1_code 66 = .ok (.if_icmp .eq 39, 3)) ∧ (decode prog_8_method_1_code 69 = .ok (.aload_n 0, 1)) ∧ (decode prog_8_method_1_code 70 = .ok (.getfield 9, 3)) ∧ (decode prog_8_method_1_code 73 = .ok (.iload_n 1, 1)) ∧ (decode prog_8_method_1_code 74 = .ok (.aload_n 0, 1)) ∧ (decode prog_8_method_1_code 75 = .ok (.getfield 9, 3)) ∧ (decode prog_8_method_1_code 78 = .ok (.iload_n 1, 1)) ∧ (decode prog_8_method_1_code 79 = .ok (.iaload, 1)) ∧ (decode prog_8_method_1_code 80 = .ok (.bipush 32, 2)) ∧ (decode prog_8_method_1_code 82 = .ok (.imul, 1)) ∧ (decode prog_8_method_1_code 83 = .ok (.ldc 29, 2)) ∧ (decode prog_8_method_1_code 85 = .ok (.iload_n 1, 1)) ∧ True := fd_of (cc := prog_8_method_1_code) [(59, .iload_n 2, 1), (60, .iadd, 1), (61, .invokevirtual 31, 3), (64, .bipush 32, 2), (66, .if_icmp .eq 39, 3), (69, .aload_n 0, 1), (70, .getfield 9, 3), (73, .iload_n 1, 1), (74, .aload_n 0, 1), (75, .getfield 9, 3), (78, .iload_n 1, 1), (79, .iaload, 1), (80, .bipush 32, 2), (82, .imul, 1), (83, .ldc 29, 2), (85, .iload_n 1, 1)] (by decide +kernel)
theorem d_k8_59 : decode prog_8_method_1_code 59 = .ok (.iload_n 2, 1) := dg_k8_59.1
theorem d_k8_60 : decode prog_8_method_1_code 60 = .ok (.iadd, 1) := dg_k8_59.2.1
theorem d_k8_61 : decode prog_8_method_1_code 61 = .ok (.invokevirtual 31, 3) := dg_k8_59.2.2.1
theorem d_k8_64 : decode prog_8_method_1_code 64 = .ok (.bipush 32, 2) := dg_k8_59.2.2.2.1
theorem d_k8_66 : decode prog_8_method_1_code 66 = .ok (.if_icmp .eq 39, 3) := dg_k8_59.2.2.2.2.1
theorem d_k8_69 : decode prog_8_method_1_code 69 = .ok (.aload_n 0, 1) := dg_k8_59.2.2.2.2.2.1
theorem d_k8_70 : decode prog_8_method_1_code 70 = .ok (.getfield 9, 3) := dg_k8_59.2.2.2.2.2.2.1
theorem d_k8_73 : decode prog_8_method_1_code 73 = .ok (.iload_n 1, 1) := dg_k8_59.2.2.2.2.2.2.2.1
theorem d_k8_74 : decode prog_8_method_1_code 74 = .ok (.aload_n 0, 1) := dg_k8_59.2.2.2.2.2.2.2.2.1
theorem d_k8_75 : decode prog_8_method_1_code 75 = .ok (.getfield 9, 3) := dg_k8_59.2.2.2.2.2.2.2.2.2.1
theorem d_k8_78 : decode prog_8_method_1_code 78 = .ok (.iload_n 1, 1) := dg_k8_59.2.2.2.2.2.2.2.2.2.2.1
theorem d_k8_79 : decode prog_8_method_1_code 79 = .ok (.iaload, 1) := dg_k8_59.2.2.2.2.2.2.2.2.2.2.2.1
theorem d_k8_80 : decode prog_8_method_1_code 80 = .ok (.bipush 32, 2) := dg_k8_59.2.2.2.2.2.2.2.2.2.2.2.2.1
theorem d_k8_82 : decode prog_8_method_1_code 82 = .ok (.imul, 1) := dg_k8_59.2.2.2.2.2.2.2.2.2.2.2.2.2.1
theorem d_k8_83 : decode prog_8_method_1_code 83 = .ok (.ldc 29, 2) := dg_k8_59.2.2.2.2.2.2.2.2.2.2.2.2.2.2.1
theorem d_k8_85 : decode prog_8_method_1_code 85 = .ok (.iload_n 1, 1) := dg_k8_59.2.2.2.2.2.2.2.2.2.2.2.2.2.2.2.1
theorem dg_k8_86 : (decode prog_8_method_1_code 86 = .ok (.bipush 6, 2)) ∧ (decode prog_8_method_1_code 88 = .ok (.imul, 1)) ∧ (decode prog_8_method_1_code 89 = .ok (.iload_n 2, 1)) ∧ (decode prog_8_method_1_code 90 = .ok (.iadd, 1)) ∧ (decode prog_8_method_1_code 91 = .ok (.invokevirtual 31, 3)) ∧ (decode prog_8_method_1_code 94 = .ok (.iadd, 1)) ∧ (decode prog_8_method_1_code 95 = .ok (.bipush 96, 2)) ∧ (decode prog_8_method_1_code 97 = .ok (.isub, 1)) ∧ (decode prog_8_method_1_code 98 = .ok (.iastore, 1)) ∧ (decode prog_8_method_1_code 99 = .ok (.iinc 2 1, 3)) ∧ (decode prog_8_method_1_code 102 = .ok (.goto (-55), 3)) ∧ (decode prog_8_method_1_code 105 = .ok (.iinc 1 1, 3)) ∧ (decode prog_8_method_1_code 108 = .ok (.goto (-69), 3)) ∧ (decode prog_8_method_1_code 111 = .ok (.return_, 1)) ∧ True := fd_of (cc := prog_8_method_1_code) [(86, .bipush 6, 2), (88, .imul, 1), (89, .iload_n 2, 1), (90, .iadd, 1), (91, .invokevirtual 31, 3), (94, .iadd, 1), (95, .bipush 96, 2), (97, .isub, 1), (98, .iastore, 1), (99, .iinc 2 1, 3), (102, .goto (-55), 3), (105, .iinc 1 1, 3), (108, .goto (-69), 3), (111, .return_, 1)] (by decide +kernel)
theorem d_k8_86 : decode prog_8_method_1_code 86 = .ok (.bipush 6, 2) := dg_k8_86.1
theorem d_k8_88 : decode prog_8_method_1_code 88 = .ok (.imul, 1) := dg_k8_86.2.1
theorem d_k8_89 : decode prog_8_method_1_code 89 = .ok (.iload_n 2, 1) := dg_k8_86.2.2.1
theorem d_k8_90 : decode prog_8_method_1_code 90 = .ok (.iadd, 1) := dg_k8_86.2.2.2.1
theorem d_k8_91 : decode prog_8_method_1_code 91 = .ok (.invokevirtual 31, 3) := dg_k8_86.2.2.2.2.1
theorem d_k8_94 : decode prog_8_method_1_code 94 = .ok (.iadd, 1) := dg_k8_86.2.2.2.2.2.1
theorem d_k8_95 : decode prog_8_method_1_code 95 = .ok (.bipush 96, 2) := dg_k8_86.2.2.2.2.2.2.1
theorem d_k8_97 : decode prog_8_method_1_code 97 = .ok (.isub, 1) := dg_k8_86.2.2.2.2.2.2.2.1
theorem d_k8_98 : decode prog_8_method_1_code 98 = .ok (.iastore, 1) := dg_k8_86.2.2.2.2.2.2.2.2.1
theorem d_k8_99 : decode prog_8_method_1_code 99 = .ok (.iinc 2 1, 3) := dg_k8_86.2.2.2.2.2.2.2.2.2.1
theorem d_k8_102 : decode prog_8_method_1_code 102 = .ok (.goto (-55), 3) := dg_k8_86.2.2.2.2.2.2.2.2.2.2.1
theorem d_k8_105 : decode prog_8_method_1_code 105 = .ok (.iinc 1 1, 3) := dg_k8_86.2.2.2.2.2.2.2.2.2.2.2.1
theorem d_k8_108 : decode prog_8_method_1_code 108 = .ok (.goto (-69), 3) := dg_k8_86.2.2.2.2.2.2.2.2.2.2.2.2.1
theorem d_k8_111 : decode prog_8_method_1_code 111 = .ok (.return_, 1) := dg_k8_86.2.2.2.2.2.2.2.2.2.2.2.2.2.1
section RDL
variable {p : Program} {l : Launch} {e : Env} {s : State} {m : MethodId} {args : Array Value} {below : List Frame} {meth : Method} {c : Code} {Q : State → Prop}
variable {Dg : va_G} {cI cJ cZ aK aV h0 q : Nat} {fs : List Value} {wr : va_W} {A : Nat → Prop}
/-- at a pc of the loop, with the words' codes as f has them -/
def rd_W (p : Program) (l : Launch) (e : Env) (s : State) (m : MethodId) (args : Array Value) (below : List Frame) (meth : Method) (c : Code) (Q : State → Prop) (Dg : va_G) (cI h0 q : Nat) (fs : List Value) (wr : va_W) (A : Nat → Prop) (pc : Nat) (lc : List (Nat × Value)) (st : List Value) (f : Nat → Int32) : Prop :=
  ∀ (H : Heap) (locs : List Loc) (ls : Array Slot), va_P Dg mj_CL ((h0, .inr (8, fs)) :: (q, .inl (cI, 17, .inl f)) :: wr) H → va_D A ((h0, .inr (8, fs)) :: (q, .inl (cI, 17, .inl f)) :: wr) → va_S A s.heap H locs → lv_has ls 3 lc →
    W p l e ({ frames := 5, cells := 12, slots := 3258, locals := 100 } : Room) s m args below meth c H locs 12 3258 Q (F0 m pc ls st)
theorem rd_char {pc n k : Nat} {f : Nat → Int32} {st : List Value} {lc : List (Nat × Value)} (hx : p.tables.exec = Jvm.exec) (hb : c.code = prog_8_method_1_code) (hml : c.maxLocals = 3) (hown : s.vm.findClass "UnbeatenHouse$Reader" = some m.cls) (hts : ∀ w ∈ lw_tbl.filter goodWord, w.before args s = true)
    (hRR : vk_R "UnbeatenHouse$Reader" 29 "wish  row   knot  tie   thing rule  less  more  or    and   not   all   has   many  of    min   max   " aK s) (hTT : mj_str aK aV A s s.heap) (hn : n < 17) (hk : k < 6) (h1 : lc[1]? = some (1, .int (nI n))) (h2 : lc[2]? = some (2, .int (nI k))) (h8 : (st.map fun v => v.category).sum ≤ 5)
    (d0 : decode prog_8_method_1_code pc = .ok (.ldc 29, 2)) (d1 : decode prog_8_method_1_code (pc + 2) = .ok (.iload_n 1, 1)) (d2 : decode prog_8_method_1_code (pc + 2 + 1) = .ok (.bipush 6, 2)) (d3 : decode prog_8_method_1_code (pc + 2 + 1 + 2) = .ok (.imul, 1)) (d4 : decode prog_8_method_1_code (pc + 2 + 1 + 2 + 1) = .ok (.iload_n 2, 1)) (d5 : decode prog_8_method_1_code (pc + 2 + 1 + 2 + 1 + 1) = .ok (.iadd, 1)) (d6 : decode prog_8_method_1_code (pc + 2 + 1 + 2 + 1 + 1 + 1) = .ok (.invokevirtual 31, 3))
    (kk : rd_W p l e s m args below meth c Q Dg cI h0 q fs wr A (pc + 11) lc (.int (rd_ch (6 * n + k)) :: st) f) : rd_W p l e s m args below meth c Q Dg cI h0 q fs wr A pc lc st f := by
  intro H locs ls hP hD hS hl
  refine va_ldcS hx hb hown hRR d0 ?_
  refine lv_iload_n hx hb d1 rfl (lv_at hl 1 h1) ?_
  refine lv_bipush (v := 6) hx hb d2 (by decide) ?_
  refine lv_imul hx hb d3 ?_
  refine lv_iload_n hx hb d4 rfl (lv_at hl 2 h2) ?_
  refine lv_iadd hx hb d5 ?_
  rw [rd_ix]
  refine W.callR (W.runV (As := [.int (nI (6 * n + k))]) (rest := st) ⟨hx, hb, hml, hown, hts⟩ (c_jA l aK aV (6 * n + k) (by omega)) (cwV 1 hts (mj_goodV ((lw_in_0 (List.mem_of_getElem? (i := 103) (by decide +kernel)))) ((lw_in_0 (List.mem_of_getElem? (i := 104) (by decide +kernel)))) ((lw_in_0 (List.mem_of_getElem? (i := 105) (by decide +kernel)))) my_jA) rfl rfl rfl ⟨rfl, by decide +kernel, by decide +kernel, by decide +kernel⟩ ⟨Nat.le_of_ble_eq_true rfl, Nat.le_of_ble_eq_true rfl⟩) ⟨fun a U g mk q => ⟨q.1, mj_str.moved (u := U) (U := U.calling g mk a) (Vm.Alike.refl U.vm) q.2⟩, vk_recv hTT.1 (i := 0) (by decide) hS, fun U hU hW => ⟨rfl, mj_strTo hW hU hTT hS (fun _ h => h.elim)⟩⟩ rfl rfl hl.1 rfl (lv_room (by omega)) d6 ⟨Nat.le_of_ble_eq_true rfl, Nat.le_of_ble_eq_true rfl⟩) ?_
  refine W.eq (g2 := F0 m (pc + 11) ls (.int (rd_ch (6 * n + k)) :: st)) rfl ?_
  exact kk H locs ls hP hD hS hl
theorem rd_in {n : Nat} (hx : p.tables.exec = Jvm.exec) (hb : c.code = prog_8_method_1_code) (hml : c.maxLocals = 3) (hown : s.vm.findClass "UnbeatenHouse$Reader" = some m.cls) (hts : ∀ w ∈ lw_tbl.filter goodWord, w.before args s = true) (hK : va_K Dg mj_CL (mj_tys (cI, cJ, cZ)) s)
    (hRR : vk_R "UnbeatenHouse$Reader" 29 "wish  row   knot  tie   thing rule  less  more  or    and   not   all   has   many  of    min   max   " aK s) (hTT : mj_str aK aV A s s.heap) (h0f : fs[0]? = some (.ref q)) (hn : n < 17)
    (kk : ∀ k, rd_W p l e s m args below meth c Q Dg cI h0 q fs wr A 105 [(0, .ref h0), (1, .int (nI n)), (2, .int (nI k))] [] (rd_f n (rd_len n))) :
    ∀ (d k : Nat), k + d = rd_len n → rd_W p l e s m args below meth c Q Dg cI h0 q fs wr A 47 [(0, .ref h0), (1, .int (nI n)), (2, .int (nI k))] [] (rd_f n k) := by
  intro d
  obtain ⟨hl6, hend⟩ := rd_end n hn
  induction d with
  | zero =>
    intro k hk H locs ls hP hD hS hl
    have hk : k = rd_len n := by omega
    subst hk
    refine lv_iload_n hx hb d_k8_47 rfl (lv_at hl 2 rfl) ?_
    refine lv_bipush (v := 6) hx hb d_k8_48 (by decide) ?_
    refine lv_icmp_ge (tgt := 105) hx hb d_k8_50 (by decide) (fun h => absurd h (nI_ge hl6 (by decide))) (fun _ => ?_)
    refine rd_char (f := rd_f n (rd_len n)) (st := []) hx hb hml hown hts hRR hTT hn hl6 rfl rfl (Nat.le_of_ble_eq_true rfl) d_k8_53 d_k8_55 d_k8_56 d_k8_58 d_k8_59 d_k8_60 d_k8_61 (fun H locs ls hP hD hS hl => ?_) H locs ls hP hD hS hl
    refine lv_bipush (v := 32) hx hb d_k8_64 (by decide) ?_
    refine lv_icmp_eq (tgt := 105) hx hb d_k8_66 (by decide) (fun _ => ?_) (fun h => absurd hend h)
    exact kk _ H locs ls hP hD hS hl
  | succ d ih =>
    intro k hk H locs ls hP hD hS hl
    refine lv_iload_n hx hb d_k8_47 rfl (lv_at hl 2 rfl) ?_
    refine lv_bipush (v := 6) hx hb d_k8_48 (by decide) ?_
    refine lv_icmp_ge (tgt := 105) hx hb d_k8_50 (by decide) (fun h => absurd h (nI_ge (show k < 6 by omega) (by decide))) (fun _ => ?_)
    refine rd_char (f := rd_f n k) (st := []) hx hb hml hown hts hRR hTT hn (by omega) rfl rfl (Nat.le_of_ble_eq_true rfl) d_k8_53 d_k8_55 d_k8_56 d_k8_58 d_k8_59 d_k8_60 d_k8_61 (fun H locs ls hP hD hS hl => ?_) H locs ls hP hD hS hl
    refine lv_bipush (v := 32) hx hb d_k8_64 (by decide) ?_
    refine lv_icmp_eq (tgt := 105) hx hb d_k8_66 (by decide) (fun h => absurd h (rd_go n hn k (by omega))) (fun _ => ?_)
    refine lv_aload_n hx hb d_k8_69 rfl (lv_at hl 0 rfl) ?_
    refine va_get (C := "UnbeatenHouse$Reader") (T := mF_8) (N := 12) (v := .ref q) hx hb hts (mj_lays mc_8.1) hown hK hP 0 rfl rfl 0 (by decide) (hts _ (mj_good_in ((lw_in_0 (List.mem_of_getElem? (i := 143) (by decide +kernel)))) rfl)) (fun _ h9 => h9) h0f d_k8_70 ?_
    refine lv_iload_n hx hb d_k8_73 rfl (lv_at hl 1 rfl) ?_
    refine lv_aload_n hx hb d_k8_74 rfl (lv_at hl 0 rfl) ?_
    refine va_get (C := "UnbeatenHouse$Reader") (T := mF_8) (N := 12) (v := .ref q) hx hb hts (mj_lays mc_8.1) hown hK hP 0 rfl rfl 0 (by decide) (hts _ (mj_good_in ((lw_in_0 (List.mem_of_getElem? (i := 143) (by decide +kernel)))) rfl)) (fun _ h9 => h9) h0f d_k8_75 ?_
    refine lv_iload_n hx hb d_k8_78 rfl (lv_at hl 1 rfl) ?_
    refine va_iald hx hb hK hP 1 0 rfl rfl (vp_in_nI hn (by decide)) d_k8_79 ?_
    rw [show rd_f n k (nI n).toNatClampNeg = rd_c n k by rw [nI_clamp (by omega)]; unfold rd_f; rw [if_neg (by omega), if_pos rfl]]
    refine lv_bipush (v := 32) hx hb d_k8_80 (by decide) ?_
    refine lv_imul hx hb d_k8_82 ?_
    refine rd_char (f := rd_f n k) (st := [.int (rd_c n k * 32), .int (nI n), .ref q]) hx hb hml hown hts hRR hTT hn (by omega) rfl rfl (Nat.le_of_ble_eq_true rfl) d_k8_83 d_k8_85 d_k8_86 d_k8_88 d_k8_89 d_k8_90 d_k8_91 (fun H locs ls hP hD hS hl => ?_) H locs ls hP hD hS hl
    refine lv_iadd hx hb d_k8_94 ?_
    refine lv_bipush (v := 96) hx hb d_k8_95 (by decide) ?_
    refine lv_isub hx hb d_k8_97 ?_
    refine va_iast hx hb hK hP hD hS 1 0 rfl rfl (vp_in_nI hn (by decide)) d_k8_98 (fun H locs hP hD hS => ?_)
    rw [rd_up hn] at hP hD
    refine lv_iinc (k := 2) (v := nI (k + 1)) (lv' := [(2, .int (nI (k + 1))), (0, .ref h0), (1, .int (nI n))]) hx hb d_k8_99 hl rfl (by show _ + nI 1 = _; rw [nI_add]) (by decide) rfl (fun ls hl => ?_)
    refine lv_goto (tgt := 47) hx hb d_k8_102 (by decide) ?_
    exact ih (k + 1) (by omega) H locs ls hP hD hS (lv_sub (l' := [(0, .ref h0), (1, .int (nI n)), (2, .int (nI (k + 1)))]) hl [1, 2, 0] rfl)
theorem rd_out (hx : p.tables.exec = Jvm.exec) (hb : c.code = prog_8_method_1_code) (hml : c.maxLocals = 3) (hown : s.vm.findClass "UnbeatenHouse$Reader" = some m.cls) (hts : ∀ w ∈ lw_tbl.filter goodWord, w.before args s = true) (hK : va_K Dg mj_CL (mj_tys (cI, cJ, cZ)) s)
    (hRR : vk_R "UnbeatenHouse$Reader" 29 "wish  row   knot  tie   thing rule  less  more  or    and   not   all   has   many  of    min   max   " aK s) (hTT : mj_str aK aV A s s.heap) (h0f : fs[0]? = some (.ref q))
    (kk : rd_W p l e s m args below meth c Q Dg cI h0 q fs wr A 111 [(0, .ref h0)] [] (rd_f 17 0)) :
    ∀ (d n : Nat), n + d = 17 → rd_W p l e s m args below meth c Q Dg cI h0 q fs wr A 39 [(0, .ref h0), (1, .int (nI n))] [] (rd_f n 0) := by
  intro d
  induction d with
  | zero =>
    intro n hn H locs ls hP hD hS hl
    have hn : n = 17 := by omega
    subst hn
    refine lv_iload_n hx hb d_k8_39 rfl (lv_at hl 1 rfl) ?_
    refine lv_bipush (v := 17) hx hb d_k8_40 (by decide) ?_
    refine lv_icmp_ge (tgt := 111) hx hb d_k8_42 (by decide) (fun _ => ?_) (fun h => absurd (by decide) h)
    exact kk H locs ls hP hD hS (lv_sub (l' := [(0, .ref h0)]) hl [0] rfl)
  | succ d ih =>
    intro n hn H locs ls hP hD hS hl
    have hn17 : n < 17 := by omega
    refine lv_iload_n hx hb d_k8_39 rfl (lv_at hl 1 rfl) ?_
    refine lv_bipush (v := 17) hx hb d_k8_40 (by decide) ?_
    refine lv_icmp_ge (tgt := 111) hx hb d_k8_42 (by decide) (fun h => absurd h (nI_ge hn17 (by decide))) (fun _ => ?_)
    refine lv_iconst (v := nI 0) hx hb d_k8_45 (by decide) ?_
    refine lv_istore_n (i := 2) (lv' := [(2, .int (nI 0)), (0, .ref h0), (1, .int (nI n))]) hx hb d_k8_46 rfl hl (by decide) rfl (fun ls hl => ?_)
    refine rd_in hx hb hml hown hts hK hRR hTT h0f hn17 (fun k H locs ls hP hD hS hl => ?_) (rd_len n) 0 (by omega) H locs ls hP hD hS (lv_sub (l' := [(0, .ref h0), (1, .int (nI n)), (2, .int (nI 0))]) hl [1, 2, 0] rfl)
    rw [rd_next] at hP hD
    refine lv_iinc (k := 1) (v := nI (n + 1)) (lv' := [(1, .int (nI (n + 1))), (0, .ref h0), (2, .int (nI k))]) hx hb d_k8_105 hl rfl (by show _ + nI 1 = _; rw [nI_add]) (by decide) rfl (fun ls hl => ?_)
    refine lv_goto (tgt := 39) hx hb d_k8_108 (by decide) ?_
    exact ih (n + 1) (by omega) H locs ls hP hD hS (lv_sub (l' := [(0, .ref h0), (1, .int (nI (n + 1)))]) hl [1, 0] rfl)
theorem rd_run (hx : p.tables.exec = Jvm.exec) (hb : c.code = prog_8_method_1_code) (hml : c.maxLocals = 3) (hown : s.vm.findClass "UnbeatenHouse$Reader" = some m.cls) (hts : ∀ w ∈ lw_tbl.filter goodWord, w.before args s = true) (hK : va_K Dg mj_CL (mj_tys (cI, cJ, cZ)) s)
    (hRR : vk_R "UnbeatenHouse$Reader" 29 "wish  row   knot  tie   thing rule  less  more  or    and   not   all   has   many  of    min   max   " aK s) (hTT : mj_str aK aV A s s.heap) (h0f : fs[0]? = some (.ref q))
    (kk : rd_W p l e s m args below meth c Q Dg cI h0 q fs wr A 111 [(0, .ref h0)] [] (rd_f 17 0)) :
    rd_W p l e s m args below meth c Q Dg cI h0 q fs wr A 37 [(0, .ref h0)] [] (fun _ => 0) := by
  intro H locs ls hP hD hS hl
  rw [← rd_0] at hP hD
  refine lv_iconst (v := nI 0) hx hb d_k8_37 (by decide) ?_
  refine lv_istore_n (i := 1) (lv' := [(1, .int (nI 0)), (0, .ref h0)]) hx hb d_k8_38 rfl hl (by decide) rfl (fun ls hl => ?_)
  exact rd_out hx hb hml hown hts hK hRR hTT h0f kk 17 0 rfl H locs ls hP hD hS (lv_sub (l' := [(0, .ref h0), (1, .int (nI 0))]) hl [1, 0] rfl)
end RDL
/-- a new UnbeatenHouse$Reader -/
abbrev at_k8 (Dg : va_G) (cI cJ cZ : Nat) (A : Nat → Prop) (h0 : Nat) (_ : Unit) (t : State) : Prop := ∃ (z1 z2 z3 z4 z5 z6 z7 z8 z9 z10 z11 z12 : Nat), va_P Dg mj_CL [(h0, .inr (8, [.ref z1, .ref z2, .int 0, .ref z3, .int 0, .int 0, .int 0, .int 0, .int 0, .int 0, .int 0, .int (-1)])), (z1, .inl (cI, 17, .inl (rd_f 17 0))), (z2, .inl (cI, 900, .inl (fun _ => 0))), (z3, .inr (11, [.int 0, .ref z4, .ref z5, .ref z6, .ref z7, .ref z8, .ref z9, .ref z10, .ref z11, .int 0, .ref z12])), (z4, .inl (cI, 6, .inl (fun _ => 0))), (z5, .inl (cI, 240, .inl (fun _ => 0))), (z6, .inl (cZ, 4, .inl (fun _ => 0))), (z7, .inl (cI, 960, .inl (fun _ => 0))), (z8, .inl (cI, 160, .inl (fun _ => 0))), (z9, .inl (cI, 24, .inl (fun _ => 0))), (z10, .inl (cI, 24, .inl (fun _ => 0))), (z11, .inl (cI, 900, .inl (fun _ => 0))), (z12, .inl (cI, 12, .inl (fun _ => 0)))] t.heap ∧ va_D A [(h0, .inr (8, [.ref z1, .ref z2, .int 0, .ref z3, .int 0, .int 0, .int 0, .int 0, .int 0, .int 0, .int 0, .int (-1)])), (z1, .inl (cI, 17, .inl (rd_f 17 0))), (z2, .inl (cI, 900, .inl (fun _ => 0))), (z3, .inr (11, [.int 0, .ref z4, .ref z5, .ref z6, .ref z7, .ref z8, .ref z9, .ref z10, .ref z11, .int 0, .ref z12])), (z4, .inl (cI, 6, .inl (fun _ => 0))), (z5, .inl (cI, 240, .inl (fun _ => 0))), (z6, .inl (cZ, 4, .inl (fun _ => 0))), (z7, .inl (cI, 960, .inl (fun _ => 0))), (z8, .inl (cI, 160, .inl (fun _ => 0))), (z9, .inl (cI, 24, .inl (fun _ => 0))), (z10, .inl (cI, 24, .inl (fun _ => 0))), (z11, .inl (cI, 900, .inl (fun _ => 0))), (z12, .inl (cI, 12, .inl (fun _ => 0)))]
set_option maxHeartbeats 8000000 in
set_option maxRecDepth 100000 in
theorem c_k8 (l : Launch) (Dg : va_G) (cI cJ cZ : Nat) (aK aV h0 sz : Nat) : Met l mm_k8.1 (mj_ws lw_tbl mm_k8) ({ frames := 5, cells := 12, slots := 3258, locals := 100 }) (mj_kPcS Dg cI cJ cZ aK aV h0 [(h0, .inr (8, [.null, .null, .int 0, .null, .int 0, .int 0, .int 0, .int 0, .int 0, .int 0, .int 0, .int 0]))] sz) (va_Qv (fun _ : Unit => True) (at_k8 Dg cI cJ cZ (va_A [(h0, .inr (8, [.null, .null, .int 0, .null, .int 0, .int 0, .int 0, .int 0, .int 0, .int 0, .int 0, .int 0]))] sz) h0) (va_A [(h0, .inr (8, [.null, .null, .int 0, .null, .int 0, .int 0, .int 0, .int 0, .int 0, .int 0, .int 0, .int 0]))] sz)) 12 3258 (va_A [(h0, .inr (8, [.null, .null, .int 0, .null, .int 0, .int 0, .int 0, .int 0, .int 0, .int 0, .int 0, .int 0]))] sz) := by
  refine Met.ofW (cc := prog_8_method_1_code) (maxL := 3) (ret := none) (by decide) rfl ?_
  intro p e s m args below meth c s₁ B hml hv
  obtain ⟨⟨rfl, hsz, hP, hK, hD0, hN⟩, hRR, hTT⟩ := hv
  have hx := B.exec
  have hb := B.bytes
  have hr := B.returns
  have hts0 := atoms_spec (ws := mj_ws lw_tbl mm_k8) B.pre
  have hts : ∀ w ∈ lw_tbl.filter goodWord, w.before _ s = true := fun w hw => hts0 w (List.mem_cons_of_mem _ hw)
  have hown : s.vm.findClass "UnbeatenHouse$Reader" = some m.cls := findClass_of_methodNamed B.named
  have hlocks := B.notSynchronized
  have hin : meth.name = "<init>" := (name_of_methodNamed B.named B.method).1
  subst hsz
  have hD := hD0.self (sz := s.heap.size)
  generalize hAe : va_A [(h0, .inr (8, [.null, .null, .int 0, .null, .int 0, .int 0, .int 0, .int 0, .int 0, .int 0, .int 0, .int 0]))] s.heap.size = A at hD hTT ⊢
  have hA : ∀ q : Nat, s.heap.size ≤ q → A q := fun q h => by rw [← hAe]; exact Or.inr h
  have hS : va_S A s.heap s.heap [] := va_S.rf
  have hP : va_P Dg mj_CL [(h0, .inr (8, [.null, .null, .int 0, .null, .int 0, .int 0, .int 0, .int 0, .int 0, .int 0, .int 0, .int 0]))] s.heap := hP
  have hl := lv_entry ([.ref h0]) (n := 3) (Nat.le_of_ble_eq_true rfl)
  rw [lg_entry_eq]
  generalize (lg_sl ([.ref h0]) ++ List.replicate (3 - (lg_sl ([.ref h0])).length) Slot.unset).toArray = ls at hl ⊢
  have hl : lv_has ls 3 [(0, .ref h0)] := hl
  show W p l e ({ frames := 5, cells := 12, slots := 3258, locals := 100 } : Room) s m _ below meth c s.heap [] 0 0 _ _
  refine lv_aload_n hx hb d_k8_0 rfl (lv_at hl 0 rfl) ?_
  refine W.objInit hx hb hown (hts _ (mj_good_in ((lw_in_0 (List.mem_of_getElem? (i := 99) (by decide +kernel)))) rfl)) (hts _ (mj_good_in ((lw_in_0 (List.mem_of_getElem? (i := 28) (by decide +kernel)))) rfl)) (hts _ (mj_good_in ((lw_in_0 (List.mem_of_getElem? (i := 29) (by decide +kernel)))) rfl)) rfl (by rw [hml]; exact hl.1) rfl d_k8_1 (Nat.le_of_ble_eq_true rfl) (Nat.le_of_ble_eq_true rfl) ?_
  refine W.eq (g2 := F0 m 4 ls []) rfl ?_
  refine lv_aload_n hx hb d_k8_4 rfl (lv_at hl 0 rfl) ?_
  refine lv_bipush (v := 17) hx hb d_k8_5 (by decide) ?_
  refine va_newa (atype := .int) (ty := .int) (N' := 17) (a0 := (17, .inl (fun _ => 0))) hx hb (hts _ (mj_good_in ((lw_in_0 (List.mem_of_getElem? (i := 92) (by decide +kernel)))) rfl)) rfl hK hP hD hS hA (fun _ => rfl) (by decide) (by decide) (Nat.le_of_ble_eq_true rfl) (Nat.le_of_ble_eq_true rfl) (Nat.le_of_ble_eq_true rfl) d_k8_7 (fun q7 cA H hK1 hP hD hS => ?_)
  have hcA : cA = cI := mj_cA0 hK1
  rw [hcA] at hP hD
  clear hK1 hcA
  refine W.widen (k := 1) (n := 17) (Nat.le_of_ble_eq_true rfl) (Nat.le_of_ble_eq_true rfl) ?_
  have hP : va_P Dg mj_CL [(h0, .inr (8, [.null, .null, .int 0, .null, .int 0, .int 0, .int 0, .int 0, .int 0, .int 0, .int 0, .int 0])), (q7, .inl (cI, 17, .inl (fun _ => 0)))] H := hP
  have hD : va_D A [(h0, .inr (8, [.null, .null, .int 0, .null, .int 0, .int 0, .int 0, .int 0, .int 0, .int 0, .int 0, .int 0])), (q7, .inl (cI, 17, .inl (fun _ => 0)))] := hD
  refine va_putF (D := Dg) (ci := 8) (v := .ref q7) (ty := mj_TY 8 0) (C := "UnbeatenHouse$Reader") (T := mF_8) (N := 12) hx hb hts (mj_lays mc_8.1) (mj_TY 8) mc_8.2.1 mc_8.2.2 hown hK hP hD hS 0 rfl rfl 0 (by decide) (hts _ (mj_good_in ((lw_in_0 (List.mem_of_getElem? (i := 143) (by decide +kernel)))) rfl)) (fun _ h9 => h9) rfl hin rfl (mc_8.2.1 0 (by decide)) rfl rfl (Nat.le_of_ble_eq_true rfl) d_k8_9 (fun H locs hP hD hS => ?_)
  have hP : va_P Dg mj_CL [(h0, .inr (8, [.ref q7, .null, .int 0, .null, .int 0, .int 0, .int 0, .int 0, .int 0, .int 0, .int 0, .int 0])), (q7, .inl (cI, 17, .inl (fun _ => 0)))] H := hP
  have hD : va_D A [(h0, .inr (8, [.ref q7, .null, .int 0, .null, .int 0, .int 0, .int 0, .int 0, .int 0, .int 0, .int 0, .int 0])), (q7, .inl (cI, 17, .inl (fun _ => 0)))] := hD
  refine lv_aload_n hx hb d_k8_12 rfl (lv_at hl 0 rfl) ?_
  refine lv_sipush (v := 900) hx hb d_k8_13 (by decide) ?_
  refine va_newa (atype := .int) (ty := .int) (N' := 900) (a0 := (900, .inl (fun _ => 0))) hx hb (hts _ (mj_good_in ((lw_in_0 (List.mem_of_getElem? (i := 92) (by decide +kernel)))) rfl)) rfl hK hP hD hS hA (fun _ => rfl) (by decide) (by decide) (Nat.le_of_ble_eq_true rfl) (Nat.le_of_ble_eq_true rfl) (Nat.le_of_ble_eq_true rfl) d_k8_16 (fun q16 cA H hK1 hP hD hS => ?_)
  have hcA : cA = cI := mj_cA0 hK1
  rw [hcA] at hP hD
  clear hK1 hcA
  refine W.widen (k := 2) (n := 917) (Nat.le_of_ble_eq_true rfl) (Nat.le_of_ble_eq_true rfl) ?_
  have hP : va_P Dg mj_CL [(h0, .inr (8, [.ref q7, .null, .int 0, .null, .int 0, .int 0, .int 0, .int 0, .int 0, .int 0, .int 0, .int 0])), (q7, .inl (cI, 17, .inl (fun _ => 0))), (q16, .inl (cI, 900, .inl (fun _ => 0)))] H := hP
  have hD : va_D A [(h0, .inr (8, [.ref q7, .null, .int 0, .null, .int 0, .int 0, .int 0, .int 0, .int 0, .int 0, .int 0, .int 0])), (q7, .inl (cI, 17, .inl (fun _ => 0))), (q16, .inl (cI, 900, .inl (fun _ => 0)))] := hD
  refine va_putF (D := Dg) (ci := 8) (v := .ref q16) (ty := mj_TY 8 1) (C := "UnbeatenHouse$Reader") (T := mF_8) (N := 12) hx hb hts (mj_lays mc_8.1) (mj_TY 8) mc_8.2.1 mc_8.2.2 hown hK hP hD hS 0 rfl rfl 1 (by decide) (hts _ (mj_good_in ((lw_in_0 (List.mem_of_getElem? (i := 144) (by decide +kernel)))) rfl)) (fun _ h9 => h9) rfl hin rfl (mc_8.2.1 1 (by decide)) rfl rfl (Nat.le_of_ble_eq_true rfl) d_k8_18 (fun H locs hP hD hS => ?_)
  have hP : va_P Dg mj_CL [(h0, .inr (8, [.ref q7, .ref q16, .int 0, .null, .int 0, .int 0, .int 0, .int 0, .int 0, .int 0, .int 0, .int 0])), (q7, .inl (cI, 17, .inl (fun _ => 0))), (q16, .inl (cI, 900, .inl (fun _ => 0)))] H := hP
  have hD : va_D A [(h0, .inr (8, [.ref q7, .ref q16, .int 0, .null, .int 0, .int 0, .int 0, .int 0, .int 0, .int 0, .int 0, .int 0])), (q7, .inl (cI, 17, .inl (fun _ => 0))), (q16, .inl (cI, 900, .inl (fun _ => 0)))] := hD
  refine lv_aload_n hx hb d_k8_21 rfl (lv_at hl 0 rfl) ?_
  refine va_new (ci := 11) (fs := [.int 0, .null, .null, .null, .null, .null, .null, .null, .null, .int 0, .null]) (C := "UnbeatenHouse$Tale") (T := mF_11) (N := 11) hx hb hts (mj_lays mc_11.1) (mj_TY 11) mc_11.2.1 hown (hts _ (mj_good_in ((lw_in_0 (List.mem_of_getElem? (i := 100) (by decide +kernel)))) rfl)) (hts _ (mj_good_in ((lw_in_0 (List.mem_of_getElem? (i := 31) (by decide +kernel)))) rfl)) (hts _ (mj_good_in ((lw_in_0 (List.mem_of_getElem? (i := 2) (by decide +kernel)))) rfl)) hK hP hD hS hA rfl (by decide +kernel) (Nat.le_of_ble_eq_true rfl) (Nat.le_of_ble_eq_true rfl) d_k8_22 (fun q22 H hP hD hS => ?_)
  refine W.widen (k := 3) (n := 928) (Nat.le_of_ble_eq_true rfl) (Nat.le_of_ble_eq_true rfl) ?_
  have hP : va_P Dg mj_CL [(h0, .inr (8, [.ref q7, .ref q16, .int 0, .null, .int 0, .int 0, .int 0, .int 0, .int 0, .int 0, .int 0, .int 0])), (q7, .inl (cI, 17, .inl (fun _ => 0))), (q16, .inl (cI, 900, .inl (fun _ => 0))), (q22, .inr (11, [.int 0, .null, .null, .null, .null, .null, .null, .null, .null, .int 0, .null]))] H := hP
  have hD : va_D A [(h0, .inr (8, [.ref q7, .ref q16, .int 0, .null, .int 0, .int 0, .int 0, .int 0, .int 0, .int 0, .int 0, .int 0])), (q7, .inl (cI, 17, .inl (fun _ => 0))), (q16, .inl (cI, 900, .inl (fun _ => 0))), (q22, .inr (11, [.int 0, .null, .null, .null, .null, .null, .null, .null, .null, .int 0, .null]))] := hD
  refine lv_dup hx hb d_k8_25 rfl ?_
  have hPc := hP.sub (ws' := [(q22, .inr (11, [.int 0, .null, .null, .null, .null, .null, .null, .null, .null, .int 0, .null]))]) [3] rfl
  have hDc := hD.sub (ws' := [(q22, .inr (11, [.int 0, .null, .null, .null, .null, .null, .null, .null, .null, .int 0, .null]))]) [3] (by decide) rfl
  have hFc := va_free (wc := [(q22, .inr (11, [.int 0, .null, .null, .null, .null, .null, .null, .null, .null, .int 0, .null]))]) hD hS hA [3] rfl
  refine va_callv (va_runIN (As := []) (rest := [.ref q22, .ref h0]) ⟨hx, hb, hml, hown, hts⟩ (c_k11 l Dg cI cJ cZ q22 H.size) (⟨va_cnB 0 hts (mj_goodIn my_k11) rfl rfl rfl (hN (.methodLinkNest "UnbeatenHouse$Reader" 20 mm_k11.1 "UnbeatenHouse") ((lw_in_0 (List.mem_of_getElem? (i := 101) (by decide +kernel)))) rfl) (hts _ (mj_good_in ((lw_in_0 (List.mem_of_getElem? (i := 2) (by decide +kernel)))) rfl)) ⟨by decide +kernel, by decide +kernel, by decide +kernel⟩ ⟨Nat.le_of_ble_eq_true rfl, Nat.le_of_ble_eq_true rfl⟩, rfl, hts _ (mj_good_in ((lw_in_0 (List.mem_of_getElem? (i := 33) (by decide +kernel)))) rfl)⟩) ⟨mj_kblind, fun U hU hW => ⟨rfl, by rw [hU], by rw [hU]; exact hPc, va_K.moved hW.alike hK, hDc.weaken (fun _ _ _ _ => trivial), mj_nw hW hN⟩⟩ rfl rfl hl.1 rfl (lv_room (Nat.le_of_ble_eq_true rfl)) d_k8_26 ⟨Nat.le_of_ble_eq_true rfl, Nat.le_of_ble_eq_true rfl⟩) hS (fun q _ h => hFc q h) hFc (fun u t H1 locs ht hvm hw hB hz1 hk1 hS => ?_)
  obtain ⟨q26_0, q26_1, q26_2, q26_3, q26_4, q26_5, q26_6, q26_7, q26_8, hP1, hD1⟩ := hB
  rw [ht] at hP1
  obtain ⟨hP, hD⟩ := va_join (wr := [(h0, .inr (8, [.ref q7, .ref q16, .int 0, .null, .int 0, .int 0, .int 0, .int 0, .int 0, .int 0, .int 0, .int 0])), (q7, .inl (cI, 17, .inl (fun _ => 0))), (q16, .inl (cI, 900, .inl (fun _ => 0)))]) (w1 := [(q22, .inr (11, [.int 0, .ref q26_0, .ref q26_1, .ref q26_2, .ref q26_3, .ref q26_4, .ref q26_5, .ref q26_6, .ref q26_7, .int 0, .ref q26_8])), (q26_0, .inl (cI, 6, .inl (fun _ => 0))), (q26_1, .inl (cI, 240, .inl (fun _ => 0))), (q26_2, .inl (cZ, 4, .inl (fun _ => 0))), (q26_3, .inl (cI, 960, .inl (fun _ => 0))), (q26_4, .inl (cI, 160, .inl (fun _ => 0))), (q26_5, .inl (cI, 24, .inl (fun _ => 0))), (q26_6, .inl (cI, 24, .inl (fun _ => 0))), (q26_7, .inl (cI, 900, .inl (fun _ => 0))), (q26_8, .inl (cI, 12, .inl (fun _ => 0)))]) hP hD [3] [0, 1, 2] rfl rfl (by decide) (by decide) hk1 hFc hP1 hD1
  generalize H1 = H at hP hS ⊢
  refine W.widen (k := 12) (n := 3258) (Nat.le_of_ble_eq_true rfl) (Nat.le_of_ble_eq_true rfl) ?_
  have hP : va_P Dg mj_CL [(h0, .inr (8, [.ref q7, .ref q16, .int 0, .null, .int 0, .int 0, .int 0, .int 0, .int 0, .int 0, .int 0, .int 0])), (q7, .inl (cI, 17, .inl (fun _ => 0))), (q16, .inl (cI, 900, .inl (fun _ => 0))), (q22, .inr (11, [.int 0, .ref q26_0, .ref q26_1, .ref q26_2, .ref q26_3, .ref q26_4, .ref q26_5, .ref q26_6, .ref q26_7, .int 0, .ref q26_8])), (q26_0, .inl (cI, 6, .inl (fun _ => 0))), (q26_1, .inl (cI, 240, .inl (fun _ => 0))), (q26_2, .inl (cZ, 4, .inl (fun _ => 0))), (q26_3, .inl (cI, 960, .inl (fun _ => 0))), (q26_4, .inl (cI, 160, .inl (fun _ => 0))), (q26_5, .inl (cI, 24, .inl (fun _ => 0))), (q26_6, .inl (cI, 24, .inl (fun _ => 0))), (q26_7, .inl (cI, 900, .inl (fun _ => 0))), (q26_8, .inl (cI, 12, .inl (fun _ => 0)))] H := hP
  have hD : va_D A [(h0, .inr (8, [.ref q7, .ref q16, .int 0, .null, .int 0, .int 0, .int 0, .int 0, .int 0, .int 0, .int 0, .int 0])), (q7, .inl (cI, 17, .inl (fun _ => 0))), (q16, .inl (cI, 900, .inl (fun _ => 0))), (q22, .inr (11, [.int 0, .ref q26_0, .ref q26_1, .ref q26_2, .ref q26_3, .ref q26_4, .ref q26_5, .ref q26_6, .ref q26_7, .int 0, .ref q26_8])), (q26_0, .inl (cI, 6, .inl (fun _ => 0))), (q26_1, .inl (cI, 240, .inl (fun _ => 0))), (q26_2, .inl (cZ, 4, .inl (fun _ => 0))), (q26_3, .inl (cI, 960, .inl (fun _ => 0))), (q26_4, .inl (cI, 160, .inl (fun _ => 0))), (q26_5, .inl (cI, 24, .inl (fun _ => 0))), (q26_6, .inl (cI, 24, .inl (fun _ => 0))), (q26_7, .inl (cI, 900, .inl (fun _ => 0))), (q26_8, .inl (cI, 12, .inl (fun _ => 0)))] := hD
  refine va_put (D := Dg) (ci := 8) (v := .ref q22) (ty := mj_TY 8 3) (C := "UnbeatenHouse$Reader") (T := mF_8) (N := 12) hx hb hts (mj_lays mc_8.1) (mj_TY 8) mc_8.2.1 mc_8.2.2 hown hK hP hD hS 0 rfl rfl 3 (by decide) (hts _ (mj_good_in ((lw_in_0 (List.mem_of_getElem? (i := 147) (by decide +kernel)))) rfl)) (fun _ h9 => h9) rfl (mc_8.2.1 3 (by decide)) rfl rfl (Nat.le_of_ble_eq_true rfl) d_k8_29 (fun H locs hP hD hS => ?_)
  have hP : va_P Dg mj_CL [(h0, .inr (8, [.ref q7, .ref q16, .int 0, .ref q22, .int 0, .int 0, .int 0, .int 0, .int 0, .int 0, .int 0, .int 0])), (q7, .inl (cI, 17, .inl (fun _ => 0))), (q16, .inl (cI, 900, .inl (fun _ => 0))), (q22, .inr (11, [.int 0, .ref q26_0, .ref q26_1, .ref q26_2, .ref q26_3, .ref q26_4, .ref q26_5, .ref q26_6, .ref q26_7, .int 0, .ref q26_8])), (q26_0, .inl (cI, 6, .inl (fun _ => 0))), (q26_1, .inl (cI, 240, .inl (fun _ => 0))), (q26_2, .inl (cZ, 4, .inl (fun _ => 0))), (q26_3, .inl (cI, 960, .inl (fun _ => 0))), (q26_4, .inl (cI, 160, .inl (fun _ => 0))), (q26_5, .inl (cI, 24, .inl (fun _ => 0))), (q26_6, .inl (cI, 24, .inl (fun _ => 0))), (q26_7, .inl (cI, 900, .inl (fun _ => 0))), (q26_8, .inl (cI, 12, .inl (fun _ => 0)))] H := hP
  have hD : va_D A [(h0, .inr (8, [.ref q7, .ref q16, .int 0, .ref q22, .int 0, .int 0, .int 0, .int 0, .int 0, .int 0, .int 0, .int 0])), (q7, .inl (cI, 17, .inl (fun _ => 0))), (q16, .inl (cI, 900, .inl (fun _ => 0))), (q22, .inr (11, [.int 0, .ref q26_0, .ref q26_1, .ref q26_2, .ref q26_3, .ref q26_4, .ref q26_5, .ref q26_6, .ref q26_7, .int 0, .ref q26_8])), (q26_0, .inl (cI, 6, .inl (fun _ => 0))), (q26_1, .inl (cI, 240, .inl (fun _ => 0))), (q26_2, .inl (cZ, 4, .inl (fun _ => 0))), (q26_3, .inl (cI, 960, .inl (fun _ => 0))), (q26_4, .inl (cI, 160, .inl (fun _ => 0))), (q26_5, .inl (cI, 24, .inl (fun _ => 0))), (q26_6, .inl (cI, 24, .inl (fun _ => 0))), (q26_7, .inl (cI, 900, .inl (fun _ => 0))), (q26_8, .inl (cI, 12, .inl (fun _ => 0)))] := hD
  refine lv_aload_n hx hb d_k8_32 rfl (lv_at hl 0 rfl) ?_
  refine lv_iconst (v := (-1)) hx hb d_k8_33 (by decide) ?_
  refine va_put (D := Dg) (ci := 8) (v := .int (-1)) (ty := mj_TY 8 11) (C := "UnbeatenHouse$Reader") (T := mF_8) (N := 12) hx hb hts (mj_lays mc_8.1) (mj_TY 8) mc_8.2.1 mc_8.2.2 hown hK hP hD hS 0 rfl rfl 11 (by decide) (hts _ (mj_good_in ((lw_in_0 (List.mem_of_getElem? (i := 156) (by decide +kernel)))) rfl)) (fun _ h9 => h9) rfl (mc_8.2.1 11 (by decide)) rfl rfl (Nat.le_of_ble_eq_true rfl) d_k8_34 (fun H locs hP hD hS => ?_)
  have hP : va_P Dg mj_CL [(h0, .inr (8, [.ref q7, .ref q16, .int 0, .ref q22, .int 0, .int 0, .int 0, .int 0, .int 0, .int 0, .int 0, .int (-1)])), (q7, .inl (cI, 17, .inl (fun _ => 0))), (q16, .inl (cI, 900, .inl (fun _ => 0))), (q22, .inr (11, [.int 0, .ref q26_0, .ref q26_1, .ref q26_2, .ref q26_3, .ref q26_4, .ref q26_5, .ref q26_6, .ref q26_7, .int 0, .ref q26_8])), (q26_0, .inl (cI, 6, .inl (fun _ => 0))), (q26_1, .inl (cI, 240, .inl (fun _ => 0))), (q26_2, .inl (cZ, 4, .inl (fun _ => 0))), (q26_3, .inl (cI, 960, .inl (fun _ => 0))), (q26_4, .inl (cI, 160, .inl (fun _ => 0))), (q26_5, .inl (cI, 24, .inl (fun _ => 0))), (q26_6, .inl (cI, 24, .inl (fun _ => 0))), (q26_7, .inl (cI, 900, .inl (fun _ => 0))), (q26_8, .inl (cI, 12, .inl (fun _ => 0)))] H := hP
  have hD : va_D A [(h0, .inr (8, [.ref q7, .ref q16, .int 0, .ref q22, .int 0, .int 0, .int 0, .int 0, .int 0, .int 0, .int 0, .int (-1)])), (q7, .inl (cI, 17, .inl (fun _ => 0))), (q16, .inl (cI, 900, .inl (fun _ => 0))), (q22, .inr (11, [.int 0, .ref q26_0, .ref q26_1, .ref q26_2, .ref q26_3, .ref q26_4, .ref q26_5, .ref q26_6, .ref q26_7, .int 0, .ref q26_8])), (q26_0, .inl (cI, 6, .inl (fun _ => 0))), (q26_1, .inl (cI, 240, .inl (fun _ => 0))), (q26_2, .inl (cZ, 4, .inl (fun _ => 0))), (q26_3, .inl (cI, 960, .inl (fun _ => 0))), (q26_4, .inl (cI, 160, .inl (fun _ => 0))), (q26_5, .inl (cI, 24, .inl (fun _ => 0))), (q26_6, .inl (cI, 24, .inl (fun _ => 0))), (q26_7, .inl (cI, 900, .inl (fun _ => 0))), (q26_8, .inl (cI, 12, .inl (fun _ => 0)))] := hD
  refine rd_run (Dg := Dg) (cI := cI) (cJ := cJ) (cZ := cZ) (q := q7) (fs := [.ref q7, .ref q16, .int 0, .ref q22, .int 0, .int 0, .int 0, .int 0, .int 0, .int 0, .int 0, .int (-1)]) (wr := [(q16, .inl (cI, 900, .inl (fun _ => 0))), (q22, .inr (11, [.int 0, .ref q26_0, .ref q26_1, .ref q26_2, .ref q26_3, .ref q26_4, .ref q26_5, .ref q26_6, .ref q26_7, .int 0, .ref q26_8])), (q26_0, .inl (cI, 6, .inl (fun _ => 0))), (q26_1, .inl (cI, 240, .inl (fun _ => 0))), (q26_2, .inl (cZ, 4, .inl (fun _ => 0))), (q26_3, .inl (cI, 960, .inl (fun _ => 0))), (q26_4, .inl (cI, 160, .inl (fun _ => 0))), (q26_5, .inl (cI, 24, .inl (fun _ => 0))), (q26_6, .inl (cI, 24, .inl (fun _ => 0))), (q26_7, .inl (cI, 900, .inl (fun _ => 0))), (q26_8, .inl (cI, 12, .inl (fun _ => 0)))]) (A := A) hx hb hml hown hts hK hRR hTT rfl (fun H locs ls hP hD hS hl => ?_) H locs ls hP hD hS hl
  refine W.widen (k := 12) (n := 3258) (Nat.le_of_ble_eq_true rfl) (Nat.le_of_ble_eq_true rfl) ?_
  exact W.vret hx hb hr (fun t ht hW => ⟨⟨(), rfl, trivial, q7, q16, q22, q26_0, q26_1, q26_2, q26_3, q26_4, q26_5, q26_6, q26_7, q26_8, by rw [ht]; exact hP, hD⟩, hS.F ht⟩) hS.2.2 d_k8_111
