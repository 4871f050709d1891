/-! the law begins: the tables' classes, the constants, two new objects -/
section LWB
variable {p : Program} {e : Env} {s : State} {m : MethodId} {below : List Frame} {meth : Method} {c : Code} {b L : Nat} {xs : Nat → Int32}
theorem lw_known (hts : ∀ w ∈ lw_tbl, w.before #[Value.ref b] s = true) : ∃ Dg : va_G, ∀ (k : Nat) (q : vw_C), mj_CL[k]? = some q → u_Kn s q.1 q.2.1 q.2.2 (Dg.1 k) (Dg.2 k) := by
  have h0 : ∀ k : Nat, ∃ z : ClassId × (Nat → Nat), ∀ q : vw_C, mj_CL[k]? = some q → u_Kn s q.1 q.2.1 q.2.2 z.1 z.2 := by
    intro k
    match k with
    | 0 => obtain ⟨c, f, h⟩ := u_known (C := "UnbeatenHouseModel") (T := mF_0) (N := 77) (n := 77) hts mc_0.1 (hts _ ((lw_in_4 (List.mem_of_getElem? (i := 213) (by decide +kernel))))); exact ⟨(c, f), fun q hq => by cases hq; exact h⟩
    | 1 => obtain ⟨c, f, h⟩ := u_known (C := "UnbeatenHouse") (T := mF_1) (N := 16) (n := 16) hts mc_1.1 (hts _ ((lw_in_0 (List.mem_of_getElem? (i := 23) (by decide +kernel))))); exact ⟨(c, f), fun q hq => by cases hq; exact h⟩
    | 2 => obtain ⟨c, f, h⟩ := u_known (C := "UnbeatenHouse$Front") (T := mF_2) (N := 4) (n := 4) hts mc_2.1 (hts _ ((lw_in_1 (List.mem_of_getElem? (i := 39) (by decide +kernel))))); exact ⟨(c, f), fun q hq => by cases hq; exact h⟩
    | 3 => obtain ⟨c, f, h⟩ := u_known (C := "UnbeatenHouse$Gatherer") (T := mF_3) (N := 3) (n := 3) hts mc_3.1 (hts _ ((lw_in_1 (List.mem_of_getElem? (i := 10) (by decide +kernel))))); exact ⟨(c, f), fun q hq => by cases hq; exact h⟩
    | 4 => obtain ⟨c, f, h⟩ := u_known (C := "UnbeatenHouse$Judge") (T := mF_4) (N := 2) (n := 2) hts mc_4.1 (hts _ ((lw_in_1 (List.mem_of_getElem? (i := 16) (by decide +kernel))))); exact ⟨(c, f), fun q hq => by cases hq; exact h⟩
    | 5 => obtain ⟨c, f, h⟩ := u_known (C := "UnbeatenHouse$People") (T := mF_5) (N := 6) (n := 6) hts mc_5.1 (hts _ ((lw_in_1 (List.mem_of_getElem? (i := 148) (by decide +kernel))))); exact ⟨(c, f), fun q hq => by cases hq; exact h⟩
    | 6 => obtain ⟨c, f, h⟩ := u_known (C := "UnbeatenHouse$Picker") (T := mF_6) (N := 5) (n := 5) hts mc_6.1 (hts _ ((lw_in_1 (List.mem_of_getElem? (i := 66) (by decide +kernel))))); exact ⟨(c, f), fun q hq => by cases hq; exact h⟩
    | 7 => obtain ⟨c, f, h⟩ := u_known (C := "UnbeatenHouse$Pool") (T := mF_7) (N := 5) (n := 5) hts mc_7.1 (hts _ ((lw_in_0 (List.mem_of_getElem? (i := 227) (by decide +kernel))))); exact ⟨(c, f), fun q hq => by cases hq; exact h⟩
    | 8 => obtain ⟨c, f, h⟩ := u_known (C := "UnbeatenHouse$Reader") (T := mF_8) (N := 12) (n := 12) hts mc_8.1 (hts _ ((lw_in_0 (List.mem_of_getElem? (i := 95) (by decide +kernel))))); exact ⟨(c, f), fun q hq => by cases hq; exact h⟩
    | 9 => obtain ⟨c, f, h⟩ := u_known (C := "UnbeatenHouse$Rows") (T := mF_9) (N := 8) (n := 8) hts mc_9.1 (hts _ ((lw_in_0 (List.mem_of_getElem? (i := 185) (by decide +kernel))))); exact ⟨(c, f), fun q hq => by cases hq; exact h⟩
    | 10 => obtain ⟨c, f, h⟩ := u_known (C := "UnbeatenHouse$Sayings") (T := mF_10) (N := 8) (n := 8) hts mc_10.1 (hts _ ((lw_in_1 (List.mem_of_getElem? (i := 113) (by decide +kernel))))); exact ⟨(c, f), fun q hq => by cases hq; exact h⟩
    | 11 => obtain ⟨c, f, h⟩ := u_known (C := "UnbeatenHouse$Tale") (T := mF_11) (N := 11) (n := 11) hts mc_11.1 (hts _ ((lw_in_0 (List.mem_of_getElem? (i := 31) (by decide +kernel))))); exact ⟨(c, f), fun q hq => by cases hq; exact h⟩
    | 12 => obtain ⟨c, f, h⟩ := u_known (C := "UnbeatenHouse$Weighings") (T := mF_12) (N := 4) (n := 4) hts mc_12.1 (hts _ ((lw_in_1 (List.mem_of_getElem? (i := 90) (by decide +kernel))))); exact ⟨(c, f), fun q hq => by cases hq; exact h⟩
    | k + 13 => exact ⟨(0, fun _ => 0), fun q hq => by simp [mj_CL] at hq⟩
  obtain ⟨f, hf⟩ := Classical.axiomOfChoice h0
  exact ⟨(fun k => (f k).1, fun k => (f k).2), hf⟩
theorem lw_arr {ty : FieldType} {args : Array Value} (h : (Cond.arrayClass ty).before args s = true) : ∃ (cA : ClassId) (kA : Class) (comp : ClassId), s.vm.findClass ("[" ++ ty.toString) = some cA ∧ s.vm.classes[cA]? = some kA ∧ kA.kind = .array comp ty := by
  simp only [Cond.before, Cond.holds, Cond.value] at h
  cases e1 : s.vm.findClass ("[" ++ ty.toString) with
  | none => simp [e1] at h
  | some c =>
    cases e2 : s.vm.classes[c]? with
    | none => simp [e1, e2] at h
    | some k =>
      simp [e1, e2] at h
      cases e3 : k.kind with
      | array comp t => rw [e3] at h; simp at h; exact ⟨c, k, comp, rfl, e2, by rw [e3, h]⟩
      | _ => rw [e3] at h; simp at h
theorem lw_arrs (hts : ∀ w ∈ lw_tbl, w.before #[Value.ref b] s = true) : ∃ cI cJ cZ : ClassId, ∀ (k : Nat) (q : ClassId × FieldType), (mj_tys (cI, cJ, cZ))[k]? = some q → ArrOfT s q.1 q.2 ∧ va_RA s q.1 q.2 := by
  obtain ⟨cI, hcI⟩ : ∃ c : ClassId, ArrOfT s c .int ∧ va_RA s c .int := by
    obtain ⟨cA, kA, comp, h1, h2, h3⟩ := lw_arr (hts (Cond.arrayClass .int) ((lw_in_0 (List.mem_of_getElem? (i := 92) (by decide +kernel)))))
    exact ⟨cA, fun n z => ⟨fun k q => (by cases q), kA, h2, comp, h3⟩, h1⟩
  obtain ⟨cJ, hcJ⟩ : ∃ c : ClassId, ArrOfT s c .long ∧ va_RA s c .long := by
    obtain ⟨cA, kA, comp, h1, h2, h3⟩ := lw_arr (hts (Cond.arrayClass .long) ((lw_in_1 (List.mem_of_getElem? (i := 8) (by decide +kernel)))))
    exact ⟨cA, fun n z => ⟨fun k q => (by cases q), kA, h2, comp, h3⟩, h1⟩
  obtain ⟨cZ, hcZ⟩ : ∃ c : ClassId, ArrOfT s c .boolean ∧ va_RA s c .boolean := by
    obtain ⟨cA, kA, comp, h1, h2, h3⟩ := lw_arr (hts (Cond.arrayClass .boolean) ((lw_in_0 (List.mem_of_getElem? (i := 93) (by decide +kernel)))))
    exact ⟨cA, fun n z => ⟨fun k q => (by cases q), kA, h2, comp, h3⟩, h1⟩
  refine ⟨cI, cJ, cZ, fun k q hq => ?_⟩
  match k, hq with
  | 0, hq => cases hq; exact hcI
  | 1, hq => cases hq; exact hcJ
  | 2, hq => cases hq; exact hcZ
  | k + 3, hq => simp [mj_tys] at hq
abbrev lw_nr : Cond := Jvm.Cond.and given_1 narrow_1
set_option maxRecDepth 100000 in
theorem lw_elx : ∀ j : Nat, j < 102 → (flatC lw_nr)[22 + j]? = some (Cond.eq (.elem (.field (Term.string "UnbeatenHouse$Reader" 29) "java/lang/String" "value" "[B") (.int (Int32.ofNat j))) (.int (mj_ownB.getD j 0))) := by decide +kernel
theorem lw_el : ∀ j : Nat, j < 102 → Cond.eq (.elem (.field (Term.string "UnbeatenHouse$Reader" 29) "java/lang/String" "value" "[B") (.int (Int32.ofNat j))) (.int (mj_ownB.getD j 0)) ∈ flatC lw_nr := fun j hj => List.mem_of_getElem? (lw_elx j hj)
theorem lw_mox : ∀ j : Nat, j < 6 → (flatC lw_nr)[12 + j]? = some (Cond.eq (.elem (.static "UnbeatenHouse" "MOST" "[I") (.int (Int32.ofNat j))) (.int (mj_most j))) := by decide +kernel
theorem lw_mo : ∀ j : Nat, j < 6 → Cond.eq (.elem (.static "UnbeatenHouse" "MOST" "[I") (.int (Int32.ofNat j))) (.int (mj_most j)) ∈ flatC lw_nr := fun j hj => List.mem_of_getElem? (lw_mox j hj)
theorem lw_consts (hts : ∀ w ∈ lw_tbl, w.before #[Value.ref b] s = true) (hgv : lw_nr.before #[Value.ref b] s = true) : ∃ aK aV aM : Nat, vk_R "UnbeatenHouse$Reader" 29 "wish  row   knot  tie   thing rule  less  more  or    and   not   all   has   many  of    min   max   " aK s ∧ mj_str aK aV (fun q : Nat => s.heap.size ≤ q) s s.heap ∧ va_Z "UnbeatenHouse" "MOST" "[I" (.ref aM) (fun q : Nat => s.heap.size ≤ q) s s.heap ∧ va_T .int aM 6 mj_mf (fun q : Nat => s.heap.size ≤ q) s s.heap := by
  have hs := flat_of_before _ hgv
  have hA : ∀ a : Nat, a < s.heap.size → ¬ s.heap.size ≤ a := fun a h => by omega
  obtain ⟨adK, adV, hV, hK⟩ := vk_Sof (args := #[Value.ref b]) (s := s) (N := 1) (tm := fun _ => (Term.string "UnbeatenHouse$Reader" 29)) (len := [102]) (byt := [mj_ownB]) (A := fun q : Nat => s.heap.size ≤ q)
    (fun i hi => by cases Nat.lt_one_iff.mp hi; decide) (fun i hi => hs _ (by decide +kernel)) (fun i hi => hs _ (by decide +kernel)) (fun i hi => hs _ (by decide +kernel)) (fun i hi => by cases Nat.lt_one_iff.mp hi; exact hs _ (by decide +kernel))
    (fun i hi j hj => by cases Nat.lt_one_iff.mp hi; exact hs _ (lw_el j hj)) (fun i j hi hj h => absurd (show i = j by omega) h) hA
  obtain ⟨aM, hM1, hM2⟩ := va_Tof (args := #[Value.ref b]) (s := s) (tm := .static "UnbeatenHouse" "MOST" "[I") (ty := .int) (N := 6) (f := mj_mf) (A := fun q : Nat => s.heap.size ≤ q) (by decide) (hs _ (by decide +kernel)) (va_eqt (hs _ (by decide +kernel))) (fun j hj => va_eqt (hs _ (lw_mo j hj))) hA
  have hs0 : vk_S 1 [102] [mj_ownB] (fun _ => adK 0) (fun _ => adV 0) (fun q : Nat => s.heap.size ≤ q) s s.heap := ⟨fun i hi => by cases Nat.lt_one_iff.mp hi; exact hV.1 0 hi, fun i j hi hj _ => by omega⟩
  exact ⟨adK 0, adV 0, aM, vk_R.of (hts _ ((lw_in_0 (List.mem_of_getElem? (i := 102) (by decide +kernel))))) (hK 0 (by decide)), ⟨hs0, va_Zof (hts _ ((lw_in_0 (List.mem_of_getElem? (i := 112) (by decide +kernel))))) (hts _ ((lw_in_0 (List.mem_of_getElem? (i := 4) (by decide +kernel))))) (va_eqt (hs _ (by decide +kernel))) hA, va_Zqof (hts _ ((lw_in_0 (List.mem_of_getElem? (i := 120) (by decide +kernel))))) (hts _ ((lw_in_0 (List.mem_of_getElem? (i := 6) (by decide +kernel))))) (hs _ (by decide +kernel)) hA⟩, va_Zof (hts _ ((lw_in_2 (List.mem_of_getElem? (i := 36) (by decide +kernel))))) (hts _ ((lw_in_0 (List.mem_of_getElem? (i := 1) (by decide +kernel))))) hM1 hA, hM2⟩
end LWB
def h1_L : List (Nat → Int32) := [fun k => ([0, 0, 0, 0, 0, 0, 0, 0, 0, (-3)] : List Int32).getD k 0, fun _ => 0, fun _ => 0, fun _ => 0, fun _ => 0, fun _ => 0, fun _ => 0, fun _ => 0, fun _ => 0, fun _ => 0, fun _ => 0, fun k => ([0, 0, 0, 0, 0, 0, 0, 0, 0, 0, 0, (-1)] : List Int32).getD k 0, rd_f 17 0, fun _ => 0, fun _ => 0, fun _ => 0, fun _ => 0, fun _ => 0, fun _ => 0, fun _ => 0, fun _ => 0, fun _ => 0, fun _ => 0, fun _ => 0, fun _ => 0, fun _ => 0, fun _ => 0, fun _ => 0, fun _ => 0, fun _ => 0, fun _ => 0, fun _ => 0, fun _ => 0, fun _ => 0, fun _ => 0, fun _ => 0, fun _ => 0, fun _ => 0, fun k => ([(-1)] : List Int32).getD k 0, fun _ => 0, fun _ => 0, fun k => ([(-1)] : List Int32).getD k 0, fun _ => 0, fun _ => 0, fun k => ([(-1)] : List Int32).getD k 0, fun _ => 0, fun _ => 0, fun _ => 0, fun _ => 0, fun _ => 0, fun _ => 0, fun k => ([4] : List Int32).getD k 0, fun _ => 0, fun _ => 0, fun _ => 0, fun _ => 0, fun _ => 0, fun _ => 0, fun _ => 0, fun _ => 0, fun _ => 0, fun _ => 0, fun _ => 0]
def h1_I : Nat → Nat → Int32 := fun q => h1_L.getD q (fun _ => 0)
def h1_0 : mj_H := (h1_I, fun _ _ => 0, mj_R1)
def h2_L : List (Nat → Int32) := [fun k => ([0, 0, 0, 0, 0, 0, 0, 0, 0, (-1), 0, (-1), 0, 0, 0, 0, 0, 0, 0, 0, 0, 0, 0, 0, 0, 0, 0, 0, 0, 0, 0, 0, 0, 0, 0, 1, 0, 0, 0, 0, 0, 0, 0, 0, 0, 0, 0, 0, 0, 0, 0, 0, 0, 0, 0, 0, 0, 0, (-1), 0, 0, 0, 0, 4] : List Int32).getD k 0, fun _ => 0, fun _ => 0, fun _ => 0, fun _ => 0, fun _ => 0, fun _ => 0, fun _ => 0, fun _ => 0, fun _ => 0, fun _ => 0, fun _ => 0, fun _ => 0, fun _ => 0, fun _ => 0, fun _ => 0, fun _ => 0, fun _ => 0, fun _ => 0, fun _ => 0, fun _ => 0, fun _ => 0, fun _ => 0, fun _ => 0, fun _ => 0, fun _ => 0, fun _ => 0, fun _ => 0, fun _ => 0, fun _ => 0, fun _ => 0, fun _ => 0, fun _ => 0, fun _ => 0, fun _ => 0, fun _ => 0, fun _ => 0, fun _ => 0, fun _ => 0, fun _ => 0, fun _ => 0, fun _ => 0, fun _ => 0, fun _ => 0, fun _ => 0, fun _ => 0, fun _ => 0, fun _ => 0, fun _ => 0, fun _ => 0]
def h2_I : Nat → Nat → Int32 := fun q => h2_L.getD q (fun _ => 0)
def h2_0 : mj_H := (h2_I, fun _ _ => 0, mj_R2)
def lw_ad (aM : Nat) (l : List Nat) (k : Nat) : Nat := match Nat.beq k 900 with
  | true => aM
  | false => l.getD k 0
set_option maxRecDepth 1000000 in
set_option maxHeartbeats 8000000 in
theorem lw_W1 (cI cJ cZ aM z0 z1 z2 z3 z4 z5 z6 z7 z8 z9 z10 z11 z12 z13 z14 z15 z16 z17 z18 z19 z20 z21 z22 z23 z24 z25 z26 z27 z28 z29 z30 z31 z32 z33 z34 z35 z36 z37 z38 z39 z40 z41 z42 z43 z44 z45 z46 z47 z48 z49 z50 z51 z52 z53 z54 z55 z56 z57 z58 z59 z60 z61 z62 : Nat) : [(z0, .inr (1, [.int 0, .ref z1, .ref z11, .ref z24, .ref z29, .ref z33, .ref z38, .ref z41, .ref z44, .int (-3), .ref z47, .ref z51, .ref z53, .ref z58, .long 0, .long 0])), (z1, .inr (11, [.int 0, .ref z2, .ref z3, .ref z4, .ref z5, .ref z6, .ref z7, .ref z8, .ref z9, .int 0, .ref z10])), (z2, .inl (cI, 6, .inl (fun _ => 0))), (z3, .inl (cI, 240, .inl (fun _ => 0))), (z4, .inl (cZ, 4, .inl (fun _ => 0))), (z5, .inl (cI, 960, .inl (fun _ => 0))), (z6, .inl (cI, 160, .inl (fun _ => 0))), (z7, .inl (cI, 24, .inl (fun _ => 0))), (z8, .inl (cI, 24, .inl (fun _ => 0))), (z9, .inl (cI, 900, .inl (fun _ => 0))), (z10, .inl (cI, 12, .inl (fun _ => 0))), (z11, .inr (8, [.ref z12, .ref z13, .int 0, .ref z14, .int 0, .int 0, .int 0, .int 0, .int 0, .int 0, .int 0, .int (-1)])), (z12, .inl (cI, 17, .inl (rd_f 17 0))), (z13, .inl (cI, 900, .inl (fun _ => 0))), (z14, .inr (11, [.int 0, .ref z15, .ref z16, .ref z17, .ref z18, .ref z19, .ref z20, .ref z21, .ref z22, .int 0, .ref z23])), (z15, .inl (cI, 6, .inl (fun _ => 0))), (z16, .inl (cI, 240, .inl (fun _ => 0))), (z17, .inl (cZ, 4, .inl (fun _ => 0))), (z18, .inl (cI, 960, .inl (fun _ => 0))), (z19, .inl (cI, 160, .inl (fun _ => 0))), (z20, .inl (cI, 24, .inl (fun _ => 0))), (z21, .inl (cI, 24, .inl (fun _ => 0))), (z22, .inl (cI, 900, .inl (fun _ => 0))), (z23, .inl (cI, 12, .inl (fun _ => 0))), (z24, .inr (9, [.int 0, .int 0, .ref z25, .ref z26, .ref z27, .long 0, .long 0, .ref z28])), (z25, .inl (cI, 160, .inl (fun _ => 0))), (z26, .inl (cI, 160, .inl (fun _ => 0))), (z27, .inl (cI, 160, .inl (fun _ => 0))), (z28, .inl (cI, 40, .inl (fun _ => 0))), (z29, .inr (7, [.ref z30, .ref z31, .ref z32, .int 0, .int 0])), (z30, .inl (cI, 26244, .inl (fun _ => 0))), (z31, .inl (cJ, 6561, .inr (.inl (fun _ => 0)))), (z32, .inl (cI, 6561, .inl (fun _ => 0))), (z33, .inr (3, [.ref z34, .ref z36, .ref z37])), (z34, .inr (4, [.ref z35, .int 0])), (z35, .inl (cI, 64, .inl (fun _ => 0))), (z36, .inl (cI, 40, .inl (fun _ => 0))), (z37, .inl (cI, 4, .inl (fun _ => 0))), (z38, .inr (2, [.int (-1), .int 0, .ref z39, .ref z40])), (z39, .inl (cI, 400, .inl (fun _ => 0))), (z40, .inl (cJ, 100, .inr (.inl (fun _ => 0)))), (z41, .inr (2, [.int (-1), .int 0, .ref z42, .ref z43])), (z42, .inl (cI, 400, .inl (fun _ => 0))), (z43, .inl (cJ, 100, .inr (.inl (fun _ => 0)))), (z44, .inr (2, [.int (-1), .int 0, .ref z45, .ref z46])), (z45, .inl (cI, 400, .inl (fun _ => 0))), (z46, .inl (cJ, 100, .inr (.inl (fun _ => 0)))), (z47, .inr (6, [.int 0, .ref z48, .ref z49, .ref z50, .int 0])), (z48, .inl (cI, 576, .inl (fun _ => 0))), (z49, .inl (cI, 16, .inl (fun _ => 0))), (z50, .inl (cI, 16, .inl (fun _ => 0))), (z51, .inr (12, [.int 4, .int 0, .int 0, .ref z52])), (z52, .inl (cI, 1820, .inl (fun _ => 0))), (z53, .inr (10, [.int 0, .ref z54, .ref z55, .ref z56, .ref z57, .int 0, .int 0, .int 0])), (z54, .inl (cI, 12, .inl (fun _ => 0))), (z55, .inl (cI, 12, .inl (fun _ => 0))), (z56, .inl (cJ, 1600, .inr (.inl (fun _ => 0)))), (z57, .inl (cZ, 4096, .inl (fun _ => 0))), (z58, .inr (5, [.ref z59, .ref z60, .ref z61, .ref z62, .int 0, .long 0])), (z59, .inl (cI, 24, .inl (fun _ => 0))), (z60, .inl (cZ, 6, .inl (fun _ => 0))), (z61, .inl (cJ, 6, .inr (.inl (fun _ => 0)))), (z62, .inl (cI, 240, .inl (fun _ => 0)))] = mj_W mj_S1 mj_TY (cI, cJ, cZ) (lw_ad aM [z0, z1, z2, z3, z4, z5, z6, z7, z8, z9, z10, z11, z12, z13, z14, z15, z16, z17, z18, z19, z20, z21, z22, z23, z24, z25, z26, z27, z28, z29, z30, z31, z32, z33, z34, z35, z36, z37, z38, z39, z40, z41, z42, z43, z44, z45, z46, z47, z48, z49, z50, z51, z52, z53, z54, z55, z56, z57, z58, z59, z60, z61, z62]) h1_0 := rfl
set_option maxRecDepth 1000000 in
set_option maxHeartbeats 8000000 in
theorem lw_W2 (cI cJ cZ aM z0 z1 z2 z3 z4 z5 z6 z7 z8 z9 z10 z11 z12 z13 z14 z15 z16 z17 z18 z19 z20 z21 z22 z23 z24 z25 z26 z27 z28 z29 z30 z31 z32 z33 z34 z35 z36 z37 z38 z39 z40 z41 z42 z43 z44 z45 z46 z47 z48 z49 : Nat) : [(z0, .inr (0, [.ref z1, .int 0, .int 0, .int 0, .int 0, .int 0, .int 0, .long 0, .int 0, .int (-1), .int 0, .int (-1), .int 0, .ref z2, .ref z3, .ref z4, .ref z5, .ref z6, .ref z7, .ref z8, .ref z9, .ref z10, .ref z11, .ref z12, .ref z13, .ref z14, .ref z15, .ref z16, .ref z17, .ref z18, .ref z19, .ref z20, .ref z21, .ref z22, .int 0, .int 1, .ref z23, .ref z24, .ref z25, .ref z26, .ref z27, .int 0, .int 0, .ref z28, .int 0, .int 0, .long 0, .long 0, .int 0, .ref z29, .ref z30, .ref z31, .ref z32, .ref z33, .ref z34, .ref z35, .int 0, .ref z36, .int (-1), .int 0, .ref z37, .ref z38, .ref z39, .int 4, .ref z40, .int 0, .ref z41, .ref z42, .int 0, .ref z43, .ref z44, .int 0, .ref z45, .ref z46, .ref z47, .ref z48, .ref z49])), (z1, .inl (cI, 900, .inl (fun _ => 0))), (z2, .inl (cI, 2, .inl (fun _ => 0))), (z3, .inl (cI, 2, .inl (fun _ => 0))), (z4, .inl (cI, 2, .inl (fun _ => 0))), (z5, .inl (cI, 2, .inl (fun _ => 0))), (z6, .inl (cI, 2, .inl (fun _ => 0))), (z7, .inl (cI, 2, .inl (fun _ => 0))), (z8, .inl (cJ, 8, .inr (.inl (fun _ => 0)))), (z9, .inl (cZ, 8, .inl (fun _ => 0))), (z10, .inl (cJ, 80, .inr (.inl (fun _ => 0)))), (z11, .inl (cI, 320, .inl (fun _ => 0))), (z12, .inl (cI, 320, .inl (fun _ => 0))), (z13, .inl (cJ, 20, .inr (.inl (fun _ => 0)))), (z14, .inl (cI, 48, .inl (fun _ => 0))), (z15, .inl (cI, 48, .inl (fun _ => 0))), (z16, .inl (cI, 192, .inl (fun _ => 0))), (z17, .inl (cJ, 24, .inr (.inl (fun _ => 0)))), (z18, .inl (cI, 96, .inl (fun _ => 0))), (z19, .inl (cI, 24, .inl (fun _ => 0))), (z20, .inl (cI, 24, .inl (fun _ => 0))), (z21, .inl (cI, 1800, .inl (fun _ => 0))), (z22, .inl (cI, 1800, .inl (fun _ => 0))), (z23, .inl (cI, 20, .inl (fun _ => 0))), (z24, .inl (cI, 20, .inl (fun _ => 0))), (z25, .inl (cZ, 20, .inl (fun _ => 0))), (z26, .inl (cI, 20, .inl (fun _ => 0))), (z27, .inl (cI, 20, .inl (fun _ => 0))), (z28, .inl (cI, 500, .inl (fun _ => 0))), (z29, .inl (cI, 32768, .inl (fun _ => 0))), (z30, .inl (cI, 8192, .inl (fun _ => 0))), (z31, .inl (cI, 81920, .inl (fun _ => 0))), (z32, .inl (cI, 4, .inl (fun _ => 0))), (z33, .inl (cI, 10, .inl (fun _ => 0))), (z34, .inl (cI, 40, .inl (fun _ => 0))), (z35, .inl (cI, 10, .inl (fun _ => 0))), (z36, .inl (cJ, 950, .inr (.inl (fun _ => 0)))), (z37, .inl (cI, 400, .inl (fun _ => 0))), (z38, .inl (cI, 100, .inl (fun _ => 0))), (z39, .inl (cI, 1000, .inl (fun _ => 0))), (z40, .inl (cI, 4, .inl (fun _ => 0))), (z41, .inl (cI, 16, .inl (fun _ => 0))), (z42, .inl (cI, 16, .inl (fun _ => 0))), (z43, .inl (cI, 12, .inl (fun _ => 0))), (z44, .inl (cI, 12, .inl (fun _ => 0))), (z45, .inl (cI, 18240, .inl (fun _ => 0))), (z46, .inl (cJ, 456, .inr (.inl (fun _ => 0)))), (z47, .inl (cI, 456, .inl (fun _ => 0))), (z48, .inl (cI, 24, .inl (fun _ => 0))), (z49, .inl (cJ, 6, .inr (.inl (fun _ => 0))))] = mj_W mj_S2 mj_TY (cI, cJ, cZ) (lw_ad aM [z0, z1, z2, z3, z4, z5, z6, z7, z8, z9, z10, z11, z12, z13, z14, z15, z16, z17, z18, z19, z20, z21, z22, z23, z24, z25, z26, z27, z28, z29, z30, z31, z32, z33, z34, z35, z36, z37, z38, z39, z40, z41, z42, z43, z44, z45, z46, z47, z48, z49]) h2_0 := rfl
theorem lw_inj {S : mj_S} {TY : Nat → Nat → FieldType} {T3 : Nat × Nat × Nat} {ad : Nat → Nat} {g : mj_H} {A : Nat → Prop} (h : va_D A (mj_W S TY T3 ad g)) : (∀ i j, i < S.length → j < S.length → ad i = ad j → i = j) ∧ ∀ i, i < S.length → A (ad i) := by
  have at' : ∀ i, i < S.length → (mj_W S TY T3 ad g)[i]? = some (ad i, mj_ce TY T3 ad g i (S.getD i (0, 0))) := fun i hi => mj_W_at (by rw [List.getD_eq_getElem?_getD, List.getElem?_eq_getElem hi]; rfl)
  exact ⟨fun i j hi hj e => h.1 i j _ _ (at' i hi) (at' j hj) e, fun i hi => h.2 i _ (at' i hi)⟩
theorem lw_Plt {S : mj_S} {TY : Nat → Nat → FieldType} {Dg : va_G} {T3 : Nat × Nat × Nat} {ad : Nat → Nat} {g : mj_H} {H : Heap} (h : va_P Dg mj_CL (mj_W S TY T3 ad g) H) {i : Nat} (hi : i < S.length) : ad i < H.size := by
  have e := mj_W_at (TY := TY) (T3 := T3) (ad := ad) (h := g) (q := i) (z := S.getD i (0, 0)) (S := S) (by rw [List.getD_eq_getElem?_getD, List.getElem?_eq_getElem hi]; rfl)
  exact (h i _ e).lt
set_option maxHeartbeats 8000000 in
set_option maxRecDepth 1000000 in
theorem lw_pk1 {Dg : va_G} {cI cJ cZ aM q0 : Nat} {A : Nat → Prop} {u : Unit} {t : State} (h : at_k1 Dg cI cJ cZ A q0 u t) : ∃ ad : Nat → Nat, ad 0 = q0 ∧ ad 900 = aM ∧ va_P Dg mj_CL (mj_W mj_S1 mj_TY (cI, cJ, cZ) ad h1_0) t.heap ∧ va_D A (mj_W mj_S1 mj_TY (cI, cJ, cZ) ad h1_0) := by
  obtain ⟨z1, z2, z3, z4, z5, z6, z7, z8, z9, z10, z11, z12, z13, z14, z15, z16, z17, z18, z19, z20, z21, z22, z23, z24, z25, z26, z27, z28, z29, z30, z31, z32, z33, z34, z35, z36, z37, z38, z39, z40, z41, z42, z43, z44, z45, z46, z47, z48, z49, z50, z51, z52, z53, z54, z55, z56, z57, z58, z59, z60, z61, z62, hP, hD⟩ := h
  have e := lw_W1 cI cJ cZ aM q0 z1 z2 z3 z4 z5 z6 z7 z8 z9 z10 z11 z12 z13 z14 z15 z16 z17 z18 z19 z20 z21 z22 z23 z24 z25 z26 z27 z28 z29 z30 z31 z32 z33 z34 z35 z36 z37 z38 z39 z40 z41 z42 z43 z44 z45 z46 z47 z48 z49 z50 z51 z52 z53 z54 z55 z56 z57 z58 z59 z60 z61 z62
  refine ⟨lw_ad aM [q0, z1, z2, z3, z4, z5, z6, z7, z8, z9, z10, z11, z12, z13, z14, z15, z16, z17, z18, z19, z20, z21, z22, z23, z24, z25, z26, z27, z28, z29, z30, z31, z32, z33, z34, z35, z36, z37, z38, z39, z40, z41, z42, z43, z44, z45, z46, z47, z48, z49, z50, z51, z52, z53, z54, z55, z56, z57, z58, z59, z60, z61, z62], rfl, rfl, ?_⟩
  rw [← e]
  exact ⟨hP, hD⟩
set_option maxHeartbeats 8000000 in
set_option maxRecDepth 1000000 in
theorem lw_pk2 {Dg : va_G} {cI cJ cZ aM q0 : Nat} {A : Nat → Prop} {u : Unit} {t : State} (h : at_k0 Dg cI cJ cZ A q0 u t) : ∃ ad : Nat → Nat, ad 0 = q0 ∧ ad 900 = aM ∧ va_P Dg mj_CL (mj_W mj_S2 mj_TY (cI, cJ, cZ) ad h2_0) t.heap ∧ va_D A (mj_W mj_S2 mj_TY (cI, cJ, cZ) ad h2_0) := by
  obtain ⟨z1, z2, z3, z4, z5, z6, z7, z8, z9, z10, z11, z12, z13, z14, z15, z16, z17, z18, z19, z20, z21, z22, z23, z24, z25, z26, z27, z28, z29, z30, z31, z32, z33, z34, z35, z36, z37, z38, z39, z40, z41, z42, z43, z44, z45, z46, z47, z48, z49, hP, hD⟩ := h
  have e := lw_W2 cI cJ cZ aM q0 z1 z2 z3 z4 z5 z6 z7 z8 z9 z10 z11 z12 z13 z14 z15 z16 z17 z18 z19 z20 z21 z22 z23 z24 z25 z26 z27 z28 z29 z30 z31 z32 z33 z34 z35 z36 z37 z38 z39 z40 z41 z42 z43 z44 z45 z46 z47 z48 z49
  refine ⟨lw_ad aM [q0, z1, z2, z3, z4, z5, z6, z7, z8, z9, z10, z11, z12, z13, z14, z15, z16, z17, z18, z19, z20, z21, z22, z23, z24, z25, z26, z27, z28, z29, z30, z31, z32, z33, z34, z35, z36, z37, z38, z39, z40, z41, z42, z43, z44, z45, z46, z47, z48, z49], rfl, rfl, ?_⟩
  rw [← e]
  exact ⟨hP, hD⟩
set_option maxHeartbeats 8000000 in
set_option maxRecDepth 1000000 in
theorem lw_begin {p : Program} {e : Env} {s : State} {m : MethodId} {below : List Frame} {meth : Method} {c : Code} (l : Launch) {b L : Nat} {xs : Nat → Int32} (C0 : lw_At p s m meth c b L xs)
    (kk : ∀ (Dg : va_G) (T3 : Nat × Nat × Nat) (ad1 ad2 : Nat → Nat), va_K Dg mj_CL (mj_tys T3) s → lw_Ad s ad1 ad2 → lw_St p l e s m b below meth c Dg T3 ad1 ad2 18 [(0, .ref b), (1, .ref (ad1 0)), (2, .ref (ad2 0)), (3, .int (nI 0))] [] h1_0 h2_0) :
    W p l e room_1 s m #[Value.ref b] below meth c s.heap [] 0 0 (lw_Z below #[Value.ref b] s) (entryFrame m ([Value.ref b] : List Value).toArray 4) := by
  obtain ⟨hx, hb, hr, hml, hown, hts, hX, hbl, hlocks, hgv⟩ := id C0
  have hts2 : ∀ w ∈ lw_tbl.filter goodWord, w.before #[Value.ref b] s = true := fun w hw => hts w (List.mem_filter.mp hw).1
  have hN : ∀ w ∈ lw_tbl, mj_nest w = true → va_Nw w s := by
    intro w hw hn
    have h1 := hts w hw
    cases w <;> first | exact va_Nw.of rfl h1 | exact absurd (show false = true from hn) (by decide)
  obtain ⟨Dg, hKc⟩ := lw_known hts
  obtain ⟨cI, cJ, cZ, hT3⟩ := lw_arrs hts
  have hK : va_K Dg mj_CL (mj_tys (cI, cJ, cZ)) s := ⟨hKc, hT3⟩
  obtain ⟨aK, aV, aM, hRR, hTT, hMZ, hMT⟩ := lw_consts hts hgv
  have hA : ∀ q : Nat, s.heap.size ≤ q → (fun q : Nat => s.heap.size ≤ q) q := fun _ h => h
  have hS : va_S (fun q : Nat => s.heap.size ≤ q) s.heap s.heap [] := va_S.rf
  have hP : va_P Dg mj_CL [] s.heap := fun k q h => by simp at h
  have hD : va_D (fun q : Nat => s.heap.size ≤ q) [] := ⟨fun i j p q h => by simp at h, fun k q h => by simp at h⟩
  have hl := lv_entry ([.ref b]) (n := 4) (Nat.le_of_ble_eq_true rfl)
  rw [lg_entry_eq]
  generalize (lg_sl ([.ref b]) ++ List.replicate (4 - (lg_sl ([.ref b])).length) Slot.unset).toArray = ls at hl ⊢
  have hl : lv_has ls 4 [(0, .ref b)] := hl
  refine va_new (ci := 1) (fs := [.int 0, .null, .null, .null, .null, .null, .null, .null, .null, .int 0, .null, .null, .null, .null, .long 0, .long 0]) (C := "UnbeatenHouse") (T := mF_1) (N := 16) hx hb hts2 (mj_lays mc_1.1) (mj_TY 1) mc_1.2.1 hown (hts2 _ (mj_good_in ((lw_in_0 (List.mem_of_getElem? (i := 22) (by decide +kernel)))) rfl)) (hts2 _ (mj_good_in ((lw_in_0 (List.mem_of_getElem? (i := 23) (by decide +kernel)))) rfl)) (hts2 _ (mj_good_in ((lw_in_0 (List.mem_of_getElem? (i := 1) (by decide +kernel)))) rfl)) hK hP hD hS hA rfl (by decide +kernel) (Nat.le_of_ble_eq_true rfl) (Nat.le_of_ble_eq_true rfl) d_law_0 (fun q0 H hP hD hS => ?_)
  have hP : va_P Dg mj_CL [(q0, .inr (1, [.int 0, .null, .null, .null, .null, .null, .null, .null, .null, .int 0, .null, .null, .null, .null, .long 0, .long 0]))] H := hP
  have hD : va_D _ [(q0, .inr (1, [.int 0, .null, .null, .null, .null, .null, .null, .null, .null, .int 0, .null, .null, .null, .null, .long 0, .long 0]))] := hD
  refine lv_dup hx hb d_law_3 rfl ?_
  have hFc := va_free (wc := [(q0, .inr (1, [.int 0, .null, .null, .null, .null, .null, .null, .null, .null, .int 0, .null, .null, .null, .null, .long 0, .long 0]))]) hD hS hA [0] rfl
  refine va_callv (va_runI (As := []) (rest := [.ref q0]) ⟨hx, hb, hml, hown, hts2⟩ (c_k1 l Dg cI cJ cZ aK aV q0 H.size) (cwI 0 hts2 (mj_goodIn my_k1) rfl rfl rfl (hts2 _ (mj_good_in ((lw_in_0 (List.mem_of_getElem? (i := 1) (by decide +kernel)))) rfl)) (hts2 _ (mj_good_in ((lw_in_0 (List.mem_of_getElem? (i := 24) (by decide +kernel)))) rfl)) (hts2 _ (mj_good_in ((lw_in_0 (List.mem_of_getElem? (i := 25) (by decide +kernel)))) rfl)) rfl ⟨by decide +kernel, by decide +kernel, by decide +kernel⟩ ⟨Nat.le_of_ble_eq_true rfl, Nat.le_of_ble_eq_true rfl⟩) ⟨mj_kblindS, fun U hU hW => ⟨⟨rfl, by rw [hU], by rw [hU]; exact hP, va_K.moved hW.alike hK, hD.weaken (fun _ _ _ _ => trivial), mj_nw hW hN⟩, vk_R.warm hW hRR, mj_strTo hW hU hTT hS hFc⟩⟩ rfl rfl hl.1 rfl (lv_room (Nat.le_of_ble_eq_true rfl)) d_law_4 ⟨Nat.le_of_ble_eq_true rfl, Nat.le_of_ble_eq_true rfl⟩) hS (fun q _ h => hFc q h) hFc (fun u t H1 locs ht hvm hw hB hz1 hk1 hS => ?_)
  obtain ⟨ad1, hd0, hd9, hP1, hD1⟩ := lw_pk1 (aM := aM) hB
  rw [ht] at hP1
  obtain ⟨hP, hD⟩ := va_join (wr := []) (w1 := (mj_W mj_S1 mj_TY (cI, cJ, cZ) ad1 h1_0)) hP hD [0] [] rfl rfl (by decide) (by decide) hk1 hFc hP1 hD1
  have hP : va_P Dg mj_CL (mj_W mj_S1 mj_TY (cI, cJ, cZ) ad1 h1_0) H1 := hP
  have hD : va_D _ (mj_W mj_S1 mj_TY (cI, cJ, cZ) ad1 h1_0) := hD
  clear hP1 hD1
  refine W.eq (g2 := F0 m 7 ls [.ref (ad1 0)]) (by rw [hd0]) ?_
  refine lv_astore_n (i := 1) (lv' := [(1, .ref (ad1 0)), (0, .ref b)]) hx hb d_law_7 rfl hl (by decide) rfl (fun ls hl => ?_)
  have hMO1 : mj_MO ad1 (fun q : Nat => s.heap.size ≤ q) s s.heap := by unfold mj_MO; rw [hd9]; exact ⟨hMZ, hMT⟩
  refine va_forget (fun q hq => hS.2.2 q hq) ?_
  have hSa := hS
  have hPa := hP
  obtain ⟨hDi, hDn⟩ := lw_inj hD
  clear hP hD hS hA hFc hk1 hd0 hd9 ht
  have hA : ∀ q : Nat, H1.size ≤ q → (fun q : Nat => H1.size ≤ q) q := fun _ h => h
  have hS : va_S (fun q : Nat => H1.size ≤ q) H1 H1 [] := va_S.rf
  have hP : va_P Dg mj_CL [] H1 := fun k q h => by simp at h
  have hD : va_D (fun q : Nat => H1.size ≤ q) [] := ⟨fun i j p q h => by simp at h, fun k q h => by simp at h⟩
  generalize hHa : H1 = Ha at hA hS hP hD hPa hSa ⊢
  clear hHa
  refine va_new (ci := 0) (fs := [.null, .int 0, .int 0, .int 0, .int 0, .int 0, .int 0, .long 0, .int 0, .int 0, .int 0, .int 0, .int 0, .null, .null, .null, .null, .null, .null, .null, .null, .null, .null, .null, .null, .null, .null, .null, .null, .null, .null, .null, .null, .null, .int 0, .int 0, .null, .null, .null, .null, .null, .int 0, .int 0, .null, .int 0, .int 0, .long 0, .long 0, .int 0, .null, .null, .null, .null, .null, .null, .null, .int 0, .null, .int 0, .int 0, .null, .null, .null, .int 0, .null, .int 0, .null, .null, .int 0, .null, .null, .int 0, .null, .null, .null, .null, .null]) (C := "UnbeatenHouseModel") (T := mF_0) (N := 77) hx hb hts2 (mj_lays mc_0.1) (mj_TY 0) mc_0.2.1 hown (hts2 _ (mj_good_in ((lw_in_4 (List.mem_of_getElem? (i := 212) (by decide +kernel)))) rfl)) (hts2 _ (mj_good_in ((lw_in_4 (List.mem_of_getElem? (i := 213) (by decide +kernel)))) rfl)) (hts2 _ (mj_good_in ((lw_in_0 (List.mem_of_getElem? (i := 17) (by decide +kernel)))) rfl)) hK hP hD hS hA rfl (by decide +kernel) (Nat.le_of_ble_eq_true rfl) (Nat.le_of_ble_eq_true rfl) d_law_8 (fun q8 H hP hD hS => ?_)
  have hP : va_P Dg mj_CL [(q8, .inr (0, [.null, .int 0, .int 0, .int 0, .int 0, .int 0, .int 0, .long 0, .int 0, .int 0, .int 0, .int 0, .int 0, .null, .null, .null, .null, .null, .null, .null, .null, .null, .null, .null, .null, .null, .null, .null, .null, .null, .null, .null, .null, .null, .int 0, .int 0, .null, .null, .null, .null, .null, .int 0, .int 0, .null, .int 0, .int 0, .long 0, .long 0, .int 0, .null, .null, .null, .null, .null, .null, .null, .int 0, .null, .int 0, .int 0, .null, .null, .null, .int 0, .null, .int 0, .null, .null, .int 0, .null, .null, .int 0, .null, .null, .null, .null, .null]))] H := hP
  have hD : va_D _ [(q8, .inr (0, [.null, .int 0, .int 0, .int 0, .int 0, .int 0, .int 0, .long 0, .int 0, .int 0, .int 0, .int 0, .int 0, .null, .null, .null, .null, .null, .null, .null, .null, .null, .null, .null, .null, .null, .null, .null, .null, .null, .null, .null, .null, .null, .int 0, .int 0, .null, .null, .null, .null, .null, .int 0, .int 0, .null, .int 0, .int 0, .long 0, .long 0, .int 0, .null, .null, .null, .null, .null, .null, .null, .int 0, .null, .int 0, .int 0, .null, .null, .null, .int 0, .null, .int 0, .null, .null, .int 0, .null, .null, .int 0, .null, .null, .null, .null, .null]))] := hD
  refine lv_dup hx hb d_law_11 rfl ?_
  have hFc := va_free (wc := [(q8, .inr (0, [.null, .int 0, .int 0, .int 0, .int 0, .int 0, .int 0, .long 0, .int 0, .int 0, .int 0, .int 0, .int 0, .null, .null, .null, .null, .null, .null, .null, .null, .null, .null, .null, .null, .null, .null, .null, .null, .null, .null, .null, .null, .null, .int 0, .int 0, .null, .null, .null, .null, .null, .int 0, .int 0, .null, .int 0, .int 0, .long 0, .long 0, .int 0, .null, .null, .null, .null, .null, .null, .null, .int 0, .null, .int 0, .int 0, .null, .null, .null, .int 0, .null, .int 0, .null, .null, .int 0, .null, .null, .int 0, .null, .null, .null, .null, .null]))]) hD hS hA [0] rfl
  refine va_callv (va_runI (As := []) (rest := [.ref q8]) ⟨hx, hb, hml, hown, hts2⟩ (c_k0 l Dg cI cJ cZ q8 H.size) (cwI 0 hts2 (mj_goodIn my_k0) rfl rfl rfl (hts2 _ (mj_good_in ((lw_in_0 (List.mem_of_getElem? (i := 17) (by decide +kernel)))) rfl)) (hts2 _ (mj_good_in ((lw_in_4 (List.mem_of_getElem? (i := 214) (by decide +kernel)))) rfl)) (hts2 _ (mj_good_in ((lw_in_4 (List.mem_of_getElem? (i := 215) (by decide +kernel)))) rfl)) rfl ⟨by decide +kernel, by decide +kernel, by decide +kernel⟩ ⟨Nat.le_of_ble_eq_true rfl, Nat.le_of_ble_eq_true rfl⟩) ⟨mj_kblind, fun U hU hW => ⟨rfl, by rw [hU], by rw [hU]; exact hP, va_K.moved hW.alike hK, hD.weaken (fun _ _ _ _ => trivial), mj_nw hW hN⟩⟩ rfl rfl hl.1 rfl (lv_room (Nat.le_of_ble_eq_true rfl)) d_law_12 ⟨Nat.le_of_ble_eq_true rfl, Nat.le_of_ble_eq_true rfl⟩) hS (fun q _ h => hFc q h) hFc (fun u t H1 locs ht hvm hw hB hz1 hk1 hS => ?_)
  obtain ⟨ad2, hd0, hd9, hP1, hD1⟩ := lw_pk2 (aM := aM) hB
  rw [ht] at hP1
  obtain ⟨hP, hD⟩ := va_join (wr := []) (w1 := (mj_W mj_S2 mj_TY (cI, cJ, cZ) ad2 h2_0)) hP hD [0] [] rfl rfl (by decide) (by decide) hk1 hFc hP1 hD1
  have hP : va_P Dg mj_CL (mj_W mj_S2 mj_TY (cI, cJ, cZ) ad2 h2_0) H1 := hP
  have hD : va_D _ (mj_W mj_S2 mj_TY (cI, cJ, cZ) ad2 h2_0) := hD
  clear hP1 hD1
  refine W.eq (g2 := F0 m 15 ls [.ref (ad2 0)]) (by rw [hd0]) ?_
  have hMO2 : mj_MO ad2 (fun q : Nat => s.heap.size ≤ q) s s.heap := by unfold mj_MO; rw [hd9]; exact ⟨hMZ, hMT⟩
  obtain ⟨hEi, hEn⟩ := lw_inj hD
  refine lv_astore_n (i := 2) (lv' := [(2, .ref (ad2 0)), (1, .ref (ad1 0)), (0, .ref b)]) hx hb d_law_15 rfl hl (by decide) rfl (fun ls hl => ?_)
  refine lv_iconst (v := nI 0) hx hb d_law_16 (by decide) ?_
  refine lv_istore_n (i := 3) (lv' := [(3, .int (nI 0)), (2, .ref (ad2 0)), (1, .ref (ad1 0)), (0, .ref b)]) hx hb d_law_17 rfl hl (by decide) rfl (fun ls hl => ?_)
  refine W.widen (k := 200) (n := 300000) (Nat.le_of_ble_eq_true rfl) (Nat.le_of_ble_eq_true rfl) ?_
  refine kk Dg (cI, cJ, cZ) ad1 ad2 hK ⟨hDi, hEi, fun i j hi hj e => ?_, hDn, fun i hi => Nat.le_trans hSa.1 (hEn i hi), hMO1, hMO2⟩ H1 locs ls (hPa.kept fun k q hq => hS.2.1 _ ((hPa k q hq).lt) (Nat.not_le.mpr (hPa k q hq).lt)) hP
    ⟨Nat.le_trans hSa.1 hS.1, fun q h1 h2 => (hS.2.1 q (Nat.lt_of_lt_of_le h1 hSa.1) (Nat.not_le.mpr (Nat.lt_of_lt_of_le h1 hSa.1))).trans (hSa.2.1 q h1 h2), fun q hq => Nat.le_trans hSa.1 (hS.2.2 q hq)⟩ (lv_sub hl [3, 2, 1, 0] rfl)
  have h1 := lw_Plt hPa hi
  have h2 := hEn j hj
  rw [e] at h1
  exact absurd h2 (Nat.not_le.mpr h1)
