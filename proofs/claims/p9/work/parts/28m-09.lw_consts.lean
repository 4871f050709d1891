section LWB_9
variable {p : Program} {e : Env} {s : State} {m : MethodId} {below : List Frame} {meth : Method} {c : Code} {b L : Nat} {xs : Nat → Int32}
theorem lw_consts (hts : ∀ w ∈ lw_tbl, w.before #[Value.ref b] s = true) (hgv : lw_nr.before #[Value.ref b] s = true) : ∃ aK aV aM : Nat, vk_R "UnbeatenHouse$Reader" 29 "wish  row   knot  tie   thing rule  less  more  or    and   not   all   has   many  of    min   max   " aK s ∧ mj_str aK aV (fun q : Nat => s.heap.size ≤ q) s s.heap ∧ va_Z "UnbeatenHouse" "MOST" "[I" (.ref aM) (fun q : Nat => s.heap.size ≤ q) s s.heap ∧ va_T .int aM 6 mj_mf (fun q : Nat => s.heap.size ≤ q) s s.heap := by
  have hs := flat_of_before _ hgv
  have hA : ∀ a : Nat, a < s.heap.size → ¬ s.heap.size ≤ a := fun a h => by omega
  obtain ⟨adK, adV, hV, hK⟩ := vk_Sof (args := #[Value.ref b]) (s := s) (N := 1) (tm := fun _ => (Term.string "UnbeatenHouse$Reader" 29)) (len := [102]) (byt := [mj_ownB]) (A := fun q : Nat => s.heap.size ≤ q)
    (fun i hi => by cases Nat.lt_one_iff.mp hi; decide) (fun i hi => hs _ (by decide +kernel)) (fun i hi => hs _ (by decide +kernel)) (fun i hi => hs _ (by decide +kernel)) (fun i hi => by cases Nat.lt_one_iff.mp hi; exact hs _ (by decide +kernel))
    (fun i hi j hj => by cases Nat.lt_one_iff.mp hi; exact hs _ (lw_el j hj)) (fun i j hi hj h => absurd (show i = j by omega) h) hA
  obtain ⟨aM, hM1, hM2⟩ := va_Tof (args := #[Value.ref b]) (s := s) (tm := .static "UnbeatenHouse" "MOST" "[I") (ty := .int) (N := 6) (f := mj_mf) (A := fun q : Nat => s.heap.size ≤ q) (by decide) (hs _ (by decide +kernel)) (va_eqt (hs _ (by decide +kernel))) (fun j hj => va_eqt (hs _ (lw_mo j hj))) hA
  have hs0 : vk_S 1 [102] [mj_ownB] (fun _ => adK 0) (fun _ => adV 0) (fun q : Nat => s.heap.size ≤ q) s s.heap := ⟨fun i hi => by cases Nat.lt_one_iff.mp hi; exact hV.1 0 hi, fun i j hi hj _ => by omega⟩
  exact ⟨adK 0, adV 0, aM, vk_R.of (hts _ ((lw_in_0 (List.mem_of_getElem? (i := 102) (by decide +kernel))))) (hK 0 (by decide)), ⟨hs0, va_Zof (hts _ ((lw_in_0 (List.mem_of_getElem? (i := 112) (by decide +kernel))))) (hts _ ((lw_in_0 (List.mem_of_getElem? (i := 4) (by decide +kernel))))) (va_eqt (hs _ (by decide +kernel))) hA, va_Zqof (hts _ ((lw_in_0 (List.mem_of_getElem? (i := 120) (by decide +kernel))))) (hts _ ((lw_in_0 (List.mem_of_getElem? (i := 6) (by decide +kernel))))) (hs _ (by decide +kernel)) hA⟩, va_Zof (hts _ ((lw_in_2 (List.mem_of_getElem? (i := 36) (by decide +kernel))))) (hts _ ((lw_in_0 (List.mem_of_getElem? (i := 1) (by decide +kernel))))) hM1 hA, hM2⟩
end LWB_9

