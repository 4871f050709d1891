section LWB_1
variable {p : Program} {e : Env} {s : State} {m : MethodId} {below : List Frame} {meth : Method} {c : Code} {b L : Nat} {xs : Nat → Int32}
theorem lw_known (hts : ∀ w ∈ lw_tbl, w.before #[Value.ref b] s = true) : ∃ Dg : va_G, ∀ (k : Nat) (q : vw_C), mj_CL[k]? = some q → u_Kn s q.1 q.2.1 q.2.2 (Dg.1 k) (Dg.2 k) := by
  have h0 : ∀ k : Nat, ∃ z : ClassId × (Nat → Nat), ∀ q : vw_C, mj_CL[k]? = some q → u_Kn s q.1 q.2.1 q.2.2 z.1 z.2 := by
    intro k
    match k with
    | 0 => obtain ⟨c, f, h⟩ := u_known (C := "UnbeatenHouseModel") (T := mF_0) (N := 77) (n := 77) hts mc_0.1 (hts _ ((lw_in_4 (List.mem_of_getElem? (i := 213) (by decide +kernel))))); exact ⟨(c, f), fun q hq => by cases hq; exact h⟩
    | 1 => obtain ⟨c, f, h⟩ := u_known (C := "UnbeatenHouse") (T := mF_1) (N := 16) (n := 16) hts mc_1.1 (hts _ ((lw_in_0 (List.mem_of_getElem? (i := 23) (by decide +kernel))))); exact ⟨(c, f), fun q hq => by cases hq; exact h⟩
    | 2 => obtain ⟨c, f, h⟩ := u_known (C := "UnbeatenHouse$Front") (T := mF_2) (N := 4) (n := 4) hts mc_2.1 (hts _ ((lw_in_1 (List.mem_of_getElem? (i := 39) (by decide +kernel))))); exact ⟨(c, f), fun q hq => by cases hq; exact h⟩
    | 3 => obtain ⟨c, f, h⟩ := u_known (C := "UnbeatenHouse$Gatherer") (T := mF_3) (N := 3) (n := 3) hts mc_3.1 (hts _ ((lw_in_1 (List.mem_of_getElem? (i := 10) (by decide +kernel))))); exact ⟨(c, f), fun q hq => by cases hq; exact h⟩
    | 4 => obtain ⟨c, f, h⟩ := u_known (C := "UnbeatenHouse$Judge") (T := mF_4) (N := 2) (n := 2) hts mc_4.1 (hts _ ((lw_in_1 (List.mem_of_getElem? (i := 16) (by decide +kernel))))); exact ⟨(c, f), fun q hq => by cases hq; exact h⟩
    | 5 => obtain ⟨c, f, h⟩ := u_known (C := "UnbeatenHouse$People") (T := mF_5) (N := 6) (n := 6) hts mc_5.1 (hts _ ((lw_in_1 (List.mem_of_getElem? (i := 148) (by decide +kernel))))); exact ⟨(c, f), fun q hq => by cases hq; exact h⟩
    | 6 => obtain ⟨c, f, h⟩ := u_known (C := "UnbeatenHouse$Picker") (T := mF_6) (N := 5) (n := 5) hts mc_6.1 (hts _ ((lw_in_1 (List.mem_of_getElem? (i := 66) (by decide +kernel))))); exact ⟨(c, f), fun q hq => by cases hq; exact h⟩
    | 7 => obtain ⟨c, f, h⟩ := u_known (C := "UnbeatenHouse$Pool") (T := mF_7) (N := 5) (n := 5) hts mc_7.1 (hts _ ((lw_in_0 (List.mem_of_getElem? (i := 227) (by decide +kernel))))); exact ⟨(c, f), fun q hq => by cases hq; exact h⟩
    | 8 => obtain ⟨c, f, h⟩ := u_known (C := "UnbeatenHouse$Reader") (T := mF_8) (N := 12) (n := 12) hts mc_8.1 (hts _ ((lw_in_0 (List.mem_of_getElem? (i := 95) (by decide +kernel))))); exact ⟨(c, f), fun q hq => by cases hq; exact h⟩
    | 9 => obtain ⟨c, f, h⟩ := u_known (C := "UnbeatenHouse$Rows") (T := mF_9) (N := 8) (n := 8) hts mc_9.1 (hts _ ((lw_in_0 (List.mem_of_getElem? (i := 185) (by decide +kernel))))); exact ⟨(c, f), fun q hq => by cases hq; exact h⟩
    | 10 => obtain ⟨c, f, h⟩ := u_known (C := "UnbeatenHouse$Sayings") (T := mF_10) (N := 8) (n := 8) hts mc_10.1 (hts _ ((lw_in_1 (List.mem_of_getElem? (i := 113) (by decide +kernel))))); exact ⟨(c, f), fun q hq => by cases hq; exact h⟩
    | 11 => obtain ⟨c, f, h⟩ := u_known (C := "UnbeatenHouse$Tale") (T := mF_11) (N := 11) (n := 11) hts mc_11.1 (hts _ ((lw_in_0 (List.mem_of_getElem? (i := 31) (by decide +kernel))))); exact ⟨(c, f), fun q hq => by cases hq; exact h⟩
    | 12 => obtain ⟨c, f, h⟩ := u_known (C := "UnbeatenHouse$Weighings") (T := mF_12) (N := 4) (n := 4) hts mc_12.1 (hts _ ((lw_in_1 (List.mem_of_getElem? (i := 90) (by decide +kernel))))); exact ⟨(c, f), fun q hq => by cases hq; exact h⟩
    | k + 13 => exact ⟨(0, fun _ => 0), fun q hq => by simp [mj_CL] at hq⟩
  obtain ⟨f, hf⟩ := Classical.axiomOfChoice h0
  exact ⟨(fun k => (f k).1, fun k => (f k).2), hf⟩
end LWB_1

