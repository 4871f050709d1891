section LWB_3
variable {p : Program} {e : Env} {s : State} {m : MethodId} {below : List Frame} {meth : Method} {c : Code} {b L : Nat} {xs : Nat → Int32}
theorem lw_arrs (hts : ∀ w ∈ lw_tbl, w.before #[Value.ref b] s = true) : ∃ cI cJ cZ : ClassId, ∀ (k : Nat) (q : ClassId × FieldType), (mj_tys (cI, cJ, cZ))[k]? = some q → ArrOfT s q.1 q.2 ∧ va_RA s q.1 q.2 := by
  obtain ⟨cI, hcI⟩ : ∃ c : ClassId, ArrOfT s c .int ∧ va_RA s c .int := by
    obtain ⟨cA, kA, comp, h1, h2, h3⟩ := lw_arr (hts (Cond.arrayClass .int) ((lw_in_0 (List.mem_of_getElem? (i := 92) (by decide +kernel)))))
    exact ⟨cA, fun n z => ⟨fun k q => (by cases q), kA, h2, comp, h3⟩, h1⟩
  obtain ⟨cJ, hcJ⟩ : ∃ c : ClassId, ArrOfT s c .long ∧ va_RA s c .long := by
    obtain ⟨cA, kA, comp, h1, h2, h3⟩ := lw_arr (hts (Cond.arrayClass .long) ((lw_in_1 (List.mem_of_getElem? (i := 8) (by decide +kernel)))))
    exact ⟨cA, fun n z => ⟨fun k q => (by cases q), kA, h2, comp, h3⟩, h1⟩
  obtain ⟨cZ, hcZ⟩ : ∃ c : ClassId, ArrOfT s c .boolean ∧ va_RA s c .boolean := by
    obtain ⟨cA, kA, comp, h1, h2, h3⟩ := lw_arr (hts (Cond.arrayClass .boolean) ((lw_in_0 (List.mem_of_getElem? (i := 93) (by decide +kernel)))))
    exact ⟨cA, fun n z => ⟨fun k q => (by cases q), kA, h2, comp, h3⟩, h1⟩
  refine ⟨cI, cJ, cZ, fun k q hq => ?_⟩
  match k, hq with
  | 0, hq => cases hq; exact hcI
  | 1, hq => cases hq; exact hcJ
  | 2, hq => cases hq; exact hcZ
  | k + 3, hq => simp [mj_tys] at hq
end LWB_3

