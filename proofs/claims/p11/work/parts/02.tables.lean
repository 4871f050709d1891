/-! the tables by pieces, behind the selects -/
theorem lw_in_0 {w : Cond} (h : w ∈ tables_1_1) : w ∈ lw_tbl := by
  show w ∈ k2_sels lw_privs ++ tables_1
  exact List.mem_append_right _ (lw_it_0 h)
theorem lw_in_1 {w : Cond} (h : w ∈ tables_1_2) : w ∈ lw_tbl := by
  show w ∈ k2_sels lw_privs ++ tables_1
  exact List.mem_append_right _ (lw_it_1 h)
theorem lw_in_2 {w : Cond} (h : w ∈ tables_1_3) : w ∈ lw_tbl := by
  show w ∈ k2_sels lw_privs ++ tables_1
  exact List.mem_append_right _ (lw_it_2 h)
theorem lw_in_3 {w : Cond} (h : w ∈ tables_1_4) : w ∈ lw_tbl := by
  show w ∈ k2_sels lw_privs ++ tables_1
  exact List.mem_append_right _ (lw_it_3 h)
theorem lw_in_4 {w : Cond} (h : w ∈ tables_1_5) : w ∈ lw_tbl := by
  show w ∈ k2_sels lw_privs ++ tables_1
  exact List.mem_append_right _ (lw_it_4 h)
theorem lw_in_5 {w : Cond} (h : w ∈ tables_1_6) : w ∈ lw_tbl := by
  show w ∈ k2_sels lw_privs ++ tables_1
  exact List.mem_append_right _ (lw_it_5 h)
theorem lw_in_6 {w : Cond} (h : w ∈ tables_1_7) : w ∈ lw_tbl := by
  show w ∈ k2_sels lw_privs ++ tables_1
  exact List.mem_append_right _ (lw_it_6 h)
theorem lw_in_7 {w : Cond} (h : w ∈ tables_1_8) : w ∈ lw_tbl := by
  show w ∈ k2_sels lw_privs ++ tables_1
  exact List.mem_append_right _ (lw_it_7 h)
theorem lw_in_8 {w : Cond} (h : w ∈ tables_1_9) : w ∈ lw_tbl := by
  show w ∈ k2_sels lw_privs ++ tables_1
  exact List.mem_append_right _ (lw_it_8 h)
theorem lw_lay {C : String} {T : u_T} {N b : Nat} {TB : List Cond} (hTB : ∀ w : Cond, w ∈ TB → w ∈ lw_tbl) (h : ∀ k, k < N → TB[b + 2 * k]? = some (u_lay C T k)) : ∀ w ∈ u_ws C T N, w ∈ lw_tbl := by
  intro w hw
  obtain ⟨k, hk, rfl⟩ := List.mem_map.mp hw
  exact hTB _ (List.mem_of_getElem? (h k (List.mem_range.mp hk)))
theorem lw_dist {T : u_T} {N : Nat} {L : List (String × String × String × Bool)} {d : String × String × String × Bool} (hT : T = fun k => L.getD k d) (hN : L.length = N) (h : L.Pairwise (fun x y => x.2.1 ≠ y.2.1)) : ∀ a, a < N → ∀ b, b < N → a ≠ b → (T a).2.1 ≠ (T b).2.1 := by
  subst hT
  subst hN
  have g : ∀ i : Nat, ∀ hi : i < L.length, L.getD i d = L[i] := fun i hi => by rw [List.getD_eq_getElem?_getD, List.getElem?_eq_getElem hi]; rfl
  have key : ∀ a b : Nat, a < b → ∀ hb : b < L.length, (L.getD a d).2.1 ≠ (L.getD b d).2.1 := by
    intro a b hab hb
    have h1 : (L[a]'(Nat.lt_trans hab hb)).2.1 ≠ (L[b]'hb).2.1 := List.pairwise_iff_getElem.mp h a b (Nat.lt_trans hab hb) hb hab
    rw [g a (Nat.lt_trans hab hb), g b hb]
    exact h1
  intro a ha b hb hab
  rcases Nat.lt_or_gt_of_ne hab with q | q
  · exact key a b q hb
  · exact fun e => key b a q ha e.symm
abbrev kz0 : Value := .int 0
abbrev kzn : Value := .null
abbrev kzl : Value := .long 0
abbrev kzm : Value := .int (-1)
abbrev kaI (q c n : Nat) : Nat × va_E := (q, .inl (c, n, .inl (fun _ => 0)))
abbrev kaJ (q c n : Nat) : Nat × va_E := (q, .inl (c, n, .inr (.inl (fun _ => 0))))
