/-! the tables by pieces, behind the selects -/
theorem lw_in_0 {w : Cond} (h : w ∈ tables_1_1) : w ∈ lw_tbl := by
  show w ∈ k2_sels lw_privs ++ tables_1
  exact List.mem_append_right _ (lw_it_0 h)
theorem lw_in_1 {w : Cond} (h : w ∈ tables_1_2) : w ∈ lw_tbl := by
  show w ∈ k2_sels lw_privs ++ tables_1
  exact List.mem_append_right _ (lw_it_1 h)
theorem lw_in_2 {w : Cond} (h : w ∈ tables_1_3) : w ∈ lw_tbl := by
  show w ∈ k2_sels lw_privs ++ tables_1
  exact List.mem_append_right _ (lw_it_2 h)
theorem lw_in_3 {w : Cond} (h : w ∈ tables_1_4) : w ∈ lw_tbl := by
  show w ∈ k2_sels lw_privs ++ tables_1
  exact List.mem_append_right _ (lw_it_3 h)
theorem lw_in_4 {w : Cond} (h : w ∈ tables_1_5) : w ∈ lw_tbl := by
  show w ∈ k2_sels lw_privs ++ tables_1
  exact List.mem_append_right _ (lw_it_4 h)
theorem lw_in_5 {w : Cond} (h : w ∈ tables_1_6) : w ∈ lw_tbl := by
  show w ∈ k2_sels lw_privs ++ tables_1
  exact List.mem_append_right _ (lw_it_5 h)
theorem lw_in_6 {w : Cond} (h : w ∈ tables_1_7) : w ∈ lw_tbl := by
  show w ∈ k2_sels lw_privs ++ tables_1
  exact List.mem_append_right _ (lw_it_6 h)
theorem lw_in_7 {w : Cond} (h : w ∈ tables_1_8) : w ∈ lw_tbl := by
  show w ∈ k2_sels lw_privs ++ tables_1
  exact List.mem_append_right _ (lw_it_7 h)
theorem lw_in_8 {w : Cond} (h : w ∈ tables_1_9) : w ∈ lw_tbl := by
  show w ∈ k2_sels lw_privs ++ tables_1
  exact List.mem_append_right _ (lw_it_8 h)
