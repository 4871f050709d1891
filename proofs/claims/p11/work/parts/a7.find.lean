/-! the reference looks names up -/
section Sa7
variable {D N c : Nat} {y : Int64} {I : Nat → Nat → Int32} {J : Nat → Nat → Int64}
/-- the first of N names that is y -/
def fnd (N : Nat) (g : Nat → Int64) (y : Int64) (r : Int32) : Prop := (r = -1 ∧ ∀ j, j < N → g j ≠ y) ∨ ∃ j, j < N ∧ r = nI j ∧ g j = y ∧ ∀ m, m < j → g m ≠ y
theorem r_fnd24 (hc : c < 2) (hN : I 2 c = nI N) (hN2 : N ≤ 4) : ∃ r I' J', C2 (D + 1) 24 [.ref 0, .int (nI c), .long y] I J (.int r) I' J' ∧ fnd N (fun j => J 8 (4 * c + j)) y r ∧ I' = I ∧ J' = J := by
  refine mj_cI (e24 _ _ ?_)
  obtain ⟨Q, hQ⟩ : ∃ Q, Q = qI mj_R2 (fun r I' J' => fnd N (fun j => J 8 (4 * c + j)) y r ∧ I' = I ∧ J' = J) := ⟨_, rfl⟩
  rw [← hQ]
  have lp := lp_up (n := N) (fun j => (∀ m, m < j → J 8 (4 * c + m) ≠ y) → E2 24 D Q 3 [(0, .ref 0), (1, .int (nI c)), (2, .long y), (4, .int (nI j))] I J) (fun j hj ih hm => ?_) 0 (Nat.zero_le _) (fun m hm => absurd hm (Nat.not_lt_zero m))
  · exact lp
  refine mj_on (s24_3 _ _ _ ?_)
  rw [nI_clamp (by omega), hN]
  refine ⟨vp_in_nI hc (by decide), if_le (by omega) (by omega) (fun q => ?_) (fun q => ?_)⟩
  · obtain rfl : j = N := by omega
    rw [hQ]
    exact ⟨_, _, _, rfl, Or.inl ⟨rfl, hm⟩, rfl, rfl⟩
  rw [show (4 : Int32) = nI 4 from rfl, pk_mul, nI_add, nI_clamp (by omega), nI_1]
  refine ⟨vp_in_nI (by omega) (by decide), if_i (fun e => ?_) (fun e => ih q fun m hm2 => ?_)⟩
  · rw [hQ]
    exact ⟨_, _, _, rfl, Or.inr ⟨j, q, rfl, cmp0.mp e, hm⟩, rfl, rfl⟩
  · by_cases z : m = j
    · rw [z]; exact fun w => e (cmp0.mpr w)
    · exact hm m (by omega)
theorem r_fnd25 (hc : c < 2) (hN : I 4 c = nI N) (hN2 : N ≤ 10) : ∃ r I' J', C2 (D + 1) 25 [.ref 0, .int (nI c), .long y] I J (.int r) I' J' ∧ fnd N (fun j => J 13 (10 * c + j)) y r ∧ I' = I ∧ J' = J := by
  refine mj_cI (e25 _ _ ?_)
  obtain ⟨Q, hQ⟩ : ∃ Q, Q = qI mj_R2 (fun r I' J' => fnd N (fun j => J 13 (10 * c + j)) y r ∧ I' = I ∧ J' = J) := ⟨_, rfl⟩
  rw [← hQ]
  have lp := lp_up (n := N) (fun j => (∀ m, m < j → J 13 (10 * c + m) ≠ y) → E2 25 D Q 3 [(0, .ref 0), (1, .int (nI c)), (2, .long y), (4, .int (nI j))] I J) (fun j hj ih hm => ?_) 0 (Nat.zero_le _) (fun m hm => absurd hm (Nat.not_lt_zero m))
  · exact lp
  refine mj_on (s25_3 _ _ _ ?_)
  rw [nI_clamp (by omega), hN]
  refine ⟨vp_in_nI hc (by decide), if_le (by omega) (by omega) (fun q => ?_) (fun q => ?_)⟩
  · obtain rfl : j = N := by omega
    rw [hQ]
    exact ⟨_, _, _, rfl, Or.inl ⟨rfl, hm⟩, rfl, rfl⟩
  rw [show (10 : Int32) = nI 10 from rfl, pk_mul, nI_add, nI_clamp (by omega), nI_1]
  refine ⟨vp_in_nI (by omega) (by decide), if_i (fun e => ?_) (fun e => ih q fun m hm2 => ?_)⟩
  · rw [hQ]
    exact ⟨_, _, _, rfl, Or.inr ⟨j, q, rfl, cmp0.mp e, hm⟩, rfl, rfl⟩
  · by_cases z : m = j
    · rw [z]; exact fun w => e (cmp0.mpr w)
    · exact hm m (by omega)
theorem r_fnd26 (hc : c < 2) (hN : I 6 c = nI N) (hN2 : N ≤ 12) : ∃ r I' J', C2 (D + 1) 26 [.ref 0, .int (nI c), .long y] I J (.int r) I' J' ∧ fnd N (fun j => J 17 (12 * c + j)) y r ∧ I' = I ∧ J' = J := by
  refine mj_cI (e26 _ _ ?_)
  obtain ⟨Q, hQ⟩ : ∃ Q, Q = qI mj_R2 (fun r I' J' => fnd N (fun j => J 17 (12 * c + j)) y r ∧ I' = I ∧ J' = J) := ⟨_, rfl⟩
  rw [← hQ]
  have lp := lp_up (n := N) (fun j => (∀ m, m < j → J 17 (12 * c + m) ≠ y) → E2 26 D Q 3 [(0, .ref 0), (1, .int (nI c)), (2, .long y), (4, .int (nI j))] I J) (fun j hj ih hm => ?_) 0 (Nat.zero_le _) (fun m hm => absurd hm (Nat.not_lt_zero m))
  · exact lp
  refine mj_on (s26_3 _ _ _ ?_)
  rw [nI_clamp (by omega), hN]
  refine ⟨vp_in_nI hc (by decide), if_le (by omega) (by omega) (fun q => ?_) (fun q => ?_)⟩
  · obtain rfl : j = N := by omega
    rw [hQ]
    exact ⟨_, _, _, rfl, Or.inl ⟨rfl, hm⟩, rfl, rfl⟩
  rw [show (12 : Int32) = nI 12 from rfl, pk_mul, nI_add, nI_clamp (by omega), nI_1]
  refine ⟨vp_in_nI (by omega) (by decide), if_i (fun e => ?_) (fun e => ih q fun m hm2 => ?_)⟩
  · rw [hQ]
    exact ⟨_, _, _, rfl, Or.inr ⟨j, q, rfl, cmp0.mp e, hm⟩, rfl, rfl⟩
  · by_cases z : m = j
    · rw [z]; exact fun w => e (cmp0.mpr w)
    · exact hm m (by omega)
end Sa7
