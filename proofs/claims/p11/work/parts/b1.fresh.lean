/-! an object of which nothing has been asked yet -/
section S91
variable {D : Nat} {I : Nat → Nat → Int32} {J : Nat → Nat → Int64}
theorem c_clear : ∃ I' J', C1 (D + 1) 138 [.ref 14] I J .null I' J' ∧ I' 14 0 = nI 0 ∧ I' 14 9 = nI 0 ∧ (∀ j, j < 6 → I' 15 j = nI 0) ∧ (∀ q j, q ≠ 15 → (q ≠ 14 ∨ (j ≠ 0 ∧ j ≠ 9)) → I' q j = I q j) ∧ J' = J := by
  refine mj_cN (e138 ?_)
  have lp := lp_up (n := 6) (fun p => ∀ I0, I0 14 0 = nI 0 → I0 14 9 = nI 0 → (∀ j, j < p → I0 15 j = nI 0) → (∀ q j, q ≠ 15 → (q ≠ 14 ∨ (j ≠ 0 ∧ j ≠ 9)) → I0 q j = I q j) → E1 138 D (qN mj_R1 fun I' J' => I' 14 0 = nI 0 ∧ I' 14 9 = nI 0 ∧ (∀ j, j < 6 → I' 15 j = nI 0) ∧ (∀ q j, q ≠ 15 → (q ≠ 14 ∨ (j ≠ 0 ∧ j ≠ 9)) → I' q j = I q j) ∧ J' = J) 12 [(0, .ref 14), (1, .int (nI p))] I0 J) (fun p hp ih I0 h1 h2 h3 h4 => ?_) 0 (by omega) (mj_up (mj_up I 14 0 0) 14 9 0) (by simp [mj_up]; rfl) (by simp [mj_up]; rfl) (fun j hj => by omega) (fun q j h1 h2 => by rw [up_n (by omega), up_n (by omega)])
  · exact lp
  refine mj_on (s138_12 _ ?_)
  rw [show (6 : Int32) = nI 6 from rfl]
  refine if_le (by omega) (by omega) (fun c => ?_) (fun c => ?_)
  · obtain rfl : p = 6 := by omega
    exact ⟨_, _, rfl, h1, h2, h3, h4, rfl⟩
  · refine ⟨vp_in_nI c (by decide), ?_⟩
    rw [nI_clamp (by omega), nI_1]
    refine ih c _ (by rw [up_n (by omega)]; exact h1) (by rw [up_n (by omega)]; exact h2) (fun j hj => ?_) (fun q j g1 g2 => by rw [up_n (by omega)]; exact h4 q j g1 g2)
    by_cases e : j = p
    · subst e; exact up_s
    · rw [up_j e]; exact h3 j (by omega)
theorem Rl_0 : Rl 0 0 0 0 0 0 0 4 h1_I (fun _ _ => 0) h2_I (fun _ _ => 0) := by
  refine ⟨rfl, ⟨⟨rfl, rfl, rfl, rfl, rfl, rfl, rfl, rfl, rfl, rfl, rfl, rfl, by decide, by decide, by decide, by decide, by decide, by decide, by decide⟩, fun w h => by omega, fun w h => by omega, fun w h => by omega, fun w h => by omega, ⟨fun w h => by omega, fun w h => by omega, fun w h => by omega, fun w h => by omega⟩, fun w h => by omega⟩, ⟨rfl, fun j => ⟨0, by decide, rfl⟩, 0, by decide, rfl, rfl⟩, ⟨rfl, rfl⟩, ⟨rfl, rfl, fun r h => by omega, fun r h => by omega, rfl⟩, Or.inl ⟨rfl, rfl, rfl⟩, ⟨by decide, by decide, rfl, rfl, rfl, rfl, fun n r h => ?_⟩, ⟨0, by decide, rfl, rfl, fun i h => by omega⟩, ⟨0, by decide, rfl, rfl, fun i h => by omega⟩, fun p hp => ⟨rfl, fun w hw => ⟨0, by decide, rfl, fun _ => rfl⟩, Or.inl ⟨rfl, fun w hw => rfl⟩⟩, ⟨rfl, rfl⟩, ?_, Or.inl rfl⟩
  · exact absurd h (by simp [wl])
  · show ∀ n, n < 17 → rd_f 17 0 n = nI (nmC (owL.getD n []))
    decide +kernel
end S91
