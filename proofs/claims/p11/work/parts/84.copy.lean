/-! a front copied into the one that is shown -/
theorem c_copy_a {D n : Nat} {I : Nat → Nat → Int32} {J : Nat → Nat → Int64} (hn : I 44 1 = nI n) (h100 : n ≤ 100) : ∃ I' J', C1 (D + 2) 219 [.ref 38, .ref 44] I J .null I' J' ∧ (∀ q j, q ≠ 39 → (q = 38 → j ≠ 0 ∧ j ≠ 1) → I' q j = I q j) ∧ (∀ q, q ≠ 40 → J' q = J q) ∧ I' 38 0 = I 44 0 ∧ I' 38 1 = nI n ∧ (∀ r w, r < n → w < 4 → I' 39 (4 * r + w) = I 45 (4 * r + w)) ∧ ∀ r, r < n → J' 40 r = J 46 r := by
  refine mj_cN (e219_b ?_)
  refine ⟨trivial, _, _, mj_mk (e182_a _ rfl), ?_⟩
  obtain ⟨Q, hQ⟩ : ∃ Q, Q = qN mj_R1 (fun I' J' => (∀ q j, q ≠ 39 → (q = 38 → j ≠ 0 ∧ j ≠ 1) → I' q j = I q j) ∧ (∀ q, q ≠ 40 → J' q = J q) ∧ I' 38 0 = I 44 0 ∧ I' 38 1 = nI n ∧ (∀ r w, r < n → w < 4 → I' 39 (4 * r + w) = I 45 (4 * r + w)) ∧ ∀ r, r < n → J' 40 r = J 46 r) := ⟨_, rfl⟩
  rw [← hQ]
  refine lp_up (n := n) (fun i => ∀ I' J', (∀ q j, q ≠ 39 → (q = 38 → j ≠ 0 ∧ j ≠ 1) → I' q j = I q j) → (∀ q, q ≠ 40 → J' q = J q) → I' 38 0 = I 44 0 → I' 38 1 = nI i → (∀ r w, r < i → w < 4 → I' 39 (4 * r + w) = I 45 (4 * r + w)) → (∀ r, r < i → J' 40 r = J 46 r) → E1 219 (D + 1) Q 10 [(0, .ref 38), (1, .ref 44), (2, .int (nI i))] I' J') (fun i hi ih I' J' k1 k2 k3 k4 k5 k6 => ?_) 0 (Nat.zero_le _) _ J (fun q j q1 q2 => ?_) (fun _ _ => rfl) (by rw [up_j (by decide), up_s]) (by rw [up_s]; rfl) (fun r w q => absurd q (Nat.not_lt_zero r)) (fun r q => absurd q (Nat.not_lt_zero r))
  · refine mj_on (s219_10_b _ ?_)
    rw [k1 44 1 (by decide) (fun q => absurd q (by decide)), hn, nI_clamp (by omega), ix4m, nI_1]
    refine if_le (by omega) (by omega) (fun c => ?_) (fun c => ⟨vp_in_nI (by omega) (by decide), ?_⟩)
    · obtain rfl : i = n := by omega
      rw [hQ]
      exact ⟨_, _, rfl, k1, k2, k3, k4, k5, k6⟩
    refine ⟨trivial, mj_up (mj_cp I' 45 (4 * i) 39 (4 * i) 4) 38 1 (nI (i + 1)), mj_up J' 40 i (J' 46 i), mj_mk (e205_d _ _ ?_), ?_⟩
    · rw [k4, show (100 : Int32) = nI 100 from rfl]
      refine if_le (by decide) (by omega) (fun z => absurd z (by omega)) (fun _ => ?_)
      rw [ix4m, nI_clamp (by omega), nI_clamp (by omega), nI_1]
      exact ⟨⟨nI_pos (by omega), nI_pos (by omega), by decide, by show 4 * i + 4 ≤ 400; omega, by show 4 * i + 4 ≤ 400; omega⟩, vp_in_nI (by omega) (by decide), rfl⟩
    · have cp : ∀ j, mj_cp I' 45 (4 * i) 39 (4 * i) 4 39 j = if 4 * i ≤ j ∧ j < 4 * i + 4 then I' 45 (4 * i + (j - 4 * i)) else I' 39 j := fun j => if_pos rfl
      have co : ∀ q j, q ≠ 39 → mj_cp I' 45 (4 * i) 39 (4 * i) 4 q j = I' q j := fun q j hq => if_neg hq
      refine ih c _ _ (fun q j q1 q2 => ?_) (fun q q1 => ?_) ?_ (by rw [up_s]) (fun r w hr hw => ?_) (fun r hr => ?_)
      · by_cases z : q = 38
        · subst z
          rw [up_j (q2 rfl).2, co _ _ q1]
          exact k1 _ _ q1 q2
        · rw [up_c z, co _ _ q1]
          exact k1 _ _ q1 q2
      · funext j
        have e : mj_up J' 40 i (J' 46 i) q j = J' q j := if_neg q1
        rw [e, k2 q q1]
      · rw [up_j (by decide), co _ _ (by decide)]
        exact k3
      · rw [up_c (by decide), cp]
        by_cases z : r = i
        · subst z
          rw [if_pos (by omega), show 4 * r + (4 * r + w - 4 * r) = 4 * r + w by omega]
          exact k1 45 _ (by decide) (fun q => absurd q (by decide))
        · rw [if_neg (by omega)]
          exact k5 r w (by omega) hw
      · by_cases z : r = i
        · subst z
          rw [upJ_s, k2 46 (by decide)]
        · rw [show mj_up J' 40 i (J' 46 i) 40 r = J' 40 r from by simp [mj_up, z]]
          exact k6 r (by omega)
  · by_cases z : q = 38
    · subst z
      rw [up_j (q2 rfl).2, up_j (q2 rfl).1]
    · rw [up_c z, up_c z]
theorem c_copy_b {D n : Nat} {I : Nat → Nat → Int32} {J : Nat → Nat → Int64} (hn : I 41 1 = nI n) (h100 : n ≤ 100) : ∃ I' J', C1 (D + 2) 219 [.ref 38, .ref 41] I J .null I' J' ∧ (∀ q j, q ≠ 39 → (q = 38 → j ≠ 0 ∧ j ≠ 1) → I' q j = I q j) ∧ (∀ q, q ≠ 40 → J' q = J q) ∧ I' 38 0 = I 41 0 ∧ I' 38 1 = nI n ∧ (∀ r w, r < n → w < 4 → I' 39 (4 * r + w) = I 42 (4 * r + w)) ∧ ∀ r, r < n → J' 40 r = J 43 r := by
  refine mj_cN (e219_a ?_)
  refine ⟨trivial, _, _, mj_mk (e182_a _ rfl), ?_⟩
  obtain ⟨Q, hQ⟩ : ∃ Q, Q = qN mj_R1 (fun I' J' => (∀ q j, q ≠ 39 → (q = 38 → j ≠ 0 ∧ j ≠ 1) → I' q j = I q j) ∧ (∀ q, q ≠ 40 → J' q = J q) ∧ I' 38 0 = I 41 0 ∧ I' 38 1 = nI n ∧ (∀ r w, r < n → w < 4 → I' 39 (4 * r + w) = I 42 (4 * r + w)) ∧ ∀ r, r < n → J' 40 r = J 43 r) := ⟨_, rfl⟩
  rw [← hQ]
  refine lp_up (n := n) (fun i => ∀ I' J', (∀ q j, q ≠ 39 → (q = 38 → j ≠ 0 ∧ j ≠ 1) → I' q j = I q j) → (∀ q, q ≠ 40 → J' q = J q) → I' 38 0 = I 41 0 → I' 38 1 = nI i → (∀ r w, r < i → w < 4 → I' 39 (4 * r + w) = I 42 (4 * r + w)) → (∀ r, r < i → J' 40 r = J 43 r) → E1 219 (D + 1) Q 10 [(0, .ref 38), (1, .ref 41), (2, .int (nI i))] I' J') (fun i hi ih I' J' k1 k2 k3 k4 k5 k6 => ?_) 0 (Nat.zero_le _) _ J (fun q j q1 q2 => ?_) (fun _ _ => rfl) (by rw [up_j (by decide), up_s]) (by rw [up_s]; rfl) (fun r w q => absurd q (Nat.not_lt_zero r)) (fun r q => absurd q (Nat.not_lt_zero r))
  · refine mj_on (s219_10_a _ ?_)
    rw [k1 41 1 (by decide) (fun q => absurd q (by decide)), hn, nI_clamp (by omega), ix4m, nI_1]
    refine if_le (by omega) (by omega) (fun c => ?_) (fun c => ⟨vp_in_nI (by omega) (by decide), ?_⟩)
    · obtain rfl : i = n := by omega
      rw [hQ]
      exact ⟨_, _, rfl, k1, k2, k3, k4, k5, k6⟩
    refine ⟨trivial, mj_up (mj_cp I' 42 (4 * i) 39 (4 * i) 4) 38 1 (nI (i + 1)), mj_up J' 40 i (J' 43 i), mj_mk (e205_c _ _ ?_), ?_⟩
    · rw [k4, show (100 : Int32) = nI 100 from rfl]
      refine if_le (by decide) (by omega) (fun z => absurd z (by omega)) (fun _ => ?_)
      rw [ix4m, nI_clamp (by omega), nI_clamp (by omega), nI_1]
      exact ⟨⟨nI_pos (by omega), nI_pos (by omega), by decide, by show 4 * i + 4 ≤ 400; omega, by show 4 * i + 4 ≤ 400; omega⟩, vp_in_nI (by omega) (by decide), rfl⟩
    · have cp : ∀ j, mj_cp I' 42 (4 * i) 39 (4 * i) 4 39 j = if 4 * i ≤ j ∧ j < 4 * i + 4 then I' 42 (4 * i + (j - 4 * i)) else I' 39 j := fun j => if_pos rfl
      have co : ∀ q j, q ≠ 39 → mj_cp I' 42 (4 * i) 39 (4 * i) 4 q j = I' q j := fun q j hq => if_neg hq
      refine ih c _ _ (fun q j q1 q2 => ?_) (fun q q1 => ?_) ?_ (by rw [up_s]) (fun r w hr hw => ?_) (fun r hr => ?_)
      · by_cases z : q = 38
        · subst z
          rw [up_j (q2 rfl).2, co _ _ q1]
          exact k1 _ _ q1 q2
        · rw [up_c z, co _ _ q1]
          exact k1 _ _ q1 q2
      · funext j
        have e : mj_up J' 40 i (J' 43 i) q j = J' q j := if_neg q1
        rw [e, k2 q q1]
      · rw [up_j (by decide), co _ _ (by decide)]
        exact k3
      · rw [up_c (by decide), cp]
        by_cases z : r = i
        · subst z
          rw [if_pos (by omega), show 4 * r + (4 * r + w - 4 * r) = 4 * r + w by omega]
          exact k1 42 _ (by decide) (fun q => absurd q (by decide))
        · rw [if_neg (by omega)]
          exact k5 r w (by omega) hw
      · by_cases z : r = i
        · subst z
          rw [upJ_s, k2 43 (by decide)]
        · rw [show mj_up J' 40 i (J' 43 i) 40 r = J' 40 r from by simp [mj_up, z]]
          exact k6 r (by omega)
  · by_cases z : q = 38
    · subst z
      rw [up_j (q2 rfl).2, up_j (q2 rfl).1]
    · rw [up_c z, up_c z]
