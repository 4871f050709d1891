/-! front of kind 0 -/
noncomputable def blL (C : Int64) : Nat → List Nat
  | 0 => []
  | n + 1 => @ite _ (lbit C n) (Classical.propDecidable _) (blL C n ++ [n]) (blL C n)
theorem blL_t {C : Int64} {n : Nat} (h : lbit C n) : blL C (n + 1) = blL C n ++ [n] := @if_pos _ (Classical.propDecidable _) h _ _ _
theorem blL_f {C : Int64} {n : Nat} (h : ¬ lbit C n) : blL C (n + 1) = blL C n := @if_neg _ (Classical.propDecidable _) h _ _ _
theorem blL_ok {C : Int64} : ∀ {n : Nat}, (blL C n).length ≤ n ∧ ∀ x ∈ blL C n, x < n
  | 0 => ⟨Nat.le_refl _, fun x h => by cases h⟩
  | n + 1 => by
    obtain ⟨h1, h2⟩ := blL_ok (C := C) (n := n)
    rcases Classical.em (lbit C n) with q | q
    · rw [blL_t q]
      refine ⟨by rw [List.length_append]; show _ + 1 ≤ _; omega, fun x hx => ?_⟩
      rcases List.mem_append.mp hx with z | z
      · have := h2 x z; omega
      · rw [List.mem_singleton.mp z]; omega
    · rw [blL_f q]
      exact ⟨by omega, fun x hx => by have := h2 x hx; omega⟩
theorem app_at {α : Type} {l : List α} {y x : α} {r : Nat} (h : (l ++ [y])[r]? = some x) : (r < l.length ∧ l[r]? = some x) ∨ (r = l.length ∧ x = y) := by
  by_cases z : r < l.length
  · rw [List.getElem?_append_left z] at h
    exact Or.inl ⟨z, h⟩
  · rw [List.getElem?_append_right (by omega)] at h
    cases y' : r - l.length with
    | zero => rw [y'] at h; cases h; exact Or.inr ⟨by omega, rfl⟩
    | succ k => rw [y'] at h; cases h
section S85
variable {D b W Rn Kn Tn Hn Un g : Nat} {I I1 I2 : Nat → Nat → Int32} {J J1 J2 : Nat → Nat → Int64}
theorem c_rowsFront (h : Rl b W Rn Kn Tn Hn Un g I1 J1 I2 J2) : ∃ I' J', C1 (D + 2) 204 [.ref 24, .ref 38] I1 J1 .null I' J' ∧ (∀ q j, q ≠ 39 → (q = 38 → j ≠ 0 ∧ j ≠ 1) → I' q j = I1 q j) ∧ (∀ q, q ≠ 40 → J' q = J1 q) ∧ I' 38 0 = 0 ∧ I' 38 1 = nI (blL (J1 24 6) Rn).length ∧ ∀ r x, (blL (J1 24 6) Rn)[r]? = some x → (∀ w, w < 4 → I' 39 (4 * r + w) = I1 25 (4 * x + w)) ∧ J' 40 r = lN x := by
  obtain ⟨w1, w2, w3, w4⟩ := h.W24
  refine mj_cN (e204 ?_)
  refine ⟨trivial, _, _, mj_mk (e182_a _ rfl), ?_⟩
  obtain ⟨C, hC⟩ : ∃ C, C = J1 24 6 := ⟨_, rfl⟩
  rw [← hC]
  obtain ⟨Q, hQ⟩ : ∃ Q, Q = qN mj_R1 (fun I' J' => (∀ q j, q ≠ 39 → (q = 38 → j ≠ 0 ∧ j ≠ 1) → I' q j = I1 q j) ∧ (∀ q, q ≠ 40 → J' q = J1 q) ∧ I' 38 0 = 0 ∧ I' 38 1 = nI (blL C Rn).length ∧ ∀ r x, (blL C Rn)[r]? = some x → (∀ w, w < 4 → I' 39 (4 * r + w) = I1 25 (4 * x + w)) ∧ J' 40 r = lN x) := ⟨_, rfl⟩
  rw [← hQ]
  refine lp_up (n := Rn) (fun i => ∀ I' J', (∀ q j, q ≠ 39 → (q = 38 → j ≠ 0 ∧ j ≠ 1) → I' q j = I1 q j) → (∀ q, q ≠ 40 → J' q = J1 q) → I' 38 0 = 0 → I' 38 1 = nI (blL C i).length → (∀ r x, (blL C i)[r]? = some x → (∀ w, w < 4 → I' 39 (4 * r + w) = I1 25 (4 * x + w)) ∧ J' 40 r = lN x) → E1 204 (D + 1) Q 7 [(0, .ref 24), (1, .ref 38), (2, .int (nI i))] I' J') (fun i hi ih I' J' k1 k2 k3 k4 k5 => ?_) 0 (Nat.zero_le _) _ J1 (fun q j q1 q2 => ?_) (fun _ _ => rfl) (by rw [up_j (by decide), up_s]) (by rw [up_s]; rfl) (fun r x q => by cases q)
  · refine mj_on (s204_7 _ ?_)
    rw [k1 24 0 (by decide) (fun q => absurd q (by decide)), w1, k2 24 (by decide), ← hC, nI_1, ix4m]
    obtain ⟨l1, l2⟩ := blL_ok (C := C) (n := i)
    refine if_le (by omega) (by omega) (fun c => ?_) (fun c => ⟨trivial, _, _, _, c_isIn (by omega), if_tf (fun d => ?_) (fun d => ih c I' J' k1 k2 k3 (by rw [blL_f d]; exact k4) (by rw [blL_f d]; exact k5))⟩)
    · obtain rfl : i = Rn := by omega
      rw [hQ]
      exact ⟨_, _, rfl, k1, k2, k3, k4, k5⟩
    refine ⟨trivial, mj_up (mj_cp I' 25 (4 * i) 39 (4 * (blL C i).length) 4) 38 1 (nI ((blL C i).length + 1)), mj_up J' 40 (blL C i).length (lN i), mj_mk (e205_a _ _ ?_), ?_⟩
    · rw [k4, show (100 : Int32) = nI 100 from rfl]
      refine if_le (by decide) (by omega) (fun z => absurd z (by omega)) (fun _ => ?_)
      rw [ix4m, nI_clamp (by omega), nI_clamp (by omega), nI_clamp (by omega), nI_1, nI_toL (by omega)]
      exact ⟨⟨nI_pos (by omega), nI_pos (by omega), by decide, by show 4 * i + 4 ≤ 160; omega, by show 4 * (blL C i).length + 4 ≤ 400; omega⟩, vp_in_nI (by omega) (by decide), rfl⟩
    · have cp : ∀ j, mj_cp I' 25 (4 * i) 39 (4 * (blL C i).length) 4 39 j = if 4 * (blL C i).length ≤ j ∧ j < 4 * (blL C i).length + 4 then I' 25 (4 * i + (j - 4 * (blL C i).length)) else I' 39 j := fun j => if_pos rfl
      have co : ∀ q j, q ≠ 39 → mj_cp I' 25 (4 * i) 39 (4 * (blL C i).length) 4 q j = I' q j := fun q j hq => if_neg hq
      refine ih c _ _ (fun q j q1 q2 => ?_) (fun q q1 => ?_) ?_ (by rw [up_s, blL_t d, List.length_append]; rfl) (fun r x hr => ?_)
      · by_cases z : q = 38
        · subst z
          rw [up_j (q2 rfl).2, co _ _ q1]
          exact k1 _ _ q1 q2
        · rw [up_c z, co _ _ q1]
          exact k1 _ _ q1 q2
      · funext j
        have e : mj_up J' 40 (blL C i).length (lN i) q j = J' q j := if_neg q1
        rw [e, k2 q q1]
      · rw [up_j (by decide), co _ _ (by decide)]
        exact k3
      · rw [blL_t d] at hr
        rcases app_at hr with ⟨z1, z2⟩ | ⟨rfl, rfl⟩
        · obtain ⟨y1, y2⟩ := k5 r x z2
          refine ⟨fun w hw => ?_, ?_⟩
          · rw [up_c (by decide), cp, if_neg (by omega)]
            exact y1 w hw
          · rw [show mj_up J' 40 (blL C i).length (lN i) 40 r = J' 40 r from by simp [mj_up]; omega]
            exact y2
        · refine ⟨fun w hw => ?_, upJ_s⟩
          rw [up_c (by decide), cp, if_pos (by omega), show 4 * (blL C x).length + w - 4 * (blL C x).length = w by omega]
          exact k1 25 _ (by decide) (fun q => absurd q (by decide))
  · by_cases z : q = 38
    · subst z
      rw [up_j (q2 rfl).2, up_j (q2 rfl).1]
    · rw [up_c z, up_c z]
end S85
