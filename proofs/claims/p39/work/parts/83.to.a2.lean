section
/-! the pool's front, put into the class' two fronts of its own -/
def fnP_a (W : Nat) (P : Nat → Nat → Int32) (K : Nat → Nat) (I : Nat → Nat → Int32) (J : Nat → Nat → Int64) (L : List Nat) : Prop := I 44 1 = nI L.length ∧ ∀ r x, L[r]? = some x → (∀ w, w < W → I 45 (4 * r + w) = P x w) ∧ J 46 r = lN (K x)
theorem c_under_a {D W N : Nat} {P : Nat → Nat → Int32} {K : Nat → Nat} {I : Nat → Nat → Int32} {J : Nat → Nat → Int64} {L : List Nat} {x : Nat} (h : plP W N P K I J) (hf : fnP_a W P K I J L) (hL : L.length ≤ 100) (hm : ∀ y ∈ L, y < N) (hx : x < N) : C1 (D + 2) 218 [.ref 44, .ref 30, .int (nI (4 * x)), .int (nI W)] I J (.int (tf (∃ y, y ∈ L ∧ nm W (P y) (P x)))) I J := by
  obtain ⟨h1, h2, h3, h4, h5, h6⟩ := h
  refine mj_mk (e218_a _ _ ?_)
  refine lp_up (n := L.length) (fun k => (∀ r y, r < k → L[r]? = some y → ¬ nm W (P y) (P x)) → E1 218 (D + 1) (fun q => q = (.int (tf (∃ y, y ∈ L ∧ nm W (P y) (P x))), (I, J, mj_R1))) 3 [(0, .ref 44), (1, .ref 30), (2, .int (nI (4 * x))), (3, .int (nI W)), (4, .int (nI k))] I J) (fun k hk ih hp => ?_) 0 (Nat.zero_le _) (fun r y q => absurd q (Nat.not_lt_zero r))
  refine mj_on (s218_3_a _ _ _ ?_)
  rw [hf.1, ix4m, nI_1]
  refine if_le (by omega) (by omega) (fun c => mzF ?_) (fun c => ⟨trivial, _, _, _, c_nm_a (by omega) (by omega) h4, ?_⟩)
  · rintro ⟨y, hy, q⟩
    obtain ⟨r, hr, e⟩ := List.getElem_of_mem hy
    exact hp r y (by omega) (by rw [List.getElem?_eq_getElem hr, e]) q
  · obtain ⟨y, hy, hym, -⟩ := gt_of c
    have e : nm W (fun w => I 45 (4 * k + w)) (fun w => I 30 (4 * x + w)) ↔ nm W (P y) (P x) := by
      unfold nm
      refine forall_congr' fun w => forall_congr' fun hw => ?_
      show I 45 (4 * k + w) ≤ I 30 (4 * x + w) ↔ _
      rw [(hf.2 k y hy).1 w hw, h5 x hx w hw]
    rw [tf_iff e]
    refine if_tf (fun q => mzT ⟨y, hym, q⟩) (fun q => ih c fun r z hr hz => ?_)
    by_cases d : r = k
    · rw [d, hy] at hz
      cases hz
      exact q
    · exact hp r z (by omega) hz
theorem c_putF_a {D W N kd : Nat} {P : Nat → Nat → Int32} {K : Nat → Nat} {I : Nat → Nat → Int32} {J : Nat → Nat → Int64} (h : plP W N P K I J) (ho : odP N (fun i => i) I) : ∃ f, (∀ i, i < N → f i < N) ∧ srt W P K N f ∧ ∃ r I' J', C1 (D + 4) 213 [.ref 29, .ref 44, .int (nI kd)] I J (.int r) I' J' ∧ (∀ q, q ≠ 32 → q ≠ 44 → q ≠ 45 → I' q = I q) ∧ (∀ q, q ≠ 46 → J' q = J q) ∧ I' 44 0 = nI kd ∧ ((cho W P f N).length ≤ 100 → r = nI (cho W P f N).length ∧ fnP_a W P K I' J' (cho W P f N)) ∧ (100 < (cho W P f N).length → r = -2) := by
  obtain ⟨I0, f, hc, s1, s2, s3⟩ := c_plSort (D := D) h ho
  have hfN : ∀ i, i < N → f i < N := fun i hi => (s2 i hi).2
  refine ⟨f, hfN, s3, ?_⟩
  have hN := h.2.2.1
  have hok := cho_ok (P := P) (K := K) s3.1
  refine mj_cI (e213_a _ ?_)
  refine ⟨trivial, _, _, hc, trivial, _, _, mj_mk (e182_a _ rfl), ?_⟩
  obtain ⟨Q, hQ⟩ : ∃ Q, Q = qI mj_R1 (fun r I' J' => (∀ q, q ≠ 32 → q ≠ 44 → q ≠ 45 → I' q = I q) ∧ (∀ q, q ≠ 46 → J' q = J q) ∧ I' 44 0 = nI kd ∧ ((cho W P f N).length ≤ 100 → r = nI (cho W P f N).length ∧ fnP_a W P K I' J' (cho W P f N)) ∧ (100 < (cho W P f N).length → r = -2)) := ⟨_, rfl⟩
  rw [← hQ]
  refine lp_up (n := N) (fun i => ∀ I' J', (∀ q, q ≠ 44 → q ≠ 45 → I' q = I0 q) → (∀ q, q ≠ 46 → J' q = J q) → I' 44 0 = nI kd → (cho W P f i).length ≤ 100 → fnP_a W P K I' J' (cho W P f i) → E1 213 (D + 3) Q 11 [(0, .ref 29), (1, .ref 44), (3, .int (nI i))] I' J') (fun i hi ih I' J' k1 k2 k3 k4 k5 => ?_) 0 (Nat.zero_le _) _ J (fun q q1 q2 => by rw [up_c q1, up_c q1]) (fun _ _ => rfl) (by rw [up_j (by decide), up_s]) (Nat.zero_le _) ⟨by rw [up_s]; rfl, fun r x q => by cases q⟩
  have frame : ∀ q, q ≠ 32 → q ≠ 44 → q ≠ 45 → I' q = I q := fun q q1 q2 q3 => by rw [k1 q q2 q3, s1 q q1]
  have hpl : plP W N P K I' J' := by
    obtain ⟨h1, h2, h3, h4, h5, h6⟩ := h
    exact ⟨by rw [frame 29 (by decide) (by decide) (by decide)]; exact h1, by rw [frame 29 (by decide) (by decide) (by decide)]; exact h2, h3, h4, fun x hx w hw => by rw [frame 30 (by decide) (by decide) (by decide)]; exact h5 x hx w hw, fun x hx => by rw [k2 31 (by decide)]; exact h6 x hx⟩
  refine mj_on (s213_11_a _ ?_)
  rw [hpl.1]
  refine if_le (by omega) (by omega) (fun c => ?_) (fun c => ⟨vp_in_nI (by omega) (by decide), ?_⟩)
  · obtain rfl : i = N := by omega
    rw [hQ]
    exact ⟨_, _, _, rfl, frame, k2, k3, fun _ => ⟨k5.1, k5⟩, fun q => absurd q (by omega)⟩
  obtain ⟨o1, o2⟩ := s2 i c
  have o1' : I' 32 i = nI (f i) := by rw [k1 32 (by decide) (by decide)]; exact o1
  have mem : ∀ y ∈ cho W P f i, y < N := fun y hy => by
    obtain ⟨j, hj, rfl⟩ := (hok i hi).1 y hy
    exact hfN j (by omega)
  rw [nI_clamp (by omega), o1', ix4m, hpl.2.1, nI_1]
  refine ⟨trivial, _, _, _, c_under_a (D := D + 1) hpl k5 k4 mem o2, if_tf (fun q => ?_) (fun q => ?_)⟩
  · exact ih c I' J' k1 k2 k3 (by rw [cho_t q]; exact k4) (by rw [cho_t q]; exact k5)
  have hl : (cho W P f (i + 1)).length = (cho W P f i).length + 1 := by rw [cho_f q, List.length_append]; rfl
  rw [k5.1, show (100 : Int32) = nI 100 from rfl]
  refine if_lt (by omega) (by decide) (fun d => ⟨vp_in_nI (by omega) (by decide), ?_⟩) (fun d => ?_)
  · rw [o1', nI_clamp (n := f i) (by omega), (hpl.2.2.2.2.2 (f i) o2).1]
    refine ⟨vp_in_nI (by omega) (by decide), ?_⟩
    have add : ∃ I'' J'', C1 (D + 3) 205 [.ref 44, .ref 30, .int (nI (4 * f i)), .long (lN (K (f i)))] I' J' .null I'' J'' ∧ (∀ q, q ≠ 44 → q ≠ 45 → I'' q = I' q) ∧ (∀ q, q ≠ 46 → J'' q = J' q) ∧ I'' 44 0 = I' 44 0 ∧ fnP_a W P K I'' J'' (cho W P f i ++ [f i]) := by
      refine ⟨mj_up (mj_cp I' 30 (4 * f i) 45 (4 * (cho W P f i).length) 4) 44 1 (nI ((cho W P f i).length + 1)), mj_up J' 46 (cho W P f i).length (lN (K (f i))), mj_mk (e205_a _ _ ?_), fun q q1 q2 => ?_, fun q q1 => ?_, ?_, ?_, fun r x hr => ?_⟩
      · rw [k5.1, show (100 : Int32) = nI 100 from rfl]
        refine if_le (by decide) (by omega) (fun z => absurd z (by omega)) (fun _ => ?_)
        rw [ix4m, nI_clamp (by omega), nI_clamp (by omega), nI_clamp (by omega), nI_1]
        exact ⟨⟨nI_pos (by omega), nI_pos (by omega), by decide, by show 4 * f i + 4 ≤ 26244; omega, by show 4 * (cho W P f i).length + 4 ≤ 400; omega⟩, vp_in_nI (by omega) (by decide), rfl⟩
      · rw [up_c q1]
        funext j
        exact if_neg q2
      · funext j
        exact if_neg q1
      · rw [up_j (by decide)]
        rfl
      · rw [up_s, List.length_append]
        rfl
      · have cp : ∀ j, mj_cp I' 30 (4 * f i) 45 (4 * (cho W P f i).length) 4 45 j = if 4 * (cho W P f i).length ≤ j ∧ j < 4 * (cho W P f i).length + 4 then I' 30 (4 * f i + (j - 4 * (cho W P f i).length)) else I' 45 j := fun j => if_pos rfl
        by_cases z : r < (cho W P f i).length
        · rw [List.getElem?_append_left z] at hr
          obtain ⟨y1, y2⟩ := k5.2 r x hr
          refine ⟨fun w hw => ?_, ?_⟩
          · have := hpl.2.2.2.1
            rw [up_c (by decide), cp, if_neg (by omega)]
            exact y1 w hw
          · rw [show mj_up J' 46 (cho W P f i).length (lN (K (f i))) 46 r = J' 46 r from by simp [mj_up]; omega]
            exact y2
        · rw [List.getElem?_append_right (by omega)] at hr
          have : r = (cho W P f i).length ∧ x = f i := by
            cases y : r - (cho W P f i).length with
            | zero => rw [y] at hr; cases hr; exact ⟨by omega, rfl⟩
            | succ y' => rw [y] at hr; cases hr
          obtain ⟨rfl, rfl⟩ := this
          refine ⟨fun w hw => ?_, upJ_s⟩
          have := hpl.2.2.2.1
          rw [up_c (by decide), cp, if_pos (by omega), show 4 * (cho W P f i).length + w - 4 * (cho W P f i).length = w by omega]
          exact hpl.2.2.2.2.1 (f i) o2 w hw
    obtain ⟨I'', J'', hc2, u1, u2, u3, u4⟩ := add
    refine ⟨trivial, _, _, hc2, ih c I'' J'' (fun q q1 q2 => by rw [u1 q q1 q2]; exact k1 q q1 q2) (fun q q1 => by rw [u2 q q1]; exact k2 q q1) (by rw [u3]; exact k3) (by omega) (by rw [cho_f q]; exact u4)⟩
  · rw [hQ]
    have := cho_len (W := W) (P := P) (f := f) (i := i + 1) (j := N) c
    exact ⟨_, _, _, rfl, frame, k2, k3, fun z => absurd z (by omega), fun _ => rfl⟩
def fnP_b (W : Nat) (P : Nat → Nat → Int32) (K : Nat → Nat) (I : Nat → Nat → Int32) (J : Nat → Nat → Int64) (L : List Nat) : Prop := I 41 1 = nI L.length ∧ ∀ r x, L[r]? = some x → (∀ w, w < W → I 42 (4 * r + w) = P x w) ∧ J 43 r = lN (K x)
theorem c_under_b {D W N : Nat} {P : Nat → Nat → Int32} {K : Nat → Nat} {I : Nat → Nat → Int32} {J : Nat → Nat → Int64} {L : List Nat} {x : Nat} (h : plP W N P K I J) (hf : fnP_b W P K I J L) (hL : L.length ≤ 100) (hm : ∀ y ∈ L, y < N) (hx : x < N) : C1 (D + 2) 218 [.ref 41, .ref 30, .int (nI (4 * x)), .int (nI W)] I J (.int (tf (∃ y, y ∈ L ∧ nm W (P y) (P x)))) I J := by
  obtain ⟨h1, h2, h3, h4, h5, h6⟩ := h
  refine mj_mk (e218_b _ _ ?_)
  refine lp_up (n := L.length) (fun k => (∀ r y, r < k → L[r]? = some y → ¬ nm W (P y) (P x)) → E1 218 (D + 1) (fun q => q = (.int (tf (∃ y, y ∈ L ∧ nm W (P y) (P x))), (I, J, mj_R1))) 3 [(0, .ref 41), (1, .ref 30), (2, .int (nI (4 * x))), (3, .int (nI W)), (4, .int (nI k))] I J) (fun k hk ih hp => ?_) 0 (Nat.zero_le _) (fun r y q => absurd q (Nat.not_lt_zero r))
  refine mj_on (s218_3_b _ _ _ ?_)
  rw [hf.1, ix4m, nI_1]
  refine if_le (by omega) (by omega) (fun c => mzF ?_) (fun c => ⟨trivial, _, _, _, c_nm_b (by omega) (by omega) h4, ?_⟩)
  · rintro ⟨y, hy, q⟩
    obtain ⟨r, hr, e⟩ := List.getElem_of_mem hy
    exact hp r y (by omega) (by rw [List.getElem?_eq_getElem hr, e]) q
  · obtain ⟨y, hy, hym, -⟩ := gt_of c
    have e : nm W (fun w => I 42 (4 * k + w)) (fun w => I 30 (4 * x + w)) ↔ nm W (P y) (P x) := by
      unfold nm
      refine forall_congr' fun w => forall_congr' fun hw => ?_
      show I 42 (4 * k + w) ≤ I 30 (4 * x + w) ↔ _
      rw [(hf.2 k y hy).1 w hw, h5 x hx w hw]
    rw [tf_iff e]
    refine if_tf (fun q => mzT ⟨y, hym, q⟩) (fun q => ih c fun r z hr hz => ?_)
    by_cases d : r = k
    · rw [d, hy] at hz
      cases hz
      exact q
    · exact hp r z (by omega) hz
theorem c_putF_b {D W N kd : Nat} {P : Nat → Nat → Int32} {K : Nat → Nat} {I : Nat → Nat → Int32} {J : Nat → Nat → Int64} (h : plP W N P K I J) (ho : odP N (fun i => i) I) : ∃ f, (∀ i, i < N → f i < N) ∧ srt W P K N f ∧ ∃ r I' J', C1 (D + 4) 213 [.ref 29, .ref 41, .int (nI kd)] I J (.int r) I' J' ∧ (∀ q, q ≠ 32 → q ≠ 41 → q ≠ 42 → I' q = I q) ∧ (∀ q, q ≠ 43 → J' q = J q) ∧ I' 41 0 = nI kd ∧ ((cho W P f N).length ≤ 100 → r = nI (cho W P f N).length ∧ fnP_b W P K I' J' (cho W P f N)) ∧ (100 < (cho W P f N).length → r = -2) := by
  obtain ⟨I0, f, hc, s1, s2, s3⟩ := c_plSort (D := D) h ho
  have hfN : ∀ i, i < N → f i < N := fun i hi => (s2 i hi).2
  refine ⟨f, hfN, s3, ?_⟩
  have hN := h.2.2.1
  have hok := cho_ok (P := P) (K := K) s3.1
  refine mj_cI (e213_b _ ?_)
  refine ⟨trivial, _, _, hc, trivial, _, _, mj_mk (e182_c _ rfl), ?_⟩
  obtain ⟨Q, hQ⟩ : ∃ Q, Q = qI mj_R1 (fun r I' J' => (∀ q, q ≠ 32 → q ≠ 41 → q ≠ 42 → I' q = I q) ∧ (∀ q, q ≠ 43 → J' q = J q) ∧ I' 41 0 = nI kd ∧ ((cho W P f N).length ≤ 100 → r = nI (cho W P f N).length ∧ fnP_b W P K I' J' (cho W P f N)) ∧ (100 < (cho W P f N).length → r = -2)) := ⟨_, rfl⟩
  rw [← hQ]
  refine lp_up (n := N) (fun i => ∀ I' J', (∀ q, q ≠ 41 → q ≠ 42 → I' q = I0 q) → (∀ q, q ≠ 43 → J' q = J q) → I' 41 0 = nI kd → (cho W P f i).length ≤ 100 → fnP_b W P K I' J' (cho W P f i) → E1 213 (D + 3) Q 11 [(0, .ref 29), (1, .ref 41), (3, .int (nI i))] I' J') (fun i hi ih I' J' k1 k2 k3 k4 k5 => ?_) 0 (Nat.zero_le _) _ J (fun q q1 q2 => by rw [up_c q1, up_c q1]) (fun _ _ => rfl) (by rw [up_j (by decide), up_s]) (Nat.zero_le _) ⟨by rw [up_s]; rfl, fun r x q => by cases q⟩
  have frame : ∀ q, q ≠ 32 → q ≠ 41 → q ≠ 42 → I' q = I q := fun q q1 q2 q3 => by rw [k1 q q2 q3, s1 q q1]
  have hpl : plP W N P K I' J' := by
    obtain ⟨h1, h2, h3, h4, h5, h6⟩ := h
    exact ⟨by rw [frame 29 (by decide) (by decide) (by decide)]; exact h1, by rw [frame 29 (by decide) (by decide) (by decide)]; exact h2, h3, h4, fun x hx w hw => by rw [frame 30 (by decide) (by decide) (by decide)]; exact h5 x hx w hw, fun x hx => by rw [k2 31 (by decide)]; exact h6 x hx⟩
  refine mj_on (s213_11_b _ ?_)
  rw [hpl.1]
  refine if_le (by omega) (by omega) (fun c => ?_) (fun c => ⟨vp_in_nI (by omega) (by decide), ?_⟩)
  · obtain rfl : i = N := by omega
    rw [hQ]
    exact ⟨_, _, _, rfl, frame, k2, k3, fun _ => ⟨k5.1, k5⟩, fun q => absurd q (by omega)⟩
  obtain ⟨o1, o2⟩ := s2 i c
  have o1' : I' 32 i = nI (f i) := by rw [k1 32 (by decide) (by decide)]; exact o1
  have mem : ∀ y ∈ cho W P f i, y < N := fun y hy => by
    obtain ⟨j, hj, rfl⟩ := (hok i hi).1 y hy
    exact hfN j (by omega)
  rw [nI_clamp (by omega), o1', ix4m, hpl.2.1, nI_1]
  refine ⟨trivial, _, _, _, c_under_b (D := D + 1) hpl k5 k4 mem o2, if_tf (fun q => ?_) (fun q => ?_)⟩
  · exact ih c I' J' k1 k2 k3 (by rw [cho_t q]; exact k4) (by rw [cho_t q]; exact k5)
  have hl : (cho W P f (i + 1)).length = (cho W P f i).length + 1 := by rw [cho_f q, List.length_append]; rfl
  rw [k5.1, show (100 : Int32) = nI 100 from rfl]
  refine if_lt (by omega) (by decide) (fun d => ⟨vp_in_nI (by omega) (by decide), ?_⟩) (fun d => ?_)
  · rw [o1', nI_clamp (n := f i) (by omega), (hpl.2.2.2.2.2 (f i) o2).1]
    refine ⟨vp_in_nI (by omega) (by decide), ?_⟩
    have add : ∃ I'' J'', C1 (D + 3) 205 [.ref 41, .ref 30, .int (nI (4 * f i)), .long (lN (K (f i)))] I' J' .null I'' J'' ∧ (∀ q, q ≠ 41 → q ≠ 42 → I'' q = I' q) ∧ (∀ q, q ≠ 43 → J'' q = J' q) ∧ I'' 41 0 = I' 41 0 ∧ fnP_b W P K I'' J'' (cho W P f i ++ [f i]) := by
      refine ⟨mj_up (mj_cp I' 30 (4 * f i) 42 (4 * (cho W P f i).length) 4) 41 1 (nI ((cho W P f i).length + 1)), mj_up J' 43 (cho W P f i).length (lN (K (f i))), mj_mk (e205_d _ _ ?_), fun q q1 q2 => ?_, fun q q1 => ?_, ?_, ?_, fun r x hr => ?_⟩
      · rw [k5.1, show (100 : Int32) = nI 100 from rfl]
        refine if_le (by decide) (by omega) (fun z => absurd z (by omega)) (fun _ => ?_)
        rw [ix4m, nI_clamp (by omega), nI_clamp (by omega), nI_clamp (by omega), nI_1]
        exact ⟨⟨nI_pos (by omega), nI_pos (by omega), by decide, by show 4 * f i + 4 ≤ 26244; omega, by show 4 * (cho W P f i).length + 4 ≤ 400; omega⟩, vp_in_nI (by omega) (by decide), rfl⟩
      · rw [up_c q1]
        funext j
        exact if_neg q2
      · funext j
        exact if_neg q1
      · rw [up_j (by decide)]
        rfl
      · rw [up_s, List.length_append]
        rfl
      · have cp : ∀ j, mj_cp I' 30 (4 * f i) 42 (4 * (cho W P f i).length) 4 42 j = if 4 * (cho W P f i).length ≤ j ∧ j < 4 * (cho W P f i).length + 4 then I' 30 (4 * f i + (j - 4 * (cho W P f i).length)) else I' 42 j := fun j => if_pos rfl
        by_cases z : r < (cho W P f i).length
        · rw [List.getElem?_append_left z] at hr
          obtain ⟨y1, y2⟩ := k5.2 r x hr
          refine ⟨fun w hw => ?_, ?_⟩
          · have := hpl.2.2.2.1
            rw [up_c (by decide), cp, if_neg (by omega)]
            exact y1 w hw
          · rw [show mj_up J' 43 (cho W P f i).length (lN (K (f i))) 43 r = J' 43 r from by simp [mj_up]; omega]
            exact y2
        · rw [List.getElem?_append_right (by omega)] at hr
          have : r = (cho W P f i).length ∧ x = f i := by
            cases y : r - (cho W P f i).length with
            | zero => rw [y] at hr; cases hr; exact ⟨by omega, rfl⟩
            | succ y' => rw [y] at hr; cases hr
          obtain ⟨rfl, rfl⟩ := this
          refine ⟨fun w hw => ?_, upJ_s⟩
          have := hpl.2.2.2.1
          rw [up_c (by decide), cp, if_pos (by omega), show 4 * (cho W P f i).length + w - 4 * (cho W P f i).length = w by omega]
          exact hpl.2.2.2.2.1 (f i) o2 w hw
    obtain ⟨I'', J'', hc2, u1, u2, u3, u4⟩ := add
    refine ⟨trivial, _, _, hc2, ih c I'' J'' (fun q q1 q2 => by rw [u1 q q1 q2]; exact k1 q q1 q2) (fun q q1 => by rw [u2 q q1]; exact k2 q q1) (by rw [u3]; exact k3) (by omega) (by rw [cho_f q]; exact u4)⟩
  · rw [hQ]
    have := cho_len (W := W) (P := P) (f := f) (i := i + 1) (j := N) c
    exact ⟨_, _, _, rfl, frame, k2, k3, fun z => absurd z (by omega), fun _ => rfl⟩
end
section
/-! a front copied into the one that is shown -/
theorem c_copy_a {D n : Nat} {I : Nat → Nat → Int32} {J : Nat → Nat → Int64} (hn : I 44 1 = nI n) (h100 : n ≤ 100) : ∃ I' J', C1 (D + 2) 219 [.ref 38, .ref 44] I J .null I' J' ∧ (∀ q j, q ≠ 39 → (q = 38 → j ≠ 0 ∧ j ≠ 1) → I' q j = I q j) ∧ (∀ q, q ≠ 40 → J' q = J q) ∧ I' 38 0 = I 44 0 ∧ I' 38 1 = nI n ∧ (∀ r w, r < n → w < 4 → I' 39 (4 * r + w) = I 45 (4 * r + w)) ∧ ∀ r, r < n → J' 40 r = J 46 r := by
  refine mj_cN (e219_a ?_)
  refine ⟨trivial, _, _, mj_mk (e182_b _ rfl), ?_⟩
  obtain ⟨Q, hQ⟩ : ∃ Q, Q = qN mj_R1 (fun I' J' => (∀ q j, q ≠ 39 → (q = 38 → j ≠ 0 ∧ j ≠ 1) → I' q j = I q j) ∧ (∀ q, q ≠ 40 → J' q = J q) ∧ I' 38 0 = I 44 0 ∧ I' 38 1 = nI n ∧ (∀ r w, r < n → w < 4 → I' 39 (4 * r + w) = I 45 (4 * r + w)) ∧ ∀ r, r < n → J' 40 r = J 46 r) := ⟨_, rfl⟩
  rw [← hQ]
  refine lp_up (n := n) (fun i => ∀ I' J', (∀ q j, q ≠ 39 → (q = 38 → j ≠ 0 ∧ j ≠ 1) → I' q j = I q j) → (∀ q, q ≠ 40 → J' q = J q) → I' 38 0 = I 44 0 → I' 38 1 = nI i → (∀ r w, r < i → w < 4 → I' 39 (4 * r + w) = I 45 (4 * r + w)) → (∀ r, r < i → J' 40 r = J 46 r) → E1 219 (D + 1) Q 10 [(0, .ref 38), (1, .ref 44), (2, .int (nI i))] I' J') (fun i hi ih I' J' k1 k2 k3 k4 k5 k6 => ?_) 0 (Nat.zero_le _) _ J (fun q j q1 q2 => ?_) (fun _ _ => rfl) (by rw [up_j (by decide), up_s]) (by rw [up_s]; rfl) (fun r w q => absurd q (Nat.not_lt_zero r)) (fun r q => absurd q (Nat.not_lt_zero r))
  · refine mj_on (s219_10_a _ ?_)
    rw [k1 44 1 (by decide) (fun q => absurd q (by decide)), hn, nI_clamp (by omega), ix4m, nI_1]
    refine if_le (by omega) (by omega) (fun c => ?_) (fun c => ⟨vp_in_nI (by omega) (by decide), ?_⟩)
    · obtain rfl : i = n := by omega
      rw [hQ]
      exact ⟨_, _, rfl, k1, k2, k3, k4, k5, k6⟩
    refine ⟨trivial, mj_up (mj_cp I' 45 (4 * i) 39 (4 * i) 4) 38 1 (nI (i + 1)), mj_up J' 40 i (J' 46 i), mj_mk (e205_b _ _ ?_), ?_⟩
    · rw [k4, show (100 : Int32) = nI 100 from rfl]
      refine if_le (by decide) (by omega) (fun z => absurd z (by omega)) (fun _ => ?_)
      rw [ix4m, nI_clamp (by omega), nI_clamp (by omega), nI_1]
      exact ⟨⟨nI_pos (by omega), nI_pos (by omega), by decide, by show 4 * i + 4 ≤ 400; omega, by show 4 * i + 4 ≤ 400; omega⟩, vp_in_nI (by omega) (by decide), rfl⟩
    · have cp : ∀ j, mj_cp I' 45 (4 * i) 39 (4 * i) 4 39 j = if 4 * i ≤ j ∧ j < 4 * i + 4 then I' 45 (4 * i + (j - 4 * i)) else I' 39 j := fun j => if_pos rfl
      have co : ∀ q j, q ≠ 39 → mj_cp I' 45 (4 * i) 39 (4 * i) 4 q j = I' q j := fun q j hq => if_neg hq
      refine ih c _ _ (fun q j q1 q2 => ?_) (fun q q1 => ?_) ?_ (by rw [up_s]) (fun r w hr hw => ?_) (fun r hr => ?_)
      · by_cases z : q = 38
        · subst z
          rw [up_j (q2 rfl).2, co _ _ q1]
          exact k1 _ _ q1 q2
        · rw [up_c z, co _ _ q1]
          exact k1 _ _ q1 q2
      · funext j
        have e : mj_up J' 40 i (J' 46 i) q j = J' q j := if_neg q1
        rw [e, k2 q q1]
      · rw [up_j (by decide), co _ _ (by decide)]
        exact k3
      · rw [up_c (by decide), cp]
        by_cases z : r = i
        · subst z
          rw [if_pos (by omega), show 4 * r + (4 * r + w - 4 * r) = 4 * r + w by omega]
          exact k1 45 _ (by decide) (fun q => absurd q (by decide))
        · rw [if_neg (by omega)]
          exact k5 r w (by omega) hw
      · by_cases z : r = i
        · subst z
          rw [upJ_s, k2 46 (by decide)]
        · rw [show mj_up J' 40 i (J' 46 i) 40 r = J' 40 r from by simp [mj_up, z]]
          exact k6 r (by omega)
  · by_cases z : q = 38
    · subst z
      rw [up_j (q2 rfl).2, up_j (q2 rfl).1]
    · rw [up_c z, up_c z]
theorem c_copy_b {D n : Nat} {I : Nat → Nat → Int32} {J : Nat → Nat → Int64} (hn : I 41 1 = nI n) (h100 : n ≤ 100) : ∃ I' J', C1 (D + 2) 219 [.ref 38, .ref 41] I J .null I' J' ∧ (∀ q j, q ≠ 39 → (q = 38 → j ≠ 0 ∧ j ≠ 1) → I' q j = I q j) ∧ (∀ q, q ≠ 40 → J' q = J q) ∧ I' 38 0 = I 41 0 ∧ I' 38 1 = nI n ∧ (∀ r w, r < n → w < 4 → I' 39 (4 * r + w) = I 42 (4 * r + w)) ∧ ∀ r, r < n → J' 40 r = J 43 r := by
  refine mj_cN (e219_b ?_)
  refine ⟨trivial, _, _, mj_mk (e182_b _ rfl), ?_⟩
  obtain ⟨Q, hQ⟩ : ∃ Q, Q = qN mj_R1 (fun I' J' => (∀ q j, q ≠ 39 → (q = 38 → j ≠ 0 ∧ j ≠ 1) → I' q j = I q j) ∧ (∀ q, q ≠ 40 → J' q = J q) ∧ I' 38 0 = I 41 0 ∧ I' 38 1 = nI n ∧ (∀ r w, r < n → w < 4 → I' 39 (4 * r + w) = I 42 (4 * r + w)) ∧ ∀ r, r < n → J' 40 r = J 43 r) := ⟨_, rfl⟩
  rw [← hQ]
  refine lp_up (n := n) (fun i => ∀ I' J', (∀ q j, q ≠ 39 → (q = 38 → j ≠ 0 ∧ j ≠ 1) → I' q j = I q j) → (∀ q, q ≠ 40 → J' q = J q) → I' 38 0 = I 41 0 → I' 38 1 = nI i → (∀ r w, r < i → w < 4 → I' 39 (4 * r + w) = I 42 (4 * r + w)) → (∀ r, r < i → J' 40 r = J 43 r) → E1 219 (D + 1) Q 10 [(0, .ref 38), (1, .ref 41), (2, .int (nI i))] I' J') (fun i hi ih I' J' k1 k2 k3 k4 k5 k6 => ?_) 0 (Nat.zero_le _) _ J (fun q j q1 q2 => ?_) (fun _ _ => rfl) (by rw [up_j (by decide), up_s]) (by rw [up_s]; rfl) (fun r w q => absurd q (Nat.not_lt_zero r)) (fun r q => absurd q (Nat.not_lt_zero r))
  · refine mj_on (s219_10_b _ ?_)
    rw [k1 41 1 (by decide) (fun q => absurd q (by decide)), hn, nI_clamp (by omega), ix4m, nI_1]
    refine if_le (by omega) (by omega) (fun c => ?_) (fun c => ⟨vp_in_nI (by omega) (by decide), ?_⟩)
    · obtain rfl : i = n := by omega
      rw [hQ]
      exact ⟨_, _, rfl, k1, k2, k3, k4, k5, k6⟩
    refine ⟨trivial, mj_up (mj_cp I' 42 (4 * i) 39 (4 * i) 4) 38 1 (nI (i + 1)), mj_up J' 40 i (J' 43 i), mj_mk (e205_c _ _ ?_), ?_⟩
    · rw [k4, show (100 : Int32) = nI 100 from rfl]
      refine if_le (by decide) (by omega) (fun z => absurd z (by omega)) (fun _ => ?_)
      rw [ix4m, nI_clamp (by omega), nI_clamp (by omega), nI_1]
      exact ⟨⟨nI_pos (by omega), nI_pos (by omega), by decide, by show 4 * i + 4 ≤ 400; omega, by show 4 * i + 4 ≤ 400; omega⟩, vp_in_nI (by omega) (by decide), rfl⟩
    · have cp : ∀ j, mj_cp I' 42 (4 * i) 39 (4 * i) 4 39 j = if 4 * i ≤ j ∧ j < 4 * i + 4 then I' 42 (4 * i + (j - 4 * i)) else I' 39 j := fun j => if_pos rfl
      have co : ∀ q j, q ≠ 39 → mj_cp I' 42 (4 * i) 39 (4 * i) 4 q j = I' q j := fun q j hq => if_neg hq
      refine ih c _ _ (fun q j q1 q2 => ?_) (fun q q1 => ?_) ?_ (by rw [up_s]) (fun r w hr hw => ?_) (fun r hr => ?_)
      · by_cases z : q = 38
        · subst z
          rw [up_j (q2 rfl).2, co _ _ q1]
          exact k1 _ _ q1 q2
        · rw [up_c z, co _ _ q1]
          exact k1 _ _ q1 q2
      · funext j
        have e : mj_up J' 40 i (J' 43 i) q j = J' q j := if_neg q1
        rw [e, k2 q q1]
      · rw [up_j (by decide), co _ _ (by decide)]
        exact k3
      · rw [up_c (by decide), cp]
        by_cases z : r = i
        · subst z
          rw [if_pos (by omega), show 4 * r + (4 * r + w - 4 * r) = 4 * r + w by omega]
          exact k1 42 _ (by decide) (fun q => absurd q (by decide))
        · rw [if_neg (by omega)]
          exact k5 r w (by omega) hw
      · by_cases z : r = i
        · subst z
          rw [upJ_s, k2 43 (by decide)]
        · rw [show mj_up J' 40 i (J' 43 i) 40 r = J' 40 r from by simp [mj_up, z]]
          exact k6 r (by omega)
  · by_cases z : q = 38
    · subst z
      rw [up_j (q2 rfl).2, up_j (q2 rfl).1]
    · rw [up_c z, up_c z]
end
section
/-! front of kind 0 -/
noncomputable def blL (C : Int64) : Nat → List Nat
  | 0 => []
  | n + 1 => @ite _ (lbit C n) (Classical.propDecidable _) (blL C n ++ [n]) (blL C n)
theorem blL_t {C : Int64} {n : Nat} (h : lbit C n) : blL C (n + 1) = blL C n ++ [n] := @if_pos _ (Classical.propDecidable _) h _ _ _
theorem blL_f {C : Int64} {n : Nat} (h : ¬ lbit C n) : blL C (n + 1) = blL C n := @if_neg _ (Classical.propDecidable _) h _ _ _
theorem blL_ok {C : Int64} : ∀ {n : Nat}, (blL C n).length ≤ n ∧ ∀ x ∈ blL C n, x < n
  | 0 => ⟨Nat.le_refl _, fun x h => by cases h⟩
  | n + 1 => by
    obtain ⟨h1, h2⟩ := blL_ok (C := C) (n := n)
    rcases Classical.em (lbit C n) with q | q
    · rw [blL_t q]
      refine ⟨by rw [List.length_append]; show _ + 1 ≤ _; omega, fun x hx => ?_⟩
      rcases List.mem_append.mp hx with z | z
      · have := h2 x z; omega
      · rw [List.mem_singleton.mp z]; omega
    · rw [blL_f q]
      exact ⟨by omega, fun x hx => by have := h2 x hx; omega⟩
theorem app_at {α : Type} {l : List α} {y x : α} {r : Nat} (h : (l ++ [y])[r]? = some x) : (r < l.length ∧ l[r]? = some x) ∨ (r = l.length ∧ x = y) := by
  by_cases z : r < l.length
  · rw [List.getElem?_append_left z] at h
    exact Or.inl ⟨z, h⟩
  · rw [List.getElem?_append_right (by omega)] at h
    cases y' : r - l.length with
    | zero => rw [y'] at h; cases h; exact Or.inr ⟨by omega, rfl⟩
    | succ k => rw [y'] at h; cases h
section S85
variable {D b W Rn Kn Tn Hn Un g : Nat} {I I1 I2 : Nat → Nat → Int32} {J J1 J2 : Nat → Nat → Int64}
theorem c_rowsFront (h : Rl b W Rn Kn Tn Hn Un g I1 J1 I2 J2) : ∃ I' J', C1 (D + 2) 204 [.ref 24, .ref 38] I1 J1 .null I' J' ∧ (∀ q j, q ≠ 39 → (q = 38 → j ≠ 0 ∧ j ≠ 1) → I' q j = I1 q j) ∧ (∀ q, q ≠ 40 → J' q = J1 q) ∧ I' 38 0 = 0 ∧ I' 38 1 = nI (blL (J1 24 6) Rn).length ∧ ∀ r x, (blL (J1 24 6) Rn)[r]? = some x → (∀ w, w < 4 → I' 39 (4 * r + w) = I1 25 (4 * x + w)) ∧ J' 40 r = lN x := by
  obtain ⟨w1, w2, w3, w4⟩ := h.W24
  refine mj_cN (e204 ?_)
  refine ⟨trivial, _, _, mj_mk (e182_b _ rfl), ?_⟩
  obtain ⟨C, hC⟩ : ∃ C, C = J1 24 6 := ⟨_, rfl⟩
  rw [← hC]
  obtain ⟨Q, hQ⟩ : ∃ Q, Q = qN mj_R1 (fun I' J' => (∀ q j, q ≠ 39 → (q = 38 → j ≠ 0 ∧ j ≠ 1) → I' q j = I1 q j) ∧ (∀ q, q ≠ 40 → J' q = J1 q) ∧ I' 38 0 = 0 ∧ I' 38 1 = nI (blL C Rn).length ∧ ∀ r x, (blL C Rn)[r]? = some x → (∀ w, w < 4 → I' 39 (4 * r + w) = I1 25 (4 * x + w)) ∧ J' 40 r = lN x) := ⟨_, rfl⟩
  rw [← hQ]
  refine lp_up (n := Rn) (fun i => ∀ I' J', (∀ q j, q ≠ 39 → (q = 38 → j ≠ 0 ∧ j ≠ 1) → I' q j = I1 q j) → (∀ q, q ≠ 40 → J' q = J1 q) → I' 38 0 = 0 → I' 38 1 = nI (blL C i).length → (∀ r x, (blL C i)[r]? = some x → (∀ w, w < 4 → I' 39 (4 * r + w) = I1 25 (4 * x + w)) ∧ J' 40 r = lN x) → E1 204 (D + 1) Q 7 [(0, .ref 24), (1, .ref 38), (2, .int (nI i))] I' J') (fun i hi ih I' J' k1 k2 k3 k4 k5 => ?_) 0 (Nat.zero_le _) _ J1 (fun q j q1 q2 => ?_) (fun _ _ => rfl) (by rw [up_j (by decide), up_s]) (by rw [up_s]; rfl) (fun r x q => by cases q)
  · refine mj_on (s204_7 _ ?_)
    rw [k1 24 0 (by decide) (fun q => absurd q (by decide)), w1, k2 24 (by decide), ← hC, nI_1, ix4m]
    obtain ⟨l1, l2⟩ := blL_ok (C := C) (n := i)
    refine if_le (by omega) (by omega) (fun c => ?_) (fun c => ⟨trivial, _, _, _, c_isIn (by omega), if_tf (fun d => ?_) (fun d => ih c I' J' k1 k2 k3 (by rw [blL_f d]; exact k4) (by rw [blL_f d]; exact k5))⟩)
    · obtain rfl : i = Rn := by omega
      rw [hQ]
      exact ⟨_, _, rfl, k1, k2, k3, k4, k5⟩
    refine ⟨trivial, mj_up (mj_cp I' 25 (4 * i) 39 (4 * (blL C i).length) 4) 38 1 (nI ((blL C i).length + 1)), mj_up J' 40 (blL C i).length (lN i), mj_mk (e205_e _ _ ?_), ?_⟩
    · rw [k4, show (100 : Int32) = nI 100 from rfl]
      refine if_le (by decide) (by omega) (fun z => absurd z (by omega)) (fun _ => ?_)
      rw [ix4m, nI_clamp (by omega), nI_clamp (by omega), nI_clamp (by omega), nI_1, nI_toL (by omega)]
      exact ⟨⟨nI_pos (by omega), nI_pos (by omega), by decide, by show 4 * i + 4 ≤ 160; omega, by show 4 * (blL C i).length + 4 ≤ 400; omega⟩, vp_in_nI (by omega) (by decide), rfl⟩
    · have cp : ∀ j, mj_cp I' 25 (4 * i) 39 (4 * (blL C i).length) 4 39 j = if 4 * (blL C i).length ≤ j ∧ j < 4 * (blL C i).length + 4 then I' 25 (4 * i + (j - 4 * (blL C i).length)) else I' 39 j := fun j => if_pos rfl
      have co : ∀ q j, q ≠ 39 → mj_cp I' 25 (4 * i) 39 (4 * (blL C i).length) 4 q j = I' q j := fun q j hq => if_neg hq
      refine ih c _ _ (fun q j q1 q2 => ?_) (fun q q1 => ?_) ?_ (by rw [up_s, blL_t d, List.length_append]; rfl) (fun r x hr => ?_)
      · by_cases z : q = 38
        · subst z
          rw [up_j (q2 rfl).2, co _ _ q1]
          exact k1 _ _ q1 q2
        · rw [up_c z, co _ _ q1]
          exact k1 _ _ q1 q2
      · funext j
        have e : mj_up J' 40 (blL C i).length (lN i) q j = J' q j := if_neg q1
        rw [e, k2 q q1]
      · rw [up_j (by decide), co _ _ (by decide)]
        exact k3
      · rw [blL_t d] at hr
        rcases app_at hr with ⟨z1, z2⟩ | ⟨rfl, rfl⟩
        · obtain ⟨y1, y2⟩ := k5 r x z2
          refine ⟨fun w hw => ?_, ?_⟩
          · rw [up_c (by decide), cp, if_neg (by omega)]
            exact y1 w hw
          · rw [show mj_up J' 40 (blL C i).length (lN i) 40 r = J' 40 r from by simp [mj_up]; omega]
            exact y2
        · refine ⟨fun w hw => ?_, upJ_s⟩
          rw [up_c (by decide), cp, if_pos (by omega), show 4 * (blL C x).length + w - 4 * (blL C x).length = w by omega]
          exact k1 25 _ (by decide) (fun q => absurd q (by decide))
  · by_cases z : q = 38
    · subst z
      rw [up_j (q2 rfl).2, up_j (q2 rfl).1]
    · rw [up_c z, up_c z]
end S85
end
section
/-! the reference shows one of its kept rows -/
section S86
variable {D b W Rn : Nat} {I : Nat → Nat → Int32} {J : Nat → Nat → Int64}
def plR (W k p : Nat) (I I' : Nat → Nat → Int32) : Prop := (∀ q, q ≠ 37 → q ≠ 38 → q ≠ 39 → I' q = I q) ∧ (∀ w, w < W → I' 37 (4 * k + w) = I 29 (4 * p + w)) ∧ (∀ j, j < 4 * k → I' 37 j = I 37 j) ∧ I' 38 k = I 30 p ∧ (∀ j, j ≠ k → I' 38 j = I 38 j) ∧ (∀ j, j < 10 → I' 39 (10 * k + j) = I 31 (10 * p + j)) ∧ ∀ j, j < 10 * k → I' 39 j = I 39 j
theorem r_placeRow {k p : Nat} {x1 : Int32} {Q : mj_R → Prop} (hB : rB I b W Rn) (hk : k < 100) (hp : p < 8192) (next : ∀ I', plR W k p I I' → E2 70 D Q 240 [(0, .ref 0), (1, .int x1), (4, .int (nI (k + 1)))] I' J) : E2 70 D Q 336 [(0, .ref 0), (1, .int x1), (4, .int (nI k)), (5, .int (nI p)), (6, .int 0)] I J := by
  obtain ⟨b1, b2, b3, b4, b5, b6⟩ := id hB
  refine lp_up (n := W) (fun w => ∀ I', (∀ q, q ≠ 37 → I' q = I q) → (∀ u, u < w → I' 37 (4 * k + u) = I 29 (4 * p + u)) → (∀ j, j < 4 * k → I' 37 j = I 37 j) → E2 70 D Q 336 [(0, .ref 0), (1, .int x1), (4, .int (nI k)), (5, .int (nI p)), (6, .int (nI w))] I' J) (fun w hw ih I' k1 k2 k3 => ?_) 0 (Nat.zero_le _) I (fun _ _ => rfl) (fun u hu => absurd hu (Nat.not_lt_zero u)) (fun _ _ => rfl)
  refine mj_on (s70_336 _ _ _ _ ?_)
  rw [k1 0 (by decide), k1 2 (by decide), b1, nI_clamp (n := b) (by omega), b3, ix4', ix4', nI_1, nI_clamp (n := 4 * k + w) (by omega), nI_clamp (n := 4 * p + w) (by omega), nI_clamp (n := k) (by omega), nI_clamp (n := p) (by omega)]
  refine ⟨vp_in_nI b2 (by decide), if_le (by omega) (by omega) (fun c => ⟨vp_in_nI (by omega) (by decide), vp_in_nI (by omega) (by decide), ?_⟩) (fun c => ⟨vp_in_nI (by omega) (by decide), vp_in_nI (by omega) (by decide), ?_⟩)⟩
  · obtain rfl : w = W := by omega
    refine lp_up (n := 10) (fun j => ∀ I'', (∀ q, q ≠ 37 → q ≠ 38 → q ≠ 39 → I'' q = I q) → I'' 37 = I' 37 → I'' 38 k = I 30 p → (∀ j, j ≠ k → I'' 38 j = I 38 j) → (∀ u, u < j → I'' 39 (10 * k + u) = I 31 (10 * p + u)) → (∀ u, u < 10 * k → I'' 39 u = I 39 u) → E2 70 D Q 397 [(0, .ref 0), (1, .int x1), (4, .int (nI k)), (5, .int (nI p)), (6, .int (nI j))] I'' J) (fun j hj ih2 I'' m1 m2 m3 m4 m5 m6 => ?_) 0 (Nat.zero_le _) _ (fun q q1 q2 q3 => by rw [up_c q2]; exact k1 q q1) (by rw [up_c (by decide)]) (by rw [up_s, k1 30 (by decide)]) (fun j hj => by rw [up_j hj, k1 38 (by decide)]) (fun u hu => absurd hu (Nat.not_lt_zero u)) (fun u hu => by rw [up_c (by decide), k1 39 (by decide)])
    refine mj_on (s70_397 _ _ _ _ ?_)
    rw [show (10 : Int32) = nI 10 from rfl, pk_mul, pk_mul, nI_add, nI_add, nI_1, nI_1, nI_clamp (by omega), nI_clamp (by omega)]
    refine if_le (by omega) (by omega) (fun c2 => next I'' ⟨m1, fun u hu => by rw [m2]; exact k2 u hu, fun u hu => by rw [m2]; exact k3 u hu, m3, m4, fun u hu => m5 u (by omega), m6⟩) (fun c2 => ⟨vp_in_nI (by omega) (by decide), vp_in_nI (by omega) (by decide), ?_⟩)
    refine ih2 c2 _ (fun q q1 q2 q3 => by rw [up_c q3]; exact m1 q q1 q2 q3) (by rw [up_c (by decide)]; exact m2) (by rw [up_c (by decide)]; exact m3) (fun u hu => by rw [up_c (by decide)]; exact m4 u hu) (fun u hu => ?_) (fun u hu => by rw [up_j (by omega)]; exact m6 u hu)
    by_cases z : u = j
    · rw [z, up_s, m1 31 (by decide) (by decide) (by decide)]
    · rw [up_j (by omega)]; exact m5 u (by omega)
  · refine ih c _ (fun q hq => by rw [up_c hq]; exact k1 q hq) (fun u hu => ?_) (fun u hu => by rw [up_j (by omega)]; exact k3 u hu)
    by_cases z : u = w
    · rw [z, up_s, k1 29 (by decide)]
    · rw [up_j (by omega)]; exact k2 u (by omega)
end S86
end
section
/-! front of kind 0, the reference -/
section S87
variable {D b W Rn Kn Tn Hn Un g : Nat} {I I1 I2 : Nat → Nat → Int32} {J J1 J2 : Nat → Nat → Int64}
theorem rB_h (h : rB I2 b W Rn) (e : mkI ([37, 38, 39] ++ sc2) ([(0, 58), (0, 59)] ++ sl2) I = mkI ([37, 38, 39] ++ sc2) ([(0, 58), (0, 59)] ++ sl2) I2) : rB I b W Rn := by
  obtain ⟨b1, b2, b3, b4, b5, b6⟩ := h
  exact ⟨by rw [km_at e rfl]; exact b1, b2, by rw [km_at e rfl]; exact b3, b4, by rw [km_at e rfl]; exact b5, b6⟩
def kpt (W : Nat) (I1 I : Nat → Nat → Int32) (L : List Nat) : Prop := I 0 48 = nI L.length ∧ ∀ r x, L[r]? = some x → (∀ w, w < W → I 29 (4 * r + w) = I1 25 (4 * x + w)) ∧ I 30 r = nI x
theorem r_front0 {x2 x3 : Int32} (h : Rl b W Rn Kn Tn Hn Un g I1 J1 I2 J2) (hW : W ≠ 0) : ∃ r I' J', C2 900 70 [.ref 0, .int 0, .int x2, .int x3] I2 J2 (.int r) I' J' ∧ r = nI (blL (J1 24 6) Rn).length ∧ J' = J2 ∧ I' 0 58 = nI (blL (J1 24 6) Rn).length ∧ I' 0 59 = 0 ∧ (∀ r x, (blL (J1 24 6) Rn)[r]? = some x → (∀ w, w < W → I' 37 (4 * r + w) = I1 25 (4 * x + w)) ∧ I' 38 r = nI x) ∧ mkI ([37, 38, 39] ++ sc2) ([(0, 58), (0, 59)] ++ sl2) I' = mkI ([37, 38, 39] ++ sc2) ([(0, 58), (0, 59)] ++ sl2) I2 := by
  have hB := h.rB
  obtain ⟨b1, b2, b3, b4, b5, b6⟩ := id hB
  refine mj_cI (D := 899) (e70 _ _ _ ?_)
  have k0 : k2 (mj_up I2 0 48 0) = k2 I2 := k2_up rfl
  have h0 := Rl_same (I1' := I1) (J1' := J1) (J2' := J2) h rfl rfl k0 rfl
  have rf := h0.rfront (D := 895)
  obtain ⟨C, hC⟩ : ∃ C, C = J1 24 6 := ⟨_, rfl⟩
  rw [← hC] at rf ⊢
  obtain ⟨Q, hQ⟩ : ∃ Q, Q = qI mj_R2 (fun r I' J' => r = nI (blL C Rn).length ∧ J' = J2 ∧ I' 0 58 = nI (blL C Rn).length ∧ I' 0 59 = 0 ∧ (∀ r x, (blL C Rn)[r]? = some x → (∀ w, w < W → I' 37 (4 * r + w) = I1 25 (4 * x + w)) ∧ I' 38 r = nI x) ∧ mkI ([37, 38, 39] ++ sc2) ([(0, 58), (0, 59)] ++ sl2) I' = mkI ([37, 38, 39] ++ sc2) ([(0, 58), (0, 59)] ++ sl2) I2) := ⟨_, rfl⟩
  rw [← hQ]
  obtain ⟨l1, l2⟩ := blL_ok (C := C) (n := Rn)
  refine ⟨trivial, _, _, _, r_is, if_tf (fun _ => ?_) (fun q => absurd ⟨by decide, by decide⟩ q)⟩
  rw [b1, nI_clamp (by omega), b3, if_neg (nI_ne0 (by omega) (by omega)), if_neg (by decide)]
  refine ⟨vp_in_nI b2 (by decide), mj_on (s70_73 _ _ _ ?_)⟩
  rw [if_pos rfl]
  refine ⟨trivial, _, _, _, rf, ?_⟩
  -- the rows laid out
  have shown : ∀ I, k2 I = k2 I2 → kpt W I1 I (blL C Rn) → E2 70 899 Q 192 [(0, .ref 0), (1, .int 0), (2, .int x2), (3, .int x3)] I J2 := fun I hk hp => by
    refine mj_on (s70_192 _ _ _ ?_)
    rw [if_neg (by decide), if_neg (by decide)]
    refine mj_on (s70_212 _ ?_)
    rw [hp.1, show (100 : Int32) = nI 100 from rfl]
    refine if_le (by omega) (by decide) (fun _ => ?_) (fun q => absurd q (by omega))
    refine lp_up (n := (blL C Rn).length) (fun k => ∀ I, mkI ([37, 38, 39] ++ sc2) ([(0, 58), (0, 59)] ++ sl2) I = mkI ([37, 38, 39] ++ sc2) ([(0, 58), (0, 59)] ++ sl2) I2 → kpt W I1 I (blL C Rn) → I 0 58 = nI (blL C Rn).length → I 0 59 = 0 → (∀ r x, r < k → (blL C Rn)[r]? = some x → (∀ w, w < W → I 37 (4 * r + w) = I1 25 (4 * x + w)) ∧ I 38 r = nI x) → E2 70 899 Q 240 [(0, .ref 0), (1, .int 0), (4, .int (nI k))] I J2) (fun k hk2 ih I m1 m2 m3 m4 m5 => ?_) 0 (Nat.zero_le _) _ (by rw [mkI_up rfl, mkI_up rfl]; exact mkI_k2 hk) ⟨by rw [up_j (by decide), up_j (by decide)]; exact hp.1, fun r x q => by rw [up_c (by decide), up_c (by decide)]; exact hp.2 r x q⟩ (by rw [up_s]) (by rw [up_j (by decide), up_s]) (fun r x q => absurd q (Nat.not_lt_zero r))
    refine mj_on (s70_240 _ _ ?_)
    rw [m2.1]
    refine if_le (by omega) (by omega) (fun c => ?_) (fun c => ?_)
    · obtain rfl : k = (blL C Rn).length := by omega
      rw [hQ]
      exact ⟨_, _, _, rfl, rfl, rfl, m3, m4, fun r x q => m5 r x (by have := (List.getElem?_eq_some_iff.mp q).1; omega) q, m1⟩
    have go : E2 70 899 Q 336 [(0, .ref 0), (1, .int 0), (4, .int (nI k)), (5, .int (nI k)), (6, .int 0)] I J2 := by
      refine r_placeRow (rB_h hB m1) (by omega) (by omega) fun I' hpl => ?_
      obtain ⟨p1, p2, p3, p4, p5, p6, p7⟩ := hpl
      have f0 := p1 0 (by decide) (by decide) (by decide)
      refine ih c I' ?_ ⟨by rw [f0]; exact m2.1, fun r x q => by rw [p1 29 (by decide) (by decide) (by decide), p1 30 (by decide) (by decide) (by decide)]; exact m2.2 r x q⟩ (by rw [f0]; exact m3) (by rw [f0]; exact m4) (fun r x q1 q2 => ?_)
      · rw [← m1]
        refine mkI_of fun q j q1 _ => ?_
        rw [p1 q (fun z => by rw [z] at q1; cases q1) (fun z => by rw [z] at q1; cases q1) (fun z => by rw [z] at q1; cases q1)]
      · by_cases z : r = k
        · subst z
          obtain ⟨y1, y2⟩ := m2.2 r x q2
          exact ⟨fun w hw => by rw [p2 w hw]; exact y1 w hw, by rw [p4]; exact y2⟩
        · obtain ⟨y1, y2⟩ := m5 r x (by omega) q2
          exact ⟨fun w hw => by rw [p3 _ (by omega)]; exact y1 w hw, by rw [p5 r z]; exact y2⟩
    refine mj_on (s70_256 _ _ _ _ ?_)
    rw [if_pos (show (0 : Int32) ≤ 0 by decide)]
    exact if_i (fun _ => go) (fun _ => go)
  refine lp_up (n := Rn) (fun i => ∀ I, k2 I = k2 I2 → kpt W I1 I (blL C i) → E2 70 899 Q 91 [(0, .ref 0), (1, .int 0), (2, .int x2), (3, .int x3), (4, .long C), (6, .int (nI i))] I J2) (fun i hi ih I hk hp => ?_) 0 (Nat.zero_le _) _ k0 ⟨by rw [up_s]; rfl, fun r x q => by cases q⟩
  have hI := Rl_same (I1' := I1) (J1' := J1) (J2' := J2) h rfl rfl hk rfl
  obtain ⟨q1, q2, q3, q4, q5, q6⟩ := hI.rB
  obtain ⟨i1, i2⟩ := blL_ok (C := C) (n := i)
  refine mj_on (s70_91 _ _ _ _ _ ?_)
  rw [q1, nI_clamp (by omega), q5, nI_1]
  refine ⟨vp_in_nI b2 (by decide), if_le (by omega) (by omega) (fun c => ?_) (fun c => if_i (fun d => ?_) (fun d => ?_))⟩
  · obtain rfl : i = Rn := by omega
    exact shown I hk hp
  · have z := ih c I hk
    rw [blL_f ((sb_0 (by omega)).mp d)] at z
    exact z hp
  have d : lbit C i := Classical.byContradiction fun q => d ((sb_0 (by omega)).mpr q)
  refine lp_up (n := W) (fun w => ∀ I, k2 I = k2 I2 → kpt W I1 I (blL C i) → (∀ u, u < w → I 29 (4 * (blL C i).length + u) = I1 25 (4 * i + u)) → E2 70 899 Q 123 [(0, .ref 0), (1, .int 0), (2, .int x2), (3, .int x3), (4, .long C), (6, .int (nI i)), (7, .int (nI w))] I J2) (fun w hw ih2 I hk hp hw2 => ?_) 0 (Nat.zero_le _) I hk hp (fun u q => absurd q (Nat.not_lt_zero u))
  have hI := Rl_same (I1' := I1) (J1' := J1) (J2' := J2) h rfl rfl hk rfl
  obtain ⟨q1, q2, q3, q4, q5, q6⟩ := hI.rB
  refine mj_on (s70_123 _ _ _ _ _ _ ?_)
  rw [q1, nI_clamp (by omega), q3, hp.1, nI_1, nI_1, nI_1, ix4', nI_clamp (by omega), nI_clamp (by omega)]
  refine ⟨vp_in_nI b2 (by decide), if_le (by omega) (by omega) (fun e => ⟨vp_in_nI (by omega) (by decide), ?_⟩) (fun e => ⟨trivial, _, _, _, r_rowLoss (D := 897) hI.rB (by omega) e, vp_in_nI (by omega) (by decide), ?_⟩)⟩
  · obtain rfl : w = W := by omega
    refine ih c _ (by rw [k2_up rfl, k2_up rfl]; exact hk) ?_
    rw [blL_t d]
    refine ⟨by rw [up_s, List.length_append]; rfl, fun r x hr => ?_⟩
    rw [up_c (by decide), up_c (by decide), up_c (by decide)]
    rcases app_at hr with ⟨z1, z2⟩ | ⟨rfl, rfl⟩
    · obtain ⟨y1, y2⟩ := hp.2 r x z2
      exact ⟨y1, by rw [up_j (by omega)]; exact y2⟩
    · exact ⟨hw2, up_s⟩
  · rw [hI.ls c e]
    refine ih2 e _ (by rw [k2_up rfl]; exact hk) ⟨by rw [up_c (by decide)]; exact hp.1, fun r x hr => ?_⟩ (fun u hu => ?_)
    · have hr2 := (List.getElem?_eq_some_iff.mp hr).1
      obtain ⟨y1, y2⟩ := hp.2 r x hr
      exact ⟨fun v hv => by rw [up_j (by omega)]; exact y1 v hv, by rw [up_c (by decide)]; exact y2⟩
    · by_cases z : u = w
      · rw [z, up_s]
      · rw [up_j (by omega)]; exact hw2 u (by omega)
end S87
end
section
/-! front: kind 0, and where there is none -/
section S88
variable {D b W Rn Kn Tn Hn Un g : Nat} {I I1 I2 : Nat → Nat → Int32} {J J1 J2 : Nat → Nat → Int64}
set_option maxRecDepth 100000 in
theorem rlZ_m {W Hn Un : Nat} {I : Nat → Nat → Int32} {J : Nat → Nat → Int64} : rlZ W Hn Un (mkI ([39] ++ sc1) ([(38, 0), (38, 1)] ++ sl1) I) (mkJ ([40] ++ scJ1) [] J) = rlZ W Hn Un I J := rfl
theorem al_front0 {x1 x2 x3 : Int32} (h : Rl b W Rn Kn Tn Hn Un g I1 J1 I2 J2) (hx : (x1 ≠ 1 ∧ x1 ≠ 2) ∨ W = 0) : AI 203 70 [.int x1, .int x2, .int x3] I1 J1 I2 J2 (Rl b W Rn Kn Tn Hn Un g) := by
  obtain ⟨a1, a2, -⟩ := h.N
  have hB := h.rB
  obtain ⟨b1, b2, b3, b4, b5, b6⟩ := id hB
  have v0 : vp_in 0 6 := vp_in_nI (n := 0) (by decide) (by decide)
  rcases (Classical.em (¬ x1 < 0 ∧ ¬ 2 < x1)).symm with ok | ok
  · refine AI.same (-1) (mj_mk (D := 899) (e203 _ _ _ ?_)) (mj_mk (D := 899) (e70 _ _ _ ?_)) h
    · exact if_i (fun _ => rfl) (fun c => if_i (fun _ => rfl) (fun d => absurd ⟨c, d⟩ ok))
    · exact ⟨trivial, _, _, _, r_is, if_tf (fun f => absurd f ok) (fun _ => rfl)⟩
  by_cases hW : W = 0
  · refine AI.same (-1) (mj_mk (D := 899) (e203 _ _ _ ?_)) (mj_mk (D := 899) (e70 _ _ _ ?_)) h
    · rw [if_neg ok.1, if_neg ok.2, show ((0 : Int32)).toNatClampNeg = 0 from rfl, a1, hW]
      exact ⟨v0, rfl⟩
    · refine ⟨trivial, _, _, _, r_is, if_tf (fun _ => ?_) (fun q => absurd ok q)⟩
      rw [b1, nI_clamp (by omega), b3, hW]
      exact ⟨vp_in_nI b2 (by decide), rfl⟩
  have hx := hx.resolve_right hW
  obtain ⟨k, hk, rfl⟩ := nI_of2 (n := 2) (by decide) ok.1 (Int32.not_lt.mp ok.2)
  have k0 : k = 0 := by
    rcases (by omega : k = 0 ∨ k = 1 ∨ k = 2) with e | e | e
    · exact e
    · exact absurd (show nI k = 1 by rw [e]; rfl) hx.1
    · exact absurd (show nI k = 2 by rw [e]; rfl) hx.2
  subst k0
  obtain ⟨I1', J1', c1, c2, c3, c4, c5, c6⟩ := c_rowsFront (D := 897) h
  obtain ⟨r, I2', J2', f1, rfl, rfl, f4, f5, f6, f7⟩ := r_front0 (x2 := x2) (x3 := x3) h hW
  obtain ⟨n, hn⟩ : ∃ n, n = (blL (J1 24 6) Rn).length := ⟨_, rfl⟩
  obtain ⟨l1, l2⟩ := blL_ok (C := J1 24 6) (n := Rn)
  rw [← hn] at c5 f4 f1 l1
  have mI : ∀ (D : List Nat) (E : List (Nat × Nat)), D.elem 39 = true → E.elem (38, 0) = true → E.elem (38, 1) = true → mkI D E I1' = mkI D E I1 := fun D E d1 d2 d3 => mkI_of fun q j q1 q2 => by
    refine c2 q j (fun z => by rw [z, d1] at q1; cases q1) fun z => ⟨fun y => ?_, fun y => ?_⟩
    · rw [z, y, d2] at q2; cases q2
    · rw [z, y, d3] at q2; cases q2
  have mJ : ∀ (D : List Nat) (E : List (Nat × Nat)), D.elem 40 = true → mkJ D E J1' = mkJ D E J1 := fun D E d1 => mkJ_of fun q j q1 _ => by
    rw [c3 q (fun z => by rw [z, d1] at q1; cases q1)]
  have bd : ∀ x, x < Rn → ∀ w, w < W → ∃ y : Int, -1000000 ≤ y ∧ y ≤ 1000000 ∧ I1 25 (4 * x + w) = iI y := fun x hx2 w hw => by
    obtain ⟨y, y1, y2, y3⟩ := h.lrng hx2 hw
    exact ⟨y, by omega, by omega, y3⟩
  refine ⟨_, I1', J1', I2', J2', mj_mk (D := 899) (e203 _ _ _ ?_), f1, Rl_H h (mI _ _ rfl rfl rfl) (mJ _ _ rfl) f7 rfl ?_ ?_⟩
  · rw [if_neg (show ¬ nI 0 < 0 by decide), if_neg (show ¬ 2 < nI 0 by decide), show ((0 : Int32)).toNatClampNeg = 0 from rfl, a1, if_neg (nI_ne0 (by omega) (by omega)), if_pos (show nI 0 = 0 from rfl)]
    refine ⟨v0, trivial, _, _, c1, ?_⟩
    rw [c5]
  · refine Or.inr ⟨0, n, by decide, by omega, c4, c5, f4, f5, by omega, fun k hk w hw => ?_, fun z => absurd z (by decide)⟩
    · obtain ⟨x, hx1, hx2, -⟩ := gt_of (l := blL (J1 24 6) Rn) (n := k) (by omega)
      have e1 := (c6 k x hx1).1 w (by omega)
      have e2 := (f6 k x hx1).1 w hw
      rw [e1, e2]
      exact ⟨rfl, bd x (l2 x hx2) w hw⟩
  · rw [← rlZ_m, mI _ _ rfl rfl rfl, mJ _ _ rfl, rlZ_m]
    exact h.2.2.2.2.2.2.2.2.2.2.2.2
end S88
end
section
/-! numbers of a test: the reference's and the class' bounds -/
def lZ (z : Int) : Int64 := Int64.ofInt z
theorem lZ_toInt {z : Int} (h1 : -2 ^ 62 < z) (h2 : z < 2 ^ 62) : (lZ z).toInt = z := Int64.toInt_ofInt_of_le (by omega) (by omega)
theorem lZ_add (y z : Int) : lZ y + lZ z = lZ (y + z) := (Int64.ofInt_add y z).symm
theorem lZ_sub (y z : Int) : lZ y - lZ z = lZ (y - z) := (Int64.ofInt_sub y z).symm
theorem lZ_mul (y z : Int) : lZ y * lZ z = lZ (y * z) := (Int64.ofInt_mul y z).symm
theorem lZ_of (x : Int64) : x = lZ x.toInt := (Int64.ofInt_toInt x).symm
theorem iI_lZ {z : Int} (h1 : -2147483648 ≤ z) (h2 : z < 2147483648) : (iI z).toInt64 = lZ z := by
  rw [← Int64.toInt_inj, Int32.toInt_toInt64, iI_toInt h1 h2, lZ_toInt (by omega) (by omega)]
theorem lZ_iI {z : Int} (h1 : -2147483648 ≤ z) (h2 : z < 2147483648) : (lZ z).toInt32 = iI z := by
  rw [← iI_lZ h1 h2, Int32.toInt32_toInt64]
section S89
variable {D : Nat} {I : Nat → Nat → Int32} {J : Nat → Nat → Int64}
theorem r_held {z : Int} (h1 : -2 ^ 62 < z) (h2 : z < 2 ^ 62) : C2 (D + 1) 81 [.long (lZ z)] I J (.long (lZ (bnd z))) I J := by
  refine mj_mk (e81 _ ?_)
  have e1 : (lg_cmp (lZ z) 1000000000 ≤ 0) ↔ z ≤ 1000000000 := by
    rw [cmp_lt.2, lZ_toInt h1 h2]
    exact Iff.rfl
  have e2 : (lg_cmp (lZ z) (-1000000000) < 0) ↔ z < -1000000000 := by
    rw [cmp_lt.1, lZ_toInt h1 h2]
    exact Iff.rfl
  unfold bnd
  refine if_i (fun c => if_i (fun d => ?_) (fun d => ?_)) (fun c => ?_)
  · rw [e1] at c
    rw [e2] at d
    rw [if_neg (by omega), if_pos (by omega)]
    rfl
  · rw [e1] at c
    rw [e2] at d
    rw [if_neg (by omega), if_neg (by omega)]
  · rw [e1] at c
    rw [if_pos (by omega)]
    rfl
theorem c_bounded {z : Int} (h1 : -2 ^ 62 < z) (h2 : z < 2 ^ 62) : C1 (D + 2) 228 [.long (lZ z)] I J (.int (iI (bnd z))) I J := by
  refine mj_mk (e228 _ ?_)
  have e1 : (lg_cmp 1000000000 (lZ z) ≤ 0) ↔ 1000000000 ≤ z := by
    rw [cmp_lt.2, lZ_toInt h1 h2]
    exact Iff.rfl
  have m4 : ∃ y : Int, C1 (D + 1) 4 [.long 1000000000, .long (lZ z)] I J (.long (lZ y)) I J ∧ (1000000000 ≤ z → y = 1000000000) ∧ (z < 1000000000 → y = z) := by
    by_cases c : 1000000000 ≤ z
    · exact ⟨1000000000, mj_mk (e4 _ _ (by rw [if_pos (e1.mpr c)]; rfl)), fun _ => rfl, fun q => absurd q (by omega)⟩
    · exact ⟨z, mj_mk (e4 _ _ (by rw [if_neg (fun q => c (e1.mp q))])), fun q => absurd q c, fun _ => rfl⟩
  obtain ⟨y, hc, y1, y2⟩ := m4
  have hy1 : -2 ^ 62 < y := by
    by_cases c : 1000000000 ≤ z
    · rw [y1 c]; decide
    · rw [y2 (by omega)]; exact h1
  have hy2 : y ≤ 1000000000 := by
    by_cases c : 1000000000 ≤ z
    · rw [y1 c]; decide
    · rw [y2 (by omega)]; omega
  have e2 : (lg_cmp (-1000000000) (lZ y) < 0) ↔ -1000000000 < y := by
    rw [cmp_lt.1, lZ_toInt hy1 (by omega)]
    exact Iff.rfl
  have m5 : C1 (D + 1) 5 [.long (-1000000000), .long (lZ y)] I J (.long (lZ (bnd z))) I J := by
    refine mj_mk (e5 _ _ ?_)
    unfold bnd
    refine if_i (fun d => ?_) (fun d => ?_)
    · rw [e2] at d
      by_cases c : 1000000000 ≤ z
      · rw [y1 c]
        by_cases c2 : z > 1000000000
        · rw [if_pos c2]
        · rw [if_neg c2, if_neg (by omega), show z = 1000000000 by omega]
      · rw [y2 (by omega)] at d ⊢
        rw [if_neg (by omega), if_neg (by omega)]
    · rw [e2] at d
      have c : ¬ 1000000000 ≤ z := fun q => by rw [y1 q] at d; exact d (by decide)
      rw [y2 (by omega)] at d
      by_cases c2 : z < -1000000000
      · rw [if_neg (by omega), if_pos c2]
        rfl
      · rw [if_neg (by omega), if_neg c2, show z = -1000000000 by omega]
        rfl
  refine ⟨trivial, _, _, _, hc, trivial, _, _, _, m5, ?_⟩
  have hb : -1000000000 ≤ bnd z ∧ bnd z ≤ 1000000000 := by
    unfold bnd
    split
    · omega
    · split <;> omega
  rw [lZ_iI (by omega) (by omega)]
end S89
end
section
/-! ways through the net: the sums of all of them, in the order in which the walk meets them; how many they are -/
/-- from a knot on: the knots that were met are the bits of m; acc is what the way has so far -/
def wk (Tn : Nat) (fr tt : Nat → Nat) (am : Nat → Nat → Nat) (dst : Nat) : Nat → Nat → Nat → (Nat → Nat) → List (Nat → Nat)
  | 0, knot, _, acc => if knot = dst then [acc] else []
  | fuel + 1, knot, m, acc => if knot = dst then [acc] else (List.range Tn).flatMap fun t => if fr t = knot ∧ m.testBit (tt t) = false then wk Tn fr tt am dst fuel (tt t) (m ||| 2 ^ tt t) (fun w => acc w + am t w) else []
/-- as far as tie n -/
def wkt (fr tt : Nat → Nat) (f : Nat → List (Nat → Nat)) (knot m : Nat) : Nat → List (Nat → Nat)
  | 0 => []
  | n + 1 => wkt fr tt f knot m n ++ (if fr n = knot ∧ m.testBit (tt n) = false then f n else [])
theorem wkt_eq {fr tt : Nat → Nat} {f : Nat → List (Nat → Nat)} {knot m : Nat} : ∀ n, (List.range n).flatMap (fun t => if fr t = knot ∧ m.testBit (tt t) = false then f t else []) = wkt fr tt f knot m n
  | 0 => rfl
  | n + 1 => by
    rw [List.range_succ, List.flatMap_append, wkt_eq n, List.flatMap_cons, List.flatMap_nil, List.append_nil]
    rfl
def dg (fr : Nat → Nat) (k : Nat) : Nat → Nat
  | 0 => 0
  | n + 1 => dg fr k n + if fr n = k then 1 else 0
def smm (f : Nat → Nat) : Nat → Nat
  | 0 => 0
  | n + 1 => smm f n + f n
def prd (f : Nat → Nat) : Nat → Nat
  | 0 => 1
  | n + 1 => prd f n * f n
theorem smm_add {f g : Nat → Nat} : ∀ n, smm (fun k => f k + g k) n = smm f n + smm g n
  | 0 => rfl
  | n + 1 => by
    show smm (fun k => f k + g k) n + (f n + g n) = smm f n + f n + (smm g n + g n)
    rw [smm_add n]
    omega
theorem smm_0 : ∀ n, smm (fun _ => 0) n = 0
  | 0 => rfl
  | n + 1 => by
    show smm (fun _ => 0) n + 0 = 0
    rw [smm_0 n]
theorem smm_1 (x : Nat) : ∀ n, smm (fun k => if x = k then 1 else 0) n ≤ (if x < n then 1 else 0)
  | 0 => by simp [smm]
  | n + 1 => by
    have ih := smm_1 x n
    show smm (fun k => if x = k then 1 else 0) n + (if x = n then 1 else 0) ≤ _
    by_cases h : x = n
    · rw [if_pos h, if_pos (by omega)]
      rw [if_neg (by omega)] at ih
      omega
    · rw [if_neg h]
      by_cases h2 : x < n
      · rw [if_pos h2] at ih; rw [if_pos (by omega)]; omega
      · rw [if_neg h2] at ih; omega
theorem smm_dg {fr : Nat → Nat} : ∀ n, smm (fun k => dg fr k n) 10 ≤ n
  | 0 => by
    show smm (fun _ => 0) 10 ≤ 0
    rw [smm_0]
    exact Nat.le_refl 0
  | n + 1 => by
    show smm (fun k => dg fr k n + if fr n = k then 1 else 0) 10 ≤ n + 1
    rw [smm_add]
    have h1 := smm_dg (fr := fr) n
    have h2 := smm_1 (fr n) 10
    split at h2 <;> omega
theorem prd_cg {f g : Nat → Nat} : ∀ n, (∀ k, k < n → f k = g k) → prd f n = prd g n
  | 0, _ => rfl
  | n + 1, h => by
    show prd f n * f n = prd g n * g n
    rw [prd_cg n (fun k hk => h k (by omega)), h n (by omega)]
theorem prd_at {f : Nat → Nat} {j : Nat} : ∀ n, j < n → prd f n = f j * prd (fun k => if k = j then 1 else f k) n
  | 0, h => absurd h (by omega)
  | n + 1, h => by
    show prd f n * f n = f j * (prd (fun k => if k = j then 1 else f k) n * (if n = j then 1 else f n))
    by_cases e : n = j
    · subst e
      rw [if_pos rfl, Nat.mul_one, Nat.mul_comm, prd_cg (f := fun k => if k = n then 1 else f k) (g := f) n (fun k hk => if_neg (by omega))]
    · rw [if_neg e, prd_at (f := f) (j := j) n (by omega), Nat.mul_assoc]
def mx1 (d : Nat) : Nat := if d = 0 then 1 else d
theorem mx1_3 : ∀ d, d < 25 → mx1 d ^ 3 ≤ 3 ^ d := by decide
theorem prd_3 {d : Nat → Nat} : ∀ n, (∀ k, k < n → d k < 25) → prd (fun k => mx1 (d k)) n ^ 3 ≤ 3 ^ smm d n
  | 0, _ => by
    show 1 ^ 3 ≤ 3 ^ 0
    decide
  | n + 1, h => by
    show (prd (fun k => mx1 (d k)) n * mx1 (d n)) ^ 3 ≤ 3 ^ (smm d n + d n)
    rw [Nat.mul_pow, Nat.pow_add]
    exact Nat.mul_le_mul (prd_3 n (fun k hk => h k (by omega))) (mx1_3 _ (h n (by omega)))
theorem dg_le {fr : Nat → Nat} {k : Nat} : ∀ n, dg fr k n ≤ n
  | 0 => Nat.le_refl 0
  | n + 1 => by
    show dg fr k n + (if fr n = k then 1 else 0) ≤ n + 1
    have := dg_le (fr := fr) (k := k) n
    split <;> omega
/-- how many ways there may be at most from a knot on, when the knots of m are met -/
def wbd (fr : Nat → Nat) (Tn m : Nat) : Nat := prd (fun k => if m.testBit k then 1 else mx1 (dg fr k Tn)) 10
theorem wbd_s {fr : Nat → Nat} {Tn m j : Nat} (hj : j < 10) (hm : m.testBit j = false) : wbd fr Tn m = mx1 (dg fr j Tn) * wbd fr Tn (m ||| 2 ^ j) := by
  unfold wbd
  rw [prd_at 10 hj, hm]
  show mx1 (dg fr j Tn) * _ = _
  refine congrArg _ (prd_cg 10 fun k hk => ?_)
  rw [Nat.testBit_or, Nat.testBit_two_pow]
  by_cases e : k = j
  · subst e
    simp
  · rw [if_neg e]
    have : decide (j = k) = false := by simp; omega
    rw [this, Bool.or_false]
theorem wkt_len {fr tt : Nat → Nat} {f : Nat → List (Nat → Nat)} {knot m c : Nat} : ∀ n, (∀ t, t < n → fr t = knot → m.testBit (tt t) = false → (f t).length ≤ c) → (wkt fr tt f knot m n).length ≤ dg fr knot n * c
  | 0, _ => by simp [wkt]
  | n + 1, h => by
    have ih := wkt_len n (fun t ht => h t (by omega))
    show (wkt fr tt f knot m n ++ _).length ≤ (dg fr knot n + if fr n = knot then 1 else 0) * c
    rw [List.length_append, Nat.add_mul]
    by_cases e : fr n = knot
    · rw [if_pos e, Nat.one_mul]
      by_cases e2 : m.testBit (tt n) = false
      · rw [if_pos ⟨e, e2⟩]
        exact Nat.add_le_add ih (h n (by omega) e e2)
      · rw [if_neg (fun q => e2 q.2)]
        simp only [List.length_nil]
        omega
    · rw [if_neg (fun q => e q.1), if_neg e]
      simp only [List.length_nil]
      omega
theorem mx1_pos (d : Nat) : 1 ≤ mx1 d := by unfold mx1; split <;> omega
theorem prd_pos {f : Nat → Nat} (h : ∀ k, 1 ≤ f k) : ∀ n, 1 ≤ prd f n
  | 0 => Nat.le_refl 1
  | n + 1 => Nat.mul_le_mul (prd_pos h n) (h n)
theorem wbd_pos {fr : Nat → Nat} {Tn m : Nat} : 1 ≤ wbd fr Tn m := prd_pos (fun k => by
  show 1 ≤ if m.testBit k then 1 else mx1 (dg fr k Tn)
  split
  · exact Nat.le_refl 1
  · exact mx1_pos _) 10
theorem wk_len {Tn : Nat} {fr tt : Nat → Nat} {am : Nat → Nat → Nat} {dst : Nat} (ht : ∀ t, t < Tn → tt t < 10) : ∀ (fuel knot m : Nat) (acc : Nat → Nat), (wk Tn fr tt am dst fuel knot m acc).length ≤ mx1 (dg fr knot Tn) * wbd fr Tn m
  | 0, knot, m, acc => by
    have h1 := Nat.mul_le_mul (mx1_pos (dg fr knot Tn)) (wbd_pos (fr := fr) (Tn := Tn) (m := m))
    unfold wk
    split
    · simpa using h1
    · simp
  | fuel + 1, knot, m, acc => by
    have h1 := Nat.mul_le_mul (mx1_pos (dg fr knot Tn)) (wbd_pos (fr := fr) (Tn := Tn) (m := m))
    unfold wk
    split
    · simpa using h1
    · rw [wkt_eq]
      refine Nat.le_trans (wkt_len Tn (c := wbd fr Tn m) fun t h e e2 => ?_) (Nat.mul_le_mul_right _ (by unfold mx1; split <;> omega))
      rw [wbd_s (ht t h) e2]
      exact wk_len ht fuel _ _ _
theorem wbd_0 {fr : Nat → Nat} {Tn : Nat} (hT : Tn ≤ 24) : wbd fr Tn 0 ≤ 6561 := by
  have h1 : wbd fr Tn 0 = prd (fun k => mx1 (dg fr k Tn)) 10 := prd_cg 10 fun k _ => by rw [Nat.zero_testBit]; rfl
  have h2 := prd_3 (d := fun k => dg fr k Tn) 10 (fun k _ => Nat.lt_of_le_of_lt (dg_le Tn) (by omega))
  have h3 : smm (fun k => dg fr k Tn) 10 ≤ 24 := Nat.le_trans (smm_dg Tn) hT
  have h4 : (3 : Nat) ^ smm (fun k => dg fr k Tn) 10 ≤ 3 ^ 24 := Nat.pow_le_pow_right (by decide) h3
  rw [h1]
  refine Nat.le_of_not_lt fun h => ?_
  have h5 : 6562 ^ 3 ≤ prd (fun k => mx1 (dg fr k Tn)) 10 ^ 3 := Nat.pow_le_pow_left h 3
  have h6 : (6562 : Nat) ^ 3 ≤ 3 ^ 24 := Nat.le_trans h5 (Nat.le_trans h2 h4)
  exact absurd h6 (by decide)
theorem wk_all {Tn : Nat} {fr tt : Nat → Nat} {am : Nat → Nat → Nat} {dst src : Nat} {acc : Nat → Nat} (hT : Tn ≤ 24) (ht : ∀ t, t < Tn → tt t < 10) (hs : src < 10) : (wk Tn fr tt am dst 9 src (2 ^ src) acc).length ≤ 6561 := by
  refine Nat.le_trans (wk_len ht 9 src (2 ^ src) acc) ?_
  have h := wbd_s (fr := fr) (Tn := Tn) (m := 0) hs (Nat.zero_testBit _)
  rw [Nat.zero_or] at h
  rw [← h]
  exact wbd_0 hT
end
section
/-! the class gathers all ways -/
theorem wm_shr {k m : Nat} (hk : k < 31) (hm : m < 2 ^ 31) : nI m >>> (nI k &&& 31) = nI (m / 2 ^ k) := by
  have hD : ∀ k, k < 31 → ((nI k &&& 31).toBitVec.smod 32).toNat = k := by decide
  apply Int32.toInt_inj.mp
  have e : (nI m >>> (nI k &&& 31)).toInt = (nI m).toInt >>> ((nI k &&& 31).toBitVec.smod 32).toNat := BitVec.toInt_sshiftRight ..
  rw [e, hD k hk, Int.shiftRight_eq_div_pow, nI_toInt hm, nI_toInt (Nat.lt_of_le_of_lt (Nat.div_le_self _ _) hm)]
  rfl
theorem wm_bit : ∀ k, k < 10 → ∀ m, m < 1024 → (((nI m >>> (nI k &&& 31)) &&& 1) = 0 ↔ m.testBit k = false) := by
  intro k hk m hm
  rw [wm_shr (by omega) (by omega), show (1 : Int32) = nI 1 from rfl, nx_and, Nat.and_one_is_mod]
  have e : m.testBit k = decide (m / 2 ^ k % 2 = 1) := Nat.testBit_eq_decide_div_mod_eq
  rw [e, decide_eq_false_iff_not]
  rcases Nat.mod_two_eq_zero_or_one (m / 2 ^ k) with h | h
  · rw [h]
    exact ⟨fun _ => by decide, fun _ => by decide +kernel⟩
  · rw [h]
    exact ⟨fun q => absurd q (by decide +kernel), fun q => absurd rfl q⟩
theorem wm_one : ∀ k, k < 10 → ((1 : Int32) <<< (nI k &&& 31)) = nI (2 ^ k) ∧ 2 ^ k < 1024 := by decide +kernel
theorem wm_or : ∀ k, k < 10 → ∀ m, m < 1024 → (nI m ||| ((1 : Int32) <<< (nI k &&& 31))) = nI (m ||| 2 ^ k) ∧ m ||| 2 ^ k < 1024 := by
  intro k hk m hm
  obtain ⟨h1, h2⟩ := wm_one k hk
  rw [h1, nx_or]
  exact ⟨rfl, Nat.or_lt_two_pow (n := 10) hm h2⟩
theorem wm_key : ∀ k, k < 10 → ∀ d, d < 9 → (nI k).toInt64 <<< (((4 : Int32) * ((9 : Int32) - nI d)).toInt64 &&& 63) = lN (k * 2 ^ (4 * (9 - d))) ∧ k * 2 ^ (4 * (9 - d)) < 2 ^ 62 := by decide +kernel
theorem wm_key0 : ∀ k, k < 10 → (nI k).toInt64 <<< ((40 : Int32).toInt64 &&& 63) = lN (k * 2 ^ 40) ∧ k * 2 ^ 40 < 2 ^ 62 := by decide +kernel
theorem wm_n : ∀ d, d < 10 → (nI d + 1).toInt64 = lN (d + 1) := by decide +kernel
theorem wm_ok {a c : Nat} (ha : a < 2 ^ 62) (hc : c < 2 ^ 62) : ∃ k, k < 2 ^ 62 ∧ lN a ||| lN c = lN k := ⟨a ||| c, Nat.or_lt_two_pow ha hc, wb_or (by omega) (by omega)⟩
section S91
variable {D W Tn : Nat} {fr tt : Nat → Nat} {am : Nat → Nat → Nat} {I : Nat → Nat → Int32} {J : Nat → Nat → Int64}
/-- the ties of the class' Tale -/
def tlq (W Tn : Nat) (fr tt : Nat → Nat) (am : Nat → Nat → Nat) (I : Nat → Nat → Int32) : Prop := W ≤ 4 ∧ Tn ≤ 24 ∧ I 2 0 = nI W ∧ I 2 3 = nI Tn ∧ ∀ t, t < Tn → I 7 t = nI (fr t) ∧ I 8 t = nI (tt t) ∧ fr t < 10 ∧ tt t < 10 ∧ ∀ w, w < W → I 5 (480 + 4 * t + w) = nI (am t w)
theorem tlq_cg {I' : Nat → Nat → Int32} (h : tlq W Tn fr tt am I) (e : ∀ q, q ≠ 29 → q ≠ 30 → q ≠ 32 → q ≠ 36 → q ≠ 37 → I' q = I q) : tlq W Tn fr tt am I' := by
  unfold tlq at h ⊢
  rw [e 2 (by decide) (by decide) (by decide) (by decide) (by decide), e 7 (by decide) (by decide) (by decide) (by decide) (by decide), e 8 (by decide) (by decide) (by decide) (by decide) (by decide), e 5 (by decide) (by decide) (by decide) (by decide) (by decide)]
  exact h
/-- the pool holds the rows of L -/
def plL (W : Nat) (L : List (Nat → Nat)) (I : Nat → Nat → Int32) (J : Nat → Nat → Int64) : Prop := I 29 3 = nI L.length ∧ I 29 4 = nI W ∧ L.length ≤ 6561 ∧ ∀ x v, L[x]? = some v → (∀ w, w < W → I 30 (4 * x + w) = lo (I 4 w) (nI (v w))) ∧ I 32 x = nI x ∧ ∃ k, k < 2 ^ 62 ∧ J 31 x = lN k
theorem plL_cg {L : List (Nat → Nat)} {I' : Nat → Nat → Int32} {J' : Nat → Nat → Int64} (h : plL W L I J) (e29 : I' 29 = I 29) (e30 : I' 30 = I 30) (e32 : I' 32 = I 32) (e4 : I' 4 = I 4) (e31 : J' 31 = J 31) : plL W L I' J' := by
  unfold plL at h ⊢
  rw [e29, e30, e32, e4, e31]
  exact h
def paI (I : Nat → Nat → Int32) (N : Nat) : Nat → Nat → Int32 := mj_up (mj_up (mj_cp I 37 0 30 (4 * N) 4) 32 N (nI N)) 29 3 (nI (N + 1))
theorem c_padd {N : Nat} {x : Int64} (hN : I 29 3 = nI N) (h : N < 6561) : C1 (D + 1) 211 [.ref 29, .ref 37, .long x] I J .null (paI I N) (mj_up J 31 N x) := by
  refine mj_mk (e211 _ ?_)
  rw [hN, show (6561 : Int32) = nI 6561 from rfl]
  refine if_le (by decide) (by omega) (fun z => absurd z (by omega)) (fun _ => ?_)
  rw [ix4m, nI_clamp (by omega), nI_clamp (by omega), nI_1]
  exact ⟨⟨by decide, nI_pos (by omega), by decide, by decide, by show 4 * N + 4 ≤ 26244; omega⟩, vp_in_nI (by omega) (by decide), vp_in_nI (by omega) (by decide), rfl⟩
theorem paI_f {N q : Nat} (h1 : q ≠ 29) (h2 : q ≠ 30) (h3 : q ≠ 32) : paI I N q = I q := by
  unfold paI
  rw [up_c h1, up_c h3]
  funext j
  exact if_neg h2
theorem plL_add {L : List (Nat → Nat)} {v : Nat → Nat} {x : Int64} (h : plL W L I J) (hW : W ≤ 4) (hl : L.length < 6561) (hv : ∀ w, w < W → I 37 w = lo (I 4 w) (nI (v w))) (hx : ∃ k, k < 2 ^ 62 ∧ x = lN k) : plL W (L ++ [v]) (paI I L.length) (mj_up J 31 L.length x) := by
  obtain ⟨h1, h2, h3, h4⟩ := h
  have cp : ∀ j, mj_cp I 37 0 30 (4 * L.length) 4 30 j = if 4 * L.length ≤ j ∧ j < 4 * L.length + 4 then I 37 (0 + (j - 4 * L.length)) else I 30 j := fun j => if_pos rfl
  refine ⟨?_, ?_, by simp; omega, fun i u hu => ?_⟩
  · rw [List.length_append]
    exact up_s
  · show mj_up _ 29 3 _ 29 4 = _
    rw [up_j (by decide), up_c (by decide)]
    exact h2
  have e4 : paI I L.length 4 = I 4 := paI_f (by decide) (by decide) (by decide)
  rw [e4]
  have e30 : ∀ j, paI I L.length 30 j = mj_cp I 37 0 30 (4 * L.length) 4 30 j := fun j => by unfold paI; rw [up_c (by decide), up_c (by decide)]
  have e32 : ∀ j, paI I L.length 32 j = mj_up (mj_cp I 37 0 30 (4 * L.length) 4) 32 L.length (nI L.length) 32 j := fun j => by unfold paI; rw [up_c (by decide)]
  rcases app_at hu with ⟨hi, hu2⟩ | ⟨hi, hu2⟩
  · obtain ⟨g1, g2, g3⟩ := h4 i u hu2
    refine ⟨fun w hw => ?_, ?_, ?_⟩
    · rw [e30, cp, if_neg (by omega)]
      exact g1 w hw
    · rw [e32, up_j (by omega)]
      exact g2
    · rw [up_j (by omega)]
      exact g3
  · rw [hi, hu2]
    refine ⟨fun w hw => ?_, ?_, ?_⟩
    · rw [e30, cp, if_pos (by omega), show 0 + (4 * L.length + w - 4 * L.length) = w by omega]
      exact hv w hw
    · rw [e32, up_s]
    · rw [up_s]
      exact hx
theorem c_putLosses {a : Nat} (hW : I 2 0 = nI W) (hW4 : W ≤ 4) (ha : a + 4 ≤ 40) : ∃ I' J', C1 (D + 2) 210 [.ref 33, .ref 1, .int (nI a)] I J .null I' J' ∧ J' = J ∧ (∀ w, w < W → I' 37 w = lo (I 4 w) (I 36 (a + w))) ∧ ∀ q, q ≠ 37 → I' q = I q := by
  refine mj_cN (e210 _ ?_)
  have lp := lp_up (n := W) (fun w => ∀ I0, (∀ u, u < w → I0 37 u = lo (I 4 u) (I 36 (a + u))) → (∀ q, q ≠ 37 → I0 q = I q) → E1 210 (D + 1) (qN mj_R1 fun I' J' => J' = J ∧ (∀ w, w < W → I' 37 w = lo (I 4 w) (I 36 (a + w))) ∧ ∀ q, q ≠ 37 → I' q = I q) 2 [(0, .ref 33), (1, .ref 1), (2, .int (nI a)), (3, .int (nI w))] I0 J) (fun w hw ih I0 h1 h2 => ?_) 0 (by omega) I (fun u hu => by omega) (fun _ _ => rfl)
  · exact lp
  refine mj_on (s210_2 _ _ ?_)
  refine ⟨vp_in_nI (n := 0) (by decide) (by decide), ?_⟩
  rw [show ((0 : Int32)).toNatClampNeg = 0 from rfl, h2 2 (by decide), hW]
  refine if_le (by omega) (by omega) (fun c => ?_) (fun c => ?_)
  · obtain rfl : w = W := by omega
    exact ⟨_, _, rfl, rfl, h1, h2⟩
  · rw [nI_add, nI_clamp (by omega)]
    refine ⟨vp_in_nI (by omega) (by decide), trivial, _, _, _, c_lossFor (by omega), vp_in_nI (by omega) (by decide), ?_⟩
    rw [nI_clamp (by omega), nI_1]
    refine ih c _ (fun u hu => ?_) (fun q hq => by rw [up_c hq]; exact h2 q hq)
    by_cases e : u = w
    · subst e
      rw [up_s, h2 4 (by decide), h2 36 (by decide)]
    · rw [up_j e]
      exact h1 u (by omega)
theorem c_goAlong {t d : Nat} (hW : I 2 0 = nI W) (hW4 : W ≤ 4) (ht : t < 24) (hd : d ≤ 8) : ∃ I' J', C1 (D + 2) 212 [.ref 33, .ref 1, .int (nI t), .int (nI d)] I J .null I' J' ∧ J' = J ∧ (∀ w, w < W → I' 36 (4 * d + 4 + w) = I 36 (4 * d + w) + I 5 (480 + 4 * t + w)) ∧ (∀ q, q ≠ 36 → I' q = I q) ∧ ∀ j, j < 4 * d + 4 → I' 36 j = I 36 j := by
  refine mj_cN (e212 _ _ ?_)
  rw [ix4m]
  have lp := lp_up (n := W) (fun w => ∀ I0, (∀ u, u < w → I0 36 (4 * d + 4 + u) = I 36 (4 * d + u) + I 5 (480 + 4 * t + u)) → (∀ q, q ≠ 36 → I0 q = I q) → (∀ j, j < 4 * d + 4 → I0 36 j = I 36 j) → E1 212 (D + 1) (qN mj_R1 fun I' J' => J' = J ∧ (∀ w, w < W → I' 36 (4 * d + 4 + w) = I 36 (4 * d + w) + I 5 (480 + 4 * t + w)) ∧ (∀ q, q ≠ 36 → I' q = I q) ∧ ∀ j, j < 4 * d + 4 → I' 36 j = I 36 j) 8 [(0, .ref 33), (1, .ref 1), (2, .int (nI t)), (4, .int (nI (4 * d))), (5, .int (nI w))] I0 J) (fun w hw ih I0 h1 h2 h3 => ?_) 0 (by omega) I (fun u hu => by omega) (fun _ _ => rfl) (fun _ _ => rfl)
  · exact lp
  refine mj_on (s212_8 _ _ _ ?_)
  refine ⟨vp_in_nI (n := 0) (by decide) (by decide), ?_⟩
  rw [show ((0 : Int32)).toNatClampNeg = 0 from rfl, h2 2 (by decide), hW]
  refine if_le (by omega) (by omega) (fun c => ?_) (fun c => ?_)
  · obtain rfl : w = W := by omega
    exact ⟨_, _, rfl, rfl, h1, h2, h3⟩
  · rw [nI_add, show (4 : Int32) = nI 4 from rfl, nI_add, nI_add, nI_clamp (by omega), nI_clamp (by omega)]
    refine ⟨vp_in_nI (by omega) (by decide), trivial, _, _, _, c_slot (k := 3), vp_in_nI (by omega) (by decide), vp_in_nI (by omega) (by decide), ?_⟩
    rw [nI_clamp (by omega), nI_1, show 160 * 3 + 4 * t + w = 480 + 4 * t + w by omega]
    refine ih c _ (fun u hu => ?_) (fun q hq => by rw [up_c hq]; exact h2 q hq) (fun j hj => by rw [up_j (by omega)]; exact h3 j hj)
    by_cases e : u = w
    · subst e
      rw [up_s, h3 _ (by omega), h2 5 (by decide)]
    · rw [up_j (by omega)]
      exact h1 u (by omega)
theorem wkt_le {f : Nat → List (Nat → Nat)} {knot m : Nat} : ∀ {a n : Nat}, a ≤ n → (wkt fr tt f knot m a).length ≤ (wkt fr tt f knot m n).length := by
  intro a n h
  obtain ⟨k, rfl⟩ := Nat.le.dest h
  clear h
  induction k with
  | zero => exact Nat.le_refl _
  | succ k ih =>
    refine Nat.le_trans ih ?_
    show (wkt fr tt f knot m (a + k)).length ≤ (wkt fr tt f knot m (a + k) ++ if fr (a + k) = knot ∧ m.testBit (tt (a + k)) = false then f (a + k) else []).length
    rw [List.length_append]
    omega
theorem c_walk {dst : Nat} (hdst : dst < 10) : ∀ (fuel d knot m : Nat) (acc : Nat → Nat) (key : Int64) (L : List (Nat → Nat)) (I : Nat → Nat → Int32) (J : Nat → Nat → Int64), d + fuel = 9 → tlq W Tn fr tt am I → plL W L I J → knot < 10 → m < 1024 → (∃ k, k < 2 ^ 62 ∧ key = lN k) → (∀ w, w < W → I 36 (4 * d + w) = nI (acc w)) → L.length + (wk Tn fr tt am dst fuel knot m acc).length ≤ 6561 →
    ∃ I' J', C1 (fuel + 3) 209 [.ref 33, .ref 1, .ref 29, .int (nI dst), .int (nI knot), .int (nI d), .int (nI m), .long key] I J .null I' J' ∧ plL W (L ++ wk Tn fr tt am dst fuel knot m acc) I' J' ∧ (∀ q, q ≠ 29 → q ≠ 30 → q ≠ 32 → q ≠ 36 → q ≠ 37 → I' q = I q) ∧ (∀ j, j < 4 * d + 4 → I' 36 j = I 36 j) ∧ ∀ q, q ≠ 31 → J' q = J q := by
  intro fuel
  induction fuel with
  | zero =>
    intro d knot m acc key L I J hd ht hp hk hm hkey hacc hlen
    refine mj_cN (e209 _ _ _ _ _ ?_)
    unfold wk at hlen ⊢
    refine if_eq (by omega) (by omega) (fun c => ?_) (fun c => ?_)
    · rw [if_pos c] at hlen ⊢
      obtain ⟨I1, J1, c1, rfl, p1, f1⟩ := c_putLosses (D := 0) (I := I) (J := J) (a := 4 * d) ht.2.2.1 ht.1 (by omega)
      rw [ix4m]
      have hp1 : plL W L I1 J1 := plL_cg hp (f1 29 (by decide)) (f1 30 (by decide)) (f1 32 (by decide)) (f1 4 (by decide)) rfl
      have hl : L.length < 6561 := by simp at hlen; omega
      refine ⟨trivial, _, _, c1, trivial, _, _, c_padd hp1.1 hl, _, _, rfl, plL_add hp1 ht.1 hl (fun w hw => by rw [p1 w hw, f1 4 (by decide), hacc w hw]) ?_, fun q q1 q2 q3 q4 q5 => by rw [paI_f q1 q2 q3, f1 q q5], fun j hj => by rw [paI_f (by decide) (by decide) (by decide), f1 36 (by decide)], fun q hq => up_c hq⟩
      obtain ⟨k, hk1, rfl⟩ := hkey
      rw [wm_n d (by omega)]
      exact wm_ok hk1 (by omega)
    · rw [if_neg c, List.append_nil]
      rw [nI_1, show (10 : Int32) = nI 10 from rfl]
      exact if_lt (by omega) (by decide) (fun z => absurd z (by omega)) (fun _ => ⟨_, _, rfl, hp, fun _ _ _ _ _ _ => rfl, fun _ _ => rfl, fun _ _ => rfl⟩)
  | succ fuel ihf =>
    intro d knot m acc key L I J hd ht hp hk hm hkey hacc hlen
    refine mj_cN (e209 _ _ _ _ _ ?_)
    unfold wk at hlen ⊢
    refine if_eq (by omega) (by omega) (fun c => ?_) (fun c => ?_)
    · rw [if_pos c] at hlen ⊢
      obtain ⟨I1, J1, c1, rfl, p1, f1⟩ := c_putLosses (D := fuel + 1) (I := I) (J := J) (a := 4 * d) ht.2.2.1 ht.1 (by omega)
      rw [ix4m]
      have hp1 : plL W L I1 J1 := plL_cg hp (f1 29 (by decide)) (f1 30 (by decide)) (f1 32 (by decide)) (f1 4 (by decide)) rfl
      have hl : L.length < 6561 := by simp at hlen; omega
      refine ⟨trivial, _, _, c1, trivial, _, _, c_padd hp1.1 hl, _, _, rfl, plL_add hp1 ht.1 hl (fun w hw => by rw [p1 w hw, f1 4 (by decide), hacc w hw]) ?_, fun q q1 q2 q3 q4 q5 => by rw [paI_f q1 q2 q3, f1 q q5], fun j hj => by rw [paI_f (by decide) (by decide) (by decide), f1 36 (by decide)], fun q hq => up_c hq⟩
      obtain ⟨k, hk1, rfl⟩ := hkey
      rw [wm_n d (by omega)]
      exact wm_ok hk1 (by omega)
    · rw [if_neg c] at hlen ⊢
      rw [wkt_eq] at hlen ⊢
      obtain ⟨f, hf⟩ : ∃ f, f = fun t => wk Tn fr tt am dst fuel (tt t) (m ||| 2 ^ tt t) (fun w => acc w + am t w) := ⟨_, rfl⟩
      rw [← hf] at hlen ⊢
      rw [nI_1, show (10 : Int32) = nI 10 from rfl]
      refine if_lt (by omega) (by decide) (fun _ => ?_) (fun z => absurd z (by omega))
      obtain ⟨Q, hQ⟩ : ∃ Q, Q = qN mj_R1 (fun I' J' => plL W (L ++ wkt fr tt f knot m Tn) I' J' ∧ (∀ q, q ≠ 29 → q ≠ 30 → q ≠ 32 → q ≠ 36 → q ≠ 37 → I' q = I q) ∧ (∀ j, j < 4 * d + 4 → I' 36 j = I 36 j) ∧ ∀ q, q ≠ 31 → J' q = J q) := ⟨_, rfl⟩
      rw [← hQ]
      have lp := lp_up (n := Tn) (fun t => ∀ I0 J0, plL W (L ++ wkt fr tt f knot m t) I0 J0 → (∀ q, q ≠ 29 → q ≠ 30 → q ≠ 32 → q ≠ 36 → q ≠ 37 → I0 q = I q) → (∀ j, j < 4 * d + 4 → I0 36 j = I 36 j) → (∀ q, q ≠ 31 → J0 q = J q) → E1 209 (fuel + 3) Q 45 [(0, .ref 33), (1, .ref 1), (2, .ref 29), (3, .int (nI dst)), (4, .int (nI knot)), (5, .int (nI d)), (6, .int (nI m)), (7, .long key), (9, .int (nI t))] I0 J0) (fun t htn ih I0 J0 h1 h2 h3 h4 => ?_) 0 (by omega) I J (by rw [show wkt fr tt f knot m 0 = [] from rfl, List.append_nil]; exact hp) (fun _ _ _ _ _ _ => rfl) (fun _ _ => rfl) (fun _ _ => rfl)
      · exact lp
      have ht0 : tlq W Tn fr tt am I0 := tlq_cg ht h2
      obtain ⟨w4, n24, aW, aT, aR⟩ := id ht0
      refine mj_on (s209_45 _ _ _ _ _ _ ?_)
      refine ⟨vp_in_nI (n := 3) (by decide) (by decide), ?_⟩
      rw [show ((3 : Int32)).toNatClampNeg = 3 from rfl, aT]
      refine if_le (by omega) (by omega) (fun z => ?_) (fun z => ?_)
      · obtain rfl : t = Tn := by omega
        rw [hQ]
        exact ⟨_, _, rfl, h1, h2, h3, h4⟩
      obtain ⟨a7, a8, f10, t10, a5⟩ := aR t z
      refine ⟨vp_in_nI (by omega) (by decide), vp_in_nI (by omega) (by decide), ?_⟩
      rw [nI_clamp (by omega), a7, a8, nI_1, nI_1]
      have skip : ¬ (fr t = knot ∧ m.testBit (tt t) = false) → E1 209 (fuel + 3) Q 45 [(0, .ref 33), (1, .ref 1), (2, .ref 29), (3, .int (nI dst)), (4, .int (nI knot)), (5, .int (nI d)), (6, .int (nI m)), (7, .long key), (9, .int (nI (t + 1)))] I0 J0 := by
        intro hn
        refine ih z I0 J0 ?_ h2 h3 h4
        show plL W (L ++ (wkt fr tt f knot m t ++ if fr t = knot ∧ m.testBit (tt t) = false then f t else [])) I0 J0
        rw [if_neg hn, List.append_nil]
        exact h1
      refine if_eq (by omega) (by omega) (fun e1 => ?_) (fun e1 => skip fun q => e1 q.1)
      refine if_i (fun e2 => ?_) (fun e2 => skip fun q => e2 ((wm_bit _ t10 _ hm).mpr q.2))
      have e2 := (wm_bit _ t10 _ hm).mp e2
      obtain ⟨I1, J1, c1, rfl, g1, g2, g3⟩ := c_goAlong (D := fuel + 1) (I := I0) (J := J0) (t := t) (d := d) aW w4 (by omega) (by omega)
      have hstep : (wkt fr tt f knot m (t + 1)) = wkt fr tt f knot m t ++ f t := by
        show wkt fr tt f knot m t ++ (if fr t = knot ∧ m.testBit (tt t) = false then f t else []) = _
        rw [if_pos ⟨e1, e2⟩]
      have hft : f t = wk Tn fr tt am dst fuel (tt t) (m ||| 2 ^ tt t) (fun w => acc w + am t w) := by rw [hf]
      obtain ⟨o1, o2⟩ := wm_or _ t10 _ hm
      have hlen2 : (L ++ wkt fr tt f knot m t).length + (wk Tn fr tt am dst fuel (tt t) (m ||| 2 ^ tt t) (fun w => acc w + am t w)).length ≤ 6561 := by
        rw [← hft]
        have q := wkt_le (fr := fr) (tt := tt) (f := f) (knot := knot) (m := m) (a := t + 1) (n := Tn) (by omega)
        rw [hstep] at q
        rw [List.length_append] at q ⊢
        omega
      have hkey2 : ∃ k, k < 2 ^ 62 ∧ (key ||| ((nI (tt t)).toInt64 <<< (((4 : Int32) * ((9 : Int32) - nI d)).toInt64 &&& 63))) = lN k := by
        obtain ⟨k, hk1, rfl⟩ := hkey
        obtain ⟨s1, s2⟩ := wm_key _ t10 d (by omega)
        rw [s1]
        exact wm_ok hk1 s2
      obtain ⟨I2, J2, c2, p2, k2, k3, k4⟩ := ihf (d + 1) (tt t) (m ||| 2 ^ tt t) (fun w => acc w + am t w) _ (L ++ wkt fr tt f knot m t) I1 J1 (by omega) (tlq_cg ht0 (fun q _ _ _ q4 _ => g2 q q4)) (plL_cg h1 (g2 29 (by decide)) (g2 30 (by decide)) (g2 32 (by decide)) (g2 4 (by decide)) rfl) t10 o2 hkey2 (fun w hw => by
        rw [show 4 * (d + 1) + w = 4 * d + 4 + w by omega, g1 w hw, h3 _ (by omega), hacc w hw, a5 w hw, nI_add]) hlen2
      refine ⟨trivial, _, _, c1, ?_⟩
      rw [o1]
      refine ⟨trivial, _, _, c2, ?_⟩
      refine ih z I2 J2 ?_ (fun q q1 q2 q3 q4 q5 => by rw [k2 q q1 q2 q3 q4 q5, g2 q q4, h2 q q1 q2 q3 q4 q5]) (fun j hj => by rw [k3 j (by omega), g3 j hj, h3 j hj]) (fun q hq => by rw [k4 q hq, h4 q hq])
      rw [hstep, hft, ← List.append_assoc]
      exact p2
theorem c_gatherWays {src dst : Nat} (ht : tlq W Tn fr tt am I) (hs : src < 10) (hdst : dst < 10) : ∃ I' J', C1 13 207 [.ref 33, .ref 1, .int (nI src), .int (nI dst), .ref 29] I J .null I' J' ∧ plL W (wk Tn fr tt am dst 9 src (2 ^ src) (fun _ => 0)) I' J' ∧ (∀ q, q ≠ 29 → q ≠ 30 → q ≠ 32 → q ≠ 36 → q ≠ 37 → I' q = I q) ∧ ∀ q, q ≠ 31 → J' q = J q := by
  refine mj_cN (e207 _ _ ?_)
  refine ⟨vp_in_nI (n := 0) (by decide) (by decide), ?_⟩
  rw [show ((0 : Int32)).toNatClampNeg = 0 from rfl, ht.2.2.1]
  refine ⟨trivial, _, _, mj_mk (e208 _ rfl), ?_⟩
  obtain ⟨Q, hQ⟩ : ∃ Q, Q = qN mj_R1 (fun I' J' => plL W (wk Tn fr tt am dst 9 src (2 ^ src) (fun _ => 0)) I' J' ∧ (∀ q, q ≠ 29 → q ≠ 30 → q ≠ 32 → q ≠ 36 → q ≠ 37 → I' q = I q) ∧ ∀ q, q ≠ 31 → J' q = J q) := ⟨_, rfl⟩
  rw [← hQ]
  have lp := lp_up (n := 4) (fun w => ∀ I0, I0 29 3 = nI 0 → I0 29 4 = nI W → (∀ q, q ≠ 29 → q ≠ 36 → I0 q = I q) → (∀ u, u < w → I0 36 u = nI 0) → E1 207 12 Q 14 [(0, .ref 33), (1, .ref 1), (2, .int (nI src)), (3, .int (nI dst)), (4, .ref 29), (5, .int (nI w))] I0 J) (fun w hw ih I0 h1 h2 h3 h4 => ?_) 0 (by omega) (mj_up (mj_up I 29 3 0) 29 4 (nI W)) (by rw [up_j (by decide), up_s]; rfl) up_s (fun q q1 _ => by rw [up_c q1, up_c q1]) (fun u hu => by omega)
  · exact lp
  refine mj_on (s207_14 _ _ _ ?_)
  rw [show (4 : Int32) = nI 4 from rfl]
  refine if_le (by omega) (by omega) (fun c => ?_) (fun c => ?_)
  · obtain rfl : w = 4 := by omega
    obtain ⟨o1, o2⟩ := wm_one _ hs
    obtain ⟨s1, s2⟩ := wm_key0 _ hs
    rw [o1, s1]
    obtain ⟨I1, J1, c1, p1, f1, _, f3⟩ := c_walk (W := W) (Tn := Tn) (fr := fr) (tt := tt) (am := am) hdst 9 0 src (2 ^ src) (fun _ => 0) _ [] I0 J rfl (by
      unfold tlq at ht ⊢
      rw [h3 2 (by decide) (by decide), h3 7 (by decide) (by decide), h3 8 (by decide) (by decide), h3 5 (by decide) (by decide)]
      exact ht) ⟨h1, h2, by decide, fun x v hx => by simp at hx⟩ hs o2 ⟨_, s2, rfl⟩ (fun w hw => by rw [show 4 * 0 + w = w by omega]; exact h4 w (by have := ht.1; omega)) (by
      have := wk_all (Tn := Tn) (fr := fr) (tt := tt) (am := am) (dst := dst) (src := src) (acc := fun _ => 0) ht.2.1 (fun t h => (ht.2.2.2.2 t h).2.2.2.1) hs
      simpa using this)
    refine ⟨trivial, _, _, c1, ?_⟩
    rw [hQ]
    refine ⟨_, _, rfl, p1, fun q q1 q2 q3 q4 q5 => by rw [f1 q q1 q2 q3 q4 q5, h3 q q1 q4], f3⟩
  · refine ⟨vp_in_nI (by omega) (by decide), ?_⟩
    rw [nI_clamp (by omega), nI_1]
    refine ih c _ (by rw [up_c (by decide)]; exact h1) (by rw [up_c (by decide)]; exact h2) (fun q q1 q2 => by rw [up_c q2]; exact h3 q q1 q2) (fun u hu => ?_)
    by_cases e : u = w
    · subst e; rw [up_s]; rfl
    · rw [up_j e]; exact h4 u (by omega)
end S91
end
section
/-! the reference keeps rows that nothing beats: gathers() -/
section S92a
variable {W : Nat}
/-- r is not beaten by v, nor like it -/
noncomputable def kp (W : Nat) (v r : Nat → Int32) : Bool := @decide (¬ nm W v r) (Classical.propDecidable _)
theorem kp_t {v r : Nat → Int32} : kp W v r = true ↔ ¬ nm W v r := by
  unfold kp
  exact @decide_eq_true_iff _ (Classical.propDecidable _)
noncomputable def gth (W : Nat) (v : Nat → Int32) (R : List (Nat → Int32)) : List (Nat → Int32) := @ite _ (∃ r, r ∈ R ∧ nm W r v) (Classical.propDecidable _) R (R.filter (kp W v) ++ [v])
theorem gth_t {v : Nat → Int32} {R : List (Nat → Int32)} (h : ∃ r, r ∈ R ∧ nm W r v) : gth W v R = R := @if_pos _ (Classical.propDecidable _) h _ _ _
theorem gth_f {v : Nat → Int32} {R : List (Nat → Int32)} (h : ¬ ∃ r, r ∈ R ∧ nm W r v) : gth W v R = R.filter (kp W v) ++ [v] := @if_neg _ (Classical.propDecidable _) h _ _ _
/-- R holds just what nothing else of S beats -/
def mnR (W : Nat) (S : (Nat → Int32) → Prop) (R : List (Nat → Int32)) : Prop := (∀ r, r ∈ R → S r) ∧ R.Pairwise (fun a c => ¬ nm W a c ∧ ¬ nm W c a) ∧ ∀ f, S f → ∃ r, r ∈ R ∧ nm W r f
theorem mnR_cg {S T : (Nat → Int32) → Prop} {R : List (Nat → Int32)} (h : mnR W S R) (e : ∀ f, S f ↔ T f) : mnR W T R := ⟨fun r hr => (e r).mp (h.1 r hr), h.2.1, fun f hf => h.2.2 f ((e f).mpr hf)⟩
theorem mnR_gth {S : (Nat → Int32) → Prop} {R : List (Nat → Int32)} {v : Nat → Int32} (h : mnR W S R) : mnR W (fun f => S f ∨ f = v) (gth W v R) := by
  obtain ⟨h1, h2, h3⟩ := h
  rcases Classical.em (∃ r, r ∈ R ∧ nm W r v) with c | c
  · rw [gth_t c]
    refine ⟨fun r hr => Or.inl (h1 r hr), h2, fun f hf => ?_⟩
    rcases hf with hf | rfl
    · exact h3 f hf
    · exact c
  · rw [gth_f c]
    refine ⟨fun r hr => ?_, ?_, fun f hf => ?_⟩
    · rcases List.mem_append.mp hr with hr | hr
      · exact Or.inl (h1 r (List.mem_filter.mp hr).1)
      · exact Or.inr (List.mem_singleton.mp hr)
    · refine List.pairwise_append.mpr ⟨h2.filter _, List.pairwise_singleton _ _, fun a ha x hx => ?_⟩
      obtain rfl := List.mem_singleton.mp hx
      obtain ⟨m1, m2⟩ := List.mem_filter.mp ha
      exact ⟨fun q => c ⟨a, m1, q⟩, kp_t.mp m2⟩
    · rcases hf with hf | rfl
      · obtain ⟨r, hr, hn⟩ := h3 f hf
        rcases Classical.em (nm W v r) with q | q
        · exact ⟨v, List.mem_append.mpr (Or.inr (List.mem_singleton.mpr rfl)), nm_tr q hn⟩
        · exact ⟨r, List.mem_append.mpr (Or.inl (List.mem_filter.mpr ⟨hr, kp_t.mpr q⟩)), hn⟩
      · exact ⟨f, List.mem_append.mpr (Or.inr (List.mem_singleton.mpr rfl)), nm_rf⟩
theorem mn_len {α : Type} : ∀ {R L : List α}, R.Nodup → (∀ r, r ∈ R → r ∈ L) → R.length ≤ L.length
  | [], _, _, _ => Nat.zero_le _
  | r :: R, L, hn, hs => by
    obtain ⟨h1, h2⟩ := List.nodup_cons.mp hn
    obtain ⟨a, c, rfl⟩ := List.append_of_mem (hs r List.mem_cons_self)
    have ih := mn_len (R := R) (L := a ++ c) h2 (fun x hx => by
      have hx2 := hs x (List.mem_cons_of_mem _ hx)
      rcases List.mem_append.mp hx2 with q | q
      · exact List.mem_append.mpr (Or.inl q)
      · rcases List.mem_cons.mp q with q | q
        · subst q; exact absurd hx h1
        · exact List.mem_append.mpr (Or.inr q))
    rw [List.length_append] at ih ⊢
    simp only [List.length_cons]
    omega
theorem mnR_len {S : (Nat → Int32) → Prop} {R L : List (Nat → Int32)} (h : mnR W S R) (hS : ∀ f, S f → f ∈ L) : R.length ≤ L.length := by
  refine mn_len ?_ (fun r hr => hS r (h.1 r hr))
  refine h.2.1.imp (fun q e => ?_)
  rw [e] at q
  exact q.1 nm_rf
end S92a
section S92
variable {D b W Rn : Nat} {I : Nat → Nat → Int32} {J : Nat → Nat → Int64} {R : List (Nat → Int32)} {v : Nat → Int32} {Wb : Nat → Prop}
def gaL (W : Nat) (Wb : Nat → Prop) (R : List (Nat → Int32)) (I : Nat → Nat → Int32) : Prop := I 0 48 = nI R.length ∧ ∀ k r, R[k]? = some r → (∀ w, w < W → I 29 (4 * k + w) = r w) ∧ ∃ y, Wb y ∧ I 30 k = nI y
theorem r_isLost {k : Nat} {r : Nat → Int32} (hB : rB I b W Rn) (hk : k < 8192) (hr : ∀ w, w < W → I 29 (4 * k + w) = r w) (hv : ∀ w, w < W → I 32 w = v w) : C2 (D + 1) 73 [.ref 0, .int (nI k)] I J (.int (tf (nm W r v))) I J := by
  obtain ⟨h1, h2, h3, h4, h5, h6⟩ := id hB
  refine mj_mk (e73 _ ?_)
  have lp := lp_up (n := W) (fun w => (∀ u, u < w → r u ≤ v u) → E2 73 D (fun x => x = (.int (tf (nm W r v)), (I, J, mj_R2))) 2 [(0, .ref 0), (1, .int (nI k)), (2, .int (nI w))] I J) (fun w hw ih hu => ?_) 0 (by omega) (fun u hu => by omega)
  · exact lp
  refine mj_on (s73_2 _ _ ?_)
  rw [h1, nI_clamp (by omega), h3]
  refine ⟨vp_in_nI h2 (by decide), if_le (by omega) (by omega) (fun c => ?_) (fun c => ?_)⟩
  · obtain rfl : w = W := by omega
    exact mzT (fun u hu2 => hu u hu2)
  · rw [ix4', nI_clamp (by omega), nI_clamp (by omega), hr w c, hv w c, nI_1]
    refine ⟨vp_in_nI (by omega) (by decide), vp_in_nI (by omega) (by decide), if_i (fun d => ih c (fun u hu2 => ?_)) (fun d => mzF fun q => d (q w c))⟩
    by_cases e : u = w
    · subst e; exact d
    · exact hu u (by omega)
theorem r_isWorse {k : Nat} {r : Nat → Int32} (hB : rB I b W Rn) (hk : k < 8192) (hr : ∀ w, w < W → I 29 (4 * k + w) = r w) (hv : ∀ w, w < W → I 32 w = v w) : C2 (D + 1) 74 [.ref 0, .int (nI k)] I J (.int (tf (nm W v r))) I J := by
  obtain ⟨h1, h2, h3, h4, h5, h6⟩ := id hB
  refine mj_mk (e74 _ ?_)
  have lp := lp_up (n := W) (fun w => (∀ u, u < w → v u ≤ r u) → E2 74 D (fun x => x = (.int (tf (nm W v r)), (I, J, mj_R2))) 2 [(0, .ref 0), (1, .int (nI k)), (2, .int (nI w))] I J) (fun w hw ih hu => ?_) 0 (by omega) (fun u hu => by omega)
  · exact lp
  refine mj_on (s74_2 _ _ ?_)
  rw [h1, nI_clamp (by omega), h3]
  refine ⟨vp_in_nI h2 (by decide), if_le (by omega) (by omega) (fun c => ?_) (fun c => ?_)⟩
  · obtain rfl : w = W := by omega
    exact mzT (fun u hu2 => hu u hu2)
  · rw [ix4', nI_clamp (by omega), nI_clamp (by omega), hr w c, hv w c, nI_1]
    refine ⟨vp_in_nI (by omega) (by decide), vp_in_nI (by omega) (by decide), if_i (fun d => ih c (fun u hu2 => ?_)) (fun d => mzF fun q => d (q w c))⟩
    by_cases e : u = w
    · subst e; exact d
    · exact hu u (by omega)
theorem r_lays {k p : Nat} (hk : k < 8192) (hp : p < 8192) : ∃ I' J', C2 (D + 1) 75 [.ref 0, .int (nI k), .int (nI p)] I J .null I' J' ∧ J' = J ∧ (∀ w, w < 4 → I' 29 (4 * k + w) = I 29 (4 * p + w)) ∧ (∀ j, (j < 4 * k ∨ 4 * k + 4 ≤ j) → I' 29 j = I 29 j) ∧ I' 30 k = I 30 p ∧ (∀ j, j ≠ k → I' 30 j = I 30 j) ∧ ∀ q, q ≠ 29 → q ≠ 30 → q ≠ 31 → I' q = I q := by
  refine mj_cN (e75 _ _ ?_)
  obtain ⟨Q, hQ⟩ : ∃ Q, Q = qN mj_R2 (fun I' J' => J' = J ∧ (∀ w, w < 4 → I' 29 (4 * k + w) = I 29 (4 * p + w)) ∧ (∀ j, (j < 4 * k ∨ 4 * k + 4 ≤ j) → I' 29 j = I 29 j) ∧ I' 30 k = I 30 p ∧ (∀ j, j ≠ k → I' 30 j = I 30 j) ∧ ∀ q, q ≠ 29 → q ≠ 30 → q ≠ 31 → I' q = I q) := ⟨_, rfl⟩
  rw [← hQ]
  have lp := lp_up (n := 4) (fun w => ∀ I0, (∀ u, u < w → I0 29 (4 * k + u) = I 29 (4 * p + u)) → (∀ u, w ≤ u → u < 4 → I0 29 (4 * p + u) = I 29 (4 * p + u)) → (∀ j, (j < 4 * k ∨ 4 * k + 4 ≤ j) → I0 29 j = I 29 j) → (∀ q, q ≠ 29 → I0 q = I q) → E2 75 D Q 2 [(0, .ref 0), (1, .int (nI k)), (2, .int (nI p)), (3, .int (nI w))] I0 J) (fun w hw ih I0 h1 h2 h3 h4 => ?_) 0 (by omega) I (fun u hu => by omega) (fun _ _ _ => rfl) (fun _ _ => rfl) (fun _ _ => rfl)
  · exact lp
  refine mj_on (s75_2 _ _ _ ?_)
  rw [show (4 : Int32) = nI 4 from rfl]
  refine if_le (by omega) (by omega) (fun c => ?_) (fun c => ?_)
  · obtain rfl : w = 4 := by omega
    rw [nI_clamp (by omega), nI_clamp (by omega)]
    refine ⟨vp_in_nI hp (by decide), vp_in_nI hk (by decide), ?_⟩
    obtain ⟨Ia, hIa⟩ : ∃ Ia, Ia = mj_up I0 30 k (I0 30 p) := ⟨_, rfl⟩
    rw [← hIa]
    have lp2 := lp_up (n := 10) (fun i => ∀ I1, (∀ q, q ≠ 31 → I1 q = Ia q) → E2 75 D Q 47 [(0, .ref 0), (1, .int (nI k)), (2, .int (nI p)), (3, .int (nI i))] I1 J) (fun i hi ih2 I1 g1 => ?_) 0 (by omega) Ia (fun _ _ => rfl)
    · exact lp2
    refine mj_on (s75_47 _ _ _ ?_)
    rw [show (10 : Int32) = nI 10 from rfl]
    refine if_le (by omega) (by omega) (fun d => ?_) (fun d => ?_)
    · rw [hQ]
      refine ⟨_, _, rfl, rfl, fun u hu => ?_, fun j hj => ?_, ?_, fun j hj => ?_, fun q q1 q2 q3 => ?_⟩
      · rw [g1 29 (by decide), hIa, up_c (by decide)]; exact h1 u hu
      · rw [g1 29 (by decide), hIa, up_c (by decide)]; exact h3 j hj
      · rw [g1 30 (by decide), hIa, up_s, h4 30 (by decide)]
      · rw [g1 30 (by decide), hIa, up_j hj, h4 30 (by decide)]
      · rw [g1 q q3, hIa, up_c q2, h4 q q1]
    · rw [pk_mul, nI_add, pk_mul, nI_add, nI_clamp (by omega), nI_clamp (by omega), nI_1]
      exact ⟨vp_in_nI (by omega) (by decide), vp_in_nI (by omega) (by decide), ih2 d _ (fun q hq => by rw [up_c hq]; exact g1 q hq)⟩
  · rw [pk_mul, nI_add, pk_mul, nI_add, nI_clamp (by omega), nI_clamp (by omega), nI_1]
    refine ⟨vp_in_nI (by omega) (by decide), vp_in_nI (by omega) (by decide), ?_⟩
    refine ih c _ (fun u hu => ?_) (fun u hu hu4 => ?_) (fun j hj => by rw [up_j (by omega)]; exact h3 j hj) (fun q hq => by rw [up_c hq]; exact h4 q hq)
    · by_cases e : u = w
      · subst e
        rw [up_s, h2 u (by omega) c]
      · rw [up_j (by omega)]
        exact h1 u (by omega)
    · by_cases e : 4 * p + u = 4 * k + w
      · obtain ⟨e1, e2⟩ : p = k ∧ u = w := by omega
        omega
      · rw [up_j e]
        exact h2 u (by omega) hu4
theorem r_gathers {x : Nat} (hB : rB I b W Rn) (hg : gaL W Wb R I) (hv : ∀ w, w < W → I 32 w = v w) (h8 : R.length < 8191) (hx : Wb x) : ∃ I' J', C2 (D + 2) 72 [.ref 0, .int (nI x)] I J .null I' J' ∧ J' = J ∧ gaL W Wb (gth W v R) I' ∧ ∀ q j, q ≠ 29 → q ≠ 30 → q ≠ 31 → (q ≠ 0 ∨ j ≠ 48) → I' q j = I q j := by
  obtain ⟨b1, b2, b3, b4, b5, b6⟩ := id hB
  obtain ⟨g1, g2⟩ := id hg
  refine mj_cN (e72 _ ?_)
  obtain ⟨Q, hQ⟩ : ∃ Q, Q = qN mj_R2 (fun I' J' => J' = J ∧ gaL W Wb (gth W v R) I' ∧ ∀ q j, q ≠ 29 → q ≠ 30 → q ≠ 31 → (q ≠ 0 ∨ j ≠ 48) → I' q j = I q j) := ⟨_, rfl⟩
  rw [← hQ]
  have row : ∀ k, k < R.length → ∃ r, R[k]? = some r ∧ r ∈ R := fun k hk => ⟨R[k], List.getElem?_eq_getElem hk, List.getElem_mem hk⟩
  have lp := lp_up (n := R.length) (fun k => (∀ j r, j < k → R[j]? = some r → ¬ nm W r v) → E2 72 (D + 1) Q 2 [(0, .ref 0), (1, .int (nI x)), (2, .int (nI k))] I J) (fun k hk ih hn => ?_) 0 (by omega) (fun j r hj => by omega)
  · exact lp
  refine mj_on (s72_2 _ _ ?_)
  rw [g1]
  refine if_le (by omega) (by omega) (fun c => ?_) (fun c => ?_)
  · have hno : ¬ ∃ r, r ∈ R ∧ nm W r v := by
      rintro ⟨r, hr, hq⟩
      obtain ⟨j, hj⟩ := List.getElem?_of_mem hr
      have hjl := (List.getElem?_eq_some_iff.mp hj).1
      exact hn j r (by omega) hj hq
    have lp2 := lp_up (n := R.length) (fun i => ∀ I0, (∀ q, q ≠ 29 → q ≠ 30 → q ≠ 31 → I0 q = I q) → (∀ j r, ((R.take i).filter (kp W v))[j]? = some r → (∀ w, w < W → I0 29 (4 * j + w) = r w) ∧ ∃ y, Wb y ∧ I0 30 j = nI y) → (∀ j r, i ≤ j → R[j]? = some r → (∀ w, w < W → I0 29 (4 * j + w) = r w) ∧ ∃ y, Wb y ∧ I0 30 j = nI y) → E2 72 (D + 1) Q 29 [(0, .ref 0), (1, .int (nI x)), (2, .int (nI ((R.take i).filter (kp W v)).length)), (3, .int (nI i))] I0 J) (fun i hi ih2 I0 f1 f2 f3 => ?_) 0 (by omega) I (fun _ _ _ _ => rfl) (fun j r hj => by simp at hj) (fun j r _ hj => g2 j r hj)
    · exact lp2
    have hB0 : rB I0 b W Rn := by
      unfold rB at hB ⊢
      rw [f1 0 (by decide) (by decide) (by decide), f1 2 (by decide) (by decide) (by decide), f1 3 (by decide) (by decide) (by decide)]
      exact hB
    have hfl : ((R.take i).filter (kp W v)).length ≤ i := Nat.le_trans (List.length_filter_le _ _) (by rw [List.length_take]; omega)
    refine mj_on (s72_29 _ _ _ ?_)
    rw [f1 0 (by decide) (by decide) (by decide), g1]
    refine if_le (by omega) (by omega) (fun d => ?_) (fun d => ?_)
    · obtain rfl : i = R.length := by omega
      rw [List.take_length] at hfl f2 ⊢
      obtain ⟨m, hm⟩ : ∃ m, m = (R.filter (kp W v)).length := ⟨_, rfl⟩
      rw [← hm] at hfl ⊢
      have lp3 := lp_up (n := W) (fun w => ∀ I1, (∀ q, q ≠ 29 → I1 q = I0 q) → (∀ j, j < 4 * m → I1 29 j = I0 29 j) → (∀ u, u < w → I1 29 (4 * m + u) = v u) → E2 72 (D + 1) Q 65 [(0, .ref 0), (1, .int (nI x)), (2, .int (nI m)), (3, .int (nI w))] I1 J) (fun w hw ih3 I1 k1 k2 k3 => ?_) 0 (by omega) I0 (fun _ _ => rfl) (fun _ _ => rfl) (fun u hu => by omega)
      · exact lp3
      refine mj_on (s72_65 _ _ _ ?_)
      rw [k1 0 (by decide), f1 0 (by decide) (by decide) (by decide), b1, nI_clamp (by omega), k1 2 (by decide), f1 2 (by decide) (by decide) (by decide), b3]
      refine ⟨vp_in_nI b2 (by decide), if_le (by omega) (by omega) (fun e => ?_) (fun e => ?_)⟩
      · obtain rfl : w = W := by omega
        rw [nI_clamp (by omega)]
        refine ⟨vp_in_nI (by omega) (by decide), ?_⟩
        obtain ⟨Ia, hIa⟩ : ∃ Ia, Ia = mj_up I1 30 m (nI x) := ⟨_, rfl⟩
        rw [← hIa]
        have lp4 := lp_up (n := 10) (fun i => ∀ I2, (∀ q, q ≠ 31 → I2 q = Ia q) → E2 72 (D + 1) Q 109 [(0, .ref 0), (2, .int (nI m)), (3, .int (nI i))] I2 J) (fun i hi ih4 I2 n1 => ?_) 0 (by omega) Ia (fun _ _ => rfl)
        · exact lp4
        refine mj_on (s72_109 _ _ ?_)
        rw [show (10 : Int32) = nI 10 from rfl]
        refine if_le (by omega) (by omega) (fun y => ?_) (fun y => ?_)
        · rw [hQ, nI_1]
          refine ⟨_, _, rfl, rfl, ⟨?_, fun j r hj => ?_⟩, fun q j q1 q2 q3 q4 => ?_⟩
          · rw [gth_f hno, List.length_append, up_s, ← hm]
            rfl
          · rw [gth_f hno] at hj
            rw [up_c (by decide), up_c (by decide), n1 29 (by decide), n1 30 (by decide), hIa]
            rcases app_at hj with ⟨hj1, hj2⟩ | ⟨hj1, hj2⟩
            · rw [← hm] at hj1
              obtain ⟨p1, p2⟩ := f2 j r hj2
              refine ⟨fun w hw => ?_, ?_⟩
              · rw [up_c (by decide), k2 _ (by omega)]
                exact p1 w hw
              · rw [up_j (by omega), k1 30 (by decide)]
                exact p2
            · rw [← hm] at hj1
              subst hj1; subst hj2
              refine ⟨fun w hw => ?_, x, hx, up_s⟩
              rw [up_c (by decide)]
              exact k3 w hw
          · rw [up_n (by omega), n1 q q3, hIa, up_c q2, k1 q q1, f1 q q1 q2 q3]
        · rw [pk_mul, nI_add, nI_clamp (by omega), nI_clamp (by omega), nI_1]
          exact ⟨vp_in_nI (by omega) (by decide), vp_in_nI (by omega) (by decide), ih4 y _ (fun q hq => by rw [up_c hq]; exact n1 q hq)⟩
      · rw [ix4', nI_clamp (by omega), nI_clamp (by omega), nI_1, k1 32 (by decide), f1 32 (by decide) (by decide) (by decide), hv w e]
        refine ⟨vp_in_nI (by omega) (by decide), vp_in_nI (by omega) (by decide), ?_⟩
        refine ih3 e _ (fun q hq => by rw [up_c hq]; exact k1 q hq) (fun j hj => by rw [up_j (by omega)]; exact k2 j hj) (fun u hu => ?_)
        by_cases z : u = w
        · subst z; exact up_s
        · rw [up_j (by omega)]; exact k3 u (by omega)
    · obtain ⟨r, hr, hrm⟩ := row i d
      obtain ⟨p1, p2⟩ := f3 i r (Nat.le_refl _) hr
      have htk : R.take (i + 1) = R.take i ++ [r] := by rw [List.take_add_one, hr]; rfl
      have c74 := r_isWorse (D := D) (J := J) hB0 (by omega) p1 (v := v) (fun w hw => by rw [f1 32 (by decide) (by decide) (by decide)]; exact hv w hw)
      refine ⟨trivial, _, _, _, c74, ?_⟩
      rw [nI_1, nI_1]
      refine if_tf (fun hq => ?_) (fun hq => ?_)
      · have hf : (R.take (i + 1)).filter (kp W v) = (R.take i).filter (kp W v) := by
          rw [htk, List.filter_append, List.filter_cons, if_neg (fun z => kp_t.mp z hq), List.filter_nil, List.append_nil]
        have := ih2 d I0 f1 (by rw [hf]; exact f2) (fun j r hj => f3 j r (by omega))
        rw [hf] at this
        exact this
      · have hf : (R.take (i + 1)).filter (kp W v) = (R.take i).filter (kp W v) ++ [r] := by
          rw [htk, List.filter_append, List.filter_cons, if_pos (kp_t.mpr hq), List.filter_nil]
        obtain ⟨m, hm⟩ : ∃ m, m = ((R.take i).filter (kp W v)).length := ⟨_, rfl⟩
        rw [← hm] at hfl ⊢
        obtain ⟨I1, J1, c1, rfl, l1, l2, l3, l4, l5⟩ := r_lays (D := D) (I := I0) (J := J) (k := m) (p := i) (by omega) (by omega)
        refine ⟨trivial, _, _, c1, ?_⟩
        have := ih2 d I1 (fun q q1 q2 q3 => by rw [l5 q q1 q2 q3, f1 q q1 q2 q3]) (fun j r2 hj => ?_) (fun j r2 hj hr2 => ?_)
        · rw [hf, List.length_append, ← hm] at this
          exact this
        · rw [hf] at hj
          rcases app_at hj with ⟨hj1, hj2⟩ | ⟨hj1, hj2⟩
          · rw [← hm] at hj1
            obtain ⟨o1, o2⟩ := f2 j r2 hj2
            refine ⟨fun w hw => ?_, ?_⟩
            · rw [l2 _ (by omega)]
              exact o1 w hw
            · rw [l4 j (by omega)]
              exact o2
          · rw [← hm] at hj1
            subst hj1; subst hj2
            refine ⟨fun w hw => ?_, ?_⟩
            · rw [l1 w (by omega)]
              exact p1 w hw
            · rw [l3]
              exact p2
        · obtain ⟨o1, o2⟩ := f3 j r2 (by omega) hr2
          refine ⟨fun w hw => ?_, ?_⟩
          · rw [l2 _ (by omega)]
            exact o1 w hw
          · rw [l4 j (by omega)]
            exact o2
  · obtain ⟨r, hr, hrm⟩ := row k c
    refine ⟨trivial, _, _, _, r_isLost (D := D) hB (by omega) (g2 k r hr).1 hv, ?_⟩
    rw [nI_1]
    refine if_tf (fun hq => ?_) (fun hq => ?_)
    · rw [hQ]
      refine ⟨_, _, rfl, rfl, ?_, fun _ _ _ _ _ _ => rfl⟩
      rw [gth_t ⟨r, hrm, hq⟩]
      exact hg
    · refine ih c (fun j r2 hj hr2 => ?_)
      by_cases e : j = k
      · subst e
        rw [hr] at hr2
        cases hr2
        exact hq
      · exact hn j r2 (by omega) hr2
end S92
end
section
/-! the reference gathers all ways -/
section S93p
variable {Tn : Nat} {fr tt : Nat → Nat} {am : Nat → Nat → Nat} {dst : Nat}
/-- what is met from a knot on by the places s and behind (a place: the next knot times 24, and the tie) -/
def wRM (Tn : Nat) (fr tt : Nat → Nat) (am : Nat → Nat → Nat) (dst fuel knot m : Nat) (acc : Nat → Nat) (s : Nat) (v : Nat → Nat) : Prop := ∃ t, t < Tn ∧ fr t = knot ∧ m.testBit (tt t) = false ∧ s ≤ tt t * 24 + t ∧ v ∈ wk Tn fr tt am dst fuel (tt t) (m ||| 2 ^ tt t) (fun w => acc w + am t w)
theorem wk_RM {fuel knot m : Nat} {acc v : Nat → Nat} (h : knot ≠ dst) : v ∈ wk Tn fr tt am dst (fuel + 1) knot m acc ↔ wRM Tn fr tt am dst fuel knot m acc 0 v := by
  unfold wk wRM
  rw [if_neg h, List.mem_flatMap]
  constructor
  · rintro ⟨t, ht, hv⟩
    by_cases c : fr t = knot ∧ m.testBit (tt t) = false
    · rw [if_pos c] at hv
      exact ⟨t, List.mem_range.mp ht, c.1, c.2, Nat.zero_le _, hv⟩
    · rw [if_neg c] at hv
      exact absurd hv List.not_mem_nil
  · rintro ⟨t, ht, c1, c2, -, hv⟩
    exact ⟨t, List.mem_range.mpr ht, by rw [if_pos ⟨c1, c2⟩]; exact hv⟩
theorem wk_end {fuel m : Nat} {acc : Nat → Nat} : wk Tn fr tt am dst fuel dst m acc = [acc] := by
  cases fuel <;> (unfold wk; rw [if_pos rfl])
theorem wk_none {knot m : Nat} {acc : Nat → Nat} (h : knot ≠ dst) : wk Tn fr tt am dst 0 knot m acc = [] := by
  unfold wk
  rw [if_neg h]
theorem wRM_next {fuel knot m : Nat} {acc v : Nat → Nat} {s : Nat} (hT : Tn ≤ 24) : wRM Tn fr tt am dst fuel knot m acc s v ↔ wRM Tn fr tt am dst fuel knot m acc (s + 1) v ∨ (s % 24 < Tn ∧ fr (s % 24) = knot ∧ m.testBit (tt (s % 24)) = false ∧ tt (s % 24) = s / 24 ∧ v ∈ wk Tn fr tt am dst fuel (s / 24) (m ||| 2 ^ (s / 24)) (fun w => acc w + am (s % 24) w)) := by
  constructor
  · rintro ⟨t, h1, h2, h3, h4, h5⟩
    by_cases e : tt t * 24 + t = s
    · have e1 : s % 24 = t := by omega
      have e2 : s / 24 = tt t := by omega
      right
      rw [e1, e2]
      exact ⟨h1, h2, h3, rfl, h5⟩
    · exact Or.inl ⟨t, h1, h2, h3, by omega, h5⟩
  · rintro (⟨t, h1, h2, h3, h4, h5⟩ | ⟨h1, h2, h3, h4, h5⟩)
    · exact ⟨t, h1, h2, h3, by omega, h5⟩
    · exact ⟨s % 24, h1, h2, h3, by rw [h4]; omega, by rw [h4]; exact h5⟩
end S93p
theorem wm_pred : ∀ d, d < 10 → nI (d + 1) + -1 = nI d := by decide +kernel
section S93
variable {D b W Rn Kn Tn : Nat} {fr tt : Nat → Nat} {am : Nat → Nat → Nat} {dst : Nat} {mo : Nat → Int32} {J : Nat → Nat → Int64}
def rlq (b W Rn Kn Tn : Nat) (fr tt : Nat → Nat) (am : Nat → Nat → Nat) (mo : Nat → Int32) (I : Nat → Nat → Int32) : Prop := rB I b W Rn ∧ I 4 b = nI Kn ∧ Kn ≤ 10 ∧ I 5 b = nI Tn ∧ Tn ≤ 24 ∧ (∀ w, w < W → I 9 (4 * b + w) = mo w) ∧
  ∀ t, t < Tn → I 14 (24 * b + t) = nI (fr t) ∧ I 15 (24 * b + t) = nI (tt t) ∧ fr t < 10 ∧ tt t < Kn ∧ ∀ w, w < W → I 16 (4 * (24 * b + t) + w) = nI (am t w)
def wfr (I I' : Nat → Nat → Int32) : Prop := ∀ q j, q ≠ 29 → q ≠ 30 → q ≠ 31 → q ≠ 32 → q ≠ 33 → q ≠ 34 → q ≠ 35 → (q ≠ 0 ∨ j ≠ 48) → I' q j = I q j
theorem wfr_c {I I' : Nat → Nat → Int32} (h : wfr I I') (q : Nat) (h1 : 1 ≤ q) (h2 : q < 29) : I' q = I q := by
  funext j
  exact h q j (by omega) (by omega) (by omega) (by omega) (by omega) (by omega) (by omega) (by omega)
theorem wfr_tr {I I' I'' : Nat → Nat → Int32} (h : wfr I I') (h' : wfr I' I'') : wfr I I'' := fun q j q1 q2 q3 q4 q5 q6 q7 q8 => by rw [h' q j q1 q2 q3 q4 q5 q6 q7 q8, h q j q1 q2 q3 q4 q5 q6 q7 q8]
theorem rlq_cg {I I' : Nat → Nat → Int32} (h : rlq b W Rn Kn Tn fr tt am mo I) (e : wfr I I') : rlq b W Rn Kn Tn fr tt am mo I' := by
  unfold rlq rB at h ⊢
  rw [e 0 12 (by decide) (by decide) (by decide) (by decide) (by decide) (by decide) (by decide) (by decide), wfr_c e 2 (by decide) (by decide), wfr_c e 3 (by decide) (by decide), wfr_c e 4 (by decide) (by decide), wfr_c e 5 (by decide) (by decide), wfr_c e 9 (by decide) (by decide), wfr_c e 14 (by decide) (by decide), wfr_c e 15 (by decide) (by decide), wfr_c e 16 (by decide) (by decide)]
  exact h
/-- below depth d nothing is touched -/
def fwd (d : Nat) (I I' : Nat → Nat → Int32) : Prop := (∀ i, i ≤ d → I' 33 i = I 33 i) ∧ (∀ j, j < 4 * d + 4 → I' 34 j = I 34 j) ∧ (∀ i, i < d → I' 35 i = I 35 i) ∧ wfr I I'
theorem fwd_tr {d : Nat} {I I' I'' : Nat → Nat → Int32} (h : fwd d I I') (h' : fwd d I' I'') : fwd d I I'' := ⟨fun i hi => by rw [h'.1 i hi, h.1 i hi], fun j hj => by rw [h'.2.1 j hj, h.2.1 j hj], fun i hi => by rw [h'.2.2.1 i hi, h.2.2.1 i hi], wfr_tr h.2.2.2 h'.2.2.2⟩
def stk (W d : Nat) (p : Nat → Nat) (ac : Nat → Nat → Nat) (I : Nat → Nat → Int32) : Prop := (∀ i, i ≤ d → I 33 i = nI (p i) ∧ p i < 10) ∧ ∀ i, i ≤ d → ∀ w, w < W → I 34 (4 * i + w) = nI (ac i w)
theorem stk_cg {d : Nat} {p : Nat → Nat} {ac : Nat → Nat → Nat} {I I' : Nat → Nat → Int32} (hW : W ≤ 4) (h : stk W d p ac I) (f1 : ∀ i, i ≤ d → I' 33 i = I 33 i) (f2 : ∀ j, j < 4 * d + 4 → I' 34 j = I 34 j) : stk W d p ac I' := ⟨fun i hi => by rw [f1 i hi]; exact h.1 i hi, fun i hi w hw => by rw [f2 _ (by omega)]; exact h.2 i hi w hw⟩
def rho (mo : Nat → Int32) (v : Nat → Nat) : Nat → Int32 := fun w => lo (mo w) (nI (v w))
def rS (mo : Nat → Int32) (T : (Nat → Nat) → Prop) (f : Nat → Int32) : Prop := ∃ v, T v ∧ f = rho mo v
theorem gaL_cg {Wb : Nat → Prop} {R : List (Nat → Int32)} {I I' : Nat → Nat → Int32} (h : gaL W Wb R I) (e0 : I' 0 48 = I 0 48) (e29 : I' 29 = I 29) (e30 : I' 30 = I 30) : gaL W Wb R I' := by
  unfold gaL at h ⊢
  rw [e0, e29, e30]
  exact h
set_option maxHeartbeats 1000000 in
theorem r_sub {Q : mj_R → Prop} (hdst : dst < 10) {L : List (Nat → Nat)} (hL : L.length ≤ 6561) : ∀ (fuel d : Nat), d + fuel = 8 → ∀ (k s : Nat), s + k = 240 → ∀ (p : Nat → Nat) (ac : Nat → Nat → Nat) (m : Nat) (R : List (Nat → Int32)) (T : (Nat → Nat) → Prop) (I : Nat → Nat → Int32), rlq b W Rn Kn Tn fr tt am mo I → stk W d p ac I → (∀ x, x < 10 → (m.testBit x = true ↔ ∃ i, i ≤ d ∧ p i = x)) → I 35 d = nI s → gaL W (· ≤ 10) R I → mnR W (rS mo T) R → p d ≠ dst → (∀ v, T v ∨ wRM Tn fr tt am dst fuel (p d) m (ac d) s v → v ∈ L) →
    (∀ I' R', fwd d I I' → gaL W (· ≤ 10) R' I' → mnR W (rS mo fun v => T v ∨ wRM Tn fr tt am dst fuel (p d) m (ac d) s v) R' → E2 71 (D + 3) Q 36 [(0, .ref 0), (2, .int (nI dst)), (3, .int (nI d + -1))] I' J) →
    E2 71 (D + 3) Q 36 [(0, .ref 0), (2, .int (nI dst)), (3, .int (nI d))] I J := by
  intro fuel
  induction fuel using Nat.strongRecOn with
  | ind fuel ihf =>
    intro d hd k
    induction k with
    | zero =>
      intro s hs p ac m R T I hq hst hm h35 hg hmn hpd hC cont
      obtain rfl : s = 240 := by omega
      obtain ⟨hB, q4, qK, q5, qT, q9, qt⟩ := id hq
      refine mj_on (s71_36 _ _ ?_)
      rw [if_neg (nI_pos (by omega)), nI_clamp (by omega), h35]
      refine ⟨vp_in_nI (by omega) (by decide), ?_⟩
      rw [if_pos (show nI 240 = (240 : Int32) from rfl)]
      refine cont I R ⟨fun _ _ => rfl, fun _ _ => rfl, fun _ _ => rfl, fun _ _ _ _ _ _ _ _ _ _ => rfl⟩ hg (mnR_cg hmn fun f => ⟨fun ⟨v, hv, e⟩ => ⟨v, Or.inl hv, e⟩, fun ⟨v, hv, e⟩ => ⟨v, ?_, e⟩⟩)
      rcases hv with hv | ⟨t, t1, t2, t3, t4, t5⟩
      · exact hv
      · have := (qt t t1).2.2.2.1
        omega
    | succ k ih =>
      intro s hs p ac m R T I hq hst hm h35 hg hmn hpd hC cont
      obtain ⟨hB, q4, qK, q5, qT, q9, qt⟩ := id hq
      obtain ⟨b1, b2, b3, b4, b5, b6⟩ := id hB
      have hRl : R.length < 8191 := by
        have := mnR_len (L := L.map (rho mo)) hmn (fun f ⟨v, hv, e⟩ => by rw [e]; exact List.mem_map.mpr ⟨v, hC v (Or.inl hv), rfl⟩)
        rw [List.length_map] at this
        omega
      -- one place further on, nothing met
      have skip : ∀ I1, fwd d I I1 → I1 35 d = nI (s + 1) → gaL W (· ≤ 10) R I1 → ¬ (s % 24 < Tn ∧ fr (s % 24) = p d ∧ m.testBit (tt (s % 24)) = false ∧ tt (s % 24) = s / 24 ∧ ∃ v, v ∈ wk Tn fr tt am dst fuel (s / 24) (m ||| 2 ^ (s / 24)) (fun w => ac d w + am (s % 24) w)) → E2 71 (D + 3) Q 36 [(0, .ref 0), (2, .int (nI dst)), (3, .int (nI d))] I1 J := by
        intro I1 hf h35' hg' hno
        have e : ∀ v, wRM Tn fr tt am dst fuel (p d) m (ac d) s v ↔ wRM Tn fr tt am dst fuel (p d) m (ac d) (s + 1) v := fun v => by
          rw [wRM_next (s := s) qT]
          exact ⟨fun z => z.elim id (fun z => absurd ⟨z.1, z.2.1, z.2.2.1, z.2.2.2.1, v, z.2.2.2.2⟩ hno), Or.inl⟩
        refine ih (s + 1) (by omega) p ac m R T I1 (rlq_cg hq hf.2.2.2) (stk_cg b4 hst hf.1 hf.2.1) hm h35' hg' hmn hpd (fun v hv => hC v (hv.imp id (e v).mpr)) (fun I' R' f' g' m' => cont I' R' (fwd_tr hf f') g' (mnR_cg m' fun f => ⟨fun ⟨v, hv, z⟩ => ⟨v, hv.imp id (e v).mpr, z⟩, fun ⟨v, hv, z⟩ => ⟨v, hv.imp id (e v).mp, z⟩⟩))
      obtain ⟨Ia, hIa⟩ : ∃ Ia, Ia = mj_up I 35 d (nI (s + 1)) := ⟨_, rfl⟩
      have fa : fwd d I Ia := ⟨fun i hi => by rw [hIa, up_c (by decide)], fun j hj => by rw [hIa, up_c (by decide)], fun i hi => by rw [hIa, up_j (by omega)], fun q j h1 h2 h3 h4 h5 h6 h7 h8 => by rw [hIa, up_c h7]⟩
      have a35 : Ia 35 d = nI (s + 1) := by rw [hIa, up_s]
      have ga : gaL W (· ≤ 10) R Ia := gaL_cg hg (by rw [hIa, up_c (by decide)]) (by rw [hIa, up_c (by decide)]) (by rw [hIa, up_c (by decide)])
      have no158 : ∀ y5 : Int32, ¬ (s % 24 < Tn ∧ fr (s % 24) = p d ∧ m.testBit (tt (s % 24)) = false ∧ tt (s % 24) = s / 24 ∧ ∃ v, v ∈ wk Tn fr tt am dst fuel (s / 24) (m ||| 2 ^ (s / 24)) (fun w => ac d w + am (s % 24) w)) → E2 71 (D + 3) Q 158 [(0, .ref 0), (2, .int (nI dst)), (3, .int (nI d)), (4, .int (nI (s / 24))), (5, .int y5), (6, .int 0)] I J := by
        intro y5 hno
        refine mj_on (s71_158 _ _ _ _ _ ?_)
        rw [nI_clamp (by omega), h35, nI_1, ← hIa]
        refine ⟨vp_in_nI (by omega) (by decide), vp_in_nI (by omega) (by decide), ?_⟩
        refine mj_on (s71_171 _ _ _ _ _ _ ?_)
        rw [if_neg (nI_pos (by omega)), if_pos rfl, if_pos rfl]
        exact skip Ia fa a35 ga hno
      refine mj_on (s71_36 _ _ ?_)
      rw [if_neg (nI_pos (by omega)), nI_clamp (by omega), h35]
      refine ⟨vp_in_nI (by omega) (by decide), ?_⟩
      rw [if_neg (show ¬ nI s = (240 : Int32) from fun z => absurd ((nI_eq (b := 240) (by omega) (by decide)).mp z) (by omega))]
      rw [show (24 : Int32) = nI 24 from rfl, pk_rem (by omega) (by decide) (by decide), pk_div (by omega) (by decide) (by decide), b1, nI_clamp (by omega), pk_mul, nI_add, q5, q4]
      refine ⟨vp_in_nI (by omega) (by decide), by decide, vp_in_nI (by omega) (by decide), by decide, vp_in_nI (by omega) (by decide), by decide, vp_in_nI b2 (by decide), ?_⟩
      refine if_le (by omega) (by omega) (fun c => no158 _ fun z => by omega) (fun c => ⟨vp_in_nI b2 (by decide), ?_⟩)
      refine if_le (by omega) (by omega) (fun c2 => no158 _ fun z => by have := (qt (s % 24) c).2.2.2.1; omega) (fun c2 => ?_)
      obtain ⟨t14, t15, t10, tK, t16⟩ := qt (s % 24) c
      rw [nI_clamp (by omega), t14, t15, (hst.1 d (Nat.le_refl _)).1]
      refine ⟨vp_in_nI (by omega) (by decide), vp_in_nI (by omega) (by decide), ?_⟩
      refine if_eq (by omega) (by have := (hst.1 d (Nat.le_refl _)).2; omega) (fun c3 => ⟨vp_in_nI (by omega) (by decide), ?_⟩) (fun c3 => no158 _ fun z => c3 z.2.1)
      refine if_eq (by omega) (by omega) (fun c4 => ?_) (fun c4 => no158 _ fun z => c4 z.2.2.2.1)
      refine mj_on (s71_158 _ _ _ _ _ ?_)
      rw [nI_clamp (by omega), h35, nI_1, ← hIa]
      refine ⟨vp_in_nI (by omega) (by decide), vp_in_nI (by omega) (by decide), ?_⟩
      obtain ⟨kn, hkn⟩ : ∃ kn, kn = s / 24 := ⟨_, rfl⟩
      rw [← hkn] at c2 c4 ⊢
      have kn10 : kn < 10 := by omega
      -- is the knot met already?
      have lp := lp_up (n := d + 1) (fun i => (∀ j, j < i → p j ≠ kn) → E2 71 (D + 3) Q 171 [(0, .ref 0), (2, .int (nI dst)), (3, .int (nI d)), (4, .int (nI kn)), (5, .int (nI (24 * b + s % 24))), (6, .int 1), (7, .int (nI i))] Ia J) (fun i hi ih2 hj => ?_) 0 (by omega) (fun j hj => by omega)
      · exact lp
      refine mj_on (s71_171 _ _ _ _ _ _ ?_)
      refine if_lt (by omega) (by omega) (fun z => ?_) (fun z => ?_)
      · obtain rfl : i = d + 1 := by omega
        rw [if_neg (by decide)]
        have hun : m.testBit kn = false := by
          rw [Bool.eq_false_iff]
          intro q
          obtain ⟨j, j1, j2⟩ := (hm kn kn10).mp q
          exact hj j (by omega) j2
        -- the sums
        have lp3 := lp_up (n := W) (fun w => ∀ I1, (∀ q, q ≠ 34 → I1 q = Ia q) → (∀ j, j < 4 * d + 4 → I1 34 j = Ia 34 j) → (∀ u, u < w → I1 34 (4 * d + 4 + u) = nI (ac d u + am (s % 24) u)) → E2 71 (D + 3) Q 218 [(0, .ref 0), (2, .int (nI dst)), (3, .int (nI d)), (4, .int (nI kn)), (5, .int (nI (24 * b + s % 24))), (7, .int (nI w))] I1 J) (fun w hw ih3 I1 k1 k2 k3 => ?_) 0 (by omega) Ia (fun _ _ => rfl) (fun _ _ => rfl) (fun u hu => by omega)
        · exact lp3
        have aq : ∀ q, 1 ≤ q → q < 29 → I1 q = I q := fun q h1 h2 => by rw [k1 q (by omega), wfr_c fa.2.2.2 q h1 h2]
        have a12 : I1 0 12 = nI b := by rw [k1 0 (by decide), fa.2.2.2 0 12 (by decide) (by decide) (by decide) (by decide) (by decide) (by decide) (by decide) (by decide), b1]
        refine mj_on (s71_218 _ _ _ _ _ ?_)
        rw [a12, nI_clamp (by omega), aq 2 (by decide) (by decide), b3]
        refine ⟨vp_in_nI b2 (by decide), if_le (by omega) (by omega) (fun y => ?_) (fun y => ?_)⟩
        · obtain rfl : w = W := by omega
          obtain ⟨ac2, hac2⟩ : ∃ ac2 : Nat → Nat, ac2 = fun u => ac d u + am (s % 24) u := ⟨_, rfl⟩
          have k3' : ∀ u, u < w → I1 34 (4 * d + 4 + u) = nI (ac2 u) := fun u hu => by rw [hac2]; exact k3 u hu
          have f1 : fwd d I I1 := fwd_tr fa ⟨fun i _ => by rw [k1 33 (by decide)], k2, fun i _ => by rw [k1 35 (by decide)], fun q j h1 h2 h3 h4 h5 h6 h7 h8 => by rw [k1 q h6]⟩
          have g1 : gaL w (· ≤ 10) R I1 := gaL_cg ga (by rw [k1 0 (by decide)]) (by rw [k1 29 (by decide)]) (by rw [k1 30 (by decide)])
          refine if_eq (by omega) (by omega) (fun e => ?_) (fun e => ?_)
          · -- an end: it is gathered
            rw [nI_1, nI_clamp (by omega)]
            refine ⟨vp_in_nI (by omega) (by decide), ?_⟩
            have lp4 := lp_up (n := w) (fun x => ∀ I2, (∀ q, q ≠ 32 → q ≠ 33 → I2 q = I1 q) → (∀ i, i ≤ d → I2 33 i = I1 33 i) → (∀ u, u < x → I2 32 u = rho mo ac2 u) → E2 71 (D + 3) Q 307 [(0, .ref 0), (2, .int (nI dst)), (3, .int (nI d)), (7, .int (nI x))] I2 J) (fun x hx ih4 I2 n1 n2 n3 => ?_) 0 (by omega) (mj_up I1 33 (d + 1) (nI kn)) (fun q _ q2 => by rw [up_c q2]) (fun i hi => by rw [up_j (by omega)]) (fun u hu => by omega)
            · exact lp4
            have f2 : fwd d I I2 := fwd_tr f1 ⟨n2, fun j _ => by rw [n1 34 (by decide) (by decide)], fun i _ => by rw [n1 35 (by decide) (by decide)], fun q j h1 h2 h3 h4 h5 h6 h7 h8 => by rw [n1 q h4 h5]⟩
            have hq2 := rlq_cg hq f2.2.2.2
            refine mj_on (s71_307 _ _ _ ?_)
            rw [hq2.1.1, nI_clamp (by omega), hq2.1.2.2.1]
            refine ⟨vp_in_nI b2 (by decide), if_le (by omega) (by omega) (fun y2 => ?_) (fun y2 => ?_)⟩
            · obtain rfl : x = w := by omega
              rw [show (2 : Int32) = nI 2 from rfl, nI_add]
              obtain ⟨I3, J3, cg, rfl, o1, o2⟩ := r_gathers (D := D + 1) (J := J) (v := rho mo ac2) (x := d + 2) (Wb := (· ≤ 10)) hq2.1 (gaL_cg g1 (by rw [n1 0 (by decide) (by decide)]) (by rw [n1 29 (by decide) (by decide)]) (by rw [n1 30 (by decide) (by decide)])) n3 hRl (by show d + 2 ≤ 10; omega)
              refine ⟨trivial, _, _, cg, ?_⟩
              have f3 : fwd d I I3 := fwd_tr f2 ⟨fun i _ => o2 33 i (by decide) (by decide) (by decide) (Or.inl (by decide)), fun j _ => o2 34 j (by decide) (by decide) (by decide) (Or.inl (by decide)), fun i _ => o2 35 i (by decide) (by decide) (by decide) (Or.inl (by decide)), fun q j h1 h2 h3 h4 h5 h6 h7 h8 => o2 q j h1 h2 h3 h8⟩
              have hone : ∀ v, wRM Tn fr tt am dst fuel (p d) m (ac d) s v ↔ wRM Tn fr tt am dst fuel (p d) m (ac d) (s + 1) v ∨ v = ac2 := fun v => by
                rw [wRM_next (s := s) qT, ← hkn, ← hac2, e, wk_end]
                constructor
                · exact fun q => q.imp id (fun q => List.mem_singleton.mp q.2.2.2.2)
                · rintro (q | q)
                  · exact Or.inl q
                  · exact Or.inr ⟨c, c3, by rw [c4]; exact hun, by rw [c4]; exact e, List.mem_singleton.mpr q⟩
              refine ih (s + 1) (by omega) p ac m (gth x (rho mo ac2) R) (fun v => T v ∨ v = ac2) I3 (rlq_cg hq f3.2.2.2) (stk_cg b4 hst f3.1 f3.2.1) hm ?_ o1 (mnR_cg (mnR_gth hmn) fun f => ?_) hpd (fun v hv => hC v ?_) (fun I' R' f' g' m' => cont I' R' (fwd_tr f3 f') g' (mnR_cg m' fun f => ?_))
              · rw [o2 35 d (by decide) (by decide) (by decide) (Or.inl (by decide)), n1 35 (by decide) (by decide), k1 35 (by decide), a35]
              · constructor
                · rintro (⟨v, hv, rfl⟩ | rfl)
                  · exact ⟨v, Or.inl hv, rfl⟩
                  · exact ⟨ac2, Or.inr rfl, rfl⟩
                · rintro ⟨v, hv | rfl, rfl⟩
                  · exact Or.inl ⟨v, hv, rfl⟩
                  · exact Or.inr rfl
              · rcases hv with (hv | hv) | hv
                · exact Or.inl hv
                · exact Or.inr ((hone v).mpr (Or.inr hv))
                · exact Or.inr ((hone v).mpr (Or.inl hv))
              · constructor
                · rintro ⟨v, (hv | hv) | hv, rfl⟩
                  · exact ⟨v, Or.inl hv, rfl⟩
                  · exact ⟨v, Or.inr ((hone v).mpr (Or.inr hv)), rfl⟩
                  · exact ⟨v, Or.inr ((hone v).mpr (Or.inl hv)), rfl⟩
                · rintro ⟨v, hv | hv, rfl⟩
                  · exact ⟨v, Or.inl (Or.inl hv), rfl⟩
                  · rcases (hone v).mp hv with hv | hv
                    · exact ⟨v, Or.inr hv, rfl⟩
                    · exact ⟨v, Or.inl (Or.inr hv), rfl⟩
            · rw [nI_1, show (4 : Int32) = nI 4 from rfl, pk_mul, nI_add, nI_clamp (by omega), nI_clamp (by omega), n1 34 (by decide) (by decide), show 4 * (d + 1) + x = 4 * d + 4 + x by omega, k3' x y2]
              refine ⟨vp_in_nI (by omega) (by decide), trivial, _, _, _, r_lossOf hq2.1 y2, vp_in_nI (by omega) (by decide), ?_⟩
              rw [hq2.2.2.2.2.2.1 x y2, nI_1]
              refine ih4 y2 _ (fun q q1 q2 => by rw [up_c q1]; exact n1 q q1 q2) (fun i hi => by rw [up_c (by decide)]; exact n2 i hi) (fun u hu => ?_)
              by_cases z2 : u = x
              · subst z2; rw [up_s]; rfl
              · rw [up_j z2]; exact n3 u (by omega)
          · rw [show (2 : Int32) = nI 2 from rfl, show (9 : Int32) = nI 9 from rfl, nI_add]
            have i35 : I1 35 d = nI (s + 1) := by rw [k1 35 (by decide), a35]
            refine if_le (by omega) (by decide) (fun y2 => ?_) (fun y2 => ?_)
            · obtain ⟨f, rfl⟩ : ∃ f, fuel = f + 1 := ⟨fuel - 1, by omega⟩
              rw [nI_1, nI_clamp (by omega)]
              refine ⟨vp_in_nI (by omega) (by decide), vp_in_nI (by omega) (by decide), ?_⟩
              obtain ⟨I2, hI2⟩ : ∃ I2, I2 = mj_up (mj_up I1 33 (d + 1) (nI kn)) 35 (d + 1) 0 := ⟨_, rfl⟩
              rw [← hI2]
              have f2 : fwd d I1 I2 := ⟨fun i hi => by rw [hI2, up_c (by decide), up_j (by omega)], fun j _ => by rw [hI2, up_c (by decide), up_c (by decide)], fun i hi => by rw [hI2, up_j (by omega), up_c (by decide)], fun q j h1 h2 h3 h4 h5 h6 h7 h8 => by rw [hI2, up_c h7, up_c h5]⟩
              obtain ⟨p2, p2n, p2o⟩ : ∃ p2 : Nat → Nat, p2 (d + 1) = kn ∧ ∀ i, i ≤ d → p2 i = p i := ⟨fun i => if i = d + 1 then kn else p i, if_pos rfl, fun i hi => if_neg (by omega)⟩
              obtain ⟨a2, a2n, a2o⟩ : ∃ a2 : Nat → Nat → Nat, a2 (d + 1) = ac2 ∧ ∀ i, i ≤ d → a2 i = ac i := ⟨fun i => if i = d + 1 then ac2 else ac i, if_pos rfl, fun i hi => if_neg (by omega)⟩
              have hone : ∀ v, wRM Tn fr tt am dst (f + 1) (p d) m (ac d) s v ↔ wRM Tn fr tt am dst (f + 1) (p d) m (ac d) (s + 1) v ∨ wRM Tn fr tt am dst f (p2 (d + 1)) (m ||| 2 ^ kn) (a2 (d + 1)) 0 v := fun v => by
                rw [wRM_next (s := s) qT, ← hkn, ← hac2, p2n, a2n, ← wk_RM e]
                exact ⟨fun q => q.imp id (fun q => q.2.2.2.2), fun q => q.imp id (fun q => ⟨c, c3, by rw [c4]; exact hun, c4, q⟩)⟩
              refine ihf f (by omega) (d + 1) (by omega) 240 0 rfl p2 a2 (m ||| 2 ^ kn) R T I2 (rlq_cg hq (wfr_tr f1.2.2.2 f2.2.2.2)) ⟨fun i hi => ?_, fun i hi u hu => ?_⟩ (fun x hx => ?_) (by rw [hI2, up_s]; rfl) (gaL_cg g1 (by rw [hI2, up_c (by decide), up_c (by decide)]) (by rw [hI2, up_c (by decide), up_c (by decide)]) (by rw [hI2, up_c (by decide), up_c (by decide)])) hmn (by rw [p2n]; exact e) (fun v hv => hC v (hv.imp id fun q => (hone v).mpr (Or.inr q))) (fun I' R' f' g' m' => ?_)
              · by_cases z2 : i = d + 1
                · subst z2
                  rw [p2n]
                  exact ⟨by rw [hI2, up_c (by decide), up_s], kn10⟩
                · rw [p2o i (by omega), f2.1 i (by omega), f1.1 i (by omega)]
                  exact hst.1 i (by omega)
              · by_cases z2 : i = d + 1
                · subst z2
                  rw [a2n, hI2, up_c (by decide), up_c (by decide), show 4 * (d + 1) + u = 4 * d + 4 + u by omega]
                  exact k3' u hu
                · rw [a2o i (by omega), f2.2.1 _ (by omega), f1.2.1 _ (by omega)]
                  exact hst.2 i (by omega) u hu
              · rw [Nat.testBit_or, Nat.testBit_two_pow, Bool.or_eq_true, decide_eq_true_eq, hm x hx]
                constructor
                · rintro (⟨i, i1, i2⟩ | q)
                  · exact ⟨i, by omega, by rw [p2o i i1]; exact i2⟩
                  · exact ⟨d + 1, Nat.le_refl _, by rw [p2n]; exact q⟩
                · rintro ⟨i, i1, i2⟩
                  by_cases z2 : i = d + 1
                  · subst z2
                    rw [p2n] at i2
                    exact Or.inr i2
                  · exact Or.inl ⟨i, by omega, by rw [← p2o i (by omega)]; exact i2⟩
              · rw [wm_pred d (by omega)]
                have f3 : fwd d I I' := fwd_tr (fwd_tr f1 f2) ⟨fun i hi => f'.1 i (by omega), fun j hj2 => f'.2.1 j (by omega), fun i hi => f'.2.2.1 i (by omega), f'.2.2.2⟩
                refine ih (s + 1) (by omega) p ac m R' (fun v => T v ∨ wRM Tn fr tt am dst f (p2 (d + 1)) (m ||| 2 ^ kn) (a2 (d + 1)) 0 v) I' (rlq_cg hq f3.2.2.2) (stk_cg b4 hst f3.1 f3.2.1) hm ?_ g' m' hpd (fun v hv => hC v ?_) (fun I'' R'' f'' g'' m'' => cont I'' R'' (fwd_tr f3 f'') g'' (mnR_cg m'' fun x => ?_))
                · rw [f'.2.2.1 d (by omega), hI2, up_j (by omega), up_c (by decide), i35]
                · rcases hv with (hv | hv) | hv
                  · exact Or.inl hv
                  · exact Or.inr ((hone v).mpr (Or.inr hv))
                  · exact Or.inr ((hone v).mpr (Or.inl hv))
                · constructor
                  · rintro ⟨v, (hv | hv) | hv, rfl⟩
                    · exact ⟨v, Or.inl hv, rfl⟩
                    · exact ⟨v, Or.inr ((hone v).mpr (Or.inr hv)), rfl⟩
                    · exact ⟨v, Or.inr ((hone v).mpr (Or.inl hv)), rfl⟩
                  · rintro ⟨v, hv | hv, rfl⟩
                    · exact ⟨v, Or.inl (Or.inl hv), rfl⟩
                    · rcases (hone v).mp hv with hv | hv
                      · exact ⟨v, Or.inr hv, rfl⟩
                      · exact ⟨v, Or.inl (Or.inr hv), rfl⟩
            · obtain rfl : fuel = 0 := by omega
              refine skip I1 f1 i35 g1 (fun q => ?_)
              obtain ⟨v, hv⟩ := q.2.2.2.2
              rw [← hkn, wk_none e] at hv
              exact absurd hv List.not_mem_nil
        · rw [nI_1, show (10 : Int32) = nI 10 from rfl]
          refine if_le (by decide) (by omega) (fun y2 => absurd y2 (by omega)) (fun _ => ?_)
          rw [show (4 : Int32) = nI 4 from rfl, pk_mul, nI_add, pk_mul, nI_add, pk_mul, nI_add, nI_clamp (by omega), nI_clamp (by omega), nI_clamp (by omega), nI_1]
          refine ⟨vp_in_nI (by omega) (by decide), vp_in_nI (by omega) (by decide), vp_in_nI (by omega) (by decide), ?_⟩
          rw [k2 _ (by omega), fa.2.1 _ (by omega), hst.2 d (Nat.le_refl _) w y, aq 16 (by decide) (by decide), t16 w y, nI_add]
          refine ih3 y _ (fun q hq => by rw [up_c hq]; exact k1 q hq) (fun j hj2 => by rw [up_j (by omega)]; exact k2 j hj2) (fun u hu => ?_)
          by_cases z2 : u = w
          · subst z2; rw [show 4 * (d + 1) + u = 4 * d + 4 + u by omega, up_s]
          · rw [up_j (by omega)]; exact k3 u (by omega)
      · rw [if_neg (by decide)]
        have hi10 : i < 10 := by omega
        rw [nI_clamp (by omega), fa.1 i (by omega), (hst.1 i (by omega)).1, nI_1]
        refine ⟨vp_in_nI hi10 (by decide), if_eq (by have := (hst.1 i (by omega)).2; omega) (by omega) (fun e => ?_) (fun e => ?_)⟩
        · have hno : ¬ (s % 24 < Tn ∧ fr (s % 24) = p d ∧ m.testBit (tt (s % 24)) = false ∧ tt (s % 24) = s / 24 ∧ ∃ v, v ∈ wk Tn fr tt am dst fuel (s / 24) (m ||| 2 ^ (s / 24)) (fun w => ac d w + am (s % 24) w)) := fun q => by
            have h1 := q.2.2.1
            rw [c4, (hm kn kn10).mpr ⟨i, by omega, e⟩] at h1
            cases h1
          refine mj_on (s71_171 _ _ _ _ _ _ ?_)
          refine if_lt (by omega) (by omega) (fun _ => ?_) (fun _ => ?_)
          · rw [if_pos rfl]
            exact skip Ia fa a35 ga hno
          · rw [if_pos rfl, if_pos rfl]
            exact skip Ia fa a35 ga hno
        · refine ih2 (by omega) (fun j hj2 => ?_)
          by_cases z2 : j = i
          · subst z2; exact e
          · exact hj j (by omega)
theorem r_ways {src dst : Nat} {I : Nat → Nat → Int32} (hq : rlq b W Rn Kn Tn fr tt am mo I) (hs : src < 10) (hdst : dst < 10) (hne : src ≠ dst) (h48 : I 0 48 = nI 0) : ∃ I' J', C2 (D + 4) 71 [.ref 0, .int (nI src), .int (nI dst)] I J .null I' J' ∧ J' = J ∧ ∃ R, gaL W (· ≤ 10) R I' ∧ mnR W (rS mo fun v => v ∈ wk Tn fr tt am dst 9 src (2 ^ src) (fun _ => 0)) R ∧ wfr I I' := by
  obtain ⟨hB, q4, qK, q5, qT, q9, qt⟩ := id hq
  refine mj_cN (e71 _ _ ?_)
  obtain ⟨Q, hQ⟩ : ∃ Q, Q = qN mj_R2 (fun I' J' => J' = J ∧ ∃ R, gaL W (· ≤ 10) R I' ∧ mnR W (rS mo fun v => v ∈ wk Tn fr tt am dst 9 src (2 ^ src) (fun _ => 0)) R ∧ wfr I I') := ⟨_, rfl⟩
  rw [← hQ, show ((0 : Int32)).toNatClampNeg = 0 from rfl]
  refine ⟨vp_in_nI (n := 0) (by decide) (by decide), vp_in_nI (n := 0) (by decide) (by decide), ?_⟩
  obtain ⟨Ia, hIa⟩ : ∃ Ia, Ia = mj_up (mj_up I 33 0 (nI src)) 35 0 0 := ⟨_, rfl⟩
  rw [← hIa]
  have lp := lp_up (n := 4) (fun w => ∀ I0, (∀ q, q ≠ 34 → I0 q = Ia q) → (∀ u, u < w → I0 34 u = nI 0) → E2 71 (D + 3) Q 16 [(0, .ref 0), (2, .int (nI dst)), (3, .int (nI w))] I0 J) (fun w hw ih I0 h1 h2 => ?_) 0 (by omega) Ia (fun _ _ => rfl) (fun u hu => by omega)
  · exact lp
  refine mj_on (s71_16 _ _ ?_)
  rw [show (4 : Int32) = nI 4 from rfl]
  refine if_le (by omega) (by omega) (fun c => ?_) (fun c => ?_)
  · obtain rfl : w = 4 := by omega
    have f0 : wfr I I0 := fun q j q1 q2 q3 q4 q5 q6 q7 q8 => by rw [h1 q q6, hIa, up_c q7, up_c q5]
    have hall : ∀ v, (False ∨ wRM Tn fr tt am dst 8 src (2 ^ src) (fun _ => 0) 0 v) ↔ v ∈ wk Tn fr tt am dst 9 src (2 ^ src) (fun _ => 0) := fun v => by rw [wk_RM hne]; exact ⟨fun z => z.elim False.elim id, Or.inr⟩
    refine r_sub (W := W) (mo := mo) (D := D) hdst (L := wk Tn fr tt am dst 9 src (2 ^ src) (fun _ => 0)) (wk_all qT (fun t h => by have := (qt t h).2.2.2.1; omega) hs) 8 0 rfl 240 0 rfl (fun _ => src) (fun _ _ => 0) (2 ^ src) [] (fun _ => False) I0 (rlq_cg hq f0) ⟨fun i hi => ?_, fun i hi u hu => ?_⟩ (fun x hx => ?_) ?_ ⟨?_, fun k r hk => by simp at hk⟩ ⟨fun r hr => absurd hr List.not_mem_nil, List.Pairwise.nil, fun f ⟨v, hv, _⟩ => hv.elim⟩ hne (fun v hv => (hall v).mp hv) (fun I' R' f' g' m' => ?_)
    · obtain rfl : i = 0 := by omega
      exact ⟨by rw [h1 33 (by decide), hIa, up_c (by decide), up_s], hs⟩
    · obtain rfl : i = 0 := by omega
      have := hB.2.2.2.1
      rw [show 4 * 0 + u = u by omega]
      exact h2 u (by omega)
    · rw [Nat.testBit_two_pow, decide_eq_true_eq]
      exact ⟨fun q => ⟨0, Nat.le_refl _, q⟩, fun ⟨i, _, q⟩ => q⟩
    · rw [h1 35 (by decide), hIa, up_s]; rfl
    · rw [h1 0 (by decide), hIa, up_c (by decide), up_c (by decide), h48]; rfl
    · refine mj_on (s71_36 _ _ ?_)
      rw [if_pos (show nI 0 + -1 < 0 by decide), hQ]
      exact ⟨_, _, rfl, rfl, R', g', mnR_cg m' (fun f => ⟨fun ⟨v, hv, e⟩ => ⟨v, (hall v).mp hv, e⟩, fun ⟨v, hv, e⟩ => ⟨v, (hall v).mpr hv, e⟩⟩), wfr_tr f0 f'.2.2.2⟩
  · rw [nI_clamp (by omega), nI_1]
    refine ⟨vp_in_nI (by omega) (by decide), ih c _ (fun q hq => by rw [up_c hq]; exact h1 q hq) (fun u hu => ?_)⟩
    by_cases e : u = w
    · subst e; rw [up_s]; rfl
    · rw [up_j e]; exact h2 u (by omega)
end S93
end
section
/-! the reference shows its kept rows by their ranks -/
section S94p
theorem ct_lt2 {p q : Nat → Prop} (hpq : ∀ i, p i → q i) : ∀ {n : Nat}, (∃ i, i < n ∧ q i ∧ ¬ p i) → ct n p < ct n q
  | 0, ⟨i, h, _⟩ => absurd h (by omega)
  | n + 1, ⟨i, h, hq, hp⟩ => by
    have le : ∀ m, ct m p ≤ ct m q := by
      intro m
      induction m with
      | zero => exact Nat.le_refl _
      | succ m ih =>
        rcases Classical.em (p m) with c | c
        · rw [ct_t c, ct_t (hpq m c)]; omega
        · rw [ct_f c]
          rcases Classical.em (q m) with d | d
          · rw [ct_t d]; omega
          · rw [ct_f d]; exact ih
    by_cases e : i = n
    · subst e
      rw [ct_f hp, ct_t hq]
      have := le i
      omega
    · have ih := ct_lt2 hpq (n := n) ⟨i, by omega, hq, hp⟩
      rcases Classical.em (p n) with c | c
      · rw [ct_t c, ct_t (hpq n c)]; omega
      · rw [ct_f c]
        rcases Classical.em (q n) with d | d
        · rw [ct_t d]; omega
        · rw [ct_f d]; exact ih
theorem ct_all : ∀ n, ct n (fun _ => True) = n
  | 0 => rfl
  | n + 1 => by rw [ct_t trivial, ct_all n]
theorem php : ∀ (n : Nat) (f : Nat → Nat), (∀ i, i < n → f i < n) → (∀ i j, i < n → j < n → f i = f j → i = j) → ∀ k, k < n → ∃ i, i < n ∧ f i = k
  | 0, _, _, _, k, hk => absurd hk (by omega)
  | n + 1, f, h1, h2, k, hk => by
    by_cases ha : f n = n
    · have ih := php n f (fun i hi => by
        have q1 := h1 i (by omega)
        have q2 : f i ≠ n := fun e => absurd (h2 i n (by omega) (by omega) (e.trans ha.symm)) (by omega)
        omega) (fun i j hi hj => h2 i j (by omega) (by omega))
      by_cases e : k = n
      · exact ⟨n, by omega, by rw [ha, e]⟩
      · obtain ⟨i, hi, e2⟩ := ih k (by omega)
        exact ⟨i, by omega, e2⟩
    · have hal : f n < n := by have := h1 n (by omega); omega
      have ih := php n (fun i => if f i = n then f n else f i) (fun i hi => by
        show (if f i = n then f n else f i) < n
        split
        · exact hal
        · have := h1 i (by omega); omega) (fun i j hi hj e => by
        have e : (if f i = n then f n else f i) = if f j = n then f n else f j := e
        split at e
        · rename_i c1
          split at e
          · rename_i c2
            exact h2 i j (by omega) (by omega) (c1.trans c2.symm)
          · exact absurd (h2 n j (by omega) (by omega) e) (by omega)
        · split at e
          · exact absurd (h2 i n (by omega) (by omega) e) (by omega)
          · exact h2 i j (by omega) (by omega) e)
      by_cases e : k = n
      · obtain ⟨i, hi, e2⟩ := ih (f n) hal
        have e2 : (if f i = n then f n else f i) = f n := e2
        split at e2
        · rename_i c
          exact ⟨i, by omega, by rw [c, e]⟩
        · exact absurd (h2 i n (by omega) (by omega) e2) (by omega)
      · obtain ⟨i, hi, e2⟩ := ih k (by omega)
        have e2 : (if f i = n then f n else f i) = k := e2
        split at e2
        · exact ⟨n, by omega, e2⟩
        · exact ⟨i, by omega, e2⟩
variable {W : Nat} {R : List (Nat → Int32)}
def rwR (R : List (Nat → Int32)) (i : Nat) : Nat → Int32 := R.getD i (fun _ => 0)
theorem rwR_at {k : Nat} {r : Nat → Int32} (h : R[k]? = some r) : rwR R k = r := by
  unfold rwR
  rw [List.getD_eq_getElem?_getD, h]
  rfl
theorem rwR_of {k : Nat} (h : k < R.length) : R[k]? = some (rwR R k) := by
  unfold rwR
  rw [List.getD_eq_getElem?_getD, List.getElem?_eq_getElem h]
  rfl
noncomputable def rkk (W : Nat) (R : List (Nat → Int32)) (i : Nat) : Nat := ct R.length (fun j => lexlt W (rwR R j) (rwR R i))
/-- no two rows of R are alike -/
def unl (W : Nat) (R : List (Nat → Int32)) : Prop := ∀ i j, i < R.length → j < R.length → i ≠ j → ¬ ∀ w, w < W → rwR R i w = rwR R j w
theorem unl_of {S : (Nat → Int32) → Prop} (h : mnR W S R) : unl W R := by
  have key : ∀ i j, i < j → j < R.length → ¬ nm W (rwR R i) (rwR R j) := fun i j hij hj => by
    have := List.pairwise_iff_getElem.mp h.2.1 i j (by omega) hj hij
    have e1 : R[i] = rwR R i := Option.some.inj ((List.getElem?_eq_getElem (by omega)).symm.trans (rwR_of (by omega)))
    have e2 : R[j] = rwR R j := Option.some.inj ((List.getElem?_eq_getElem hj).symm.trans (rwR_of hj))
    rw [e1, e2] at this
    exact this.1
  intro i j hi hj hne e
  rcases Nat.lt_or_gt_of_ne hne with c | c
  · exact key i j c hj (nm_eq e)
  · exact key j i c hi (nm_eq fun w hw => (e w hw).symm)
theorem rkk_lt {i : Nat} (hi : i < R.length) : rkk W R i < R.length := by
  have h := ct_lt2 (p := fun j => lexlt W (rwR R j) (rwR R i)) (q := fun _ => True) (fun _ _ => trivial) (n := R.length) ⟨i, hi, trivial, lex_ir⟩
  rwa [ct_all] at h
theorem rkk_mono {i j : Nat} (hi : i < R.length) (h : lexlt W (rwR R i) (rwR R j)) : rkk W R i < rkk W R j := ct_lt2 (fun k hk => lex_tr hk h) ⟨i, hi, h, lex_ir⟩
theorem rkk_inj (hu : unl W R) {i j : Nat} (hi : i < R.length) (hj : j < R.length) (e : rkk W R i = rkk W R j) : i = j := by
  by_cases c : i = j
  · exact c
  · rcases lex_tri (W := W) (f := rwR R i) (g := rwR R j) with q | q | q
    · have := rkk_mono hi q; omega
    · exact absurd q (hu i j hi hj c)
    · have := rkk_mono hj q; omega
theorem rkk_at (hu : unl W R) : ∃ σ : Nat → Nat, ∀ k, k < R.length → σ k < R.length ∧ rkk W R (σ k) = k := by
  have h : ∀ k, ∃ i, k < R.length → i < R.length ∧ rkk W R i = k := fun k => by
    by_cases c : k < R.length
    · obtain ⟨i, hi, e⟩ := php R.length (rkk W R) (fun i hi => rkk_lt hi) (fun i j hi hj e => rkk_inj hu hi hj e) k c
      exact ⟨i, fun _ => ⟨hi, e⟩⟩
    · exact ⟨0, fun q => absurd q c⟩
  exact Classical.axiomOfChoice h
theorem rkk_lex (hu : unl W R) {i j : Nat} (hi : i < R.length) (hj : j < R.length) (h : rkk W R i < rkk W R j) : lexlt W (rwR R i) (rwR R j) := by
  rcases lex_tri (W := W) (f := rwR R i) (g := rwR R j) with q | q | q
  · exact q
  · by_cases c : i = j
    · subst c; omega
    · exact absurd q (hu i j hi hj c)
  · have := rkk_mono hj q; omega
/-- candidates, whatever their keys -/
def cdT (W : Nat) (mo : Nat → Int32) (T : (Nat → Nat) → Prop) (f : Nat → Int32) (k : Nat) : Prop := k = 0 ∧ ∃ v, T v ∧ ∀ w, w < W → f w = rho mo v w
theorem fr_ref {mo : Nat → Int32} {T : (Nat → Nat) → Prop} {σ : Nat → Nat} (h : mnR W (rS mo T) R) (hs : ∀ k, k < R.length → σ k < R.length ∧ rkk W R (σ k) = k) : FR W (cdT W mo T) R.length (fun k => rwR R (σ k)) (fun _ => 0) := by
  have hu := unl_of h
  have mem : ∀ i, i < R.length → rwR R i ∈ R := fun i hi => List.mem_of_getElem? (rwR_of hi)
  refine ⟨fun i j hij hj => rkk_lex hu (hs i (by omega)).1 (hs j hj).1 (by rw [(hs i (by omega)).2, (hs j hj).2]; exact hij), fun i hi => ?_, fun i hi f k hf hn => ?_, fun i hi f k hf _ => Nat.zero_le _, fun f k hf => ?_⟩
  · obtain ⟨v, hv, e⟩ := h.1 _ (mem _ (hs i hi).1)
    exact ⟨rfl, v, hv, fun w _ => by show rwR R (σ i) w = _; rw [e]⟩
  · obtain ⟨-, v, hv, e⟩ := hf
    obtain ⟨r, hr, hq⟩ := h.2.2 (rho mo v) ⟨v, hv, rfl⟩
    have hrf : nm W r f := fun w hw => by rw [e w hw]; exact hq w hw
    obtain ⟨j, hj⟩ := List.getElem?_of_mem hr
    have hjl := (List.getElem?_eq_some_iff.mp hj).1
    have ej := rwR_at hj
    have hij : j = σ i := by
      by_cases c : j = σ i
      · exact c
      · have hp : nm W (rwR R j) (rwR R (σ i)) := by rw [ej]; exact nm_tr hrf hn
        have pw := h.2.1
        rw [List.pairwise_iff_getElem] at pw
        have g : ∀ x (hx : x < R.length), R[x] = rwR R x := fun x hx => Option.some.inj ((List.getElem?_eq_getElem hx).symm.trans (rwR_of hx))
        rcases Nat.lt_or_gt_of_ne c with q | q
        · have := pw j (σ i) hjl (hs i hi).1 q
          rw [g, g] at this
          exact absurd hp this.1
        · have := pw (σ i) j (hs i hi).1 hjl q
          rw [g, g] at this
          exact absurd hp this.2
    show nm W (rwR R (σ i)) f
    rw [← hij, ej]
    exact hrf
  · obtain ⟨-, v, hv, e⟩ := hf
    obtain ⟨r, hr, hq⟩ := h.2.2 (rho mo v) ⟨v, hv, rfl⟩
    obtain ⟨j, hj⟩ := List.getElem?_of_mem hr
    have hjl := (List.getElem?_eq_some_iff.mp hj).1
    have ej := rwR_at hj
    refine ⟨rkk W R j, rkk_lt hjl, ?_⟩
    have h1 := hs _ (rkk_lt (W := W) hjl)
    have e2 : σ (rkk W R j) = j := rkk_inj hu h1.1 hjl h1.2
    show nm W (rwR R (σ (rkk W R j))) f
    rw [e2, ej]
    exact fun w hw => by rw [e w hw]; exact hq w hw
theorem fr_cla {mo : Nat → Int32} {T : (Nat → Nat) → Prop} {C : (Nat → Int32) → Nat → Prop} {n : Nat} {F : Nat → Nat → Int32} {key : Nat → Nat} (h : FR W C n F key) (h1 : ∀ f k, C f k → ∃ v, T v ∧ ∀ w, w < W → f w = rho mo v w) (h2 : ∀ v, T v → ∃ f k, C f k ∧ ∀ w, w < W → f w = rho mo v w) : FR W (cdT W mo T) n F (fun _ => 0) := by
  obtain ⟨a1, a2, a3, a4, a5⟩ := h
  refine ⟨a1, fun i hi => ⟨rfl, h1 _ _ (a2 i hi)⟩, fun i hi f k hf hn => ?_, fun _ _ _ _ _ _ => Nat.zero_le _, fun f k hf => ?_⟩
  · obtain ⟨-, v, hv, e⟩ := hf
    obtain ⟨g, k2, hg, e2⟩ := h2 v hv
    have q := a3 i hi g k2 hg (nm_tr (nm_eq fun w hw => by rw [e2 w hw, e w hw]) hn)
    exact nm_tr q (nm_eq fun w hw => by rw [e2 w hw, e w hw])
  · obtain ⟨-, v, hv, e⟩ := hf
    obtain ⟨g, k2, hg, e2⟩ := h2 v hv
    obtain ⟨i, hi, q⟩ := a5 g k2 hg
    exact ⟨i, hi, nm_tr q (nm_eq fun w hw => by rw [e2 w hw, e w hw])⟩
end S94p
theorem nI_z (n : Nat) : nI n + (0 : Int32) = nI n := by rw [show (0 : Int32) = nI 0 from rfl, nI_add, Nat.add_zero]
section S94
variable {D b W Rn : Nat} {I : Nat → Nat → Int32} {J : Nat → Nat → Int64} {R : List (Nat → Int32)} {Wb : Nat → Prop}
theorem r_frAhead {i j : Nat} (hB : rB I b W Rn) (hg : gaL W Wb R I) (hl : R.length ≤ 100) (hi : i < R.length) (hj : j < R.length) : C2 (D + 1) 83 [.ref 0, .int (nI i), .int (nI j)] I J (.int (tf (lexlt W (rwR R i) (rwR R j)))) I J := by
  obtain ⟨h1, h2, h3, h4, h5, h6⟩ := id hB
  have gi := (hg.2 i _ (rwR_of hi)).1
  have gj := (hg.2 j _ (rwR_of hj)).1
  refine mj_mk (e83 _ _ ?_)
  have lp := lp_up (n := W) (fun w => (∀ u, u < w → rwR R i u = rwR R j u) → E2 83 D (fun x => x = (.int (tf (lexlt W (rwR R i) (rwR R j))), (I, J, mj_R2))) 2 [(0, .ref 0), (1, .int (nI i)), (2, .int (nI j)), (3, .int (nI w))] I J) (fun w hw ih hu => ?_) 0 (by omega) (fun u hu => by omega)
  · exact lp
  refine mj_on (s83_2 _ _ _ ?_)
  rw [h1, nI_clamp (by omega), h3]
  refine ⟨vp_in_nI h2 (by decide), if_le (by omega) (by omega) (fun c => ?_) (fun c => ?_)⟩
  · obtain rfl : w = W := by omega
    refine mzF ?_
    rintro ⟨u, hu1, hu2, -⟩
    rw [hu u hu1] at hu2
    exact absurd hu2 (Int32.lt_irrefl)
  · rw [ix4', ix4', nI_clamp (by omega), nI_clamp (by omega), gi w c, gj w c, nI_1]
    refine ⟨vp_in_nI (by omega) (by decide), vp_in_nI (by omega) (by decide), if_i (fun d => ih c (fun u hu2 => ?_)) (fun d => ⟨vp_in_nI (by omega) (by decide), vp_in_nI (by omega) (by decide), if_i (fun e => mzF ?_) (fun e => mzT ⟨w, c, Int32.not_le.mp e, hu⟩)⟩)⟩
    · by_cases e : u = w
      · subst e; exact d
      · exact hu u (by omega)
    · rintro ⟨u, hu1, hu2, hu3⟩
      rcases Nat.lt_trichotomy u w with q | q | q
      · rw [hu u q] at hu2
        exact absurd hu2 (Int32.lt_irrefl)
      · subst q
        exact absurd hu2 (Int32.not_lt.mpr e)
      · exact d (hu3 w q)
theorem r_placeF {kd : Nat} {Q : mj_R → Prop} (hB : rB I b W Rn) (hg : gaL W Wb R I) (hu : unl W R) (hl : R.length ≤ 100) (hk1 : 1 ≤ kd) (hk2 : kd ≤ 2) {σ : Nat → Nat} (hs : ∀ k, k < R.length → σ k < R.length ∧ rkk W R (σ k) = k)
    (hQ : ∀ I', (∀ k, k < R.length → (∀ w, w < W → I' 37 (4 * k + w) = rwR R (σ k) w) ∧ ∃ y, Wb y ∧ I' 38 k = nI y) → (∀ q, q ≠ 37 → q ≠ 38 → q ≠ 39 → I' q = I q) → Q (.int (nI R.length), (I', J, mj_R2))) :
    E2 70 (D + 1) Q 240 [(0, .ref 0), (1, .int (nI kd)), (4, .int (nI 0))] I J := by
  have lp := lp_up (n := R.length) (fun k => ∀ I0, (∀ i, i < k → (∀ w, w < W → I0 37 (4 * i + w) = rwR R (σ i) w) ∧ ∃ y, Wb y ∧ I0 38 i = nI y) → (∀ q, q ≠ 37 → q ≠ 38 → q ≠ 39 → I0 q = I q) → E2 70 (D + 1) Q 240 [(0, .ref 0), (1, .int (nI kd)), (4, .int (nI k))] I0 J) (fun k hk ih I0 h1 h2 => ?_) 0 (by omega) I (fun i hi => by omega) (fun _ _ _ _ => rfl)
  · exact lp
  have a48 : I0 0 48 = nI R.length := by rw [h2 0 (by decide) (by decide) (by decide)]; exact hg.1
  have hB0 : rB I0 b W Rn := by
    unfold rB at hB ⊢
    rw [h2 0 (by decide) (by decide) (by decide), h2 2 (by decide) (by decide) (by decide), h2 3 (by decide) (by decide) (by decide)]
    exact hB
  have hg0 : gaL W Wb R I0 := gaL_cg hg (by rw [h2 0 (by decide) (by decide) (by decide)]) (h2 29 (by decide) (by decide) (by decide)) (h2 30 (by decide) (by decide) (by decide))
  refine mj_on (s70_240 _ _ ?_)
  rw [a48]
  refine if_le (by omega) (by omega) (fun c => ?_) (fun c => ?_)
  · obtain rfl : k = R.length := by omega
    exact hQ I0 h1 h2
  obtain ⟨hs1, hs2⟩ := hs k c
  have fin : E2 70 (D + 1) Q 336 [(0, .ref 0), (1, .int (nI kd)), (4, .int (nI k)), (5, .int (nI (σ k))), (6, .int 0)] I0 J := by
    refine r_placeRow hB0 (by omega) (by omega) (fun I' hp => ?_)
    obtain ⟨p1, p2, p3, p4, p5, p6, p7⟩ := hp
    obtain ⟨g1, g2⟩ := hg0.2 _ _ (rwR_of hs1)
    refine ih c I' (fun i hi => ?_) (fun q q1 q2 q3 => by rw [p1 q q1 q2 q3, h2 q q1 q2 q3])
    by_cases e : i = k
    · subst e
      exact ⟨fun w hw => by rw [p2 w hw, g1 w hw], by rw [p4]; exact g2⟩
    · obtain ⟨q1, q2⟩ := h1 i (by omega)
      exact ⟨fun w hw => by rw [p3 _ (by have := hB.2.2.2.1; omega)]; exact q1 w hw, by rw [p5 i e]; exact q2⟩
  have lp2 := lp_up (n := R.length) (fun i => ∀ x, ((x = σ k ∧ σ k < i) ∨ (i ≤ σ k)) → E2 70 (D + 1) Q 256 [(0, .ref 0), (1, .int (nI kd)), (4, .int (nI k)), (5, .int (nI x)), (6, .int (nI i))] I0 J) (fun i hi ih2 x hx => ?_) 0 (by omega) k (Or.inr (Nat.zero_le _))
  · exact lp2
  refine mj_on (s70_256 _ _ _ _ ?_)
  rw [a48]
  refine if_le (by omega) (by omega) (fun d => ?_) (fun d => ?_)
  · obtain ⟨rfl, -⟩ : x = σ k ∧ σ k < i := by
      rcases hx with hx | hx
      · exact hx
      · omega
    exact fin
  rw [if_neg (show ¬ nI kd ≤ 0 from fun z => by
    rw [Int32.le_iff_toInt_le, nI_toInt (by omega)] at z
    have : (0 : Int32).toInt = 0 := by decide
    omega)]
  have lp3 := lp_up (n := R.length) (fun j => E2 70 (D + 1) Q 275 [(0, .ref 0), (1, .int (nI kd)), (4, .int (nI k)), (5, .int (nI x)), (6, .int (nI i)), (7, .int (nI (ct j (fun j => lexlt W (rwR R j) (rwR R i))))), (8, .int (nI j))] I0 J) (fun j hj ih3 => ?_) 0 (by omega)
  · exact lp3
  refine mj_on (s70_275 _ _ _ _ _ _ ?_)
  rw [a48]
  have cl := ct_le (p := fun j => lexlt W (rwR R j) (rwR R i)) (n := j)
  refine if_le (by omega) (by omega) (fun e => ?_) (fun e => ?_)
  · obtain rfl : j = R.length := by omega
    rw [nI_1]
    refine if_eq (by omega) (by omega) (fun z => ih2 d i (Or.inl ?_)) (fun z => ih2 d x ?_)
    · have e2 : i = σ k := rkk_inj hu d hs1 (by rw [hs2]; exact z)
      exact ⟨e2, by omega⟩
    · rcases hx with hx | hx
      · exact Or.inl ⟨hx.1, by omega⟩
      · by_cases e2 : i = σ k
        · exact absurd (by rw [e2]; exact hs2) z
        · exact Or.inr (by omega)
  · refine ⟨trivial, _, _, _, r_frAhead (D := D) hB0 hg0 hl e d, ?_⟩
    simp only [nI_z, nI_1]
    refine if_tf (fun q => ?_) (fun q => ?_)
    · have := ih3 e
      rw [ct_t q] at this
      exact this
    · have := ih3 e
      rw [ct_f q] at this
      exact this
end S94
end
section
/-! front: ways, on both sides -/
section S95
variable {D b W Rn Kn Tn Hn Un g : Nat} {I I1 I2 : Nat → Nat → Int32} {J J1 J2 : Nat → Nat → Int64}
theorem wk_amt {fr tt : Nat → Nat} {am : Nat → Nat → Nat} {dst : Nat} (ha : ∀ t, t < Tn → ∀ w, w < W → am t w ≤ 9999) : ∀ (fuel knot m : Nat) (acc v : Nat → Nat), v ∈ wk Tn fr tt am dst fuel knot m acc → ∀ w, w < W → v w ≤ acc w + 9999 * fuel
  | 0, knot, m, acc, v, hv, w, hw => by
    unfold wk at hv
    split at hv
    · rw [List.mem_singleton.mp hv]; omega
    · exact absurd hv List.not_mem_nil
  | fuel + 1, knot, m, acc, v, hv, w, hw => by
    unfold wk at hv
    split at hv
    · rw [List.mem_singleton.mp hv]; omega
    · obtain ⟨t, ht, hv⟩ := List.mem_flatMap.mp hv
      have ht := List.mem_range.mp ht
      split at hv
      · have ih := wk_amt ha fuel _ _ _ v hv w hw
        have := ha t ht w hw
        have ih : v w ≤ (acc w + am t w) + 9999 * fuel := ih
        omega
      · exact absurd hv List.not_mem_nil
theorem rho_rng {mo : Nat → Int32} {v : Nat → Nat} {w : Nat} (h : v w ≤ 200000) : ∃ x : Int, -1000000 ≤ x ∧ x ≤ 1000000 ∧ rho mo v w = iI x := by
  unfold rho lo
  split
  · exact ⟨(v w : Nat), by omega, by omega, (iI_nI _).symm⟩
  · refine ⟨-(v w : Nat), by omega, by omega, ?_⟩
    rw [← iI_nI]
    exact iI_neg _
/-- the net on both sides -/
theorem Rl.net (h : Rl b W Rn Kn Tn Hn Un g I1 J1 I2 J2) : ∃ (fr tt : Nat → Nat) (am : Nat → Nat → Nat), tlq W Tn fr tt am I1 ∧ rlq b W Rn Kn Tn fr tt am (I1 4) I2 ∧ ∀ t, t < Tn → ∀ w, w < W → am t w ≤ 9999 := by
  obtain ⟨h1, ⟨n, m, -, t, -⟩, -⟩ := id h
  obtain ⟨a1, a2, a3, a4, a5, a6, b1, b2, b3, b4, b5, b6, c1, c2, c3, c4, c5, c6, c7⟩ := n
  have key : ∀ t', t' < Tn → (∃ x y, x < Kn ∧ y < Kn ∧ I1 7 t' = nI x ∧ I1 8 t' = nI y) := fun t' ht => by
    obtain ⟨-, -, ⟨x, y, hx, hy, -, e1, e2⟩, -⟩ := t t' ht
    exact ⟨x, y, hx, hy, e1, e2⟩
  have amk : ∀ t', t' < Tn → ∀ w, w < W → I1 5 (480 + 4 * t' + w) = nI ((I1 5 (480 + 4 * t' + w)).toNatClampNeg) ∧ (I1 5 (480 + 4 * t' + w)).toNatClampNeg ≤ 9999 := fun t' ht w hw => by
    obtain ⟨-, -, -, q⟩ := t t' ht
    obtain ⟨-, x, hx, e⟩ := q w hw
    have e : I1 5 (480 + 4 * t' + w) = nI x := e
    rw [e, nI_clamp (by omega)]
    exact ⟨rfl, hx⟩
  refine ⟨fun t => (I1 7 t).toNatClampNeg, fun t => (I1 8 t).toNatClampNeg, fun t w => (I1 5 (480 + 4 * t + w)).toNatClampNeg, ⟨c2, c5, a1, a4, fun t' ht => ?_⟩, ⟨h.rB, b3, c4, b4, c5, fun w hw => (m w hw).1, fun t' ht => ?_⟩, fun t' ht w hw => (amk t' ht w hw).2⟩
  · obtain ⟨x, y, hx, hy, e1, e2⟩ := key t' ht
    show I1 7 t' = nI (I1 7 t').toNatClampNeg ∧ I1 8 t' = nI (I1 8 t').toNatClampNeg ∧ (I1 7 t').toNatClampNeg < 10 ∧ (I1 8 t').toNatClampNeg < 10 ∧ _
    rw [e1, e2, nI_clamp (by omega), nI_clamp (by omega)]
    exact ⟨rfl, rfl, by omega, by omega, fun w hw => (amk t' ht w hw).1⟩
  · obtain ⟨x, y, hx, hy, e1, e2⟩ := key t' ht
    obtain ⟨q1, q2, -, q3⟩ := t t' ht
    have q1 : I2 14 (24 * b + t') = I1 7 t' := q1
    have q2 : I2 15 (24 * b + t') = I1 8 t' := q2
    show I2 14 (24 * b + t') = nI (I1 7 t').toNatClampNeg ∧ I2 15 (24 * b + t') = nI (I1 8 t').toNatClampNeg ∧ (I1 7 t').toNatClampNeg < 10 ∧ (I1 8 t').toNatClampNeg < Kn ∧ _
    rw [q1, q2, e1, e2, nI_clamp (by omega), nI_clamp (by omega)]
    refine ⟨rfl, rfl, by omega, hy, fun w hw => ?_⟩
    rw [(q3 w hw).1]
    exact (amk t' ht w hw).1
/-- the pool out of a list of rows -/
theorem plL_plP {L : List (Nat → Nat)} (h : plL W L I J) (hW : W ≤ 4) : ∃ K : Nat → Nat, plP W L.length (fun x => rho (I 4) (L.getD x (fun _ => 0))) K I J ∧ odP L.length (fun i => i) I := by
  obtain ⟨h1, h2, h3, h4⟩ := h
  have at' : ∀ x, x < L.length → L[x]? = some (L.getD x (fun _ => 0)) := fun x hx => by rw [List.getD_eq_getElem?_getD, List.getElem?_eq_getElem hx]; rfl
  have hk : ∀ x, ∃ k, x < L.length → k < 2 ^ 62 ∧ J 31 x = lN k := fun x => by
    by_cases c : x < L.length
    · obtain ⟨k, k1, k2⟩ := (h4 x _ (at' x c)).2.2
      exact ⟨k, fun _ => ⟨k1, k2⟩⟩
    · exact ⟨0, fun q => absurd q c⟩
  obtain ⟨K, hK⟩ := Classical.axiomOfChoice hk
  exact ⟨K, ⟨h1, h2, h3, hW, fun x hx w hw => (h4 x _ (at' x hx)).1 w hw, fun x hx => ⟨(hK x hx).2, (hK x hx).1⟩⟩, fun i hi => ⟨(h4 i _ (at' i hi)).2.1, hi⟩⟩
theorem al_front1 {x2 x3 : Int32} (h : Rl b W Rn Kn Tn Hn Un g I1 J1 I2 J2) (hW : W ≠ 0) : AI 203 70 [.int (nI 1), .int x2, .int x3] I1 J1 I2 J2 (Rl b W Rn Kn Tn Hn Un g) := by
  obtain ⟨a1, a2, a3, a4, a5, a6, b1, b2, b3, b4, b5, b6, c1, c2, c3, c4, c5, c6, c7⟩ := id h.N
  have a1 : I1 2 0 = nI W := a1
  have a3 : I1 2 2 = nI Kn := a3
  have hB := h.rB
  obtain ⟨d1, d2, d3, d4, d5, d6⟩ := id hB
  have v0 : vp_in 0 6 := vp_in_nI (n := 0) (by decide) (by decide)
  have vb : vp_in (nI b) 2 := vp_in_nI d2 (by decide)
  have hW0 : ¬ nI W = 0 := nI_ne0 (by omega) (by omega)
  have cl : ∀ {P : mj_R → Prop}, (∃ r, mj_Cl mj_S1 mj_CD 899 206 [.ref 0, .int x2, .int x3] (I1, J1, mj_R1) r ∧ P r) → ∃ r, mj_Cl mj_S1 mj_CD 899 206 [.ref 0, .int x2, .int x3] (I1, J1, mj_R1) r ∧ P r := fun h => h
  have top : ∀ (r : Int32) (I' : Nat → Nat → Int32) (J' : Nat → Nat → Int64), C1 899 206 [.ref 0, .int x2, .int x3] I1 J1 (.int r) I' J' → C1 900 203 [.ref 0, .int (nI 1), .int x2, .int x3] I1 J1 (.int r) I' J' := fun r I' J' hc => by
    refine mj_mk (D := 899) (e203 _ _ _ ?_)
    rw [if_neg (show ¬ nI 1 < 0 by decide), if_neg (show ¬ 2 < nI 1 by decide), show ((0 : Int32)).toNatClampNeg = 0 from rfl, a1, if_neg hW0, if_neg (show ¬ nI 1 = 0 by decide), if_pos (show nI 1 = 1 from rfl)]
    exact ⟨v0, trivial, _, _, _, hc, rfl⟩
  have rtop : ∀ {Q : mj_R → Prop} {K : Nat → mj_K}, True := trivial
  -- the two knots
  rcases Classical.em ((∃ j, j < Kn ∧ x2 = nI j) ∧ (∃ j, j < Kn ∧ x3 = nI j) ∧ x2 ≠ x3) with ok | ok
  · obtain ⟨⟨src, hs, rfl⟩, ⟨dst, hd, rfl⟩, hne⟩ := ok
    have hne : src ≠ dst := fun e => hne (by rw [e])
    obtain ⟨fr, tt, am, q1, q2, q3⟩ := h.net
    -- the class' pool
    obtain ⟨Ia, Ja, ca, pa, fa, ga⟩ := c_gatherWays (J := J1) q1 (src := src) (dst := dst) (by omega) (by omega)
    obtain ⟨L, hL⟩ : ∃ L, L = wk Tn fr tt am dst 9 src (2 ^ src) (fun _ => 0) := ⟨_, rfl⟩
    rw [← hL] at pa
    obtain ⟨K, pP, pO⟩ := plL_plP pa c2
    have e4 : Ia 4 = I1 4 := fa 4 (by decide) (by decide) (by decide) (by decide) (by decide)
    rw [e4] at pP
    obtain ⟨f, hf, hsrt, r, Ib, Jb, cb, fb, gb, kb, sb, tb⟩ := c_putF_b (D := 893) (kd := 1) pP pO
    have frc := fr_cla (T := fun v => v ∈ L) (mo := I1 4) (cho_FR hf hsrt) (fun f' k hk => by
      obtain ⟨x, hx, e, -⟩ := hk
      exact ⟨L.getD x (fun _ => 0), List.mem_of_getElem? (by rw [List.getD_eq_getElem?_getD, List.getElem?_eq_getElem hx]; rfl), e⟩) (fun v hv => by
      obtain ⟨x, hx⟩ := List.getElem?_of_mem hv
      have hxl := (List.getElem?_eq_some_iff.mp hx).1
      refine ⟨rho (I1 4) v, K x, ⟨x, hxl, fun w hw => ?_, rfl⟩, fun _ _ => rfl⟩
      show rho (I1 4) v w = rho (I1 4) (L.getD x (fun _ => 0)) w
      rw [List.getD_eq_getElem?_getD, hx]; rfl)
    obtain ⟨n, hn⟩ : ∃ n, n = (cho W (fun x => rho (I1 4) (L.getD x (fun _ => 0))) f L.length).length := ⟨_, rfl⟩
    rw [← hn] at frc sb tb
    -- the reference's
    obtain ⟨I2a, J2a, c2a, rfl, R, g1, m1, w1⟩ := r_ways (D := 894) (J := J2) (I := mj_up I2 0 48 (nI 0)) (src := src) (dst := dst) (rlq_cg q2 (fun q j q1 q2 q3 q4 q5 q6 q7 q8 => by rw [up_n (by omega)])) (by omega) (by omega) hne up_s
    rw [← hL] at m1
    have hu := unl_of m1
    obtain ⟨σ, hσ⟩ := rkk_at hu
    obtain ⟨e1, e2⟩ := FR_one frc (fr_ref m1 hσ)
    have c206 : ∀ (r' : Int32) (I' : Nat → Nat → Int32) (J' : Nat → Nat → Int64), (if r = -2 then ((Value.int r, (Ib, Jb, mj_R1)) = (Value.int r', (I', J', mj_R1))) else (True ∧ ∃ (I5 : Nat → Nat → Int32) (J5 : Nat → Nat → Int64), mj_Cl mj_S1 mj_CD 898 219 [.ref 38, .ref 41] (Ib, Jb, mj_R1) (.null, (I5, J5, mj_R1)) ∧ (Value.int r, (I5, J5, mj_R1)) = (Value.int r', (I', J', mj_R1)))) → C1 899 206 [.ref 0, .int (nI src), .int (nI dst)] I1 J1 (.int r') I' J' := fun r' I' J' hh => by
      refine mj_mk (D := 898) (e206 _ _ ?_)
      refine ⟨trivial, _, _, _, c_there (k := 2) a3 (by omega) (by decide), if_tf (fun _ => ?_) (fun z => absurd ⟨src, hs, rfl⟩ z)⟩
      refine ⟨trivial, _, _, _, c_there (k := 2) a3 (by omega) (by decide), if_tf (fun _ => ?_) (fun z => absurd ⟨dst, hd, rfl⟩ z)⟩
      rw [if_neg (show ¬ nI src = nI dst from fun z => hne ((nI_eq (by omega) (by omega)).mp z))]
      exact ⟨trivial, _, _, mj_Cl_le (by decide) ca, trivial, _, _, _, mj_Cl_le (by decide) cb, hh⟩
    have rf : ∀ {Q : mj_R → Prop}, mj_Ev mj_S2 (mj_CD 70) (mj_Cl mj_S2 mj_CD 899) Q 212 [(0, .ref 0), (1, .int (nI 1))] [] (I2a, J2a, mj_R2) → mj_if (Nat.ble (mj_sz [.ref 0, .int (nI 1), .int (nI src), .int (nI dst)]) (mj_CD 70).2.2) (mj_sg mj_S2 (mj_CD 70) (mj_Cl mj_S2 mj_CD 899) Q (mj_Ev mj_S2 (mj_CD 70) (mj_Cl mj_S2 mj_CD 899) Q) 100 0 (mj_a0 0 [.ref 0, .int (nI 1), .int (nI src), .int (nI dst)]) [] (I2, J2a, mj_R2)) := fun {Q} hh => by
      refine e70 _ _ _ ?_
      refine ⟨trivial, _, _, _, r_is, if_tf (fun _ => ?_) (fun z => absurd ⟨by decide, by decide⟩ z)⟩
      rw [d1, nI_clamp (by omega), d3, if_neg hW0, if_pos (show nI 1 = 1 from rfl), b3]
      refine ⟨vb, vb, trivial, _, _, _, r_is, if_tf (fun _ => ?_) (fun z => absurd ((r_rg (by omega)).mpr ⟨src, hs, rfl⟩) z)⟩
      rw [d1, nI_clamp (by omega), b3]
      refine ⟨vb, trivial, _, _, _, r_is, if_tf (fun _ => ?_) (fun z => absurd ((r_rg (by omega)).mpr ⟨dst, hd, rfl⟩) z)⟩
      rw [if_neg (show ¬ nI src = nI dst from fun z => hne ((nI_eq (by omega) (by omega)).mp z))]
      refine mj_on (s70_73 _ _ _ ?_)
      rw [if_neg (show ¬ nI 1 = 0 by decide)]
      refine mj_on (s70_192 _ _ _ ?_)
      rw [if_pos (show nI 1 = 1 from rfl)]
      refine ⟨trivial, _, _, mj_Cl_le (by decide) c2a, ?_⟩
      rw [if_neg (show ¬ nI 1 = 2 by decide)]
      exact hh
    have wf2 : wfr I2 I2a := wfr_tr (fun q j q1 q2 q3 q4 q5 q6 q7 q8 => by rw [up_n (by omega)]) w1
    have hB2 : rB I2a b W Rn := (rlq_cg q2 wf2).1
    have mI1 : ∀ (D : List Nat) (E : List (Nat × Nat)), D.elem 29 = true → D.elem 30 = true → D.elem 32 = true → D.elem 36 = true → D.elem 37 = true → D.elem 41 = true → D.elem 42 = true → mkI D E Ib = mkI D E I1 := fun D E z1 z2 z3 z4 z5 z6 z7 => mkI_of fun q j y1 y2 => by
      have ne : ∀ p, D.elem p = true → q ≠ p := fun p hp e => by rw [e, hp] at y1; cases y1
      rw [fb q (ne 32 z3) (ne 41 z6) (ne 42 z7), fa q (ne 29 z1) (ne 30 z2) (ne 32 z3) (ne 36 z4) (ne 37 z5)]
    have mJ1 : ∀ (D : List Nat) (E : List (Nat × Nat)), D.elem 31 = true → D.elem 43 = true → mkJ D E Jb = mkJ D E J1 := fun D E z1 z2 => mkJ_of fun q j y1 y2 => by
      have ne : ∀ p, D.elem p = true → q ≠ p := fun p hp e => by rw [e, hp] at y1; cases y1
      rw [gb q (ne 43 z2), ga q (ne 31 z1)]
    have mI2 : ∀ (D : List Nat) (E : List (Nat × Nat)), D.elem 29 = true → D.elem 30 = true → D.elem 31 = true → D.elem 32 = true → D.elem 33 = true → D.elem 34 = true → D.elem 35 = true → E.elem (0, 48) = true → mkI D E I2a = mkI D E I2 := fun D E z1 z2 z3 z4 z5 z6 z7 z8 => mkI_of fun q j y1 y2 => by
      have ne : ∀ p, D.elem p = true → q ≠ p := fun p hp e => by rw [e, hp] at y1; cases y1
      refine wf2 q j (ne 29 z1) (ne 30 z2) (ne 31 z3) (ne 32 z4) (ne 33 z5) (ne 34 z6) (ne 35 z7) ?_
      by_cases e : q = 0
      · right
        intro e3
        rw [e, e3, z8] at y2
        cases y2
      · exact Or.inl e
    by_cases hc : n ≤ 100
    · obtain ⟨er, s1, s2⟩ := sb hc
      subst er
      have hr2 : ¬ nI n = -2 := fun z => by
        have := congrArg Int32.toInt z
        rw [nI_toInt (by omega)] at this
        have h2 : (-2 : Int32).toInt = -2 := by decide
        omega
      obtain ⟨Ic, Jc, cc, o1, o2, o3, o4, o5, o6⟩ := c_copy_b (D := 896) (n := n) (I := Ib) (J := Jb) (by rw [s1, hn]) hc
      have k1 := c206 (nI n) Ic Jc (by rw [if_neg hr2]; exact ⟨trivial, _, _, cc, rfl⟩)
      have hRl : R.length ≤ 100 := by omega
      obtain ⟨r2, I2b, J2b, c2b, rr, p1, p2, p3⟩ := mj_cI (S := mj_S2) (CD := mj_CD) (R := mj_R2) (P := fun r I' J' => r = nI n ∧ J' = J2a ∧ (∀ k, k < n → (∀ w, w < W → I' 37 (4 * k + w) = rwR R (σ k) w) ∧ ∃ y, y ≤ 10 ∧ I' 38 k = nI y) ∧ ∀ q, q ≠ 37 → q ≠ 38 → q ≠ 39 → I' q = mj_up (mj_up I2a 0 59 (nI 1)) 0 58 (nI n) q) (rf (by
        refine mj_on (s70_212 _ ?_)
        rw [g1.1, show (100 : Int32) = nI 100 from rfl, ← e1]
        refine if_le (by omega) (by decide) (fun _ => ?_) (fun z => absurd z (by omega))
        refine r_placeF (Wb := (· ≤ 10)) (W := W) (b := b) (Rn := Rn) (D := 898) (R := R) (σ := σ) (kd := 1) ?_ ?_ hu hRl (by decide) (by decide) hσ (fun I' i1 i2 => ⟨_, _, _, rfl, by rw [e1], rfl, fun k hk => i1 k (by omega), i2⟩)
        · unfold rB at hB2 ⊢
          rw [up_j (by decide), up_j (by decide), up_c (by decide), up_c (by decide), up_c (by decide), up_c (by decide)]
          exact hB2
        · exact gaL_cg g1 (by rw [up_j (by decide), up_j (by decide)]) (by rw [up_c (by decide), up_c (by decide)]) (by rw [up_c (by decide), up_c (by decide)])))
      subst rr
      subst p1
      obtain ⟨p2, p3⟩ := (⟨p2, p3⟩ : _ ∧ _)
      have lrow : ∀ k, k < n → ∀ w, w < W → Ic 39 (4 * k + w) = rwR R (σ k) w := fun k hk w hw => by
        rw [o5 k w hk (by omega)]
        have hk2 : k < (cho W (fun x => rho (I1 4) (L.getD x (fun _ => 0))) f L.length).length := by omega
        obtain ⟨x, hx1, hx2, -⟩ := gt_of hk2
        have := (s2 k x hx1).1 w hw
        rw [this]
        have e3 := (e2 k hk).1 w hw
        have ex : (cho W (fun x => rho (I1 4) (L.getD x (fun _ => 0))) f L.length).getD k 0 = x := by rw [List.getD_eq_getElem?_getD, hx1]; rfl
        have e3 : rho (I1 4) (L.getD ((cho W (fun x => rho (I1 4) (L.getD x (fun _ => 0))) f L.length).getD k 0) (fun _ => 0)) w = rwR R (σ k) w := e3
        rw [ex] at e3
        exact e3
      have mIc : ∀ (D : List Nat) (E : List (Nat × Nat)), D.elem 39 = true → E.elem (38, 0) = true → E.elem (38, 1) = true → mkI D E Ic = mkI D E Ib := fun D E z1 z2 z3 => mkI_of fun q j y1 y2 => by
        refine o1 q j (fun z => by rw [z, z1] at y1; cases y1) fun z => ⟨fun y => ?_, fun y => ?_⟩
        · rw [z, y, z2] at y2; cases y2
        · rw [z, y, z3] at y2; cases y2
      have mJc : ∀ (D : List Nat) (E : List (Nat × Nat)), D.elem 40 = true → mkJ D E Jc = mkJ D E Jb := fun D E z1 => mkJ_of fun q j y1 _ => by
        rw [o2 q (fun z => by rw [z, z1] at y1; cases y1)]
      refine ⟨_, Ic, Jc, I2b, J2b, top _ _ _ k1, c2b, Rl_H h ((mIc _ _ rfl rfl rfl).trans (mI1 _ _ rfl rfl rfl rfl rfl rfl rfl)) ((mJc _ _ rfl).trans (mJ1 _ _ rfl rfl)) ((mkI_of fun q j y1 y2 => ?_ : mkI ([37, 38, 39] ++ sc2) ([(0, 58), (0, 59)] ++ sl2) I2b = mkI ([37, 38, 39] ++ sc2) ([(0, 58), (0, 59)] ++ sl2) I2a).trans (mI2 _ _ rfl rfl rfl rfl rfl rfl rfl rfl)) rfl ?_ ?_⟩
      · have ne : ∀ p, ([37, 38, 39] ++ sc2).elem p = true → q ≠ p := fun p hp e => by rw [e, hp] at y1; cases y1
        rw [p3 q (ne 37 rfl) (ne 38 rfl) (ne 39 rfl)]
        have n58 : q ≠ 0 ∨ j ≠ 58 := by
          by_cases e : q = 0
          · right; intro e3; rw [e, e3] at y2; exact absurd y2 (by decide)
          · exact Or.inl e
        have n59 : q ≠ 0 ∨ j ≠ 59 := by
          by_cases e : q = 0
          · right; intro e3; rw [e, e3] at y2; exact absurd y2 (by decide)
          · exact Or.inl e
        rw [up_n n58, up_n n59]
      · refine Or.inr ⟨1, n, by decide, hc, by rw [o3, kb], o4, ?_, ?_, by omega, fun k hk w hw => ⟨?_, ?_⟩, fun _ k hk => (p2 k hk).2⟩
        · rw [p3 0 (by decide) (by decide) (by decide), up_s]
        · rw [p3 0 (by decide) (by decide) (by decide), up_j (by decide), up_s]
        · rw [(p2 k hk).1 w hw, lrow k hk w hw]
        · rw [lrow k hk w hw]
          obtain ⟨v, hv, ev⟩ := m1.1 _ (List.mem_of_getElem? (rwR_of (hσ k (by omega)).1))
          rw [ev]
          refine rho_rng ?_
          rw [hL] at hv
          have := wk_amt q3 9 _ _ _ v hv w hw
          have this : v w ≤ 0 + 9999 * 9 := this
          omega
      · rw [← rlZ_m, mIc _ _ rfl rfl rfl, mJc _ _ rfl, mI1 _ _ rfl rfl rfl rfl rfl rfl rfl, mJ1 _ _ rfl rfl, rlZ_m]
        exact h.2.2.2.2.2.2.2.2.2.2.2.2
    · have er := tb (by omega)
      subst er
      have k1 := c206 (-2) Ib Jb (by rw [if_pos rfl])
      obtain ⟨r2, I2b, J2b, c2b, rr, p1, p2⟩ := mj_cI (S := mj_S2) (CD := mj_CD) (R := mj_R2) (P := fun r I' J' => r = -2 ∧ I' = I2a ∧ J' = J2a) (rf (by
        refine mj_on (s70_212 _ ?_)
        rw [g1.1, show (100 : Int32) = nI 100 from rfl, ← e1]
        exact if_le (by have := pa.2.2.1; have : R.length ≤ 8192 := by
                                                                      have := mnR_len (L := L.map (rho (I1 4))) m1 (fun f ⟨v, hv, e⟩ => by rw [e]; exact List.mem_map.mpr ⟨v, hv, rfl⟩)
                                                                      rw [List.length_map] at this
                                                                      omega
                        omega) (by decide) (fun z => absurd z hc) (fun _ => ⟨_, _, _, rfl, rfl, rfl, rfl⟩)))
      subst rr
      subst p1
      subst p2
      refine ⟨_, Ib, Jb, I2b, J2b, top _ _ _ k1, c2b, Rl_H h (mI1 _ _ rfl rfl rfl rfl rfl rfl rfl) (mJ1 _ _ rfl rfl) (mI2 _ _ rfl rfl rfl rfl rfl rfl rfl rfl) rfl ?_ ?_⟩
      · have q := h.2.2.2.2.2.1
        unfold rlH at q ⊢
        rw [fb 38 (by decide) (by decide) (by decide), fa 38 (by decide) (by decide) (by decide) (by decide) (by decide), fb 39 (by decide) (by decide) (by decide), fa 39 (by decide) (by decide) (by decide) (by decide) (by decide), wf2 0 58 (by decide) (by decide) (by decide) (by decide) (by decide) (by decide) (by decide) (by decide), wf2 0 59 (by decide) (by decide) (by decide) (by decide) (by decide) (by decide) (by decide) (by decide)]
        have e37 : I2b 37 = I2 37 := by funext j; exact wf2 37 j (by decide) (by decide) (by decide) (by decide) (by decide) (by decide) (by decide) (Or.inl (by decide))
        have e38 : I2b 38 = I2 38 := by funext j; exact wf2 38 j (by decide) (by decide) (by decide) (by decide) (by decide) (by decide) (by decide) (Or.inl (by decide))
        rw [e37, e38]
        exact q
      · rw [← rlZ_m, mI1 _ _ rfl rfl rfl rfl rfl rfl rfl, mJ1 _ _ rfl rfl, rlZ_m]
        exact h.2.2.2.2.2.2.2.2.2.2.2.2
  · -- no such way
    have kno : ∀ {P1 : Prop}, True := trivial
    refine AI.same (-1) (top _ _ _ (mj_mk (D := 898) (e206 _ _ ?_))) (mj_mk (D := 899) (e70 _ _ _ ?_)) h
    · refine ⟨trivial, _, _, _, c_there (k := 2) a3 (by omega) (by decide), if_tf (fun y1 => ?_) (fun _ => rfl)⟩
      refine ⟨trivial, _, _, _, c_there (k := 2) a3 (by omega) (by decide), if_tf (fun y2 => ?_) (fun _ => rfl)⟩
      rw [if_pos (Classical.byContradiction fun z => ok ⟨y1, y2, z⟩)]
    · refine ⟨trivial, _, _, _, r_is, if_tf (fun _ => ?_) (fun z => absurd ⟨by decide, by decide⟩ z)⟩
      rw [d1, nI_clamp (by omega), d3, if_neg hW0, if_pos (show nI 1 = 1 from rfl), b3]
      refine ⟨vb, vb, trivial, _, _, _, r_is, if_tf (fun y1 => ?_) (fun _ => rfl)⟩
      rw [d1, nI_clamp (by omega), b3]
      refine ⟨vb, trivial, _, _, _, r_is, if_tf (fun y2 => ?_) (fun _ => rfl)⟩
      rw [if_pos (Classical.byContradiction fun z => ok ⟨(r_rg (by omega)).mp y1, (r_rg (by omega)).mp y2, z⟩)]
end S95
end
section
/-! what a test comes to: kinds and bounds of what stands on the stack -/
section S96
variable {W H m : Nat} {hs : Nat → Nat}
def vok1 (t : Bool) (v : Int) : Prop := (t = true → v = 0 ∨ v = 1) ∧ -1000000000 ≤ v ∧ v ≤ 1000000000
def vok : List Bool → List Int → Prop
  | [], [] => True
  | t :: ts, v :: vs => vok1 t v ∧ vok ts vs
  | _, _ => False
theorem vok_len : ∀ {ts : List Bool} {vs : List Int}, vok ts vs → ts.length = vs.length
  | [], [], _ => rfl
  | _ :: ts, _ :: vs, h => by simp [vok_len h.2]
  | [], _ :: _, h => h.elim
  | _ :: _, [], h => h.elim
theorem vok_t {v : Int} {t : Bool} (h : v = 0 ∨ v = 1) : vok1 t v := ⟨fun _ => h, by omega, by omega⟩
theorem vok_f {v : Int} (h1 : -1000000000 ≤ v) (h2 : v ≤ 1000000000) : vok1 false v := ⟨fun q => (by cases q), h1, h2⟩
theorem bnd_ok (x : Int) : -1000000000 ≤ bnd x ∧ bnd x ≤ 1000000000 := by
  unfold bnd
  split
  · omega
  · split <;> omega
theorem tdiv_rng {a c : Int} (h1 : -1000000000 ≤ a) (h2 : a ≤ 1000000000) : -1000000000 ≤ a.tdiv c ∧ a.tdiv c ≤ 1000000000 := by
  have := Int.natAbs_tdiv_le_natAbs a c
  omega
/-- the greatest whole number not above, by the machine's division -/
theorem fd_t {a c : Int} (hc : c ≠ 0) : Int.fdiv a c = if a.tdiv c * c = a ∨ ((a < 0) ↔ (c < 0)) then a.tdiv c else a.tdiv c - 1 := by
  rw [Int.fdiv_eq_tdiv]
  have hd : c ∣ a ↔ a.tdiv c * c = a := ⟨fun h => Int.tdiv_mul_cancel h, fun h => ⟨a.tdiv c, by rw [Int.mul_comm, h]⟩⟩
  by_cases e : c ∣ a
  · rw [if_pos e, if_pos (Or.inl (hd.mp e)), Int.sub_zero]
  · have e2 : ¬ a.tdiv c * c = a := fun q => e (hd.mpr q)
    rw [if_neg e]
    by_cases ha : 0 ≤ a
    · rw [if_pos ha]
      by_cases hb : 0 ≤ c
      · rw [if_pos hb, if_pos (Or.inr ⟨fun q => absurd q (by omega), fun q => absurd q (by omega)⟩), Int.sub_zero]
      · rw [if_neg hb, if_neg (fun q => q.elim e2 fun q => by have := q.mpr (by omega); omega)]
    · rw [if_neg ha]
      by_cases hb : 0 ≤ c
      · rw [if_pos hb, if_neg (fun q => q.elim e2 fun q => by have := q.mp (by omega); omega), Int.sign_eq_one_of_pos (by omega)]
      · rw [if_neg hb, if_pos (Or.inr ⟨fun _ => by omega, fun _ => by omega⟩), Int.sign_eq_neg_one_of_neg (by omega)]
        omega
theorem fd_rng {a c : Int} (hc : c ≠ 0) (h1 : -1000000000 ≤ a) (h2 : a ≤ 1000000000) : -1000000000 ≤ Int.fdiv a c ∧ Int.fdiv a c ≤ 1000000000 := by
  have ht := tdiv_rng (c := c) h1 h2
  rw [fd_t hc]
  by_cases e : a.tdiv c * c = a ∨ ((a < 0) ↔ (c < 0))
  · rw [if_pos e]; exact ht
  · rw [if_neg e]
    refine ⟨?_, by omega⟩
    refine Classical.byContradiction fun q => ?_
    have hq : a.tdiv c = -1000000000 := by omega
    have hab := Int.natAbs_tdiv_le_natAbs a c
    have ha : a = -1000000000 ∨ a = 1000000000 := by omega
    have hmul : (a.tdiv c * c).natAbs ≤ a.natAbs := by
      rw [Int.natAbs_mul, Int.natAbs_tdiv]
      exact Nat.div_mul_le_self _ _
    rw [hq] at hmul
    have hc1 : c = 1 ∨ c = -1 := by omega
    rcases hc1 with rfl | rfl
    · exact e (Or.inl (by rw [Int.tdiv_one, Int.mul_one]))
    · refine e (Or.inl ?_)
      rw [hq]
      rw [Int.tdiv_neg, Int.tdiv_one] at hq
      omega
theorem twov_ok {op : Nat} {a c : Int} {t : Bool} (h1 : 5 ≤ op) (ha : vok1 t a) (hc : vok1 t c) : vok1 (decide (11 ≤ op)) (twov op a c) := by
  have b1 := bnd_ok (a + c)
  have b2 := bnd_ok (a - c)
  have b3 := bnd_ok (a * c)
  obtain ⟨-, a1, a2⟩ := ha
  obtain ⟨-, c1, c2⟩ := hc
  match op, h1 with
  | 5, _ => exact vok_f b1.1 b1.2
  | 6, _ => exact vok_f b2.1 b2.2
  | 7, _ => exact vok_f b3.1 b3.2
  | 8, _ =>
    show vok1 false (if c = 0 then 0 else Int.fdiv a c)
    split
    · exact vok_f (by omega) (by omega)
    · rename_i h
      have := fd_rng h a1 a2
      exact vok_f this.1 this.2
  | 9, _ =>
    show vok1 false (if a < c then a else c)
    split
    · exact vok_f a1 a2
    · exact vok_f c1 c2
  | 10, _ =>
    show vok1 false (if a < c then c else a)
    split
    · exact vok_f c1 c2
    · exact vok_f a1 a2
  | 11, _ =>
    show vok1 true (if a < c then 1 else 0)
    split <;> exact vok_t (by omega)
  | 12, _ =>
    show vok1 true (if c < a then 1 else 0)
    split <;> exact vok_t (by omega)
  | 13, _ =>
    show vok1 true (if a = c then 1 else 0)
    split <;> exact vok_t (by omega)
  | 14, _ =>
    show vok1 true (if a ≠ 0 ∧ c ≠ 0 then 1 else 0)
    split <;> exact vok_t (by omega)
  | n + 15, _ =>
    rw [decide_eq_true (by omega)]
    show vok1 true (if a ≠ 0 ∨ c ≠ 0 then 1 else 0)
    split <;> exact vok_t (by omega)
theorem tbit_01 (m k : Nat) : tbit m k = 0 ∨ tbit m k = 1 := by unfold tbit; omega
theorem leafv_ok {op v : Nat} (hh : ∀ w, w < W → hs w ≤ 200000) (h1 : op ≤ 4) (hc : (op = 0 → v ≤ 9999) ∧ (op = 2 → v < W) ∧ (op = 4 → v < H) ∧ (op = 1 ∨ op = 3 → v = 0)) : vok1 (decide (3 ≤ op)) (leafv hs m op v) := by
  obtain ⟨q1, q2, q3, q4⟩ := hc
  match op, h1 with
  | 0, _ => exact vok_f (by show -1000000000 ≤ (v : Int); omega) (by show (v : Int) ≤ 1000000000; have := q1 rfl; omega)
  | 1, _ =>
    have := pcn_le 12 m
    exact vok_f (by show -1000000000 ≤ (pcn 12 m : Int); omega) (by show (pcn 12 m : Int) ≤ 1000000000; omega)
  | 2, _ =>
    have := hh v (q2 rfl)
    exact vok_f (by show -1000000000 ≤ (hs v : Int); omega) (by show (hs v : Int) ≤ 1000000000; omega)
  | 3, _ => exact vok_t (Or.inr rfl)
  | 4, _ =>
    refine vok_t ?_
    show ((tbit m v : Nat) : Int) = 0 ∨ ((tbit m v : Nat) : Int) = 1
    rcases tbit_01 m v with e | e <;> rw [e] <;> simp
/-- what a step does, by its kind -/
theorem tys1_inv {c : Nat × Nat} {st st' : List Bool} (h : tys1 W H c st = some st') :
    (c.1 ≤ 4 ∧ ((c.1 = 0 → c.2 ≤ 9999) ∧ (c.1 = 2 → c.2 < W) ∧ (c.1 = 4 → c.2 < H) ∧ (c.1 = 1 ∨ c.1 = 3 → c.2 = 0)) ∧ st' = decide (3 ≤ c.1) :: st) ∨
    (c.1 = 16 ∧ c.2 = 0 ∧ ∃ r, st = true :: r ∧ st' = true :: r) ∨
    (5 ≤ c.1 ∧ c.1 ≤ 15 ∧ c.2 = 0 ∧ ∃ r, st = decide (14 ≤ c.1) :: decide (14 ≤ c.1) :: r ∧ st' = decide (11 ≤ c.1) :: r) := by
  unfold tys1 at h
  split at h
  · rename_i h1
    split at h
    · rename_i h2
      cases h
      exact Or.inl ⟨h1, h2, rfl⟩
    · cases h
  · rename_i h1
    split at h
    · cases h
    · rename_i h2
      have h2 : c.2 = 0 := by simpa using h2
      split at h
      · rename_i h3
        split at h
        · cases h
          exact Or.inr (Or.inl ⟨h3, h2, _, rfl, rfl⟩)
        · cases h
      · rename_i h3
        split at h
        · rename_i h4
          split at h
          · cases h
            refine Or.inr (Or.inr ⟨by omega, by omega, h2, _, ?_, rfl⟩)
            rw [decide_eq_false (by omega)]
          · cases h
        · rename_i h4
          split at h
          · rename_i h5
            split at h
            · rename_i r6
              cases h
              refine Or.inr (Or.inr ⟨by omega, by omega, h2, r6, ?_, ?_⟩)
              · rw [decide_eq_true (by omega)]
              · rw [decide_eq_true (by omega)]
            · cases h
          · cases h
theorem tys1_ok {c : Nat × Nat} {st st' : List Bool} {vs : List Int} (hh : ∀ w, w < W → hs w ≤ 200000) (h : tys1 W H c st = some st') (hv : vok st vs) : vok st' (ev1 hs m vs c) := by
  rcases tys1_inv h with ⟨h1, h2, rfl⟩ | ⟨h1, h2, r, rfl, rfl⟩ | ⟨h1, h2, h3, r, rfl, rfl⟩
  · unfold ev1
    rw [if_pos h1]
    exact ⟨leafv_ok hh h1 h2, hv⟩
  · unfold ev1
    rw [if_neg (by omega), if_pos h1]
    match vs, hv with
    | v :: vs, hv =>
      refine ⟨vok_t ?_, hv.2⟩
      have := hv.1.1 rfl
      omega
  · unfold ev1
    rw [if_neg (by omega), if_neg (by omega)]
    match vs, hv with
    | y :: x :: vs, hv => exact ⟨twov_ok h1 hv.2.1 hv.1, hv.2.2⟩
    | [_], hv => exact hv.2.elim
theorem tyc_cons {M : Nat} {c : Nat × Nat} {r : List (Nat × Nat)} {st s2 : List Bool} (h : tyc M W H (c :: r) st = some s2) : ∃ st', tys1 W H c st = some st' ∧ st'.length ≤ M ∧ tyc M W H r st' = some s2 := by
  unfold tyc at h
  split at h
  · rename_i st' e
    split at h
    · rename_i h2
      exact ⟨st', e, h2, h⟩
    · cases h
  · cases h
theorem ev_cons {c : Nat × Nat} {r : List (Nat × Nat)} {st : List Int} : ev hs m (c :: r) st = ev hs m r (ev1 hs m st c) := rfl
theorem tyc_ok {M : Nat} (hh : ∀ w, w < W → hs w ≤ 200000) : ∀ {a : List (Nat × Nat)} {st s2 : List Bool} {vs : List Int}, tyc M W H a st = some s2 → vok st vs → vok s2 (ev hs m a vs)
  | [], st, s2, vs, h, hv => by
    unfold tyc at h
    cases h
    exact hv
  | c :: r, st, s2, vs, h, hv => by
    obtain ⟨st', h1, h2, h3⟩ := tyc_cons h
    rw [ev_cons]
    exact tyc_ok hh h3 (tys1_ok hh h1 hv)
theorem vok_one {vs : List Int} (h : vok [true] vs) : ∃ v, vs = [v] ∧ (v = 0 ∨ v = 1) := by
  match vs, h with
  | [v], h => exact ⟨v, rfl, h.1.1 rfl⟩
  | [], h => exact h.elim
  | _ :: _ :: _, h => exact h.2.elim
end S96
end
section
/-! the class says of a set whether the tests hold -/
theorem iI_ltI {a c : Int} (a1 : -2147483648 ≤ a) (a2 : a < 2147483648) (c1 : -2147483648 ≤ c) (c2 : c < 2147483648) : iI a < iI c ↔ a < c := by rw [Int32.lt_iff_toInt_lt, iI_toInt a1 a2, iI_toInt c1 c2]
theorem iI_leI {a c : Int} (a1 : -2147483648 ≤ a) (a2 : a < 2147483648) (c1 : -2147483648 ≤ c) (c2 : c < 2147483648) : iI a ≤ iI c ↔ a ≤ c := by rw [Int32.le_iff_toInt_le, iI_toInt a1 a2, iI_toInt c1 c2]
theorem iI_inj {a c : Int} (a1 : -2147483648 ≤ a) (a2 : a < 2147483648) (c1 : -2147483648 ≤ c) (c2 : c < 2147483648) : iI a = iI c ↔ a = c := ⟨fun h => by have := congrArg Int32.toInt h; rwa [iI_toInt a1 a2, iI_toInt c1 c2] at this, fun h => by rw [h]⟩
theorem iI_z {a : Int} (a1 : -2147483648 ≤ a) (a2 : a < 2147483648) : iI a = 0 ↔ a = 0 := iI_inj (c := 0) a1 a2 (by decide) (by decide)
theorem sh_k {k m : Nat} (hk : k < 31) (hm : m < 2 ^ 31) : nI m >>> (nI k &&& 31) = nI (m / 2 ^ k) := by
  have hD : ∀ k, k < 31 → ((nI k &&& 31).toBitVec.smod 32).toNat = k := by decide
  apply Int32.toInt_inj.mp
  have e : (nI m >>> (nI k &&& 31)).toInt = (nI m).toInt >>> ((nI k &&& 31).toBitVec.smod 32).toNat := BitVec.toInt_sshiftRight ..
  rw [e, hD k hk, Int.shiftRight_eq_div_pow, nI_toInt hm, nI_toInt (Nat.lt_of_le_of_lt (Nat.div_le_self _ _) hm)]
  rfl
theorem hb_bit (k : Nat) (hk : k < 12) (m : Nat) (hm : m < 4096) : ((nI m >>> (nI k &&& 31)) &&& 1) = nI (tbit m k) := by
  rw [sh_k (by omega) (by omega), show (1 : Int32) = nI 1 from rfl, nx_and, Nat.and_one_is_mod]
  rfl
section S97
variable {D W H m : Nat} {hs : Nat → Nat} {I : Nat → Nat → Int32} {J : Nat → Nat → Int64}
def jst (I : Nat → Nat → Int32) : List Int → Prop
  | [] => True
  | v :: r => I 35 r.length = iI v ∧ jst I r
def jS (vs : List Int) (I : Nat → Nat → Int32) : Prop := I 34 1 = nI vs.length ∧ vs.length ≤ 64 ∧ jst I vs
theorem jst_cg {I' : Nat → Nat → Int32} : ∀ {vs : List Int}, jst I vs → (∀ k, k < vs.length → I' 35 k = I 35 k) → jst I' vs
  | [], _, _ => trivial
  | v :: r, h, e => ⟨by rw [e _ (by simp)]; exact h.1, jst_cg h.2 fun k hk => e k (by simp; omega)⟩
def jfr (I I' : Nat → Nat → Int32) : Prop := ∀ q, q ≠ 34 → q ≠ 35 → I' q = I q
theorem c_jpush {vs : List Int} {v : Int} (h : jS vs I) (hl : vs.length < 64) : ∃ I' J', C1 (D + 1) 225 [.ref 34, .int (iI v)] I J .null I' J' ∧ J' = J ∧ jS (v :: vs) I' ∧ jfr I I' := by
  obtain ⟨h1, h2, h3⟩ := h
  refine mj_cN (e225 _ ?_)
  rw [h1, show (64 : Int32) = nI 64 from rfl]
  refine if_le (by decide) (by omega) (fun z => absurd z (by omega)) (fun _ => ?_)
  rw [nI_clamp (by omega), nI_1]
  refine ⟨vp_in_nI hl (by decide), _, _, rfl, rfl, ⟨up_s, hl, ?_, ?_⟩, fun q q1 q2 => by rw [up_c q1, up_c q2]⟩
  · rw [up_c (by decide), up_s]
  · exact jst_cg h3 fun k hk => by rw [up_c (by decide), up_j (by omega)]
theorem c_jpop {vs : List Int} {v : Int} (h : jS (v :: vs) I) : ∃ r I' J', C1 (D + 1) 226 [.ref 34] I J (.int r) I' J' ∧ r = iI v ∧ J' = J ∧ jS vs I' ∧ jfr I I' := by
  obtain ⟨h1, h2, h3, h4⟩ := h
  have h1 : I 34 1 = nI (vs.length + 1) := h1
  have h2 : vs.length + 1 ≤ 64 := h2
  refine mj_cI (e226 ?_)
  rw [h1, if_neg (nI_ne0 (by omega) (by omega)), n1_sub, nI_clamp (by omega)]
  refine ⟨vp_in_nI (by omega) (by decide), _, _, _, rfl, h3, rfl, ⟨up_s, by omega, jst_cg h4 fun k hk => by rw [up_c (by decide)]⟩, fun q q1 q2 => by rw [up_c q1]⟩
theorem xr_s {a c : Int} (a1 : -1000000000 ≤ a) (a2 : a ≤ 1000000000) (c1 : -1000000000 ≤ c) (c2 : c ≤ 1000000000) : (iI a ^^^ iI c) < 0 ↔ ¬ ((a < 0) ↔ (c < 0)) := by
  have key : ∀ x : Int32, x < 0 ↔ x.toBitVec.msb = true := fun x => by
    rw [Int32.lt_iff_toInt_lt, show (0 : Int32).toInt = 0 by decide]
    exact BitVec.toInt_neg_iff.trans (by rw [BitVec.msb_eq_decide, decide_eq_true_eq]; omega)
  rw [key, Int32.toBitVec_xor, BitVec.msb_xor]
  have k1 := key (iI a)
  have k2 := key (iI c)
  rw [Int32.lt_iff_toInt_lt, show (0 : Int32).toInt = 0 by decide, iI_toInt (by omega) (by omega)] at k1 k2
  rw [k1, k2]
  cases (iI a).toBitVec.msb <;> cases (iI c).toBitVec.msb <;> simp
theorem c_floor {a c : Int} (a1 : -1000000000 ≤ a) (a2 : a ≤ 1000000000) (c1 : -1000000000 ≤ c) (c2 : c ≤ 1000000000) (h0 : c ≠ 0) : C1 (D + 1) 6 [.int (iI a), .int (iI c)] I J (.int (iI (Int.fdiv a c))) I J := by
  refine mj_mk (e6 _ _ ?_)
  have n0 : ¬ iI c = 0 := fun z => h0 ((iI_z (by omega) (by omega)).mp z)
  have ht := tdiv_rng (c := c) a1 a2
  have ed : iI a / iI c = iI (a.tdiv c) := by
    apply Int32.toInt_inj.mp
    rw [Int32.toInt_div, iI_toInt (by omega) (by omega), iI_toInt (by omega) (by omega), iI_toInt (by omega) (by omega)]
    exact Int.bmod_eq_of_le (by omega) (by omega)
  have hm : (a.tdiv c * c).natAbs ≤ a.natAbs := by
    rw [Int.natAbs_mul, Int.natAbs_tdiv]
    exact Nat.div_mul_le_self _ _
  have em : iI (a.tdiv c) * iI c = iI (a.tdiv c * c) := (Int32.ofInt_mul _ _).symm
  have es : iI (a.tdiv c) - 1 = iI (a.tdiv c - 1) := (Int32.ofInt_sub _ 1).symm
  refine ⟨n0, ?_⟩
  rw [ed, em, es, fd_t h0]
  refine if_i (fun x => if_i (fun y => ?_) (fun y => ?_)) (fun x => ?_)
  · rw [if_pos (Or.inl ((iI_inj (by omega) (by omega) (by omega) (by omega)).mp y))]
  · rw [if_neg (fun q => q.elim (fun q => y (by rw [q])) ((xr_s a1 a2 c1 c2).mp x))]
  · rw [if_pos (Or.inr (Classical.byContradiction fun q => x ((xr_s a1 a2 c1 c2).mpr q)))]
theorem c_holds {op : Nat} {a c : Int} (h1 : op = 11 ∨ op = 12 ∨ op = 13 ∨ op = 14 ∨ op = 15) (a1 : -1000000000 ≤ a) (a2 : a ≤ 1000000000) (c1 : -1000000000 ≤ c) (c2 : c ≤ 1000000000) : ∃ r, C1 (D + 1) 229 [.int (nI (opc op)), .int (iI a), .int (iI c)] I J (.int r) I J ∧ ((r = 0 ∧ twov op a c = 0) ∨ (r = 1 ∧ twov op a c = 1)) := by
  have za := iI_z (a := a) (by omega) (by omega)
  have zc := iI_z (a := c) (by omega) (by omega)
  have le1 := iI_leI (a := c) (c := a) (by omega) (by omega) (by omega) (by omega)
  have le2 := iI_leI (a := a) (c := c) (by omega) (by omega) (by omega) (by omega)
  have eq1 := iI_inj (a := a) (c := c) (by omega) (by omega) (by omega) (by omega)
  have t0 : ∀ {r : Int32} {b : Bool}, True := trivial
  rcases h1 with rfl | rfl | rfl | rfl | rfl
  · by_cases q : a < c
    · refine ⟨1, mj_mk (e229 _ _ _ ?_), Or.inr ⟨rfl, if_pos q⟩⟩
      rw [show nI (opc 11) = (60 : Int32) from rfl, if_neg (by decide), if_pos rfl, if_neg (fun z => by have := le1.mp z; omega)]
      exact ⟨Or.inr rfl, rfl⟩
    · refine ⟨0, mj_mk (e229 _ _ _ ?_), Or.inl ⟨rfl, if_neg q⟩⟩
      rw [show nI (opc 11) = (60 : Int32) from rfl, if_neg (by decide), if_pos rfl, if_pos (le1.mpr (by omega))]
      exact ⟨Or.inl rfl, rfl⟩
  · by_cases q : c < a
    · refine ⟨1, mj_mk (e229 _ _ _ ?_), Or.inr ⟨rfl, if_pos q⟩⟩
      rw [show nI (opc 12) = (62 : Int32) from rfl, if_neg (by decide), if_neg (by decide), if_neg (by decide), if_pos rfl, if_neg (fun z => by have := le2.mp z; omega)]
      exact ⟨Or.inr rfl, rfl⟩
    · refine ⟨0, mj_mk (e229 _ _ _ ?_), Or.inl ⟨rfl, if_neg q⟩⟩
      rw [show nI (opc 12) = (62 : Int32) from rfl, if_neg (by decide), if_neg (by decide), if_neg (by decide), if_pos rfl, if_pos (le2.mpr (by omega))]
      exact ⟨Or.inl rfl, rfl⟩
  · by_cases q : a = c
    · refine ⟨1, mj_mk (e229 _ _ _ ?_), Or.inr ⟨rfl, if_pos q⟩⟩
      rw [show nI (opc 13) = (61 : Int32) from rfl, if_neg (by decide), if_neg (by decide), if_pos rfl, if_pos (eq1.mpr q)]
      exact ⟨Or.inr rfl, rfl⟩
    · refine ⟨0, mj_mk (e229 _ _ _ ?_), Or.inl ⟨rfl, if_neg q⟩⟩
      rw [show nI (opc 13) = (61 : Int32) from rfl, if_neg (by decide), if_neg (by decide), if_pos rfl, if_neg (fun z => q (eq1.mp z))]
      exact ⟨Or.inl rfl, rfl⟩
  · by_cases q : a ≠ 0 ∧ c ≠ 0
    · refine ⟨1, mj_mk (e229 _ _ _ ?_), Or.inr ⟨rfl, if_pos q⟩⟩
      rw [show nI (opc 14) = (9 : Int32) from rfl, if_pos rfl, if_neg (fun z => q.1 (za.mp z)), if_neg (fun z => q.2 (zc.mp z))]
      exact ⟨Or.inr rfl, rfl⟩
    · refine ⟨0, mj_mk (e229 _ _ _ ?_), Or.inl ⟨rfl, if_neg q⟩⟩
      rw [show nI (opc 14) = (9 : Int32) from rfl, if_pos rfl]
      refine if_i (fun _ => ⟨Or.inl rfl, rfl⟩) (fun y => if_i (fun _ => ⟨Or.inl rfl, rfl⟩) (fun y2 => ?_))
      exact absurd ⟨fun z => y (za.mpr z), fun z => y2 (zc.mpr z)⟩ q
  · by_cases q : a ≠ 0 ∨ c ≠ 0
    · refine ⟨1, mj_mk (e229 _ _ _ ?_), Or.inr ⟨rfl, if_pos q⟩⟩
      rw [show nI (opc 15) = (8 : Int32) from rfl, if_neg (by decide), if_neg (by decide), if_neg (by decide), if_neg (by decide)]
      refine if_i (fun y => if_i (fun y2 => ?_) (fun _ => ⟨Or.inr rfl, rfl⟩)) (fun _ => ⟨Or.inr rfl, rfl⟩)
      have := za.mp y
      have := zc.mp y2
      omega
    · refine ⟨0, mj_mk (e229 _ _ _ ?_), Or.inl ⟨rfl, if_neg q⟩⟩
      rw [show nI (opc 15) = (8 : Int32) from rfl, if_neg (by decide), if_neg (by decide), if_neg (by decide), if_neg (by decide), if_pos (za.mpr (by omega)), if_pos (zc.mpr (by omega))]
      exact ⟨Or.inl rfl, rfl⟩
theorem c_join {op : Nat} {a c : Int} (h5 : 5 ≤ op) (h15 : op ≤ 15) (a1 : -1000000000 ≤ a) (a2 : a ≤ 1000000000) (c1 : -1000000000 ≤ c) (c2 : c ≤ 1000000000) : C1 (D + 3) 227 [.int (nI (opc op)), .int (iI a), .int (iI c)] I J (.int (iI (twov op a c))) I J := by
  have la : (iI a).toInt64 = lZ a := iI_lZ (by omega) (by omega)
  have lc : (iI c).toInt64 = lZ c := iI_lZ (by omega) (by omega)
  have hs : ∀ {op : Nat}, (op = 11 ∨ op = 12 ∨ op = 13 ∨ op = 14 ∨ op = 15) → (nI (opc op) ≠ (15 : Int32) ∧ nI (opc op) ≠ (16 : Int32) ∧ nI (opc op) ≠ (42 : Int32) ∧ nI (opc op) ≠ (43 : Int32) ∧ nI (opc op) ≠ (45 : Int32) ∧ nI (opc op) ≠ (47 : Int32)) → C1 (D + 3) 227 [.int (nI (opc op)), .int (iI a), .int (iI c)] I J (.int (iI (twov op a c))) I J := fun {op} ho hn => by
    obtain ⟨r, hr, hq⟩ := c_holds (D := D + 1) (I := I) (J := J) ho a1 a2 c1 c2
    refine mj_mk (e227 _ _ _ ?_)
    rw [if_neg hn.1, if_neg hn.2.1, if_neg hn.2.2.1, if_neg hn.2.2.2.1, if_neg hn.2.2.2.2.1, if_neg hn.2.2.2.2.2]
    refine ⟨trivial, _, _, _, hr, ?_⟩
    rcases hq with ⟨rfl, e⟩ | ⟨rfl, e⟩
    · rw [if_pos rfl, e]; rfl
    · rw [if_neg (by decide), e]; rfl
  match op, h5, h15 with
  | 5, _, _ =>
    refine mj_mk (e227 _ _ _ ?_)
    rw [show nI (opc 5) = (43 : Int32) from rfl, if_neg (by decide), if_neg (by decide), if_neg (by decide), if_pos rfl, la, lc, lZ_add]
    exact ⟨trivial, _, _, _, c_bounded (by omega) (by omega), rfl⟩
  | 6, _, _ =>
    refine mj_mk (e227 _ _ _ ?_)
    rw [show nI (opc 6) = (45 : Int32) from rfl, if_neg (by decide), if_neg (by decide), if_neg (by decide), if_neg (by decide), if_pos rfl, la, lc, lZ_sub]
    exact ⟨trivial, _, _, _, c_bounded (by omega) (by omega), rfl⟩
  | 7, _, _ =>
    refine mj_mk (e227 _ _ _ ?_)
    rw [show nI (opc 7) = (42 : Int32) from rfl, if_neg (by decide), if_neg (by decide), if_pos rfl, la, lc, lZ_mul]
    have hm : (a * c).natAbs ≤ 1000000000 * 1000000000 := by
      rw [Int.natAbs_mul]
      exact Nat.mul_le_mul (by omega) (by omega)
    exact ⟨trivial, _, _, _, c_bounded (by omega) (by omega), rfl⟩
  | 8, _, _ =>
    refine mj_mk (e227 _ _ _ ?_)
    rw [show nI (opc 8) = (47 : Int32) from rfl, if_neg (by decide), if_neg (by decide), if_neg (by decide), if_neg (by decide), if_neg (by decide), if_pos rfl]
    show if iI c = 0 then _ else _
    refine if_i (fun y => ?_) (fun y => ?_)
    · have e : twov 8 a c = 0 := if_pos ((iI_z (by omega) (by omega)).mp y)
      rw [e]; rfl
    · have y2 : c ≠ 0 := fun z => y ((iI_z (by omega) (by omega)).mpr z)
      have e : twov 8 a c = Int.fdiv a c := if_neg y2
      rw [e]
      exact ⟨trivial, _, _, _, mj_Cl_le (by omega) (c_floor (D := D) a1 a2 c1 c2 y2), rfl⟩
  | 9, _, _ =>
    refine mj_mk (e227 _ _ _ ?_)
    rw [show nI (opc 9) = (15 : Int32) from rfl, if_pos rfl]
    refine ⟨trivial, iI (twov 9 a c), I, J, mj_mk (e0 _ _ ?_), rfl⟩
    have e : twov 9 a c = if a < c then a else c := rfl
    rw [e]
    refine if_i (fun y => ?_) (fun y => ?_)
    · have := (iI_ltI (a := c) (c := a) (by omega) (by omega) (by omega) (by omega)).mp y
      rw [if_neg (by omega)]
    · have : ¬ c < a := fun z => y ((iI_ltI (by omega) (by omega) (by omega) (by omega)).mpr z)
      by_cases z : a < c
      · rw [if_pos z]
      · rw [if_neg z, show a = c by omega]
  | 10, _, _ =>
    refine mj_mk (e227 _ _ _ ?_)
    rw [show nI (opc 10) = (16 : Int32) from rfl, if_neg (by decide), if_pos rfl]
    refine ⟨trivial, iI (twov 10 a c), I, J, mj_mk (e1 _ _ ?_), rfl⟩
    have e : twov 10 a c = if a < c then c else a := rfl
    rw [e]
    refine if_i (fun y => ?_) (fun y => ?_)
    · have := (iI_ltI (a := a) (c := c) (by omega) (by omega) (by omega) (by omega)).mp y
      rw [if_pos this]
    · have : ¬ a < c := fun z => y ((iI_ltI (by omega) (by omega) (by omega) (by omega)).mpr z)
      rw [if_neg this]
  | 11, _, _ => exact hs (by omega) (by decide)
  | 12, _, _ => exact hs (by omega) (by decide)
  | 13, _, _ => exact hs (by omega) (by decide)
  | 14, _, _ => exact hs (by omega) (by decide)
  | 15, _, _ => exact hs (by omega) (by decide)
theorem jfr_tr {I' I'' : Nat → Nat → Int32} (h : jfr I I') (h' : jfr I' I'') : jfr I I'' := fun q a c => by rw [h' q a c, h q a c]
theorem c_work {c : Nat × Nat} {st st' : List Bool} {vs : List Int} (hW : W ≤ 4) (hH : H ≤ 12) (hm : m < 4096) (hh : ∀ w, w < W → hs w ≤ 200000 ∧ I 36 w = nI (hs w)) (ht : tys1 W H c st = some st') (hv : vok st vs) (hj : jS vs I) (hl : st'.length ≤ 64) : ∃ I' J', C1 (D + 5) 224 [.ref 34, .int (nI (opc c.1)), .int (nI c.2), .int (nI m), .ref 36] I J .null I' J' ∧ J' = J ∧ jS (ev1 hs m vs c) I' ∧ jfr I I' := by
  have hlen := vok_len hv
  rcases tys1_inv ht with ⟨h1, h2, rfl⟩ | ⟨h1, h2, r, rfl, rfl⟩ | ⟨h1, h2, h3, r, rfl, rfl⟩
  · have hl2 : vs.length < 64 := by
      have : st.length + 1 ≤ 64 := hl
      omega
    clear hl
    have ee : ev1 hs m vs c = leafv hs m c.1 c.2 :: vs := by unfold ev1; rw [if_pos h1]
    rw [ee]
    obtain ⟨op, n⟩ := c
    obtain ⟨q1, q2, q3, q4⟩ := h2
    obtain ⟨I', J', hc, rfl, g1, g2⟩ := c_jpush (D := D + 3) (J := J) (v := leafv hs m op n) hj hl2
    refine ⟨I', J', mj_mk (e224 _ _ _ ?_), rfl, g1, g2⟩
    obtain rfl | rfl | rfl | rfl | rfl : op = 0 ∨ op = 1 ∨ op = 2 ∨ op = 3 ∨ op = 4 := by
      have : op ≤ 4 := h1
      omega
    · rw [show nI (opc 0) = (17 : Int32) from rfl, if_neg (by decide), if_neg (by decide), if_neg (by decide), if_neg (by decide), if_neg (by decide), if_neg (by decide), if_neg (by decide), if_pos rfl]
      exact ⟨trivial, _, _, hc, rfl⟩
    · rw [show nI (opc 1) = (13 : Int32) from rfl, if_neg (by decide), if_neg (by decide), if_neg (by decide), if_pos rfl]
      refine ⟨trivial, _, _, _, mj_Cl_le (by omega) (c_bcI (D := D) (by omega)), ?_⟩
      rw [pcn_big 12 20 m (by omega)]
      exact ⟨trivial, _, _, hc, rfl⟩
    · have hn := q2 rfl
      rw [show nI (opc 2) = (14 : Int32) from rfl, if_neg (by decide), if_neg (by decide), if_neg (by decide), if_neg (by decide), if_pos rfl, show (4 : Int32) = nI 4 from rfl]
      refine if_le (by decide) (by show n < 2 ^ 31; omega) (fun z => absurd (show n < 4 by omega) (by have : 4 ≤ n := z; omega)) (fun _ => ?_)
      rw [nI_clamp (by omega), (hh n hn).2]
      exact ⟨vp_in_nI (by omega) (by decide), trivial, _, _, hc, rfl⟩
    · rw [show nI (opc 3) = (11 : Int32) from rfl, if_neg (by decide), if_pos rfl]
      exact ⟨trivial, _, _, hc, rfl⟩
    · have hn := q3 rfl
      rw [show nI (opc 4) = (12 : Int32) from rfl, if_neg (by decide), if_neg (by decide), if_pos rfl]
      rw [hb_bit n (by omega) m hm]
      exact ⟨trivial, _, _, hc, rfl⟩
  · match vs, hv, hj with
    | v :: vs, hv, hj =>
      have ee : ev1 hs m (v :: vs) c = (1 - v) :: vs := by unfold ev1; rw [if_neg (by omega), if_pos h1]
      rw [ee]
      obtain ⟨r1, Ia, Ja, ca, rfl, rfl, g1, g2⟩ := c_jpop (D := D + 3) (J := J) hj
      obtain ⟨I', J', hc, rfl, g3, g4⟩ := c_jpush (D := D + 3) (J := Ja) (v := 1 - v) g1 (by have := hj.2.1; have : vs.length + 1 ≤ 64 := this; omega)
      refine ⟨I', J', mj_mk (e224 _ _ _ ?_), rfl, g3, jfr_tr g2 g4⟩
      rw [h1, show nI (opc 16) = (10 : Int32) from rfl, if_pos rfl]
      refine ⟨trivial, _, _, _, ca, ?_⟩
      rw [show (1 : Int32) - iI v = iI (1 - v) from (Int32.ofInt_sub 1 v).symm]
      exact ⟨trivial, _, _, hc, rfl⟩
  · match vs, hv, hj with
    | y :: x :: vs, hv, hj =>
      have ee : ev1 hs m (y :: x :: vs) c = twov c.1 x y :: vs := by unfold ev1; rw [if_neg (by omega), if_neg (by omega)]
      rw [ee]
      obtain ⟨⟨-, y1, y2⟩, ⟨-, x1, x2⟩, -⟩ := hv
      obtain ⟨r1, Ia, Ja, ca, rfl, rfl, g1, g2⟩ := c_jpop (D := D + 3) (J := J) hj
      obtain ⟨r2, Ib, Jb, cb, rfl, rfl, g3, g4⟩ := c_jpop (D := D + 3) (J := Ja) g1
      obtain ⟨I', J', hc, rfl, g5, g6⟩ := c_jpush (D := D + 3) (J := Jb) (v := twov c.1 x y) g3 (by have := hj.2.1; have : vs.length + 2 ≤ 64 := this; omega)
      refine ⟨I', J', mj_mk (e224 _ _ _ ?_), rfl, g5, jfr_tr (jfr_tr g2 g4) g6⟩
      obtain ⟨op, n⟩ := c
      have cj := c_join (D := D + 1) (I := Ib) (J := J') (op := op) h1 h2 x1 x2 y1 y2
      have hx : ∀ op, op ≤ 15 → 5 ≤ op → nI (opc op) ≠ (10 : Int32) ∧ nI (opc op) ≠ (11 : Int32) ∧ nI (opc op) ≠ (12 : Int32) ∧ nI (opc op) ≠ (13 : Int32) ∧ nI (opc op) ≠ (14 : Int32) ∧ nI (opc op) ≠ (17 : Int32) := by decide
      obtain ⟨n1, n2, n3, n4, n5, n6⟩ := hx op h2 h1
      rw [if_neg n1, if_neg n2, if_neg n3, if_neg n4, if_neg n5]
      refine if_i (fun _ => ⟨trivial, _, _, _, ca, trivial, _, _, _, cb, trivial, _, _, _, cj, trivial, _, _, hc, rfl⟩) (fun _ => if_i (fun _ => ⟨trivial, _, _, _, ca, trivial, _, _, _, cb, trivial, _, _, _, cj, trivial, _, _, hc, rfl⟩) (fun _ => ?_))
      rw [if_neg n6]
      exact ⟨trivial, _, _, _, ca, trivial, _, _, _, cb, trivial, _, _, _, cj, trivial, _, _, hc, rfl⟩
end S97
end
section
/-! the class gathers all sets that the tests allow -/
theorem sh14 {x : Nat} (h : x < 2 ^ 31) : nI x >>> ((14 : Int32) &&& 31) = nI (x / 16384) := by
  apply Int32.toInt_inj.mp
  have e : (nI x >>> ((14 : Int32) &&& 31)).toInt = (nI x).toInt >>> 14 := by
    have hD : (((14 : Int32) &&& 31).toBitVec.smod 32).toNat = 14 := by decide
    rw [← hD]
    exact BitVec.toInt_sshiftRight ..
  rw [e, Int.shiftRight_eq_div_pow, nI_toInt h, nI_toInt (Nat.lt_of_le_of_lt (Nat.div_le_self _ _) h)]
  rfl
theorem sh_lo {x : Nat} : nI x &&& (16383 : Int32) = nI (x % 16384) := by
  rw [show (16383 : Int32) = nI 16383 from rfl, nx_and, show (16383 : Nat) = 2 ^ 14 - 1 from rfl, Nat.and_two_pow_sub_one_eq_mod]
theorem sh_p2 : ∀ k, k < 13 → ((1 : Int32) <<< (nI k &&& 31)) = nI (2 ^ k) := by decide +kernel
theorem n_long (m : Nat) (hm : m < 4096) : (nI m).toInt64 = lN m := iI_lZ (z := (m : Nat)) (by omega) (by omega)
theorem opc_le : ∀ op, op ≤ 16 → opc op < 64 := by decide
theorem opc_inj : ∀ a, a ≤ 16 → ∀ c, c ≤ 16 → opc a = opc c → a = c := by decide
section S98
variable {D W Hn Un m : Nat} {A : Nat → List (Nat × Nat)} {hs : Nat → Nat} {I : Nat → Nat → Int32} {J : Nat → Nat → Int64}
theorem tys1_rng {H : Nat} {c : Nat × Nat} {st st' : List Bool} (hW : W ≤ 4) (hH : H ≤ 12) (h : tys1 W H c st = some st') : c.1 ≤ 16 ∧ c.2 ≤ 9999 := by
  rcases tys1_inv h with ⟨h1, ⟨q1, q2, q3, q4⟩, -⟩ | ⟨h1, h2, -⟩ | ⟨h1, h2, h3, -⟩
  · refine ⟨by omega, ?_⟩
    rcases (by omega : c.1 = 0 ∨ c.1 = 1 ∨ c.1 = 2 ∨ c.1 = 3 ∨ c.1 = 4) with e | e | e | e | e
    · exact q1 e
    · have := q4 (Or.inl e); omega
    · have := q2 e; omega
    · have := q4 (Or.inr e); omega
    · have := q3 e; omega
  · omega
  · omega
theorem tyc_rng {M H : Nat} (hW : W ≤ 4) (hH : H ≤ 12) : ∀ {a : List (Nat × Nat)} {st s2 : List Bool}, tyc M W H a st = some s2 → ∀ c, c ∈ a → c.1 ≤ 16 ∧ c.2 ≤ 9999
  | [], _, _, _, c, hc => absurd hc List.not_mem_nil
  | d :: r, st, s2, h, c, hc => by
    obtain ⟨st', h1, h2, h3⟩ := tyc_cons h
    rcases List.mem_cons.mp hc with rfl | hc
    · exact tys1_rng hW hH h1
    · exact tyc_rng hW hH h3 c hc
/-- the steps of a rule can be read off but in one way -/
theorem cd_uniq {M H c p : Nat} {a a' : List (Nat × Nat)} (hW : W ≤ 4) (hH : H ≤ 12) (hl : a.length = a'.length) (h : cdC I c p a) (h' : cdC I c p a') {s s' : List Bool} (t : tyc M W H a [] = some s) (t' : tyc M W H a' [] = some s') : a = a' := by
  apply List.ext_getElem? 
  intro k
  by_cases hk : k < a.length
  · have e1 : a[k]? = some a[k] := List.getElem?_eq_getElem hk
    have e2 : a'[k]? = some (a'[k]'(by omega)) := List.getElem?_eq_getElem (by omega)
    have r1 := tyc_rng hW hH t _ (List.getElem_mem hk)
    have r2 := tyc_rng hW hH t' _ (List.getElem_mem (show k < a'.length by omega))
    have q := (h k _ e1).symm.trans (h' k _ e2)
    have o1 := opc_le _ r1.1
    have o2 := opc_le _ r2.1
    have q := (nI_eq (by omega) (by omega)).mp q
    have q1 : opc a[k].1 = opc (a'[k]'(by omega)).1 := by omega
    have q2 : a[k].2 = (a'[k]'(by omega)).2 := by omega
    rw [e1, e2, Prod.ext (opc_inj _ r1.1 _ r2.1 q1) q2]
  · rw [List.getElem?_eq_none (by omega), List.getElem?_eq_none (by omega)]
/-- the rules of the class' Tale, as rows of steps -/
def ruA (I : Nat → Nat → Int32) (W Hn Un : Nat) (A : Nat → List (Nat × Nat)) : Prop := ∀ u, u < Un → tyc 64 W Hn (A u) [] = some [true] ∧ I 10 u = nI (rb I 10 u + (A u).length) ∧ rb I 10 u + (A u).length ≤ 900 ∧ cdC I 9 (rb I 10 u) (A u)
theorem ruA_ruT (hW : W ≤ 4) (hH : Hn ≤ 12) (h : ruA I W Hn Un A) {u : Nat} (hu : u < Un) : ruT I W Hn u m ↔ ev (hsf I Hn m) m (A u) [] = [1] := by
  obtain ⟨h1, h2, h3, h4⟩ := h u hu
  constructor
  · rintro ⟨a, a1, a2, a3, a4, a5⟩
    have hl : a.length = (A u).length := by
      have := (nI_eq (by omega) (by omega)).mp (a1.symm.trans h2)
      omega
    rw [cd_uniq hW hH hl a3 h4 a4 h1] at a5
    exact a5
  · exact fun e => ⟨A u, h2, h3, h4, h1, e⟩
theorem c_allows (hW : W ≤ 4) (hH : Hn ≤ 12) (hm : m < 4096) (hU : I 2 5 = nI Un) (hU2 : Un ≤ 12) (hA : ruA I W Hn Un A) (hh : ∀ w, w < W → hs w ≤ 200000 ∧ I 36 w = nI (hs w)) : ∃ r I' J', C1 (D + 6) 223 [.ref 34, .ref 1, .int (nI m), .ref 36] I J (.int r) I' J' ∧ r = tf (∀ u, u < Un → ev hs m (A u) [] = [1]) ∧ J' = J ∧ jfr I I' := by
  refine mj_cI (e223 _ ?_)
  obtain ⟨Q, hQ⟩ : ∃ Q, Q = qI mj_R1 (fun r I' J' => r = tf (∀ u, u < Un → ev hs m (A u) [] = [1]) ∧ J' = J ∧ jfr I I') := ⟨_, rfl⟩
  rw [← hQ]
  have lp := lp_up (n := Un) (fun u => ∀ I0, jfr I I0 → (∀ v, v < u → ev hs m (A v) [] = [1]) → E1 223 (D + 5) Q 6 [(0, .ref 34), (1, .ref 1), (2, .int (nI m)), (3, .ref 36), (4, .int (nI (rb I 10 u))), (5, .int (nI u))] I0 J) (fun u hu ih I0 h1 h2 => ?_) 0 (by omega) I (fun _ _ _ => rfl) (fun v hv => by omega)
  · exact lp
  refine mj_on (s223_6 _ _ _ ?_)
  rw [show ((5 : Int32)).toNatClampNeg = 5 from rfl, h1 2 (by decide) (by decide), hU]
  refine ⟨vp_in_nI (n := 5) (by decide) (by decide), if_le (by omega) (by omega) (fun c => ?_) (fun c => ?_)⟩
  · obtain rfl : u = Un := by omega
    rw [hQ]
    exact ⟨Or.inr rfl, _, _, _, rfl, (tf_t h2).symm, rfl, h1⟩
  obtain ⟨t1, t2, t3, t4⟩ := hA u c
  have inner : ∀ (rest : List (Nat × Nat)) (k : Nat) (st : List Bool) (vs : List Int) (I1 : Nat → Nat → Int32), k + rest.length = (A u).length → (A u).drop k = rest → tyc 64 W Hn rest st = some [true] → vok st vs → jS vs I1 → jfr I I1 → ev hs m rest vs = ev hs m (A u) [] → E1 223 (D + 5) Q 22 [(0, .ref 34), (1, .ref 1), (2, .int (nI m)), (3, .ref 36), (4, .int (nI (rb I 10 u + k))), (5, .int (nI u))] I1 J := by
    intro rest
    induction rest with
    | nil =>
      intro k st vs I1 hk hd ht hv hj hf he
      have hk : k = (A u).length := by simpa using hk
      unfold tyc at ht
      cases ht
      obtain ⟨v, rfl, hv2⟩ := vok_one hv
      refine mj_on (s223_22 _ _ _ ?_)
      rw [nI_clamp (by omega), hf 10 (by decide) (by decide), t2]
      refine ⟨vp_in_nI (by omega) (by decide), if_le (by omega) (by omega) (fun _ => ?_) (fun z => absurd z (by omega))⟩
      obtain ⟨r1, Ia, Ja, ca, rfl, rfl, g1, g2⟩ := c_jpop (D := D + 4) (J := J) hj
      refine ⟨trivial, _, _, _, ca, ?_⟩
      have he : [v] = ev hs m (A u) [] := he
      rcases hv2 with rfl | rfl
      · rw [if_pos (show iI 0 = 0 from rfl), hQ]
        refine ⟨Or.inl rfl, _, _, _, rfl, (tf_f (fun q => ?_)).symm, rfl, jfr_tr hf g2⟩
        have := q u c
        rw [← he] at this
        exact absurd this (by decide)
      · rw [if_neg (show ¬ iI 1 = 0 by decide), nI_1]
        have e : rb I 10 (u + 1) = rb I 10 u + k := by
          show (I 10 u).toNatClampNeg = _
          rw [t2, nI_clamp (by omega), hk]
        have := ih c Ia (jfr_tr hf g2) (fun v hv => ?_)
        · rw [e] at this
          exact this
        · by_cases z : v = u
          · subst z; exact he.symm
          · exact h2 v (by omega)
    | cons x rest ihr =>
      intro k st vs I1 hk hd ht hv hj hf he
      have hk2 : k + (rest.length + 1) = (A u).length := hk
      obtain ⟨st', w1, w2, w3⟩ := tyc_cons ht
      have hx : (A u)[k]? = some x := by
        have : ((A u).drop k)[0]? = some x := by rw [hd]; rfl
        rw [List.getElem?_drop] at this
        exact this
      have hr := tys1_rng hW hH w1
      have ho := opc_le _ hr.1
      refine mj_on (s223_22 _ _ _ ?_)
      rw [nI_clamp (by omega), hf 10 (by decide) (by decide), t2]
      refine ⟨vp_in_nI (by omega) (by decide), if_le (by omega) (by omega) (fun z => absurd z (by omega)) (fun _ => ?_)⟩
      rw [nI_clamp (by omega), hf 9 (by decide) (by decide), t4 k x hx, sh14 (by omega), sh_lo, show (opc x.1 * 16384 + x.2) / 16384 = opc x.1 by omega, show (opc x.1 * 16384 + x.2) % 16384 = x.2 by omega, nI_1]
      refine ⟨vp_in_nI (by omega) (by decide), vp_in_nI (by omega) (by decide), ?_⟩
      obtain ⟨Ia, Ja, ca, rfl, g1, g2⟩ := c_work (D := D) (J := J) (hs := hs) hW hH hm (fun w hw => ⟨(hh w hw).1, by rw [hf 36 (by decide) (by decide)]; exact (hh w hw).2⟩) w1 hv hj w2
      refine ⟨trivial, _, _, ca, ?_⟩
      exact ihr (k + 1) st' _ Ia (by omega) (by rw [← List.drop_drop, hd]; rfl) w3 (tys1_ok (fun w hw => (hh w hw).1) w1 hv) g1 (jfr_tr hf g2) (by rw [← he]; rfl)
  have := inner (A u) 0 [] [] (mj_up I0 34 1 0) (by omega) rfl t1 trivial ⟨up_s, by decide, trivial⟩ (jfr_tr h1 fun q q1 q2 => up_c q1) rfl
  exact this
/-- the things of the class' Tale -/
def thq (W Hn : Nat) (I : Nat → Nat → Int32) : Prop := W ≤ 4 ∧ Hn ≤ 12 ∧ I 2 0 = nI W ∧ I 2 4 = nI Hn ∧ ∀ k, k < Hn → ∀ w, w < W → ∃ x, x ≤ 9999 ∧ I 5 (640 + 4 * k + w) = nI x
theorem hsu_le (h : thq W Hn I) {w : Nat} (hw : w < W) : ∀ n, n ≤ Hn → hsu I w m n ≤ 9999 * n
  | 0, _ => by simp [hsu]
  | n + 1, hn => by
    have ih := hsu_le h hw n (by omega)
    obtain ⟨x, hx, e⟩ := h.2.2.2.2 n (by omega) w hw
    rw [hsu_s, e, nI_clamp (by omega)]
    rcases tbit_01 m n with q | q <;> rw [q] <;> omega
theorem c_addUp (h : thq W Hn I) (hm : m < 4096) : ∃ I' J', C1 (D + 2) 222 [.ref 33, .ref 1, .int (nI m)] I J .null I' J' ∧ J' = J ∧ (∀ w, w < W → I' 36 w = nI (hsu I w m Hn)) ∧ ∀ q, q ≠ 36 → I' q = I q := by
  obtain ⟨w4, n12, aW, aH, aA⟩ := id h
  refine mj_cN (e222 _ ?_)
  obtain ⟨Q, hQ⟩ : ∃ Q, Q = qN mj_R1 (fun I' J' => J' = J ∧ (∀ w, w < W → I' 36 w = nI (hsu I w m Hn)) ∧ ∀ q, q ≠ 36 → I' q = I q) := ⟨_, rfl⟩
  rw [← hQ]
  have lp := lp_up (n := W) (fun w => ∀ I0, (∀ q, q ≠ 36 → I0 q = I q) → (∀ u, u < w → I0 36 u = nI (hsu I u m Hn)) → E1 222 (D + 1) Q 2 [(0, .ref 33), (1, .ref 1), (2, .int (nI m)), (3, .int (nI w))] I0 J) (fun w hw ih I0 h1 h2 => ?_) 0 (by omega) I (fun _ _ => rfl) (fun u hu => by omega)
  · exact lp
  refine mj_on (s222_2 _ _ ?_)
  rw [show ((0 : Int32)).toNatClampNeg = 0 from rfl, h1 2 (by decide), aW]
  refine ⟨vp_in_nI (n := 0) (by decide) (by decide), if_le (by omega) (by omega) (fun c => ?_) (fun c => ?_)⟩
  · obtain rfl : w = W := by omega
    rw [hQ]
    exact ⟨_, _, rfl, rfl, h2, h1⟩
  rw [nI_clamp (by omega)]
  refine ⟨vp_in_nI (by omega) (by decide), ?_⟩
  have lp2 := lp_up (n := Hn) (fun k => ∀ I1, (∀ q, q ≠ 36 → I1 q = I q) → (∀ u, u < w → I1 36 u = nI (hsu I u m Hn)) → I1 36 w = nI (hsu I w m k) → E1 222 (D + 1) Q 22 [(0, .ref 33), (1, .ref 1), (2, .int (nI m)), (3, .int (nI w)), (4, .int (nI k))] I1 J) (fun k hk ih2 I1 k1 k2 k3 => ?_) 0 (by omega) (mj_up I0 36 w 0) (fun q hq => by rw [up_c hq]; exact h1 q hq) (fun u hu => by rw [up_j (by omega)]; exact h2 u hu) (by rw [up_s]; rfl)
  · exact lp2
  refine mj_on (s222_22 _ _ _ ?_)
  rw [show ((4 : Int32)).toNatClampNeg = 4 from rfl, k1 2 (by decide), aH]
  refine ⟨vp_in_nI (n := 4) (by decide) (by decide), if_le (by omega) (by omega) (fun d => ?_) (fun d => ?_)⟩
  · obtain rfl : k = Hn := by omega
    rw [nI_1]
    refine ih c I1 k1 (fun u hu => ?_)
    by_cases e : u = w
    · subst e; exact k3
    · exact k2 u (by omega)
  obtain ⟨x, hx, ex⟩ := aA k d w c
  have hle := hsu_le (m := m) h c k (by omega)
  rw [hb_bit k (by omega) m hm, nI_1]
  refine if_i (fun e => ?_) (fun e => ?_)
  · have e0 : tbit m k = 0 := by
      rcases tbit_01 m k with q | q
      · exact q
      · rw [q] at e; exact absurd e (by decide)
    refine ih2 d I1 k1 k2 ?_
    rw [hsu_s, e0, Nat.zero_mul, Nat.add_zero]
    exact k3
  · have e1 : tbit m k = 1 := by
      rcases tbit_01 m k with q | q
      · rw [q] at e; exact absurd rfl e
      · exact q
    rw [nI_clamp (by omega)]
    refine ⟨vp_in_nI (by omega) (by decide), trivial, _, _, _, c_slot (k := 4), vp_in_nI (by omega) (by decide), vp_in_nI (by omega) (by decide), ?_⟩
    rw [nI_clamp (by omega), show 160 * 4 + 4 * k + w = 640 + 4 * k + w by omega, k3, k1 5 (by decide), ex, nI_add]
    refine ih2 d _ (fun q hq => by rw [up_c hq]; exact k1 q hq) (fun u hu => by rw [up_j (by omega)]; exact k2 u hu) ?_
    rw [up_s, hsu_s, e1, ex, nI_clamp (by omega), Nat.one_mul]
/-- what the first sets have that the tests allow -/
def aA (I : Nat → Nat → Int32) (Hn Un : Nat) (A : Nat → List (Nat × Nat)) (n : Nat) (v : Nat → Nat) : Prop := ∃ m, m < n ∧ (∀ u, u < Un → ev (hsf I Hn m) m (A u) [] = [1]) ∧ v = fun w => hsu I w m Hn
theorem hsu_cg {I' : Nat → Nat → Int32} (e : I' 5 = I 5) : hsu I' = hsu I := by
  funext w m n
  unfold hsu
  rw [e]
theorem c_gatherSets (h : thq W Hn I) (hU : I 2 5 = nI Un) (hU2 : Un ≤ 12) (hA : ruA I W Hn Un A) : ∃ I' J', C1 (D + 8) 221 [.ref 33, .ref 1, .ref 29] I J .null I' J' ∧ (∃ L, plL W L I' J' ∧ ∀ v, v ∈ L ↔ aA I Hn Un A (2 ^ Hn) v) ∧ (∀ q, q ≠ 29 → q ≠ 30 → q ≠ 32 → q ≠ 34 → q ≠ 35 → q ≠ 36 → q ≠ 37 → I' q = I q) ∧ ∀ q, q ≠ 31 → J' q = J q := by
  obtain ⟨w4, n12, aW, aH, aAm⟩ := id h
  have hp : (2 : Nat) ^ Hn ≤ 4096 := Nat.le_trans (Nat.pow_le_pow_right (by decide) n12) (by decide)
  refine mj_cN (e221 ?_)
  rw [show ((0 : Int32)).toNatClampNeg = 0 from rfl, aW]
  refine ⟨vp_in_nI (n := 0) (by decide) (by decide), trivial, _, _, mj_mk (e208 _ rfl), ?_⟩
  obtain ⟨Q, hQ⟩ : ∃ Q, Q = qN mj_R1 (fun I' J' => (∃ L, plL W L I' J' ∧ ∀ v, v ∈ L ↔ aA I Hn Un A (2 ^ Hn) v) ∧ (∀ q, q ≠ 29 → q ≠ 30 → q ≠ 32 → q ≠ 34 → q ≠ 35 → q ≠ 36 → q ≠ 37 → I' q = I q) ∧ ∀ q, q ≠ 31 → J' q = J q) := ⟨_, rfl⟩
  rw [← hQ]
  have lp := lp_up (n := 2 ^ Hn) (fun m => ∀ I0 J0 L, plL W L I0 J0 → L.length ≤ m → (∀ v, v ∈ L ↔ aA I Hn Un A m v) → (∀ q, q ≠ 29 → q ≠ 30 → q ≠ 32 → q ≠ 34 → q ≠ 35 → q ≠ 36 → q ≠ 37 → I0 q = I q) → (∀ q, q ≠ 31 → J0 q = J q) → E1 221 (D + 7) Q 12 [(0, .ref 33), (1, .ref 1), (2, .ref 29), (3, .int (nI m))] I0 J0) (fun m hm ih I0 J0 L h1 h2 h3 h4 h5 => ?_) 0 (Nat.zero_le _) (mj_up (mj_up I 29 3 0) 29 4 (nI W)) J [] ⟨by rw [up_j (by decide), up_s]; rfl, up_s, by decide, fun x v hx => by simp at hx⟩ (Nat.le_refl 0) (fun v => ⟨fun q => absurd q List.not_mem_nil, fun ⟨m, q, _⟩ => absurd q (by omega)⟩) (fun q q1 _ _ _ _ _ _ => by rw [up_c q1, up_c q1]) (fun _ _ => rfl)
  · exact lp
  refine mj_on (s221_12 _ ?_)
  rw [show ((4 : Int32)).toNatClampNeg = 4 from rfl, h4 2 (by decide) (by decide) (by decide) (by decide) (by decide) (by decide) (by decide), aH, sh_p2 Hn (by omega)]
  refine ⟨vp_in_nI (n := 4) (by decide) (by decide), if_le (by omega) (by omega) (fun c => ?_) (fun c => ?_)⟩
  · obtain rfl : m = 2 ^ Hn := by omega
    rw [hQ]
    exact ⟨_, _, rfl, ⟨L, h1, h3⟩, h4, h5⟩
  have hm4 : m < 4096 := by omega
  have t0 : thq W Hn I0 := by
    unfold thq at h ⊢
    rw [h4 2 (by decide) (by decide) (by decide) (by decide) (by decide) (by decide) (by decide), h4 5 (by decide) (by decide) (by decide) (by decide) (by decide) (by decide) (by decide)]
    exact h
  have hsu0 : hsu I0 = hsu I := hsu_cg (h4 5 (by decide) (by decide) (by decide) (by decide) (by decide) (by decide) (by decide))
  obtain ⟨Ia, Ja, ca, rfl, a1, a2⟩ := c_addUp (D := D + 5) (J := J0) t0 hm4
  rw [hsu0] at a1
  have fa : ∀ q, q ≠ 29 → q ≠ 30 → q ≠ 32 → q ≠ 34 → q ≠ 35 → q ≠ 36 → q ≠ 37 → Ia q = I q := fun q q1 q2 q3 q4 q5 q6 q7 => by rw [a2 q q6, h4 q q1 q2 q3 q4 q5 q6 q7]
  have ra : ruA Ia W Hn Un A := by
    have e10 := fa 10 (by decide) (by decide) (by decide) (by decide) (by decide) (by decide) (by decide)
    have e9 := fa 9 (by decide) (by decide) (by decide) (by decide) (by decide) (by decide) (by decide)
    have er : ∀ u, rb Ia 10 u = rb I 10 u := fun u => by
      cases u with
      | zero => rfl
      | succ u => show (Ia 10 u).toNatClampNeg = (I 10 u).toNatClampNeg; rw [e10]
    intro u hu
    obtain ⟨z1, z2, z3, z4⟩ := hA u hu
    refine ⟨z1, by rw [e10, er]; exact z2, by rw [er]; exact z3, ?_⟩
    unfold cdC at z4 ⊢
    rw [e9, er]
    exact z4
  obtain ⟨r, Ib, Jb, cb, hr, rfl, fb⟩ := c_allows (D := D + 1) (J := Ja) (A := A) (m := m) (hs := hsf I Hn m) w4 n12 hm4 (by rw [fa 2 (by decide) (by decide) (by decide) (by decide) (by decide) (by decide) (by decide)]; exact hU) hU2 ra (fun w hw => ⟨by have := hsu_le (m := m) h hw Hn (Nat.le_refl _); show hsu I w m Hn ≤ 200000; omega, a1 w hw⟩)
  refine ⟨trivial, _, _, ca, trivial, _, _, _, cb, ?_⟩
  rw [hr, nI_1]
  have fbq : ∀ q, q ≠ 29 → q ≠ 30 → q ≠ 32 → q ≠ 34 → q ≠ 35 → q ≠ 36 → q ≠ 37 → Ib q = I q := fun q q1 q2 q3 q4 q5 q6 q7 => by rw [fb q q4 q5, fa q q1 q2 q3 q4 q5 q6 q7]
  have plb : plL W L Ib Jb := plL_cg h1 (by rw [fb 29 (by decide) (by decide), a2 29 (by decide)]) (by rw [fb 30 (by decide) (by decide), a2 30 (by decide)]) (by rw [fb 32 (by decide) (by decide), a2 32 (by decide)]) (by rw [fb 4 (by decide) (by decide), a2 4 (by decide)]) rfl
  refine if_tf (fun ok => ?_) (fun no => ?_)
  · obtain ⟨Ic, Jc, cc, rfl, p1, p2⟩ := c_putLosses (D := D + 5) (I := Ib) (J := Jb) (a := 0) (W := W) (by rw [fbq 2 (by decide) (by decide) (by decide) (by decide) (by decide) (by decide) (by decide)]; exact aW) w4 (by omega)
    have plc : plL W L Ic Jc := plL_cg plb (p2 29 (by decide)) (p2 30 (by decide)) (p2 32 (by decide)) (p2 4 (by decide)) rfl
    have hl : L.length < 6561 := by omega
    rw [n_long m hm4]
    refine ⟨trivial, _, _, cc, trivial, _, _, c_padd plc.1 hl, ?_⟩
    refine ih c _ _ (L ++ [fun w => hsu I w m Hn]) (plL_add plc w4 hl (fun w hw => ?_) ⟨m, by omega, rfl⟩) (by rw [List.length_append]; simp; omega) (fun v => ?_) (fun q q1 q2 q3 q4 q5 q6 q7 => by rw [paI_f q1 q2 q3, p2 q q7, fbq q q1 q2 q3 q4 q5 q6 q7]) (fun q hq => by rw [up_c hq]; exact h5 q hq)
    · rw [p1 w hw, p2 4 (by decide), fb 36 (by decide) (by decide), show 0 + w = w by omega, a1 w hw]
    · rw [List.mem_append, List.mem_singleton, h3]
      constructor
      · rintro (⟨m', q1, q2, q3⟩ | rfl)
        · exact ⟨m', by omega, q2, q3⟩
        · exact ⟨m, by omega, ok, rfl⟩
      · rintro ⟨m', q1, q2, q3⟩
        by_cases e : m' = m
        · subst e; exact Or.inr q3
        · exact Or.inl ⟨m', by omega, q2, q3⟩
  · refine ih c Ib Jb L plb (by omega) (fun v => ?_) fbq h5
    rw [h3]
    constructor
    · rintro ⟨m', q1, q2, q3⟩
      exact ⟨m', by omega, q2, q3⟩
    · rintro ⟨m', q1, q2, q3⟩
      by_cases e : m' = m
      · subst e; exact absurd q2 no
      · exact ⟨m', by omega, q2, q3⟩
end S98
end
section
/-! the reference says of a set whether the tests hold, and gathers the sets -/
theorem lZ_z {z : Int} (h1 : -2 ^ 62 < z) (h2 : z < 2 ^ 62) : lZ z = 0 ↔ z = 0 := by
  constructor
  · intro h
    have := congrArg Int64.toInt h
    rw [lZ_toInt h1 h2] at this
    exact this
  · rintro rfl; rfl
theorem n1_neg {n : Nat} : nI (n + 1) + -1 = nI n := by
  rw [← Int32.sub_eq_add_neg]
  exact n1_sub
section S98b
variable {D b W Rn Hn Un m : Nat} {A : Nat → List (Nat × Nat)} {hs : Nat → Nat} {I I1 : Nat → Nat → Int32} {J : Nat → Nat → Int64} {mo : Nat → Int32}
theorem r_over {a c : Int} (a1 : -1000000000 ≤ a) (a2 : a ≤ 1000000000) (c1 : -1000000000 ≤ c) (c2 : c ≤ 1000000000) : C2 (D + 1) 82 [.long (lZ a), .long (lZ c)] I J (.long (lZ (twov 8 a c))) I J := by
  refine mj_mk (e82 _ _ ?_)
  by_cases h0 : c = 0
  · subst h0
    rw [if_pos (cmp0.mpr (show lZ 0 = 0 from rfl))]
    rfl
  have n0 : ¬ lZ c = 0 := fun z => h0 ((lZ_z (by omega) (by omega)).mp z)
  have ht := tdiv_rng (c := c) a1 a2
  have ed : lZ a / lZ c = lZ (a.tdiv c) := by
    apply Int64.toInt_inj.mp
    rw [Int64.toInt_div, lZ_toInt (by omega) (by omega), lZ_toInt (by omega) (by omega), lZ_toInt (by omega) (by omega)]
    exact Int.bmod_eq_of_le (by omega) (by omega)
  have hm : (a.tdiv c * c).natAbs ≤ a.natAbs := by
    rw [Int.natAbs_mul, Int.natAbs_tdiv]
    exact Nat.div_mul_le_self _ _
  have es : lZ (a.tdiv c) - 1 = lZ (a.tdiv c - 1) := lZ_sub _ 1
  have ev : twov 8 a c = Int.fdiv a c := if_neg h0
  have sa : (lg_cmp (lZ a) 0 < 0) ↔ a < 0 := by rw [cmp_lt.1, lZ_toInt (by omega) (by omega), show (0 : Int64).toInt = 0 by decide]
  have sc : (lg_cmp (lZ c) 0 < 0) ↔ c < 0 := by rw [cmp_lt.1, lZ_toInt (by omega) (by omega), show (0 : Int64).toInt = 0 by decide]
  rw [if_neg (fun z => n0 (cmp0.mp z)), ed, lZ_mul, lZ_sub, es, ev, fd_t h0]
  refine ⟨n0, n0, if_i (fun x => ?_) (fun x => ?_)⟩
  · rw [if_pos (Or.inl (by have := (lZ_z (by omega) (by omega)).mp (cmp0.mp x); omega))]
  · have x2 : ¬ a.tdiv c * c = a := fun q => x (cmp0.mpr (by rw [q, Int.sub_self]; rfl))
    refine if_i (fun y => if_i (fun z => ?_) (fun z => ?_)) (fun y => if_i (fun z => ?_) (fun z => ?_))
    · rw [if_pos (Or.inr ⟨fun _ => sc.mp z, fun _ => sa.mp y⟩)]
    · rw [if_neg (fun q => q.elim x2 fun q => z (sc.mpr (q.mp (sa.mp y))))]
    · rw [if_neg (fun q => q.elim x2 fun q => y (sa.mpr (q.mpr (sc.mp z))))]
    · rw [if_pos (Or.inr ⟨fun q => absurd (sa.mpr q) y, fun q => absurd (sc.mpr q) z⟩)]
theorem r_two {op : Nat} {a c : Int} (h5 : 5 ≤ op) (h15 : op ≤ 15) (ha : vok1 (decide (14 ≤ op)) a) (hc : vok1 (decide (14 ≤ op)) c) : C2 (D + 2) 80 [.int (nI op), .long (lZ a), .long (lZ c)] I J (.long (lZ (twov op a c))) I J := by
  obtain ⟨ha0, a1, a2⟩ := ha
  obtain ⟨hc0, c1, c2⟩ := hc
  have l1 : lg_cmp (lZ a) (lZ c) < 0 ↔ a < c := by rw [cmp_lt.1, lZ_toInt (by omega) (by omega), lZ_toInt (by omega) (by omega)]
  have l2 : lg_cmp (lZ a) (lZ c) ≤ 0 ↔ a ≤ c := by rw [cmp_lt.2, lZ_toInt (by omega) (by omega), lZ_toInt (by omega) (by omega)]
  have l3 : lg_cmp (lZ (a + c)) 0 ≤ 0 ↔ a + c ≤ 0 := by rw [cmp_lt.2, lZ_toInt (by omega) (by omega), show (0 : Int64).toInt = 0 by decide]
  match op, h5, h15, ha0, hc0 with
  | 5, _, _, _, _ =>
    refine mj_mk (e80 _ _ _ ?_)
    rw [if_pos (show nI 5 = 5 from rfl), lZ_add]
    exact ⟨trivial, _, _, _, r_held (by omega) (by omega), rfl⟩
  | 6, _, _, _, _ =>
    refine mj_mk (e80 _ _ _ ?_)
    rw [if_neg (show ¬ nI 6 = 5 by decide), if_pos (show nI 6 = 6 from rfl), lZ_sub]
    exact ⟨trivial, _, _, _, r_held (by omega) (by omega), rfl⟩
  | 7, _, _, _, _ =>
    refine mj_mk (e80 _ _ _ ?_)
    rw [if_neg (show ¬ nI 7 = 5 by decide), if_neg (show ¬ nI 7 = 6 by decide), if_pos (show nI 7 = 7 from rfl), lZ_mul]
    have hm : (a * c).natAbs ≤ 1000000000 * 1000000000 := by
      rw [Int.natAbs_mul]
      exact Nat.mul_le_mul (by omega) (by omega)
    exact ⟨trivial, _, _, _, r_held (by omega) (by omega), rfl⟩
  | 8, _, _, _, _ =>
    refine mj_mk (e80 _ _ _ ?_)
    rw [if_neg (show ¬ nI 8 = 5 by decide), if_neg (show ¬ nI 8 = 6 by decide), if_neg (show ¬ nI 8 = 7 by decide), if_pos (show nI 8 = 8 from rfl)]
    exact ⟨trivial, _, _, _, r_over a1 a2 c1 c2, rfl⟩
  | 9, _, _, _, _ =>
    refine mj_mk (e80 _ _ _ ?_)
    rw [if_neg (show ¬ nI 9 = 5 by decide), if_neg (show ¬ nI 9 = 6 by decide), if_neg (show ¬ nI 9 = 7 by decide), if_neg (show ¬ nI 9 = 8 by decide), if_pos (show nI 9 = 9 from rfl), show twov 9 a c = if a < c then a else c from rfl]
    refine if_i (fun y => ?_) (fun y => ?_)
    · rw [if_pos (l1.mp y)]
    · rw [if_neg (fun z => y (l1.mpr z))]
  | 10, _, _, _, _ =>
    refine mj_mk (e80 _ _ _ ?_)
    rw [if_neg (show ¬ nI 10 = 5 by decide), if_neg (show ¬ nI 10 = 6 by decide), if_neg (show ¬ nI 10 = 7 by decide), if_neg (show ¬ nI 10 = 8 by decide), if_neg (show ¬ nI 10 = 9 by decide), if_pos (show nI 10 = 10 from rfl), show twov 10 a c = if a < c then c else a from rfl]
    refine if_i (fun y => ?_) (fun y => ?_)
    · by_cases z : a < c
      · rw [if_pos z]
      · rw [if_neg z, show a = c by have := l2.mp y; omega]
    · rw [if_neg (fun z => y (l2.mpr (by omega)))]
  | 11, _, _, _, _ =>
    refine mj_mk (e80 _ _ _ ?_)
    rw [if_neg (show ¬ nI 11 = 5 by decide), if_neg (show ¬ nI 11 = 6 by decide), if_neg (show ¬ nI 11 = 7 by decide), if_neg (show ¬ nI 11 = 8 by decide), if_neg (show ¬ nI 11 = 9 by decide), if_neg (show ¬ nI 11 = 10 by decide), if_pos (show nI 11 = 11 from rfl)]
    refine if_i (fun y => ?_) (fun y => ?_)
    · have e : twov 11 a c = 1 := if_pos (l1.mp y)
      rw [e]; rfl
    · have e : twov 11 a c = 0 := if_neg (fun z => y (l1.mpr z))
      rw [e]; rfl
  | 12, _, _, _, _ =>
    refine mj_mk (e80 _ _ _ ?_)
    rw [if_neg (show ¬ nI 12 = 5 by decide), if_neg (show ¬ nI 12 = 6 by decide), if_neg (show ¬ nI 12 = 7 by decide), if_neg (show ¬ nI 12 = 8 by decide), if_neg (show ¬ nI 12 = 9 by decide), if_neg (show ¬ nI 12 = 10 by decide), if_neg (show ¬ nI 12 = 11 by decide), if_pos (show nI 12 = 12 from rfl)]
    refine if_i (fun y => ?_) (fun y => ?_)
    · have e : twov 12 a c = 0 := if_neg (by have := l2.mp y; omega)
      rw [e]; rfl
    · have e : twov 12 a c = 1 := if_pos (Classical.byContradiction fun z => y (l2.mpr (by omega)))
      rw [e]; rfl
  | 13, _, _, _, _ =>
    refine mj_mk (e80 _ _ _ ?_)
    rw [if_neg (show ¬ nI 13 = 5 by decide), if_neg (show ¬ nI 13 = 6 by decide), if_neg (show ¬ nI 13 = 7 by decide), if_neg (show ¬ nI 13 = 8 by decide), if_neg (show ¬ nI 13 = 9 by decide), if_neg (show ¬ nI 13 = 10 by decide), if_neg (show ¬ nI 13 = 11 by decide), if_neg (show ¬ nI 13 = 12 by decide), if_pos (show nI 13 = 13 from rfl)]
    refine if_i (fun y => ?_) (fun y => ?_)
    · have q := congrArg Int64.toInt (cmp0.mp y)
      rw [lZ_toInt (by omega) (by omega), lZ_toInt (by omega) (by omega)] at q
      have e : twov 13 a c = 1 := if_pos q
      rw [e]; rfl
    · have e : twov 13 a c = 0 := if_neg (fun z => y (cmp0.mpr (by rw [z])))
      rw [e]; rfl
  | 14, _, _, ha0, hc0 =>
    refine mj_mk (e80 _ _ _ ?_)
    rw [if_neg (show ¬ nI 14 = 5 by decide), if_neg (show ¬ nI 14 = 6 by decide), if_neg (show ¬ nI 14 = 7 by decide), if_neg (show ¬ nI 14 = 8 by decide), if_neg (show ¬ nI 14 = 9 by decide), if_neg (show ¬ nI 14 = 10 by decide), if_neg (show ¬ nI 14 = 11 by decide), if_neg (show ¬ nI 14 = 12 by decide), if_neg (show ¬ nI 14 = 13 by decide), if_pos (show nI 14 = 14 from rfl), lZ_mul]
    have e : twov 14 a c = a * c := by
      show (if a ≠ 0 ∧ c ≠ 0 then 1 else 0) = a * c
      rcases ha0 rfl with rfl | rfl <;> rcases hc0 rfl with rfl | rfl <;> decide
    rw [e]
  | 15, _, _, ha0, hc0 =>
    refine mj_mk (e80 _ _ _ ?_)
    rw [if_neg (show ¬ nI 15 = 5 by decide), if_neg (show ¬ nI 15 = 6 by decide), if_neg (show ¬ nI 15 = 7 by decide), if_neg (show ¬ nI 15 = 8 by decide), if_neg (show ¬ nI 15 = 9 by decide), if_neg (show ¬ nI 15 = 10 by decide), if_neg (show ¬ nI 15 = 11 by decide), if_neg (show ¬ nI 15 = 12 by decide), if_neg (show ¬ nI 15 = 13 by decide), if_neg (show ¬ nI 15 = 14 by decide), lZ_add]
    have va := ha0 rfl
    have vc := hc0 rfl
    refine if_i (fun y => ?_) (fun y => ?_)
    · have e : twov 15 a c = 0 := if_neg (by have := l3.mp y; omega)
      rw [e]; rfl
    · have e : twov 15 a c = 1 := if_pos (by have : ¬ a + c ≤ 0 := fun z => y (l3.mpr z); omega)
      rw [e]; rfl
/-- the things of the reference's Tale, by the class' -/
def thr (b W Hn : Nat) (I1 I : Nat → Nat → Int32) : Prop := W ≤ 4 ∧ Hn ≤ 12 ∧ I 0 12 = nI b ∧ b < 2 ∧ I 6 b = nI Hn ∧ ∀ k, k < Hn → ∀ w, w < W → ∃ x, x ≤ 9999 ∧ I1 5 (640 + 4 * k + w) = nI x ∧ I 18 (4 * (12 * b + k) + w) = nI x
theorem r_setHas (ht : thr b W Hn I1 I) (h56 : I 0 56 = nI m) (hm : m < 4096) {w : Nat} (hw : w < W) : C2 (D + 1) 79 [.ref 0, .int (nI w)] I J (.int (nI (hsu I1 w m Hn))) I J := by
  obtain ⟨w4, n12, hb, hb2, h6, hA⟩ := ht
  refine mj_mk (e79 _ ?_)
  have lp := lp_up (n := Hn) (fun k => E2 79 D (fun x => x = (.int (nI (hsu I1 w m Hn)), (I, J, mj_R2))) 4 [(0, .ref 0), (1, .int (nI w)), (2, .int (nI (hsu I1 w m k))), (3, .int (nI k))] I J) (fun k hk ih => ?_) 0 (by omega)
  · exact lp
  refine mj_on (s79_4 _ _ _ ?_)
  rw [hb, nI_clamp (by omega), h6, h56]
  refine ⟨vp_in_nI hb2 (by decide), if_le (by omega) (by omega) (fun c => ?_) (fun c => ?_)⟩
  · obtain rfl : k = Hn := by omega
    rfl
  obtain ⟨x, hx, e1, e2⟩ := hA k c w hw
  have := ih c
  rw [hsu_s, e1, nI_clamp (by omega)] at this
  rw [hb_bit k (by omega) m hm, nI_1]
  refine if_i (fun e => ?_) (fun e => ?_)
  · have e1 : tbit m k = 1 := by
      rcases tbit_01 m k with q | q
      · rw [q] at e; exact absurd e (by decide)
      · exact q
    rw [e1, Nat.one_mul] at this
    rw [show (12 : Int32) = nI 12 from rfl, show (4 : Int32) = nI 4 from rfl, pk_mul, nI_add, pk_mul, nI_add, nI_clamp (by omega), e2, nI_add]
    exact ⟨vp_in_nI (by omega) (by decide), this⟩
  · have e0 : tbit m k = 0 := by
      rcases tbit_01 m k with q | q
      · exact q
      · rw [q] at e; exact absurd rfl e
    rw [e0, Nat.zero_mul] at this
    rw [show (0 : Int32) = nI 0 from rfl, nI_add]
    exact this
theorem r_leaf (hm : m < 4096) (h56 : I 0 56 = nI m) (hh : ∀ w, w < W → hs w ≤ 200000) (h79 : ∀ w, w < W → C2 (D + 1) 79 [.ref 0, .int (nI w)] I J (.int (nI (hs w))) I J) {op v : Nat} (h1 : op ≤ 4) (hH : Hn ≤ 12) (hc : (op = 0 → v ≤ 9999) ∧ (op = 2 → v < W) ∧ (op = 4 → v < Hn) ∧ (op = 1 ∨ op = 3 → v = 0)) : C2 (D + 2) 78 [.ref 0, .int (nI op), .int (nI v)] I J (.long (lZ (leafv hs m op v))) I J := by
  obtain ⟨q1, q2, q3, q4⟩ := hc
  have il : ∀ n : Nat, n < 2 ^ 31 → (nI n).toInt64 = lZ (n : Nat) := fun n hn => iI_lZ (z := (n : Nat)) (by omega) (by omega)
  match op, h1 with
  | 0, _ =>
    refine mj_mk (e78 _ _ ?_)
    rw [if_pos (show nI 0 = 0 from rfl), il v (by have := q1 rfl; omega)]
    rfl
  | 1, _ =>
    refine mj_mk (e78 _ _ ?_)
    rw [if_neg (show ¬ nI 1 = 0 by decide), if_pos (show nI 1 = 1 from rfl), h56, n_long m hm]
    refine ⟨trivial, _, _, _, r_bits, ?_⟩
    have := pcn_le 12 m
    rw [pcL_lN (by omega), pcn_big 12 52 m (by omega), il _ (by omega)]
    rfl
  | 2, _ =>
    refine mj_mk (e78 _ _ ?_)
    rw [if_neg (show ¬ nI 2 = 0 by decide), if_neg (show ¬ nI 2 = 1 by decide), if_pos (show nI 2 = 2 from rfl)]
    refine ⟨trivial, _, _, _, h79 v (q2 rfl), ?_⟩
    have := hh v (q2 rfl)
    rw [il _ (by omega)]
    rfl
  | 3, _ =>
    refine mj_mk (e78 _ _ ?_)
    rw [if_neg (show ¬ nI 3 = 0 by decide), if_neg (show ¬ nI 3 = 1 by decide), if_neg (show ¬ nI 3 = 2 by decide), if_pos (show nI 3 = 3 from rfl)]
    rfl
  | 4, _ =>
    refine mj_mk (e78 _ _ ?_)
    have := q3 rfl
    rw [if_neg (show ¬ nI 4 = 0 by decide), if_neg (show ¬ nI 4 = 1 by decide), if_neg (show ¬ nI 4 = 2 by decide), if_neg (show ¬ nI 4 = 3 by decide), h56, hb_bit v (by omega) m hm, il _ (by rcases tbit_01 m v with q | q <;> omega)]
    rfl
def jrt (J : Nat → Nat → Int64) : List Int → Prop
  | [] => True
  | v :: r => J 36 r.length = lZ v ∧ jrt J r
theorem jrt_cg {J J' : Nat → Nat → Int64} : ∀ {vs : List Int}, jrt J vs → (∀ k, k < vs.length → J' 36 k = J 36 k) → jrt J' vs
  | [], _, _ => trivial
  | v :: r, h, e => ⟨by rw [e _ (by simp)]; exact h.1, jrt_cg h.2 fun k hk => e k (by simp; omega)⟩
theorem r_works {f : Nat} {a : List (Nat × Nat)} (hb : I 0 12 = nI b) (hb2 : b < 2) (hm : m < 4096) (h56 : I 0 56 = nI m) (hH : Hn ≤ 12) (hh : ∀ w, w < W → hs w ≤ 200000) (h79 : ∀ J w, w < W → C2 (D + 1) 79 [.ref 0, .int (nI w)] I J (.int (nI (hs w))) I J) (hl : f + a.length ≤ 900) (hcd : cdR I (900 * b + f) a) (hty : tyc 950 W Hn a [] = some [true]) : ∃ r I' J', C2 (D + 3) 77 [.ref 0, .int (nI f), .int (nI (f + a.length))] I J (.long r) I' J' ∧ (∃ v, ev hs m a [] = [v] ∧ (v = 0 ∨ v = 1) ∧ r = lZ v) ∧ I' = I ∧ ∀ q, q ≠ 36 → J' q = J q := by
  refine mj_cL (e77 _ _ ?_)
  obtain ⟨Q, hQ⟩ : ∃ Q, Q = qL mj_R2 (fun r I' J' => (∃ v, ev hs m a [] = [v] ∧ (v = 0 ∨ v = 1) ∧ r = lZ v) ∧ I' = I ∧ ∀ q, q ≠ 36 → J' q = J q) := ⟨_, rfl⟩
  rw [← hQ, hb, show (900 : Int32) = nI 900 from rfl, pk_mul, nI_add]
  have inner : ∀ (rest : List (Nat × Nat)) (k : Nat) (st : List Bool) (vs : List Int) (J1 : Nat → Nat → Int64), k + rest.length = a.length → a.drop k = rest → tyc 950 W Hn rest st = some [true] → vok st vs → jrt J1 vs → vs.length ≤ 950 → (∀ q, q ≠ 36 → J1 q = J q) → ev hs m rest vs = ev hs m a [] → E2 77 (D + 2) Q 14 [(0, .ref 0), (2, .int (nI (f + a.length))), (3, .int (nI vs.length)), (4, .int (nI (900 * b + f + k)))] I J1 := by
    intro rest
    induction rest with
    | nil =>
      intro k st vs J1 hk hd ht hv hj hvl hf he
      have hk : k = a.length := by simpa using hk
      unfold tyc at ht
      cases ht
      obtain ⟨v, rfl, hv2⟩ := vok_one hv
      refine mj_on (s77_14 _ _ _ ?_)
      rw [hb, show (900 : Int32) = nI 900 from rfl, pk_mul, nI_add]
      refine if_le (by omega) (by omega) (fun _ => ?_) (fun z => absurd z (by omega))
      rw [show ((0 : Int32)).toNatClampNeg = 0 from rfl, hQ]
      exact ⟨vp_in_nI (n := 0) (by decide) (by decide), _, _, _, rfl, ⟨v, he.symm, hv2, hj.1⟩, rfl, hf⟩
    | cons x rest ihr =>
      intro k st vs J1 hk hd ht hv hj hvl hf he
      have hk2 : k + (rest.length + 1) = a.length := hk
      obtain ⟨st', w1, w2, w3⟩ := tyc_cons ht
      have hx : a[k]? = some x := by
        have : (a.drop k)[0]? = some x := by rw [hd]; rfl
        rw [List.getElem?_drop] at this
        exact this
      obtain ⟨x1, x2⟩ := hcd k x hx
      have hdr : a.drop (k + 1) = rest := by rw [← List.drop_drop, hd]; rfl
      have hv' := tys1_ok (m := m) hh w1 hv
      have hl' := vok_len hv'
      have next := fun J2 (hj2 : jrt J2 (ev1 hs m vs x)) hf2 => ihr (k + 1) st' (ev1 hs m vs x) J2 (by omega) hdr w3 hv' hj2 (by omega) hf2 (by rw [← he]; rfl)
      refine mj_on (s77_14 _ _ _ ?_)
      rw [hb, show (900 : Int32) = nI 900 from rfl, pk_mul, nI_add]
      refine if_le (by omega) (by omega) (fun z => absurd z (by omega)) (fun _ => ?_)
      rw [nI_clamp (by omega), x1, x2, show (4 : Int32) = nI 4 from rfl]
      refine ⟨vp_in_nI (by omega) (by decide), ?_⟩
      have hlen := vok_len hv
      rcases tys1_inv w1 with ⟨h1, h2, rfl⟩ | ⟨h1, h2, r, rfl, rfl⟩ | ⟨h1, h2, h3, r, rfl, rfl⟩
      · have ee : ev1 hs m vs x = leafv hs m x.1 x.2 :: vs := by unfold ev1; rw [if_pos h1]
        rw [ee] at next
        refine if_lt (by decide) (by omega) (fun z => absurd z (by omega)) (fun _ => ?_)
        have hn : vs.length < 950 := by
          have : st.length + 1 ≤ 950 := w2
          omega
        refine ⟨vp_in_nI (by omega) (by decide), trivial, _, _, _, r_leaf hm h56 hh (fun w hw => h79 J1 w hw) h1 hH h2, vp_in_nI hn (by decide), ?_⟩
        rw [nI_clamp (by omega), nI_1, nI_1]
        exact next _ ⟨up_s, jrt_cg hj fun k hk => by rw [up_j (by omega)]⟩ (fun q hq => by rw [up_c hq]; exact hf q hq)
      · match vs, hv, hj, hvl, next with
        | v :: vs, hv, hj, hvl, next =>
          have hvl : vs.length + 1 ≤ 950 := hvl
          have ee : ev1 hs m (v :: vs) x = (1 - v) :: vs := by unfold ev1; rw [if_neg (by omega), if_pos h1]
          rw [ee] at next
          rw [h1]
          refine if_lt (by decide) (by decide) (fun _ => ?_) (fun z => absurd z (by decide))
          rw [if_pos (show nI 16 = 16 from rfl), show (v :: vs).length = vs.length + 1 from rfl, n1_sub, nI_clamp (by omega), hj.1, show (1 : Int64) - lZ v = lZ (1 - v) from lZ_sub 1 v, nI_1]
          exact ⟨vp_in_nI (by omega) (by decide), vp_in_nI (by omega) (by decide), next _ ⟨up_s, jrt_cg hj.2 fun k hk => by rw [up_j (by omega)]⟩ (fun q hq => by rw [up_c hq]; exact hf q hq)⟩
      · match vs, hv, hj, hvl, next with
        | y :: z :: vs, hv, hj, hvl, next =>
          have hvl : vs.length + 2 ≤ 950 := hvl
          have ee : ev1 hs m (y :: z :: vs) x = twov x.1 z y :: vs := by unfold ev1; rw [if_neg (by omega), if_neg (by omega)]
          rw [ee] at next
          obtain ⟨v1, v2, -⟩ := hv
          obtain ⟨j1, j2, j3⟩ := hj
          refine if_lt (by decide) (by omega) (fun _ => ?_) (fun q => absurd q (by omega))
          rw [if_neg (show ¬ nI x.1 = 16 from fun q => by have := (nI_eq (a := x.1) (b := 16) (by omega) (by decide)).mp q; omega)]
          rw [show (y :: z :: vs).length = vs.length + 1 + 1 from rfl, n1_neg, n1_sub, nI_clamp (by omega), nI_clamp (by omega), show J1 36 (vs.length + 1) = lZ y from j1, j2, nI_1]
          exact ⟨vp_in_nI (by omega) (by decide), vp_in_nI (by omega) (by decide), trivial, _, _, _, r_two h1 h2 v2 v1, vp_in_nI (by omega) (by decide), next _ ⟨up_s, jrt_cg j3 fun k hk => by rw [up_j (by omega)]⟩ (fun q hq => by rw [up_c hq]; exact hf q hq)⟩
  have := inner a 0 [] [] J (by omega) rfl hty trivial trivial (by decide) (fun _ _ => rfl) rfl
  exact this
def ruR (I : Nat → Nat → Int32) (b W Hn Un : Nat) (A : Nat → List (Nat × Nat)) : Prop := ∀ u, u < Un → ∃ f, I 19 (12 * b + u) = nI f ∧ I 20 (12 * b + u) = nI (f + (A u).length) ∧ f + (A u).length ≤ 900 ∧ cdR I (900 * b + f) (A u) ∧ tyc 950 W Hn (A u) [] = some [true]
def sfr (I I' : Nat → Nat → Int32) : Prop := ∀ q j, q ≠ 29 → q ≠ 30 → q ≠ 31 → q ≠ 32 → (q ≠ 0 ∨ (j ≠ 48 ∧ j ≠ 56)) → I' q j = I q j
theorem sfr_tr {I I' I'' : Nat → Nat → Int32} (h : sfr I I') (h' : sfr I' I'') : sfr I I'' := fun q j q1 q2 q3 q4 q5 => by rw [h' q j q1 q2 q3 q4 q5, h q j q1 q2 q3 q4 q5]
theorem sfr_c {I I' : Nat → Nat → Int32} (h : sfr I I') (q : Nat) (h1 : 1 ≤ q) (h2 : q < 29) : I' q = I q := by
  funext j
  exact h q j (by omega) (by omega) (by omega) (by omega) (by omega)
theorem thr_cg {I' : Nat → Nat → Int32} (h : thr b W Hn I1 I) (e : sfr I I') : thr b W Hn I1 I' := by
  unfold thr at h ⊢
  rw [e 0 12 (by decide) (by decide) (by decide) (by decide) (by decide), sfr_c e 6 (by decide) (by decide), sfr_c e 18 (by decide) (by decide)]
  exact h
theorem r_sets (hB : rB I b W Rn) (ht : thr b W Hn I1 I) (hq : thq W Hn I1) (hU : I 7 b = nI Un) (hU2 : Un ≤ 12) (hA : ruR I b W Hn Un A) (hmo : ∀ w, w < W → I 9 (4 * b + w) = mo w) (h48 : I 0 48 = nI 0) : ∃ I' J', C2 (D + 5) 76 [.ref 0] I J .null I' J' ∧ (∃ R, gaL W (fun _ => True) R I' ∧ mnR W (rS mo (aA I1 Hn Un A (2 ^ Hn))) R) ∧ sfr I I' ∧ ∀ q, q ≠ 36 → J' q = J q := by
  obtain ⟨w4, n12, hb, hb2, h6, hTh⟩ := id ht
  have hp : (2 : Nat) ^ Hn ≤ 4096 := Nat.le_trans (Nat.pow_le_pow_right (by decide) n12) (by decide)
  refine mj_cN (e76 ?_)
  obtain ⟨Q, hQ⟩ : ∃ Q, Q = qN mj_R2 (fun I' J' => (∃ R, gaL W (fun _ => True) R I' ∧ mnR W (rS mo (aA I1 Hn Un A (2 ^ Hn))) R) ∧ sfr I I' ∧ ∀ q, q ≠ 36 → J' q = J q) := ⟨_, rfl⟩
  rw [← hQ]
  have lp := lp_up (n := 2 ^ Hn) (fun m => ∀ I0 J0 R, gaL W (fun _ => True) R I0 → mnR W (rS mo (aA I1 Hn Un A m)) R → sfr I I0 → (∀ q, q ≠ 36 → J0 q = J q) → E2 76 (D + 4) Q 2 [(0, .ref 0), (1, .int (nI m))] I0 J0) (fun m hm ih I0 J0 R h1 h2 h3 h4 => ?_) 0 (Nat.zero_le _) I J [] ⟨h48, fun k r hk => by simp at hk⟩ ⟨fun r hr => absurd hr List.not_mem_nil, List.Pairwise.nil, fun f ⟨v, ⟨m, q, _⟩, _⟩ => absurd q (by omega)⟩ (fun _ _ _ _ _ _ _ => rfl) (fun _ _ => rfl)
  · exact lp
  have b12 : I0 0 12 = nI b := by rw [h3 0 12 (by decide) (by decide) (by decide) (by decide) (by decide)]; exact hb
  refine mj_on (s76_2 _ ?_)
  rw [b12, nI_clamp (by omega), sfr_c h3 6 (by decide) (by decide), h6, sh_p2 Hn (by omega)]
  refine ⟨vp_in_nI hb2 (by decide), if_le (by omega) (by omega) (fun c => ?_) (fun c => ?_)⟩
  · obtain rfl : m = 2 ^ Hn := by omega
    rw [hQ]
    exact ⟨_, _, rfl, ⟨R, h1, h2⟩, h3, h4⟩
  have hm4 : m < 4096 := by omega
  have hRl : R.length < 8191 := by
    have := mnR_len (L := (List.range m).map fun m' => rho mo (fun w => hsu I1 w m' Hn)) h2 (fun f ⟨v, ⟨m', q1, _, q2⟩, q3⟩ => by rw [q3, q2]; exact List.mem_map.mpr ⟨m', List.mem_range.mpr q1, rfl⟩)
    rw [List.length_map, List.length_range] at this
    omega
  obtain ⟨Ia, hIa⟩ : ∃ Ia, Ia = mj_up I0 0 56 (nI m) := ⟨_, rfl⟩
  rw [← hIa]
  have fa : sfr I Ia := sfr_tr h3 fun q j q1 q2 q3 q4 q5 => by rw [hIa, up_n (by omega)]
  have a56 : Ia 0 56 = nI m := by rw [hIa, up_s]
  have ga : gaL W (fun _ => True) R Ia := gaL_cg h1 (by rw [hIa, up_j (by decide)]) (by rw [hIa, up_c (by decide)]) (by rw [hIa, up_c (by decide)])
  have ta := thr_cg ht fa
  obtain ⟨ok, hok⟩ : ∃ ok : Nat → Prop, ok = fun u => ev (hsf I1 Hn m) m (A u) [] = [1] := ⟨_, rfl⟩
  have hh : ∀ w, w < W → hsf I1 Hn m w ≤ 200000 := fun w hw => by have := hsu_le (m := m) hq hw Hn (Nat.le_refl _); show hsu I1 w m Hn ≤ 200000; omega
  have ab12 : Ia 0 12 = nI b := ta.2.2.1
  -- not all tests hold
  have end0 : ∀ J1, (∀ q, q ≠ 36 → J1 q = J q) → (∃ u, u < Un ∧ ¬ ok u) → E2 76 (D + 4) Q 92 [(0, .ref 0), (1, .int (nI m)), (2, .int 0)] Ia J1 := fun J1 k1 k2 => by
    refine mj_on (s76_92 _ _ ?_)
    rw [if_pos rfl, nI_1]
    refine ih c Ia J1 R ga (mnR_cg h2 fun f => ?_) fa k1
    obtain ⟨u, hu, hno⟩ := k2
    rw [hok] at hno
    constructor
    · rintro ⟨v, ⟨m', q1, q2⟩, q3⟩
      exact ⟨v, ⟨m', by omega, q2⟩, q3⟩
    · rintro ⟨v, ⟨m', q1, q2, q4⟩, q3⟩
      by_cases e : m' = m
      · subst e; exact absurd (q2 u hu) hno
      · exact ⟨v, ⟨m', by omega, q2, q4⟩, q3⟩
  -- all hold
  have end1 : ∀ J1, (∀ q, q ≠ 36 → J1 q = J q) → (∀ u, u < Un → ok u) → E2 76 (D + 4) Q 92 [(0, .ref 0), (1, .int (nI m)), (2, .int 1)] Ia J1 := fun J1 k1 k2 => by
    refine mj_on (s76_92 _ _ ?_)
    rw [if_neg (by decide)]
    obtain ⟨v, hv⟩ : ∃ v : Nat → Nat, v = fun w => hsu I1 w m Hn := ⟨_, rfl⟩
    have lp3 := lp_up (n := W) (fun w => ∀ I3, (∀ q, q ≠ 32 → I3 q = Ia q) → (∀ u, u < w → I3 32 u = rho mo v u) → E2 76 (D + 4) Q 101 [(0, .ref 0), (1, .int (nI m)), (3, .int (nI w))] I3 J1) (fun w hw ih3 I3 g1 g2 => ?_) 0 (by omega) Ia (fun _ _ => rfl) (fun u hu => by omega)
    · exact lp3
    have f3 : sfr I I3 := sfr_tr fa fun q j q1 q2 q3 q4 q5 => by rw [g1 q q4]
    have hB3 : rB I3 b W Rn := by
      unfold rB at hB ⊢
      rw [f3 0 12 (by decide) (by decide) (by decide) (by decide) (by decide), sfr_c f3 2 (by decide) (by decide), sfr_c f3 3 (by decide) (by decide)]
      exact hB
    refine mj_on (s76_101 _ _ ?_)
    rw [g1 0 (by decide), ab12, nI_clamp (by omega), hB3.2.2.1]
    refine ⟨vp_in_nI hb2 (by decide), if_le (by omega) (by omega) (fun d => ?_) (fun d => ?_)⟩
    · obtain rfl : w = W := by omega
      obtain ⟨I4, J4, c4, rfl, o1, o2⟩ := r_gathers (D := D + 2) (J := J1) (v := rho mo v) (x := m) (Wb := fun _ => True) hB3 (gaL_cg ga (by rw [g1 0 (by decide)]) (g1 29 (by decide)) (g1 30 (by decide))) g2 hRl trivial
      rw [nI_1]
      refine ⟨trivial, _, _, c4, ih c I4 J4 _ o1 (mnR_cg (mnR_gth h2) fun f => ?_) (sfr_tr f3 fun q j q1 q2 q3 q4 q5 => o2 q j q1 q2 q3 (by omega)) k1⟩
      constructor
      · rintro (⟨v', ⟨m', q1, q2⟩, q3⟩ | rfl)
        · exact ⟨v', ⟨m', by omega, q2⟩, q3⟩
        · exact ⟨v, ⟨m, by omega, fun u hu => by have := k2 u hu; rw [hok] at this; exact this, hv⟩, rfl⟩
      · rintro ⟨v', ⟨m', q1, q2, q4⟩, q3⟩
        by_cases e : m' = m
        · subst e
          right
          rw [q3, q4, hv]
        · exact Or.inl ⟨v', ⟨m', by omega, q2, q4⟩, q3⟩
    · refine ⟨trivial, _, _, _, r_setHas (D := D + 3) (thr_cg ht f3) (by rw [g1 0 (by decide)]; exact a56) hm4 d, trivial, _, _, _, r_lossOf hB3 d, vp_in_nI (by omega) (by decide), ?_⟩
      rw [nI_clamp (by omega), nI_1, sfr_c f3 9 (by decide) (by decide), hmo w d]
      refine ih3 d _ (fun q hq => by rw [up_c hq]; exact g1 q hq) (fun u hu => ?_)
      by_cases z : u = w
      · subst z
        rw [up_s, hv]
        rfl
      · rw [up_j z]; exact g2 u (by omega)
  have lp2 := lp_up (n := Un) (fun u => ∀ J1 (fl : Int32), (∀ q, q ≠ 36 → J1 q = J q) → ((fl = 1 ∧ ∀ v, v < u → ok v) ∨ (fl = 0 ∧ ∃ v, v < Un ∧ ¬ ok v)) → E2 76 (D + 4) Q 26 [(0, .ref 0), (1, .int (nI m)), (2, .int fl), (3, .int (nI u))] Ia J1) (fun u hu ih2 J1 fl k1 k2 => ?_) 0 (by omega) J0 1 h4 (Or.inl ⟨rfl, fun v hv => by omega⟩)
  · exact lp2
  refine mj_on (s76_26 _ _ _ ?_)
  rw [ab12, nI_clamp (by omega), sfr_c fa 7 (by decide) (by decide), hU]
  refine ⟨vp_in_nI hb2 (by decide), if_le (by omega) (by omega) (fun d => ?_) (fun d => ?_)⟩
  · obtain rfl : u = Un := by omega
    rcases k2 with ⟨rfl, k2⟩ | ⟨rfl, k2⟩
    · exact end1 J1 k1 k2
    · exact end0 J1 k1 k2
  rcases k2 with ⟨rfl, k2⟩ | ⟨rfl, k2⟩
  · obtain ⟨f, z1, z2, z3, z4, z5⟩ := hA u d
    rw [if_neg (by decide), show (12 : Int32) = nI 12 from rfl, pk_mul, nI_add, nI_clamp (by omega), sfr_c fa 19 (by decide) (by decide), sfr_c fa 20 (by decide) (by decide), z1, z2, nI_1]
    obtain ⟨r, Ib, Jb, cb, ⟨v, v1, v2, rfl⟩, rfl, fb⟩ := r_works (D := D + 1) (J := J1) (I := Ia) (a := A u) (f := f) (W := W) (Hn := Hn) (hs := hsf I1 Hn m) ab12 hb2 hm4 a56 n12 hh (fun J' w hw => r_setHas (D := D + 1) (J := J') ta a56 hm4 hw) z3 (by unfold cdR at z4 ⊢; rw [sfr_c fa 21 (by decide) (by decide), sfr_c fa 22 (by decide) (by decide)]; exact z4) z5
    refine ⟨vp_in_nI (by omega) (by decide), vp_in_nI (by omega) (by decide), trivial, _, _, _, cb, ?_⟩
    have k1b : ∀ q, q ≠ 36 → Jb q = J q := fun q hq => by rw [fb q hq, k1 q hq]
    rcases v2 with rfl | rfl
    · rw [if_neg (fun z => absurd (cmp0.mp z) (by decide))]
      refine ih2 d Jb 0 k1b (Or.inr ⟨rfl, u, d, ?_⟩)
      rw [hok]
      intro z
      have z : ev (hsf I1 Hn m) m (A u) [] = [1] := z
      rw [v1] at z
      exact absurd z (by decide)
    · rw [if_pos (cmp0.mpr (show lZ 1 = 1 from rfl))]
      refine ih2 d Jb 1 k1b (Or.inl ⟨rfl, fun v hv => ?_⟩)
      by_cases e : v = u
      · subst e; rw [hok]; exact v1
      · exact k2 v (by omega)
  · rw [if_pos rfl]
    exact end0 J1 k1 k2
end S98b
end
section
/-! front: sets, on both sides -/
theorem FR_cg {W n : Nat} {C : (Nat → Int32) → Nat → Prop} {F F' : Nat → Nat → Int32} {key : Nat → Nat} (h : FR W C n F key) (hC : ∀ f f' k, C f k → (∀ w, w < W → f w = f' w) → C f' k) (e : ∀ i, i < n → ∀ w, w < W → F i w = F' i w) : FR W C n F' key := by
  obtain ⟨h1, h2, h3, h4, h5⟩ := h
  refine ⟨fun i j hij hj => ?_, fun i hi => hC _ _ _ (h2 i hi) (e i hi), fun i hi f k hc hn w hw => ?_, fun i hi f k hc hf => ?_, fun f k hc => ?_⟩
  · obtain ⟨w, w1, w2, w3⟩ := h1 i j hij hj
    refine ⟨w, w1, by rw [← e i (by omega) w w1, ← e j hj w w1]; exact w2, fun u hu => ?_⟩
    rw [← e i (by omega) u (by omega), ← e j hj u (by omega)]
    exact w3 u hu
  · rw [← e i hi w hw]
    exact h3 i hi f k hc (fun u hu => by rw [e i hi u hu]; exact hn u hu) w hw
  · exact h4 i hi f k hc fun w hw => by rw [hf w hw, e i hi w hw]
  · obtain ⟨i, hi, q⟩ := h5 f k hc
    exact ⟨i, hi, fun w hw => by rw [← e i hi w hw]; exact q w hw⟩
theorem sC_cg {I I' : Nat → Nat → Int32} (h4 : I' 4 = I 4) (h5 : I' 5 = I 5) (h9 : I' 9 = I 9) (h10 : I' 10 = I 10) : sC I' = sC I := by
  have e1 : hsu I' = hsu I := hsu_cg h5
  have e2 : rb I' 10 = rb I 10 := by
    funext u
    cases u with
    | zero => rfl
    | succ u => show (I' 10 u).toNatClampNeg = (I 10 u).toNatClampNeg; rw [h10]
  have e3 : ruT I' = ruT I := by
    funext W Hn u m
    unfold ruT hsf cdC
    rw [e1, e2, h9, h10]
  funext W Hn Un f m
  unfold sC aT
  rw [e1, e3, h4]
section S98c
variable {D b W Rn Kn Tn Hn Un g : Nat} {I I1 I2 : Nat → Nat → Int32} {J J1 J2 : Nat → Nat → Int64}
theorem Rl.things (h : Rl b W Rn Kn Tn Hn Un g I1 J1 I2 J2) : thq W Hn I1 ∧ thr b W Hn I1 I2 := by
  obtain ⟨h1, ⟨n, -, -, -, t, -⟩, -⟩ := id h
  obtain ⟨a1, a2, a3, a4, a5, a6, b1, b2, b3, b4, b5, b6, c1, c2, c3, c4, c5, c6, c7⟩ := n
  refine ⟨⟨c2, c6, a1, a5, fun k hk w hw => ?_⟩, c2, c6, h1, c1, b5, fun k hk w hw => ?_⟩
  · obtain ⟨-, x, hx, e⟩ := t k hk w hw
    exact ⟨x, hx, e⟩
  · obtain ⟨e2, x, hx, e⟩ := t k hk w hw
    exact ⟨x, hx, e, e2.trans e⟩
theorem Rl.rules (h : Rl b W Rn Kn Tn Hn Un g I1 J1 I2 J2) : ∃ A1 A2 : Nat → List (Nat × Nat), ruA I1 W Hn Un A1 ∧ ruR I2 b W Hn Un A2 ∧ ∀ u, u < Un → ∀ hs m, ev hs m (A1 u) [] = ev hs m (A2 u) [] := by
  have t := h.2.1.2.2.2.2.2.2
  have key : ∀ u, ∃ p : List (Nat × Nat) × List (Nat × Nat), u < Un → ∃ f, sgB 64 950 W Hn p.1 p.2 ∧ I1 10 u = nI (rb I1 10 u + p.1.length) ∧ rb I1 10 u + p.1.length ≤ 900 ∧ cdC I1 9 (rb I1 10 u) p.1 ∧ I2 19 (12 * b + u) = nI f ∧ I2 20 (12 * b + u) = nI (f + p.2.length) ∧ f + p.2.length ≤ 900 ∧ cdR I2 (900 * b + f) p.2 := fun u => by
    by_cases c : u < Un
    · obtain ⟨f, a1, a2, q⟩ := t u c
      exact ⟨(a1, a2), fun _ => ⟨f, q⟩⟩
    · exact ⟨([], []), fun q => absurd q c⟩
  obtain ⟨p, hp⟩ := Classical.axiomOfChoice key
  refine ⟨fun u => (p u).1, fun u => (p u).2, fun u hu => ?_, fun u hu => ?_, fun u hu => ?_⟩
  · obtain ⟨f, ⟨s1, s2, s3⟩, q1, q2, q3, q4, q5, q6, q7⟩ := hp u hu
    exact ⟨s1, q1, q2, q3⟩
  · obtain ⟨f, ⟨s1, s2, s3⟩, q1, q2, q3, q4, q5, q6, q7⟩ := hp u hu
    exact ⟨f, q4, q5, q6, q7, s2⟩
  · obtain ⟨f, ⟨s1, s2, s3⟩, q⟩ := hp u hu
    exact s3
theorem aT_aA {A1 A2 : Nat → List (Nat × Nat)} (hW : W ≤ 4) (hH : Hn ≤ 12) (hA : ruA I1 W Hn Un A1) (he : ∀ u, u < Un → ∀ hs m, ev hs m (A1 u) [] = ev hs m (A2 u) []) (v : Nat → Nat) : (aA I1 Hn Un A1 (2 ^ Hn) v ↔ aT I1 W Hn Un v) ∧ (aA I1 Hn Un A2 (2 ^ Hn) v ↔ aT I1 W Hn Un v) := by
  have k1 : ∀ m u, u < Un → (ruT I1 W Hn u m ↔ ev (hsf I1 Hn m) m (A1 u) [] = [1]) := fun m u hu => ruA_ruT hW hH hA hu
  constructor
  · constructor
    · rintro ⟨m, q1, q2, q3⟩
      exact ⟨m, q1, fun u hu => (k1 m u hu).mpr (q2 u hu), q3⟩
    · rintro ⟨m, q1, q2, q3⟩
      exact ⟨m, q1, fun u hu => (k1 m u hu).mp (q2 u hu), q3⟩
  · constructor
    · rintro ⟨m, q1, q2, q3⟩
      exact ⟨m, q1, fun u hu => (k1 m u hu).mpr ((he u hu _ _).trans (q2 u hu)), q3⟩
    · rintro ⟨m, q1, q2, q3⟩
      exact ⟨m, q1, fun u hu => (he u hu _ _).symm.trans ((k1 m u hu).mp (q2 u hu)), q3⟩
theorem al_front2 {x2 x3 : Int32} (h : Rl b W Rn Kn Tn Hn Un g I1 J1 I2 J2) (hW : W ≠ 0) : AI 203 70 [.int (nI 2), .int x2, .int x3] I1 J1 I2 J2 (Rl b W Rn Kn Tn Hn Un g) := by
  obtain ⟨a1, a2, a3, a4, a5, a6, b1, b2, b3, b4, b5, b6, c1, c2, c3, c4, c5, c6, c7⟩ := id h.N
  have a1 : I1 2 0 = nI W := a1
  have a6 : I1 2 5 = nI Un := a6
  have hB := h.rB
  obtain ⟨d1, d2, d3, d4, d5, d6⟩ := id hB
  have v0 : vp_in 0 6 := vp_in_nI (n := 0) (by decide) (by decide)
  have vb : vp_in (nI b) 2 := vp_in_nI d2 (by decide)
  have hW0 : ¬ nI W = 0 := nI_ne0 (by omega) (by omega)
  have n2 : ∀ {n : Nat}, n ≤ 100 → ¬ nI n = -2 := fun {n} hn z => by
    have := congrArg Int32.toInt z
    rw [nI_toInt (by omega)] at this
    have h2 : (-2 : Int32).toInt = -2 := by decide
    omega
  obtain ⟨tq, tr⟩ := h.things
  obtain ⟨A1, A2, rA1, rA2, rE⟩ := h.rules
  have hAA := aT_aA c2 c6 rA1 rE
  have hsC : ∀ I : Nat → Nat → Int32, sC I W Hn Un = cdT W (I 4) (aT I W Hn Un) := fun I => rfl
  have hCc : ∀ f f' k, sC I1 W Hn Un f k → (∀ w, w < W → f w = f' w) → sC I1 W Hn Un f' k := fun f f' k ⟨q1, v, q2, q3⟩ e => ⟨q1, v, q2, fun w hw => by rw [← e w hw]; exact q3 w hw⟩
  -- the class' sets
  have cla : ∃ (Ib : Nat → Nat → Int32) (Jb : Nat → Nat → Int64) (n : Nat) (F : Nat → Nat → Int32), FR W (sC I1 W Hn Un) n F (fun _ => 0) ∧ (∀ q j, q ≠ 29 → q ≠ 30 → q ≠ 32 → q ≠ 34 → q ≠ 35 → q ≠ 36 → q ≠ 37 → q ≠ 44 → q ≠ 45 → (q ≠ 0 ∨ j ≠ 9) → Ib q j = I1 q j) ∧ (∀ q, q ≠ 31 → q ≠ 46 → Jb q = J1 q) ∧ ((n ≤ 100 ∧ Ib 0 9 = nI n ∧ Ib 44 0 = nI 2 ∧ Ib 44 1 = nI n ∧ F = fun k w => Ib 45 (4 * k + w)) ∨ (100 < n ∧ Ib 0 9 = -2)) ∧
      ∀ Q : mj_R → Prop, E1 220 898 Q 40 [(0, .ref 0)] Ib Jb → mj_if (Nat.ble (mj_sz [.ref 0]) (mj_CD 220).2.2) (mj_sg mj_S1 (mj_CD 220) (mj_Cl mj_S1 mj_CD 898) Q (mj_Ev mj_S1 (mj_CD 220) (mj_Cl mj_S1 mj_CD 898) Q) 100 0 (mj_a0 0 [.ref 0]) [] (I1, J1, mj_R1)) := by
    rcases h.2.2.2.2.2.2.2.2.2.2.2.2 with z | ⟨z, n, F, z1, z2⟩ | ⟨n, z1, z, z2, z3, z4⟩
    · obtain ⟨Ia, Ja, ca, ⟨L, pa, hL⟩, fa, ga⟩ := c_gatherSets (D := 890) (J := J1) tq a6 c7 rA1
      have hL : ∀ v, v ∈ L ↔ aT I1 W Hn Un v := fun v => (hL v).trans (hAA v).1
      obtain ⟨K, pP, pO⟩ := plL_plP pa c2
      have e4 : Ia 4 = I1 4 := fa 4 (by decide) (by decide) (by decide) (by decide) (by decide) (by decide) (by decide)
      rw [e4] at pP
      obtain ⟨f, hf, hsrt, r, Ib, Jb, cb, fb, gb, kb, sb, tb⟩ := c_putF_a (D := 894) (kd := 2) pP pO
      have frc := fr_cla (T := aT I1 W Hn Un) (mo := I1 4) (cho_FR hf hsrt) (fun f' k hk => by
        obtain ⟨x, hx, e, -⟩ := hk
        exact ⟨L.getD x (fun _ => 0), (hL _).mp (List.mem_of_getElem? (by rw [List.getD_eq_getElem?_getD, List.getElem?_eq_getElem hx]; rfl)), e⟩) (fun v hv => by
        obtain ⟨x, hx⟩ := List.getElem?_of_mem ((hL v).mpr hv)
        have hxl := (List.getElem?_eq_some_iff.mp hx).1
        refine ⟨rho (I1 4) v, K x, ⟨x, hxl, fun w hw => ?_, rfl⟩, fun _ _ => rfl⟩
        show rho (I1 4) v w = rho (I1 4) (L.getD x (fun _ => 0)) w
        rw [List.getD_eq_getElem?_getD, hx]; rfl)
      obtain ⟨n, hn⟩ : ∃ n, n = (cho W (fun x => rho (I1 4) (L.getD x (fun _ => 0))) f L.length).length := ⟨_, rfl⟩
      rw [← hn] at frc sb tb
      have fr : ∀ q j, q ≠ 29 → q ≠ 30 → q ≠ 32 → q ≠ 34 → q ≠ 35 → q ≠ 36 → q ≠ 37 → q ≠ 44 → q ≠ 45 → (q ≠ 0 ∨ j ≠ 9) → mj_up Ib 0 9 r q j = I1 q j := fun q j q1 q2 q3 q4 q5 q6 q7 q8 q9 q0 => by rw [up_n q0, fb q q3 q8 q9, fa q q1 q2 q3 q4 q5 q6 q7]
      have go : ∀ Q : mj_R → Prop, E1 220 898 Q 40 [(0, .ref 0)] (mj_up Ib 0 9 r) Jb → mj_if (Nat.ble (mj_sz [.ref 0]) (mj_CD 220).2.2) (mj_sg mj_S1 (mj_CD 220) (mj_Cl mj_S1 mj_CD 898) Q (mj_Ev mj_S1 (mj_CD 220) (mj_Cl mj_S1 mj_CD 898) Q) 100 0 (mj_a0 0 [.ref 0]) [] (I1, J1, mj_R1)) := fun Q hh => by
        refine e220 ?_
        rw [if_pos z]
        exact ⟨trivial, _, _, ca, trivial, _, _, _, cb, hh⟩
      by_cases c : n ≤ 100
      · obtain ⟨er, s1, s2⟩ := sb c
        refine ⟨mj_up Ib 0 9 r, Jb, n, fun k w => mj_up Ib 0 9 r 45 (4 * k + w), FR_cg frc hCc (fun i hi w hw => ?_), fr, fun q q1 q2 => by rw [gb q q2, ga q q1], Or.inl ⟨c, by rw [up_s, er], by rw [up_c (by decide)]; exact kb, by rw [up_c (by decide), s1, hn], rfl⟩, go⟩
        have hi2 : i < (cho W (fun x => rho (I1 4) (L.getD x (fun _ => 0))) f L.length).length := by omega
        obtain ⟨x, hx1, hx2, -⟩ := gt_of hi2
        have ex : (cho W (fun x => rho (I1 4) (L.getD x (fun _ => 0))) f L.length).getD i 0 = x := by rw [List.getD_eq_getElem?_getD, hx1]; rfl
        show rho (I1 4) (L.getD ((cho W (fun x => rho (I1 4) (L.getD x (fun _ => 0))) f L.length).getD i 0) (fun _ => 0)) w = _
        rw [ex, up_c (by decide), (s2 i x hx1).1 w hw]
      · exact ⟨mj_up Ib 0 9 r, Jb, n, _, frc, fr, fun q q1 q2 => by rw [gb q q2, ga q q1], Or.inr ⟨by omega, by rw [up_s, tb (by omega)]⟩, go⟩
    · refine ⟨I1, J1, n, F, z2, fun _ _ _ _ _ _ _ _ _ _ _ _ => rfl, fun _ _ _ => rfl, Or.inr ⟨z1, z⟩, fun Q hh => e220 ?_⟩
      rw [if_neg (show ¬ I1 0 9 = -3 by rw [z]; decide)]
      exact hh
    · refine ⟨I1, J1, n, _, z4, fun _ _ _ _ _ _ _ _ _ _ _ _ => rfl, fun _ _ _ => rfl, Or.inl ⟨z1, z, z2, z3, rfl⟩, fun Q hh => e220 ?_⟩
      have n3 : ¬ I1 0 9 = -3 := fun q => by
        rw [z] at q
        have := congrArg Int32.toInt q
        rw [nI_toInt (by omega)] at this
        have h2 : (-3 : Int32).toInt = -3 := by decide
        omega
      rw [if_neg n3]
      exact hh
  obtain ⟨Ib, Jb, n, F, frF, fb, gb, alt, go⟩ := cla
  have top : ∀ (r : Int32) (I' : Nat → Nat → Int32) (J' : Nat → Nat → Int64), C1 899 220 [.ref 0] I1 J1 (.int r) I' J' → C1 900 203 [.ref 0, .int (nI 2), .int x2, .int x3] I1 J1 (.int r) I' J' := fun r I' J' hc => by
    refine mj_mk (D := 899) (e203 _ _ _ ?_)
    rw [if_neg (show ¬ nI 2 < 0 by decide), if_neg (show ¬ 2 < nI 2 by decide), show ((0 : Int32)).toNatClampNeg = 0 from rfl, a1, if_neg hW0, if_neg (show ¬ nI 2 = 0 by decide), if_neg (show ¬ nI 2 = 1 by decide)]
    exact ⟨v0, trivial, _, _, _, hc, rfl⟩
  -- the reference's
  obtain ⟨I2a, J2a, c2a, ⟨R, g1, m1⟩, w1, w2⟩ := r_sets (D := 894) (J := J2) (I := mj_up I2 0 48 (nI 0)) (b := b) (Rn := Rn) (mo := I1 4) (by
      unfold rB at hB ⊢
      rw [up_j (by decide), up_c (by decide), up_c (by decide)]
      exact hB) (thr_cg tr fun q j q1 q2 q3 q4 q5 => by rw [up_n (by omega)]) tq (by rw [up_c (by decide)]; exact b6) c7 (A := A2) (by
      intro u hu
      obtain ⟨f, z1, z2, z3, z4, z5⟩ := rA2 u hu
      refine ⟨f, by rw [up_c (by decide)]; exact z1, by rw [up_c (by decide)]; exact z2, z3, ?_, z5⟩
      unfold cdR at z4 ⊢
      rw [up_c (by decide), up_c (by decide)]
      exact z4) (fun w hw => by rw [up_c (by decide)]; exact (h.2.1.2.1 w hw).1) up_s
  have m2 : mnR W (rS (I1 4) (aT I1 W Hn Un)) R := mnR_cg m1 fun f => ⟨fun ⟨v, q1, q2⟩ => ⟨v, (hAA v).2.mp q1, q2⟩, fun ⟨v, q1, q2⟩ => ⟨v, (hAA v).2.mpr q1, q2⟩⟩
  have hu := unl_of m2
  obtain ⟨σ, hσ⟩ := rkk_at hu
  obtain ⟨e1, e2⟩ := FR_one frF (fr_ref m2 hσ)
  have wf2 : sfr I2 I2a := sfr_tr (fun q j q1 q2 q3 q4 q5 => by rw [up_n (by omega)]) w1
  have rf : ∀ {Q : mj_R → Prop}, mj_Ev mj_S2 (mj_CD 70) (mj_Cl mj_S2 mj_CD 899) Q 212 [(0, .ref 0), (1, .int (nI 2))] [] (I2a, J2a, mj_R2) → mj_if (Nat.ble (mj_sz [.ref 0, .int (nI 2), .int x2, .int x3]) (mj_CD 70).2.2) (mj_sg mj_S2 (mj_CD 70) (mj_Cl mj_S2 mj_CD 899) Q (mj_Ev mj_S2 (mj_CD 70) (mj_Cl mj_S2 mj_CD 899) Q) 100 0 (mj_a0 0 [.ref 0, .int (nI 2), .int x2, .int x3]) [] (I2, J2, mj_R2)) := fun {Q} hh => by
    refine e70 _ _ _ ?_
    refine ⟨trivial, _, _, _, r_is, if_tf (fun _ => ?_) (fun z => absurd ⟨by decide, by decide⟩ z)⟩
    rw [d1, nI_clamp (by omega), d3, if_neg hW0, if_neg (show ¬ nI 2 = 1 by decide)]
    refine ⟨vb, ?_⟩
    refine mj_on (s70_73 _ _ _ ?_)
    rw [if_neg (show ¬ nI 2 = 0 by decide)]
    refine mj_on (s70_192 _ _ _ ?_)
    rw [if_neg (show ¬ nI 2 = 1 by decide), if_pos (show nI 2 = 2 from rfl)]
    exact ⟨trivial, _, _, mj_Cl_le (by decide) c2a, hh⟩
  have hB2 : rB I2a b W Rn := by
    unfold rB at hB ⊢
    rw [wf2 0 12 (by decide) (by decide) (by decide) (by decide) (by decide), sfr_c wf2 2 (by decide) (by decide), sfr_c wf2 3 (by decide) (by decide)]
    exact hB
  have mI1 : ∀ (D : List Nat) (E : List (Nat × Nat)), D.elem 29 = true → D.elem 30 = true → D.elem 32 = true → D.elem 34 = true → D.elem 35 = true → D.elem 36 = true → D.elem 37 = true → D.elem 44 = true → D.elem 45 = true → E.elem (0, 9) = true → mkI D E Ib = mkI D E I1 := fun D E z1 z2 z3 z4 z5 z6 z7 z8 z9 z0 => mkI_of fun q j y1 y2 => by
    have ne : ∀ p, D.elem p = true → q ≠ p := fun p hp e => by rw [e, hp] at y1; cases y1
    refine fb q j (ne 29 z1) (ne 30 z2) (ne 32 z3) (ne 34 z4) (ne 35 z5) (ne 36 z6) (ne 37 z7) (ne 44 z8) (ne 45 z9) ?_
    by_cases e : q = 0
    · right
      intro e3
      rw [e, e3, z0] at y2
      cases y2
    · exact Or.inl e
  have mJ1 : ∀ (D : List Nat) (E : List (Nat × Nat)), D.elem 31 = true → D.elem 46 = true → mkJ D E Jb = mkJ D E J1 := fun D E z1 z2 => mkJ_of fun q j y1 y2 => by
    have ne : ∀ p, D.elem p = true → q ≠ p := fun p hp e => by rw [e, hp] at y1; cases y1
    rw [gb q (ne 31 z1) (ne 46 z2)]
  have mI2 : ∀ (D : List Nat) (E : List (Nat × Nat)), D.elem 29 = true → D.elem 30 = true → D.elem 31 = true → D.elem 32 = true → E.elem (0, 48) = true → E.elem (0, 56) = true → mkI D E I2a = mkI D E I2 := fun D E z1 z2 z3 z4 z5 z6 => mkI_of fun q j y1 y2 => by
    have ne : ∀ p, D.elem p = true → q ≠ p := fun p hp e => by rw [e, hp] at y1; cases y1
    refine wf2 q j (ne 29 z1) (ne 30 z2) (ne 31 z3) (ne 32 z4) ?_
    by_cases e : q = 0
    · right
      constructor
      · intro e3
        rw [e, e3, z5] at y2
        cases y2
      · intro e3
        rw [e, e3, z6] at y2
        cases y2
    · exact Or.inl e
  have mJ2 : ∀ (D : List Nat) (E : List (Nat × Nat)), D.elem 36 = true → mkJ D E J2a = mkJ D E J2 := fun D E z1 => mkJ_of fun q j y1 y2 => by
    rw [w2 q (fun z => by rw [z, z1] at y1; cases y1)]
  have fbq : ∀ q, q ≠ 0 → q ≠ 29 → q ≠ 30 → q ≠ 32 → q ≠ 34 → q ≠ 35 → q ≠ 36 → q ≠ 37 → q ≠ 44 → q ≠ 45 → Ib q = I1 q := fun q q0 q1 q2 q3 q4 q5 q6 q7 q8 q9 => by
    funext j
    exact fb q j q1 q2 q3 q4 q5 q6 q7 q8 q9 (Or.inl q0)
  have sCb : sC Ib = sC I1 := sC_cg (fbq 4 (by decide) (by decide) (by decide) (by decide) (by decide) (by decide) (by decide) (by decide) (by decide) (by decide)) (fbq 5 (by decide) (by decide) (by decide) (by decide) (by decide) (by decide) (by decide) (by decide) (by decide) (by decide)) (fbq 9 (by decide) (by decide) (by decide) (by decide) (by decide) (by decide) (by decide) (by decide) (by decide) (by decide)) (fbq 10 (by decide) (by decide) (by decide) (by decide) (by decide) (by decide) (by decide) (by decide) (by decide) (by decide))
  rcases alt with ⟨hc, s9, s0, s1, rfl⟩ | ⟨hc, s9⟩
  · obtain ⟨Ic, Jc, cc, o1, o2, o3, o4, o5, o6⟩ := c_copy_a (D := 896) (n := n) (I := Ib) (J := Jb) s1 hc
    have ic9 : Ic 0 9 = nI n := by rw [o1 0 9 (by decide) (fun z => absurd z (by decide))]; exact s9
    have k1 : C1 899 220 [.ref 0] I1 J1 (.int (nI n)) Ic Jc := by
      refine mj_mk (D := 898) (go _ ?_)
      refine mj_on (s220_40 ?_)
      rw [s9, if_neg (n2 hc)]
      refine ⟨trivial, _, _, cc, ?_⟩
      rw [ic9]
    have hRl : R.length ≤ 100 := by omega
    obtain ⟨r2, I2b, J2b, c2b, rr, p1, p2, p3⟩ := mj_cI (S := mj_S2) (CD := mj_CD) (R := mj_R2) (P := fun r I' J' => r = nI n ∧ J' = J2a ∧ (∀ k, k < n → (∀ w, w < W → I' 37 (4 * k + w) = rwR R (σ k) w) ∧ ∃ y, True ∧ I' 38 k = nI y) ∧ ∀ q, q ≠ 37 → q ≠ 38 → q ≠ 39 → I' q = mj_up (mj_up I2a 0 59 (nI 2)) 0 58 (nI n) q) (rf (by
      refine mj_on (s70_212 _ ?_)
      rw [g1.1, show (100 : Int32) = nI 100 from rfl, ← e1]
      refine if_le (by omega) (by decide) (fun _ => ?_) (fun z => absurd z (by omega))
      refine r_placeF (Wb := fun _ => True) (W := W) (b := b) (Rn := Rn) (D := 898) (R := R) (σ := σ) (kd := 2) ?_ ?_ hu hRl (by decide) (by decide) hσ (fun I' i1 i2 => ⟨_, _, _, rfl, by rw [e1], rfl, fun k hk => i1 k (by omega), i2⟩)
      · unfold rB at hB2 ⊢
        rw [up_j (by decide), up_j (by decide), up_c (by decide), up_c (by decide), up_c (by decide), up_c (by decide)]
        exact hB2
      · exact gaL_cg g1 (by rw [up_j (by decide), up_j (by decide)]) (by rw [up_c (by decide), up_c (by decide)]) (by rw [up_c (by decide), up_c (by decide)])))
    subst rr
    subst p1
    have lrow : ∀ k, k < n → ∀ w, w < W → Ic 39 (4 * k + w) = rwR R (σ k) w := fun k hk w hw => by
      rw [o5 k w hk (by omega)]
      exact (e2 k hk).1 w hw
    have mIc : ∀ (D : List Nat) (E : List (Nat × Nat)), D.elem 39 = true → E.elem (38, 0) = true → E.elem (38, 1) = true → mkI D E Ic = mkI D E Ib := fun D E z1 z2 z3 => mkI_of fun q j y1 y2 => by
      refine o1 q j (fun z => by rw [z, z1] at y1; cases y1) fun z => ⟨fun y => ?_, fun y => ?_⟩
      · rw [z, y, z2] at y2; cases y2
      · rw [z, y, z3] at y2; cases y2
    have mJc : ∀ (D : List Nat) (E : List (Nat × Nat)), D.elem 40 = true → mkJ D E Jc = mkJ D E Jb := fun D E z1 => mkJ_of fun q j y1 _ => by
      rw [o2 q (fun z => by rw [z, z1] at y1; cases y1)]
    have icq : ∀ q, q ≠ 38 → q ≠ 39 → Ic q = Ib q := fun q q1 q2 => by
      funext j
      exact o1 q j q2 fun z => absurd z q1
    refine ⟨_, Ic, Jc, I2b, J2b, top _ _ _ k1, c2b, Rl_H h ((mIc _ _ rfl rfl rfl).trans (mI1 _ _ rfl rfl rfl rfl rfl rfl rfl rfl rfl rfl)) ((mJc _ _ rfl).trans (mJ1 _ _ rfl rfl)) ((mkI_of fun q j y1 y2 => ?_ : mkI ([37, 38, 39] ++ sc2) ([(0, 58), (0, 59)] ++ sl2) I2b = mkI ([37, 38, 39] ++ sc2) ([(0, 58), (0, 59)] ++ sl2) I2a).trans (mI2 _ _ rfl rfl rfl rfl rfl rfl)) (mJ2 _ _ rfl) ?_ ?_⟩
    · have ne : ∀ p, ([37, 38, 39] ++ sc2).elem p = true → q ≠ p := fun p hp e => by rw [e, hp] at y1; cases y1
      rw [p3 q (ne 37 rfl) (ne 38 rfl) (ne 39 rfl)]
      have n58 : q ≠ 0 ∨ j ≠ 58 := by
        by_cases e : q = 0
        · right; intro e3; rw [e, e3] at y2; exact absurd y2 (by decide)
        · exact Or.inl e
      have n59 : q ≠ 0 ∨ j ≠ 59 := by
        by_cases e : q = 0
        · right; intro e3; rw [e, e3] at y2; exact absurd y2 (by decide)
        · exact Or.inl e
      rw [up_n n58, up_n n59]
    · refine Or.inr ⟨2, n, by decide, hc, by rw [o3, s0], o4, ?_, ?_, by omega, fun k hk w hw => ⟨?_, ?_⟩, fun z => absurd z (by decide)⟩
      · rw [p3 0 (by decide) (by decide) (by decide), up_s]
      · rw [p3 0 (by decide) (by decide) (by decide), up_j (by decide), up_s]
      · rw [(p2 k hk).1 w hw, lrow k hk w hw]
      · rw [lrow k hk w hw]
        obtain ⟨v, ⟨m, -, -, hv⟩, ev⟩ := m2.1 _ (List.mem_of_getElem? (rwR_of (hσ k (by omega)).1))
        rw [ev]
        refine rho_rng ?_
        rw [hv]
        have := hsu_le (m := m) tq hw Hn (Nat.le_refl _)
        show hsu I1 w m Hn ≤ 200000
        omega
    · refine Or.inr (Or.inr ⟨n, hc, ic9, by rw [icq 44 (by decide) (by decide)]; exact s0, by rw [icq 44 (by decide) (by decide)]; exact s1, ?_⟩)
      rw [sC_cg (icq 4 (by decide) (by decide)) (icq 5 (by decide) (by decide)) (icq 9 (by decide) (by decide)) (icq 10 (by decide) (by decide)), sCb, icq 45 (by decide) (by decide)]
      exact frF
  · have k1 : C1 899 220 [.ref 0] I1 J1 (.int (-2)) Ib Jb := by
      refine mj_mk (D := 898) (go _ ?_)
      refine mj_on (s220_40 ?_)
      rw [s9, if_pos rfl]
    obtain ⟨r2, I2b, J2b, c2b, rr, p1, p2⟩ := mj_cI (S := mj_S2) (CD := mj_CD) (R := mj_R2) (P := fun r I' J' => r = -2 ∧ I' = I2a ∧ J' = J2a) (rf (by
      refine mj_on (s70_212 _ ?_)
      rw [g1.1, show (100 : Int32) = nI 100 from rfl, ← e1]
      have hRl : R.length ≤ 4096 := by
        have hp : (2 : Nat) ^ Hn ≤ 4096 := Nat.le_trans (Nat.pow_le_pow_right (by decide) c6) (by decide)
        have := mnR_len (L := (List.range (2 ^ Hn)).map fun m' => rho (I1 4) (fun w => hsu I1 w m' Hn)) m2 (fun f ⟨v, ⟨m', q1, _, q2⟩, q3⟩ => by rw [q3, q2]; exact List.mem_map.mpr ⟨m', List.mem_range.mpr q1, rfl⟩)
        rw [List.length_map, List.length_range] at this
        omega
      exact if_le (by omega) (by decide) (fun z => absurd z (by omega)) (fun _ => ⟨_, _, _, rfl, rfl, rfl, rfl⟩)))
    subst rr
    subst p1
    subst p2
    refine ⟨_, Ib, Jb, I2b, J2b, top _ _ _ k1, c2b, Rl_H h (mI1 _ _ rfl rfl rfl rfl rfl rfl rfl rfl rfl rfl) (mJ1 _ _ rfl rfl) (mI2 _ _ rfl rfl rfl rfl rfl rfl) (mJ2 _ _ rfl) ?_ ?_⟩
    · have q := h.2.2.2.2.2.1
      unfold rlH at q ⊢
      rw [fbq 38 (by decide) (by decide) (by decide) (by decide) (by decide) (by decide) (by decide) (by decide) (by decide) (by decide), fbq 39 (by decide) (by decide) (by decide) (by decide) (by decide) (by decide) (by decide) (by decide) (by decide) (by decide), wf2 0 58 (by decide) (by decide) (by decide) (by decide) (by decide), wf2 0 59 (by decide) (by decide) (by decide) (by decide) (by decide)]
      have e37 : I2b 37 = I2 37 := by funext j; exact wf2 37 j (by decide) (by decide) (by decide) (by decide) (Or.inl (by decide))
      have e38 : I2b 38 = I2 38 := by funext j; exact wf2 38 j (by decide) (by decide) (by decide) (by decide) (Or.inl (by decide))
      rw [e37, e38]
      exact q
    · refine Or.inr (Or.inl ⟨s9, n, F, hc, ?_⟩)
      rw [sCb]
      exact frF
end S98c
end
section
/-! front, of every kind -/
section S98d
variable {b W Rn Kn Tn Hn Un g : Nat} {I1 I2 : Nat → Nat → Int32} {J1 J2 : Nat → Nat → Int64}
theorem al_front {x1 x2 x3 : Int32} (h : Rl b W Rn Kn Tn Hn Un g I1 J1 I2 J2) : AI 203 70 [.int x1, .int x2, .int x3] I1 J1 I2 J2 (Rl b W Rn Kn Tn Hn Un g) := by
  by_cases hW : W = 0
  · exact al_front0 h (Or.inr hW)
  · by_cases e1 : x1 = 1
    · subst e1; exact al_front1 h hW
    · by_cases e2 : x1 = 2
      · subst e2; exact al_front2 h hW
      · exact al_front0 h (Or.inl ⟨e1, e2⟩)
end S98d
end
section
/-! what stands at a place of the text: signs, numbers, words -/
def lxk (x : Nat) : Nat := if 97 ≤ x ∧ x ≤ 122 then 3 else if 48 ≤ x ∧ x ≤ 57 then 2 else 1
theorem lxk_3 {x : Nat} : lxk x = 3 ↔ 97 ≤ x ∧ x ≤ 122 := by
  unfold lxk
  by_cases h : 97 ≤ x ∧ x ≤ 122
  · rw [if_pos h]; exact ⟨fun _ => h, fun _ => rfl⟩
  · rw [if_neg h]
    refine ⟨fun q => ?_, fun q => absurd q h⟩
    split at q <;> omega
theorem lxk_2 {x : Nat} : lxk x = 2 ↔ 48 ≤ x ∧ x ≤ 57 := by
  unfold lxk
  by_cases h : 97 ≤ x ∧ x ≤ 122
  · rw [if_pos h]
    exact ⟨fun q => by omega, fun q => by omega⟩
  · rw [if_neg h]
    by_cases h2 : 48 ≤ x ∧ x ≤ 57
    · rw [if_pos h2]; exact ⟨fun _ => h2, fun _ => rfl⟩
    · rw [if_neg h2]; exact ⟨fun q => by omega, fun q => absurd q h2⟩
theorem lxk_rng (x : Nat) : lxk x = 1 ∨ lxk x = 2 ∨ lxk x = 3 := by
  unfold lxk
  split
  · exact Or.inr (Or.inr rfl)
  · split
    · exact Or.inr (Or.inl rfl)
    · exact Or.inl rfl
def lxb (x : Nat) : Prop := x = 32 ∨ x = 10
def lxt (n : Nat) (x : Nat → Nat) (I : Nat → Nat → Int32) (c : Nat) : Prop := n ≤ 900 ∧ ∀ j, j < n → I c j = nI (x j) ∧ x j < 256
/-- a word's letters, from its last one on -/
def lxw (x : Nat → Nat) (p : Nat) : Nat → List Nat
  | 0 => []
  | i + 1 => (x (p + i) - 96) :: lxw x p i
def lxn (x : Nat → Nat) (p : Nat) : Nat → Nat
  | 0 => 0
  | i + 1 => 10 * lxn x p i + (x (p + i) - 48)
def lxl (l : List Nat) : Prop := 1 ≤ l.length ∧ l.length ≤ 6 ∧ ∀ a ∈ l, 1 ≤ a ∧ a ≤ 26
theorem lxw_len {x : Nat → Nat} {p : Nat} : ∀ {i}, (lxw x p i).length = i
  | 0 => rfl
  | i + 1 => by show (lxw x p i).length + 1 = _; rw [lxw_len]
theorem lxw_ok {x : Nat → Nat} {p : Nat} : ∀ {i}, (∀ j, j < i → lxk (x (p + j)) = 3) → ∀ a ∈ lxw x p i, 1 ≤ a ∧ a ≤ 26
  | 0, _, a, ha => absurd ha List.not_mem_nil
  | i + 1, h, a, ha => by
    rcases List.mem_cons.mp ha with rfl | ha
    · have := lxk_3.mp (h i (by omega)); omega
    · exact lxw_ok (fun j hj => h j (by omega)) a ha
theorem lxn_lt {x : Nat → Nat} {p : Nat} : ∀ {i}, (∀ j, j < i → lxk (x (p + j)) = 2) → lxn x p i < 10 ^ i
  | 0, _ => Nat.zero_lt_one
  | i + 1, h => by
    have ih := lxn_lt (x := x) (p := p) (i := i) fun j hj => h j (by omega)
    have := lxk_2.mp (h i (by omega))
    show 10 * lxn x p i + (x (p + i) - 48) < _
    rw [Nat.pow_succ]
    omega
theorem nmC_inj : ∀ {l m : List Nat}, (∀ a ∈ l, 1 ≤ a ∧ a ≤ 26) → (∀ a ∈ m, 1 ≤ a ∧ a ≤ 26) → nmC l = nmC m → l = m
  | [], [], _, _, _ => rfl
  | [], y :: m, _, h, e => by
    have := h y List.mem_cons_self
    have e : 0 = nmC m * 32 + y := e
    omega
  | y :: l, [], h, _, e => by
    have := h y List.mem_cons_self
    have e : nmC l * 32 + y = 0 := e
    omega
  | y :: l, z :: m, h, h', e => by
    have h1 := h y List.mem_cons_self
    have h2 := h' z List.mem_cons_self
    have e : nmC l * 32 + y = nmC m * 32 + z := e
    have e1 : y = z := by omega
    have e2 : nmC l = nmC m := by omega
    rw [e1, nmC_inj (fun a ha => h a (List.mem_cons_of_mem _ ha)) (fun a ha => h' a (List.mem_cons_of_mem _ ha)) e2]
theorem nmR_inj : ∀ {l m : List Nat}, (∀ a ∈ l, 1 ≤ a ∧ a ≤ 26) → (∀ a ∈ m, 1 ≤ a ∧ a ≤ 26) → nmR l = nmR m → l = m
  | [], [], _, _, _ => rfl
  | [], y :: m, _, h, e => by
    have := h y List.mem_cons_self
    have e : 0 = nmR m * 256 + (y + 96) := e
    omega
  | y :: l, [], h, _, e => by
    have := h y List.mem_cons_self
    have e : nmR l * 256 + (y + 96) = 0 := e
    omega
  | y :: l, z :: m, h, h', e => by
    have h1 := h y List.mem_cons_self
    have h2 := h' z List.mem_cons_self
    have e : nmR l * 256 + (y + 96) = nmR m * 256 + (z + 96) := e
    have e1 : y = z := by omega
    have e2 : nmR l = nmR m := by omega
    rw [e1, nmR_inj (fun a ha => h a (List.mem_cons_of_mem _ ha)) (fun a ha => h' a (List.mem_cons_of_mem _ ha)) e2]
theorem owL_ok : ∀ n, n < 17 → (1 ≤ (owL.getD n []).length ∧ (owL.getD n []).length ≤ 6 ∧ ∀ a ∈ owL.getD n [], 1 ≤ a ∧ a ≤ 26) := by decide
/-- the number of a word that the language has for itself, or -1 -/
def lxo (l : List Nat) (o : Int) : Prop := (o = -1 ∧ ∀ n, n < 17 → owL.getD n [] ≠ l) ∨ ∃ n : Nat, n < 17 ∧ o = n ∧ owL.getD n [] = l
section Sa0
variable {D n a p : Nat} {x : Nat → Nat} {I : Nat → Nat → Int32} {J : Nat → Nat → Int64}
theorem c_kind {y : Nat} (hx : y < 256) : C1 (D + 1) 141 [.int (nI y)] I J (.int (nI (lxk y))) I J := by
  refine mj_mk (e141 _ ?_)
  have low : ¬ (97 ≤ y ∧ y ≤ 122) → E1 141 D (fun r => r = (.int (nI (lxk y)), (I, J, mj_R1))) 14 [(0, .int (nI y))] I J := fun h => by
    refine mj_on (s141_14 _ ?_)
    rw [show (48 : Int32) = nI 48 from rfl, show (57 : Int32) = nI 57 from rfl]
    refine if_lt (by omega) (by decide) (fun c => ?_) (fun c => if_lt (by decide) (by omega) (fun d => ?_) (fun d => ?_))
    · have e : lxk y = 1 := by
        rcases lxk_rng y with q | q | q
        · exact q
        · have := lxk_2.mp q; omega
        · exact absurd (lxk_3.mp q) h
      rw [e]; rfl
    · have e : lxk y = 1 := by
        rcases lxk_rng y with q | q | q
        · exact q
        · have := lxk_2.mp q; omega
        · exact absurd (lxk_3.mp q) h
      rw [e]; rfl
    · rw [lxk_2.mpr ⟨c, d⟩]; rfl
  rw [show (97 : Int32) = nI 97 from rfl, show (122 : Int32) = nI 122 from rfl]
  refine if_lt (by omega) (by decide) (fun c => low (by omega)) (fun c => if_lt (by decide) (by omega) (fun d => low (by omega)) (fun d => ?_))
  rw [lxk_3.mpr ⟨c, d⟩]; rfl
theorem r_letter {y : Nat} (hx : y < 256) : C2 (D + 1) 14 [.int (nI y)] I J (.int (tf (lxk y = 3))) I J := by
  refine mj_mk (e14 _ ?_)
  rw [show (97 : Int32) = nI 97 from rfl, show (122 : Int32) = nI 122 from rfl]
  exact if_lt (by omega) (by decide) (fun c => mzF fun q => by have := lxk_3.mp q; omega) (fun c => if_lt (by decide) (by omega) (fun d => mzF fun q => by have := lxk_3.mp q; omega) (fun d => mzT (lxk_3.mpr ⟨c, d⟩)))
theorem r_digit {y : Nat} (hx : y < 256) : C2 (D + 1) 15 [.int (nI y)] I J (.int (tf (lxk y = 2))) I J := by
  refine mj_mk (e15 _ ?_)
  rw [show (48 : Int32) = nI 48 from rfl, show (57 : Int32) = nI 57 from rfl]
  exact if_lt (by omega) (by decide) (fun c => mzF fun q => by have := lxk_2.mp q; omega) (fun c => if_lt (by decide) (by omega) (fun d => mzF fun q => by have := lxk_2.mp q; omega) (fun d => mzT (lxk_2.mpr ⟨c, d⟩)))
/-- from a on to p there are but blanks -/
def lxs (n : Nat) (x : Nat → Nat) (a p : Nat) : Prop := a ≤ p ∧ p ≤ n ∧ (∀ j, a ≤ j → j < p → lxb (x j)) ∧ (p < n → ¬ lxb (x p))
theorem lxs_ex : ∀ (k a : Nat), n = a + k → ∃ p, lxs n x a p
  | 0, a, h => ⟨a, Nat.le_refl _, by omega, fun j h1 h2 => by omega, fun q => by omega⟩
  | k + 1, a, h => by
    rcases Classical.em (lxb (x a)) with c | c
    · obtain ⟨p, h1, h2, h3, h4⟩ := lxs_ex k (a + 1) (by omega)
      refine ⟨p, by omega, h2, fun j q1 q2 => ?_, h4⟩
      by_cases e : j = a
      · subst e; exact c
      · exact h3 j (by omega) q2
    · exact ⟨a, Nat.le_refl _, by omega, fun j h1 h2 => by omega, fun _ => c⟩
theorem c_skip (ht : lxt n x I 13) (h2 : I 11 2 = nI n) (h4 : I 11 4 = nI a) (hs : lxs n x a p) : ∃ I' J', C1 (D + 1) 140 [.ref 11] I J .null I' J' ∧ J' = J ∧ I' 11 4 = nI p ∧ ∀ q j, (q ≠ 11 ∨ j ≠ 4) → I' q j = I q j := by
  obtain ⟨s1, s2, s3, s4⟩ := hs
  obtain ⟨t1, t2⟩ := ht
  refine mj_cN (e140 ?_)
  obtain ⟨Q, hQ⟩ : ∃ Q, Q = qN mj_R1 (fun I' J' => J' = J ∧ I' 11 4 = nI p ∧ ∀ q j, (q ≠ 11 ∨ j ≠ 4) → I' q j = I q j) := ⟨_, rfl⟩
  rw [← hQ, h4]
  have lp := lp_up (n := p) (fun i => a ≤ i → ∀ I0, I0 11 4 = nI i → (∀ q j, (q ≠ 11 ∨ j ≠ 4) → I0 q j = I q j) → E1 140 D Q 5 [(0, .ref 11), (1, .int (nI i))] I0 J) (fun i hi ih hai I0 g1 g2 => ?_) a s1 (Nat.le_refl _) I h4 (fun _ _ _ => rfl)
  · exact lp
  have nxt : i < p → E1 140 D Q 35 [(0, .ref 11), (1, .int (nI i))] I0 J := fun c => by
    refine mj_on (s140_35 _ ?_)
    rw [nI_1]
    exact ih c (by omega) _ up_s (fun q j hq => by rw [up_n hq]; exact g2 q j hq)
  refine mj_on (s140_5 _ ?_)
  rw [g2 11 2 (by decide), h2]
  refine if_le (by omega) (by omega) (fun c => ?_) (fun c => ?_)
  · obtain rfl : i = p := by omega
    rw [hQ]
    exact ⟨_, _, rfl, rfl, g1, g2⟩
  obtain ⟨u1, u2⟩ := t2 i c
  rw [nI_clamp (by omega), g2 13 i (Or.inl (by decide)), u1, show (32 : Int32) = nI 32 from rfl, show (10 : Int32) = nI 10 from rfl]
  have vi : vp_in (nI i) 900 := vp_in_nI (by omega) (by decide)
  by_cases e : i = p
  · subst e
    have nb := s4 c
    refine ⟨vi, if_eq (by omega) (by decide) (fun q => absurd (Or.inl q) nb) (fun _ => ⟨vi, if_eq (by omega) (by decide) (fun q => absurd (Or.inr q) nb) (fun _ => ?_)⟩)⟩
    rw [hQ]
    exact ⟨_, _, rfl, rfl, g1, g2⟩
  · have hb := s3 i hai (by omega)
    refine ⟨vi, if_eq (by omega) (by decide) (fun _ => nxt (by omega)) (fun q1 => ⟨vi, if_eq (by omega) (by decide) (fun _ => nxt (by omega)) (fun q2 => ?_)⟩)⟩
    rcases hb with hb | hb
    · exact absurd hb q1
    · exact absurd hb q2
theorem r_skip {Q : mj_R → Prop} (ht : lxt n x I 1) (h2 : I 0 2 = nI n) (hs : lxs n x a p) (h : E2 13 D Q 41 [(0, .ref 0), (1, .int (nI p))] I J) : E2 13 D Q 5 [(0, .ref 0), (1, .int (nI a))] I J := by
  obtain ⟨s1, s2, s3, s4⟩ := hs
  obtain ⟨t1, t2⟩ := ht
  have lp := lp_up (n := p) (fun i => a ≤ i → E2 13 D Q 5 [(0, .ref 0), (1, .int (nI i))] I J) (fun i hi ih hai => ?_) a s1 (Nat.le_refl _)
  · exact lp
  refine mj_on (s13_5 _ ?_)
  rw [h2, nI_1]
  refine if_le (by omega) (by omega) (fun c => ?_) (fun c => ?_)
  · obtain rfl : i = p := by omega
    exact h
  obtain ⟨u1, u2⟩ := t2 i c
  rw [nI_clamp (by omega), u1, show (32 : Int32) = nI 32 from rfl, show (10 : Int32) = nI 10 from rfl]
  have vi : vp_in (nI i) 900 := vp_in_nI (by omega) (by decide)
  by_cases e : i = p
  · subst e
    have nb := s4 c
    exact ⟨vi, if_eq (by omega) (by decide) (fun q => absurd (Or.inl q) nb) (fun _ => ⟨vi, if_eq (by omega) (by decide) (fun q => absurd (Or.inr q) nb) (fun _ => h)⟩)⟩
  · have hb := s3 i hai (by omega)
    refine ⟨vi, if_eq (by omega) (by decide) (fun _ => ih (by omega) (by omega)) (fun q1 => ⟨vi, if_eq (by omega) (by decide) (fun _ => ih (by omega) (by omega)) (fun q2 => ?_)⟩)⟩
    rcases hb with hb | hb
    · exact absurd hb q1
    · exact absurd hb q2
/-- the run of k's that begins at p: m long -/
def lxr (n : Nat) (x : Nat → Nat) (p k m : Nat) : Prop := p + m ≤ n ∧ (∀ j, j < m → lxk (x (p + j)) = k) ∧ (p + m < n → lxk (x (p + m)) ≠ k)
theorem lxr_ex (k : Nat) : ∀ (r p : Nat), n = p + r → ∃ m, lxr n x p k m
  | 0, p, h => ⟨0, by omega, fun j hj => by omega, fun q => by omega⟩
  | r + 1, p, h => by
    by_cases c : lxk (x p) = k
    · obtain ⟨m, h1, h2, h3⟩ := lxr_ex k r (p + 1) (by omega)
      refine ⟨m + 1, by omega, fun j hj => ?_, fun q => ?_⟩
      · by_cases e : j = 0
        · subst e; exact c
        · have := h2 (j - 1) (by omega)
          rw [show p + 1 + (j - 1) = p + j by omega] at this
          exact this
      · have := h3 (by omega)
        rw [show p + 1 + m = p + (m + 1) by omega] at this
        exact this
    · exact ⟨0, by omega, fun j hj => by omega, fun _ => c⟩
/-- the number of an own word -/
theorem c_own {l : List Nat} (hO : rlO I) (hl : ∀ a ∈ l, 1 ≤ a ∧ a ≤ 26) (h6 : l.length ≤ 6) : ∃ r I' J', C1 (D + 1) 142 [.ref 11, .int (nI (nmC l))] I J (.int r) I' J' ∧ (∃ o, r = iI o ∧ lxo l o) ∧ I' = I ∧ J' = J := by
  refine mj_cI (e142 _ ?_)
  obtain ⟨Q, hQ⟩ : ∃ Q, Q = qI mj_R1 (fun r I' J' => (∃ o, r = iI o ∧ lxo l o) ∧ I' = I ∧ J' = J) := ⟨_, rfl⟩
  rw [← hQ]
  have lt : ∀ {l : List Nat}, (∀ a ∈ l, 1 ≤ a ∧ a ≤ 26) → l.length ≤ 6 → nmC l < 2 ^ 30 := fun {l} h1 h2 => by
    have := nmC_lt h1
    have h3 : 32 ^ l.length ≤ 32 ^ 6 := Nat.pow_le_pow_right (by decide) h2
    omega
  have lp := lp_up (n := 17) (fun k => (∀ i, i < k → owL.getD i [] ≠ l) → E1 142 D Q 2 [(0, .ref 11), (1, .int (nI (nmC l))), (2, .int (nI k))] I J) (fun k hk ih hn => ?_) 0 (by omega) (fun i hi => by omega)
  · exact lp
  refine mj_on (s142_2 _ _ ?_)
  rw [show (17 : Int32) = nI 17 from rfl]
  refine if_le (by decide) (by omega) (fun c => ?_) (fun c => ?_)
  · obtain rfl : k = 17 := by omega
    rw [hQ]
    exact ⟨_, _, _, rfl, ⟨-1, rfl, Or.inl ⟨rfl, hn⟩⟩, rfl, rfl⟩
  obtain ⟨w1, w2, w3⟩ := owL_ok k c
  rw [nI_clamp (by omega), hO k c, nI_1]
  refine ⟨vp_in_nI c (by decide), if_eq (by have := lt w3 w2; omega) (by have := lt hl h6; omega) (fun e => ?_) (fun e => ?_)⟩
  · have := nmC_inj w3 hl e
    rw [hQ]
    exact ⟨_, _, _, rfl, ⟨k, (iI_nI k).symm, Or.inr ⟨k, c, rfl, this⟩⟩, rfl, rfl⟩
  · refine ih c (fun i hi => ?_)
    by_cases z : i = k
    · subst z; intro q; exact e (by rw [q])
    · exact hn i (by omega)
end Sa0
end
section
/-! the class reads what stands next -/
theorem nI_mns {a c : Nat} (h : c ≤ a) : nI a - nI c = nI (a - c) := by
  have : nI a = nI (a - c) + nI c := by rw [nI_add, Nat.sub_add_cancel h]
  rw [this, Int32.add_sub_cancel]
/-- the longest that a word or a number may be -/
def lxm (k : Nat) : Nat := if k = 3 then 6 else 4
def lxf (I I' : Nat → Nat → Int32) : Prop := ∀ q j, (q ≠ 11 ∨ (j ≠ 4 ∧ j ≠ 5 ∧ j ≠ 6 ∧ j ≠ 7 ∧ j ≠ 8)) → I' q j = I q j
section Sa1
variable {D n a p t m : Nat} {x : Nat → Nat} {I : Nat → Nat → Int32} {J : Nat → Nat → Int64}
theorem c_advE (ht : lxt n x I 13) (h2 : I 11 2 = nI n) (h4 : I 11 4 = nI a) (hs : lxs n x a n) : ∃ I' J', C1 (D + 3) 139 [.ref 11] I J .null I' J' ∧ J' = J ∧ lxf I I' ∧ I' 11 4 = nI n ∧ I' 11 5 = nI 0 ∧ I' 11 7 = -1 ∧ I' 11 8 = nI n := by
  have hn := ht.1
  refine mj_cN (e139 ?_)
  have go : ∀ fl : Int32, E1 139 (D + 2) (qN mj_R1 fun I' J' => J' = J ∧ lxf I I' ∧ I' 11 4 = nI n ∧ I' 11 5 = nI 0 ∧ I' 11 7 = -1 ∧ I' 11 8 = nI n) 22 [(0, .ref 11), (1, .int fl)] I J := fun fl => by
    obtain ⟨Ia, Ja, ca, rfl, a1, a2⟩ := c_skip (D := D + 1) (J := J) ht h2 h4 hs
    refine mj_on (s139_22 _ ?_)
    refine ⟨trivial, _, _, ca, ?_⟩
    rw [a1, a2 11 2 (by decide), h2]
    refine if_lt (by omega) (by omega) (fun z => absurd z (by omega)) (fun _ => ⟨_, _, rfl, rfl, fun q j hq => ?_, ?_, up_s, ?_, ?_⟩)
    · rw [up_n (by omega), up_n (by omega), up_n (by omega), up_n (by omega), a2 q j (by omega)]
    · rw [up_n (by decide), up_n (by decide), up_n (by decide), up_n (by decide), a1]
    · rw [up_n (by decide), up_n (by decide), up_s]
    · rw [up_n (by decide), up_n (by decide), up_n (by decide), up_s]
  exact if_i (fun _ => go 1) (fun _ => if_i (fun _ => go 1) (fun _ => go 0))
theorem c_advT (ht : lxt n x I 13) (hO : rlO I) (h2 : I 11 2 = nI n) (h4 : I 11 4 = nI a) (h5 : I 11 5 = nI t) (ht4 : t ≤ 4) (hs : lxs n x a p) (hp : p < n) (hr : lxr n x p (lxk (x p)) m) : ∃ I' J', C1 (D + 3) 139 [.ref 11] I J .null I' J' ∧ J' = J ∧ lxf I I' ∧
    (lxk (x p) = 1 → I' 11 4 = nI (p + 1) ∧ I' 11 5 = nI 1 ∧ I' 11 6 = nI (x p) ∧ I' 11 7 = -1 ∧ I' 11 8 = nI p) ∧
    (lxk (x p) ≠ 1 → (t = 2 ∨ t = 3) → p = a → I' 11 5 = nI 4 ∧ I' 11 7 = -1 ∧ I' 11 8 = nI p) ∧
    (lxk (x p) ≠ 1 → ¬ ((t = 2 ∨ t = 3) ∧ p = a) → lxm (lxk (x p)) < m → I' 11 5 = nI 4 ∧ I' 11 7 = -1 ∧ I' 11 8 = nI (p + lxm (lxk (x p)))) ∧
    (lxk (x p) ≠ 1 → ¬ ((t = 2 ∨ t = 3) ∧ p = a) → m ≤ lxm (lxk (x p)) → I' 11 4 = nI (p + m) ∧ I' 11 5 = nI (lxk (x p)) ∧ I' 11 8 = nI p ∧ (lxk (x p) = 2 → I' 11 6 = nI (lxn x p m) ∧ I' 11 7 = -1) ∧ (lxk (x p) = 3 → I' 11 6 = nI (nmC (lxw x p m)) ∧ ∃ o, I' 11 7 = iI o ∧ lxo (lxw x p m) o)) := by
  have hn := ht.1
  obtain ⟨hx, hx2⟩ := ht.2 p hp
  obtain ⟨k, hk⟩ : ∃ k, k = lxk (x p) := ⟨_, rfl⟩
  rw [← hk] at hr ⊢
  obtain ⟨r1, r2, r3⟩ := hr
  have k123 : k = 1 ∨ k = 2 ∨ k = 3 := by rw [hk]; exact lxk_rng _
  have m1 : 1 ≤ m := by
    refine Classical.byContradiction fun q => ?_
    obtain rfl : m = 0 := by omega
    exact r3 (by omega) hk.symm
  refine mj_cN (e139 ?_)
  obtain ⟨P, hP⟩ : ∃ P : (Nat → Nat → Int32) → Prop, P = fun I' => lxf I I' ∧
    (k = 1 → I' 11 4 = nI (p + 1) ∧ I' 11 5 = nI 1 ∧ I' 11 6 = nI (x p) ∧ I' 11 7 = -1 ∧ I' 11 8 = nI p) ∧
    (k ≠ 1 → (t = 2 ∨ t = 3) → p = a → I' 11 5 = nI 4 ∧ I' 11 7 = -1 ∧ I' 11 8 = nI p) ∧
    (k ≠ 1 → ¬ ((t = 2 ∨ t = 3) ∧ p = a) → lxm k < m → I' 11 5 = nI 4 ∧ I' 11 7 = -1 ∧ I' 11 8 = nI (p + lxm k)) ∧
    (k ≠ 1 → ¬ ((t = 2 ∨ t = 3) ∧ p = a) → m ≤ lxm k → I' 11 4 = nI (p + m) ∧ I' 11 5 = nI k ∧ I' 11 8 = nI p ∧ (k = 2 → I' 11 6 = nI (lxn x p m) ∧ I' 11 7 = -1) ∧ (k = 3 → I' 11 6 = nI (nmC (lxw x p m)) ∧ ∃ o, I' 11 7 = iI o ∧ lxo (lxw x p m) o)) := ⟨_, rfl⟩
  obtain ⟨Q, hQ⟩ : ∃ Q, Q = qN mj_R1 (fun I' J' => J' = J ∧ P I') := ⟨_, rfl⟩
  have eQ : qN mj_R1 (fun I' J' => J' = J ∧ lxf I I' ∧
    (k = 1 → I' 11 4 = nI (p + 1) ∧ I' 11 5 = nI 1 ∧ I' 11 6 = nI (x p) ∧ I' 11 7 = -1 ∧ I' 11 8 = nI p) ∧
    (k ≠ 1 → (t = 2 ∨ t = 3) → p = a → I' 11 5 = nI 4 ∧ I' 11 7 = -1 ∧ I' 11 8 = nI p) ∧
    (k ≠ 1 → ¬ ((t = 2 ∨ t = 3) ∧ p = a) → lxm k < m → I' 11 5 = nI 4 ∧ I' 11 7 = -1 ∧ I' 11 8 = nI (p + lxm k)) ∧
    (k ≠ 1 → ¬ ((t = 2 ∨ t = 3) ∧ p = a) → m ≤ lxm k → I' 11 4 = nI (p + m) ∧ I' 11 5 = nI k ∧ I' 11 8 = nI p ∧ (k = 2 → I' 11 6 = nI (lxn x p m) ∧ I' 11 7 = -1) ∧ (k = 3 → I' 11 6 = nI (nmC (lxw x p m)) ∧ ∃ o, I' 11 7 = iI o ∧ lxo (lxw x p m) o))) = Q := by rw [hQ, hP]
  rw [eQ]
  have fin : ∀ I', P I' → Q (.null, (I', J, mj_R1)) := fun I' h => by rw [hQ]; exact ⟨_, _, rfl, rfl, h⟩
  have go : ∀ fl : Int32, (fl = 0 ↔ ¬ (t = 2 ∨ t = 3)) → E1 139 (D + 2) Q 22 [(0, .ref 11), (1, .int fl)] I J := fun fl hfl => by
    obtain ⟨Ia, Ja, ca, hJa, a1, a2⟩ := c_skip (D := D + 1) (J := J) ht h2 h4 hs
    rw [hJa] at ca
    refine mj_on (s139_22 _ ?_)
    refine ⟨trivial, _, _, ca, ?_⟩
    rw [a1, a2 11 2 (by decide), h2]
    refine if_lt (by omega) (by omega) (fun _ => ?_) (fun z => absurd z (by omega))
    rw [nI_clamp (by omega), a2 13 p (Or.inl (by decide)), hx]
    obtain ⟨Ib, hIb⟩ : ∃ Ib, Ib = mj_up (mj_up (mj_up Ia 11 8 (nI p)) 11 7 (-1)) 11 6 0 := ⟨_, rfl⟩
    rw [← hIb]
    have vp : vp_in (nI p) 900 := vp_in_nI (by omega) (by decide)
    refine ⟨vp, trivial, _, _, _, c_kind hx2, ?_⟩
    rw [← hk]
    have b4 : Ib 11 4 = nI p := by rw [hIb, up_n (by decide), up_n (by decide), up_n (by decide), a1]
    have b8 : Ib 11 8 = nI p := by rw [hIb, up_n (by decide), up_n (by decide), up_s]
    have b7 : Ib 11 7 = -1 := by rw [hIb, up_n (by decide), up_s]
    have b6 : Ib 11 6 = nI 0 := by rw [hIb, up_s]; rfl
    have fb : lxf I Ib := fun q j hq => by rw [hIb, up_n (by omega), up_n (by omega), up_n (by omega), a2 q j (by omega)]
    rw [b4, b8, h4, nI_clamp (by omega), fb 13 p (Or.inl (by decide)), hx, nI_1]
    by_cases k1 : k = 1
    · rw [if_pos (show nI k = 1 by rw [k1]; rfl)]
      refine ⟨vp, fin _ ?_⟩
      rw [hP]
      refine ⟨fun q j hq => ?_, fun _ => ⟨up_s, ?_, ?_, ?_, ?_⟩, fun q => absurd k1 q, fun q => absurd k1 q, fun q => absurd k1 q⟩
      · rw [up_n (by omega), up_n (by omega), up_n (by omega)]; exact fb q j hq
      · rw [up_n (by decide), up_n (by decide), up_s, k1]
      · rw [up_n (by decide), up_s]
      · rw [up_n (by decide), up_n (by decide), up_n (by decide)]; exact b7
      · rw [up_n (by decide), up_n (by decide), up_n (by decide)]; exact b8
    rw [if_neg (show ¬ nI k = 1 from fun z => k1 ((nI_eq (b := 1) (by omega) (by decide)).mp z))]
    obtain ⟨Ic, hIc⟩ : ∃ Ic, Ic = mj_up Ib 11 5 (nI k) := ⟨_, rfl⟩
    rw [← hIc]
    have c4 : Ic 11 4 = nI p := by rw [hIc, up_n (by decide)]; exact b4
    have c5 : Ic 11 5 = nI k := by rw [hIc, up_s]
    have c6 : Ic 11 6 = nI 0 := by rw [hIc, up_n (by decide)]; exact b6
    have c7 : Ic 11 7 = -1 := by rw [hIc, up_n (by decide)]; exact b7
    have c8 : Ic 11 8 = nI p := by rw [hIc, up_n (by decide)]; exact b8
    have fc : lxf I Ic := fun q j hq => by rw [hIc, up_n (by omega)]; exact fb q j hq
    have run : ¬ ((t = 2 ∨ t = 3) ∧ p = a) → E1 139 (D + 2) Q 132 [(0, .ref 11)] Ic J := fun hna => by
      have inv0 : ∀ i, i ≤ m → i ≤ lxm k → ∃ z : Nat, z = if k = 3 then nmC (lxw x p i) else lxn x p i := fun i _ _ => ⟨_, rfl⟩
      -- behind the run
      have e303 : ∀ I0, lxf I I0 → m ≤ lxm k → I0 11 4 = nI (p + m) → I0 11 5 = nI k → I0 11 6 = nI (if k = 3 then nmC (lxw x p m) else lxn x p m) → I0 11 7 = -1 → I0 11 8 = nI p → E1 139 (D + 2) Q 303 [(0, .ref 11)] I0 J := fun I0 f0 hm i4 i5 i6 i7 i8 => by
        refine mj_on (s139_303 ?_)
        rw [i5]
        by_cases k3 : k = 3
        · rw [if_pos (show nI k = 3 by rw [k3]; rfl), i6, if_pos k3]
          have hw : ∀ z ∈ lxw x p m, 1 ≤ z ∧ z ≤ 26 := lxw_ok fun j hj => by rw [r2 j hj, k3]
          obtain ⟨r, Id, Jd, cd, ⟨o, rfl, ho⟩, hId, hJd⟩ := c_own (D := D + 1) (J := J) (I := I0) (l := lxw x p m) (fun z hz => by rw [f0 12 z (Or.inl (by decide))]; exact hO z hz) hw (by rw [lxw_len]; rw [k3] at hm; exact hm)
          rw [hId, hJd] at cd
          refine ⟨trivial, _, _, _, cd, fin _ ?_⟩
          rw [hP]
          refine ⟨fun q j hq => by rw [up_n (by omega)]; exact f0 q j hq, fun q => absurd q k1, fun _ q1 q2 => absurd ⟨q1, q2⟩ hna, fun _ _ q => absurd q (by omega), fun _ _ _ => ⟨?_, ?_, ?_, fun q => absurd q (by omega), fun _ => ⟨?_, o, up_s, ho⟩⟩⟩
          · rw [up_n (by decide)]; exact i4
          · rw [up_n (by decide)]; exact i5
          · rw [up_n (by decide)]; exact i8
          · rw [up_n (by decide), i6, if_pos k3]
        · rw [if_neg (show ¬ nI k = 3 from fun z => k3 ((nI_eq (b := 3) (by omega) (by decide)).mp z))]
          refine fin _ ?_
          rw [hP]
          rw [if_neg k3] at i6
          exact ⟨f0, fun q => absurd q k1, fun _ q1 q2 => absurd ⟨q1, q2⟩ hna, fun _ _ q => absurd q (by omega), fun _ _ _ => ⟨i4, i5, i8, fun _ => ⟨i6, i7⟩, fun q => absurd q k3⟩⟩
      have e257 : ∀ i I0, i ≤ m → (i = m ∧ i ≤ lxm k ∨ i = lxm k) → lxf I I0 → I0 11 4 = nI (p + i) → I0 11 5 = nI k → I0 11 6 = nI (if k = 3 then nmC (lxw x p i) else lxn x p i) → I0 11 7 = -1 → I0 11 8 = nI p → E1 139 (D + 2) Q 257 [(0, .ref 11)] I0 J := fun i I0 him hi f0 i4 i5 i6 i7 i8 => by
        refine mj_on (s139_257 ?_)
        rw [f0 11 2 (by decide), h2, i4]
        refine if_le (by omega) (by omega) (fun c => ?_) (fun c => ?_)
        · obtain rfl : i = m := by omega
          exact e303 I0 f0 (by omega) i4 i5 i6 i7 i8
        · obtain ⟨u1, u2⟩ := ht.2 (p + i) c
          rw [nI_clamp (by omega), f0 13 (p + i) (Or.inl (by decide)), u1]
          refine ⟨vp_in_nI (by omega) (by decide), trivial, _, _, _, c_kind u2, ?_⟩
          rw [i5]
          have lk : lxk (x (p + i)) < 2 ^ 31 := by rcases lxk_rng (x (p + i)) with q | q | q <;> omega
          refine if_eq lk (by omega) (fun e => ?_) (fun e => ?_)
          · have hlt : i < m := Classical.byContradiction fun q => by
              obtain rfl : i = m := by omega
              exact r3 c e
            refine fin _ ?_
            rw [hP, i4]
            have il : i = lxm k := by omega
            refine ⟨fun q j hq => by rw [up_n (by omega), up_n (by omega)]; exact f0 q j hq, fun q => absurd q k1, fun _ q1 q2 => absurd ⟨q1, q2⟩ hna, fun _ _ _ => ⟨?_, ?_, ?_⟩, fun _ _ q => absurd q (by omega)⟩
            · rw [up_n (by decide), up_s]; rfl
            · rw [up_n (by decide), up_n (by decide)]; exact i7
            · rw [up_s, il]
          · obtain rfl : i = m := Classical.byContradiction fun q => e (r2 i (by omega))
            exact e303 I0 f0 (by omega) i4 i5 i6 i7 i8
      have lm : lxm k = 6 ∨ lxm k = 4 := by unfold lxm; split <;> omega
      have e147 : E1 139 (D + 2) Q 147 [(0, .ref 11), (3, .int (nI (lxm k)))] Ic J := by
        refine mj_on (s139_147 _ ?_)
        rw [fc 11 2 (by decide), h2, c4, nI_add]
        refine ⟨trivial, _, _, _, c_minN (by omega) (by omega), ?_⟩
        rw [c4]
        obtain ⟨N, hN⟩ : ∃ N, N = min m (lxm k) := ⟨_, rfl⟩
        have lp := lp_up (n := N) (fun i => ∀ I0, lxf I I0 → I0 11 4 = nI (p + i) → I0 11 5 = nI k → I0 11 6 = nI (if k = 3 then nmC (lxw x p i) else lxn x p i) → I0 11 7 = -1 → I0 11 8 = nI p → E1 139 (D + 2) Q 168 [(0, .ref 11), (4, .int (nI (min n (p + lxm k)))), (5, .int (nI (p + i)))] I0 J) (fun i hi ih I0 f0 i4 i5 i6 i7 i8 => ?_) 0 (Nat.zero_le _) Ic fc c4 c5 (by rw [c6]; split <;> rfl) c7 c8
        · exact lp
        refine mj_on (s139_168 _ _ ?_)
        refine if_le (by omega) (by omega) (fun c => ?_) (fun c => ?_)
        · exact e257 i I0 (by omega) (by omega) f0 i4 i5 i6 i7 i8
        · obtain ⟨u1, u2⟩ := ht.2 (p + i) (by omega)
          rw [nI_clamp (by omega), f0 13 (p + i) (Or.inl (by decide)), u1]
          have vi : vp_in (nI (p + i)) 900 := vp_in_nI (by omega) (by decide)
          refine ⟨vi, trivial, _, _, _, c_kind u2, ?_⟩
          rw [i5]
          have lk : lxk (x (p + i)) < 2 ^ 31 := by rcases lxk_rng (x (p + i)) with q | q | q <;> omega
          refine if_eq lk (by omega) (fun e => ?_) (fun e => ?_)
          · have hlt : i < m := Classical.byContradiction fun q => by
              obtain rfl : i = m := by omega
              exact r3 (by omega) e
            have hiN : i < N := by omega
            rw [f0 13 (p + i) (Or.inl (by decide)), u1, i6]
            have nx : ∀ z, z = nI (if k = 3 then nmC (lxw x p (i + 1)) else lxn x p (i + 1)) → E1 139 (D + 2) Q 243 [(0, .ref 11), (4, .int (nI (min n (p + lxm k)))), (5, .int (nI (p + i)))] (mj_up I0 11 6 z) J := fun z hz => by
              refine mj_on (s139_243 _ _ ?_)
              rw [nI_1]
              refine ih hiN _ (fun q j hq => by rw [up_n (by omega), up_n (by omega)]; exact f0 q j hq) up_s ?_ ?_ ?_ ?_
              · rw [up_n (by decide), up_n (by decide)]; exact i5
              · rw [up_n (by decide), up_s]; exact hz
              · rw [up_n (by decide), up_n (by decide)]; exact i7
              · rw [up_n (by decide), up_n (by decide)]; exact i8
            by_cases k3 : k = 3
            · rw [if_pos (show nI k = 3 by rw [k3]; rfl), if_pos k3]
              refine ⟨vi, nx _ ?_⟩
              have h3 := lxk_3.mp (e.trans k3)
              rw [if_pos k3, show (32 : Int32) = nI 32 from rfl, show (96 : Int32) = nI 96 from rfl, pk_mul, nI_add, nI_mns (by omega)]
              show _ = nI (nmC (lxw x p i) * 32 + (x (p + i) - 96))
              congr 1
              omega
            · rw [if_neg (show ¬ nI k = 3 from fun z => k3 ((nI_eq (b := 3) (by omega) (by decide)).mp z)), if_neg k3]
              refine ⟨vi, nx _ ?_⟩
              have h2 := lxk_2.mp (e.trans (show k = 2 by omega))
              rw [if_neg k3, show (10 : Int32) = nI 10 from rfl, show (48 : Int32) = nI 48 from rfl, pk_mul, nI_add, nI_mns (by omega)]
              show _ = nI (10 * lxn x p i + (x (p + i) - 48))
              congr 1
              omega
          · obtain rfl : i = m := Classical.byContradiction fun q => e (r2 i (by omega))
            exact e257 i I0 (Nat.le_refl _) (Or.inl ⟨rfl, by omega⟩) f0 i4 i5 i6 i7 i8
      refine mj_on (s139_132 ?_)
      rw [c5]
      by_cases k3 : k = 3
      · rw [if_pos (show nI k = 3 by rw [k3]; rfl)]
        have : lxm k = 6 := by rw [k3]; rfl
        rw [this] at e147
        exact e147
      · rw [if_neg (show ¬ nI k = 3 from fun z => k3 ((nI_eq (b := 3) (by omega) (by decide)).mp z))]
        have : lxm k = 4 := if_neg k3
        rw [this] at e147
        exact e147
    refine if_i (fun z => run fun q => hfl.mp z q.1) (fun z => ?_)
    refine if_eq (by omega) (by have := hs.1; omega) (fun e => ?_) (fun e => run fun q => e q.2)
    refine fin _ ?_
    rw [hP]
    have tt : t = 2 ∨ t = 3 := Classical.byContradiction fun q => z (hfl.mpr q)
    refine ⟨fun q j hq => by rw [up_n (by omega)]; exact fc q j hq, fun q => absurd q k1, fun _ _ _ => ⟨up_s, ?_, ?_⟩, fun _ q => absurd ⟨tt, e⟩ q, fun _ q => absurd ⟨tt, e⟩ q⟩
    · rw [up_n (by decide)]; exact c7
    · rw [up_n (by decide)]; exact c8
  rw [h5]
  refine if_i (fun z => go 1 ⟨fun q => absurd q (by decide), fun q => absurd (Or.inr ((nI_eq (b := 3) (by omega) (by decide)).mp z)) q⟩) (fun z3 => if_i (fun z => go 1 ⟨fun q => absurd q (by decide), fun q => absurd (Or.inl ((nI_eq (b := 2) (by omega) (by decide)).mp z)) q⟩) (fun z2 => go 0 ⟨fun _ q => ?_, fun _ => rfl⟩))
  rcases q with rfl | rfl
  · exact z2 rfl
  · exact z3 rfl
end Sa1
end
section
/-! the reference reads what stands next -/
theorem r_blame0 {D : Nat} {I : Nat → Nat → Int32} {J : Nat → Nat → Int64} {k p : Int32} (h : I 0 8 = 0) : C2 (D + 1) 16 [.ref 0, .int k, .int p] I J .null (mj_up (mj_up I 0 8 k) 0 9 p) J := by
  refine mj_mk (e16 _ _ ?_)
  rw [h, if_pos (by decide)]
theorem r_blame1 {D : Nat} {I : Nat → Nat → Int32} {J : Nat → Nat → Int64} {k p : Int32} (h : ¬ I 0 8 ≤ 0) : C2 (D + 1) 16 [.ref 0, .int k, .int p] I J .null I J := by
  refine mj_mk (e16 _ _ ?_)
  rw [if_neg h]
def lxg (I I' : Nat → Nat → Int32) : Prop := ∀ q j, (q ≠ 0 ∨ (j ≠ 3 ∧ j ≠ 4 ∧ j ≠ 5 ∧ j ≠ 6 ∧ j ≠ 8 ∧ j ≠ 9)) → I' q j = I q j
def lxgJ (J J' : Nat → Nat → Int64) : Prop := ∀ q j, (q ≠ 0 ∨ j ≠ 7) → J' q j = J q j
section Sa2
variable {D n a p m : Nat} {x : Nat → Nat} {I : Nat → Nat → Int32} {J : Nat → Nat → Int64}
theorem r_nxtE (ht : lxt n x I 1) (h2 : I 0 2 = nI n) (h5 : I 0 5 = nI a) (hs : lxs n x a n) : ∃ I' J', C2 (D + 1) 13 [.ref 0] I J .null I' J' ∧ lxg I I' ∧ J' = J ∧ I' 0 5 = nI n ∧ I' 0 4 = nI n ∧ I' 0 3 = nI 0 ∧ I' 0 8 = I 0 8 ∧ I' 0 9 = I 0 9 := by
  have hn := ht.1
  refine mj_cN (e13 ?_)
  rw [h5]
  refine r_skip ht h2 hs ?_
  refine mj_on (s13_41 _ ?_)
  rw [h2]
  refine if_lt (by omega) (by omega) (fun z => absurd z (by omega)) (fun _ => ⟨_, _, rfl, fun q j hq => ?_, rfl, ?_, ?_, up_s, ?_, ?_⟩)
  · rw [up_n (by omega), up_n (by omega), up_n (by omega)]
  · rw [up_n (by decide), up_s]
  · rw [up_n (by decide), up_n (by decide), up_s]
  · rw [up_n (by decide), up_n (by decide), up_n (by decide)]
  · rw [up_n (by decide), up_n (by decide), up_n (by decide)]
/-- what has been read of a word or a number -/
def lxv (k i : Nat) (x : Nat → Nat) (p : Nat) (I : Nat → Nat → Int32) (J : Nat → Nat → Int64) : Prop := (k = 2 → I 0 6 = nI (lxn x p i)) ∧ (k = 3 → J 0 7 = lN (nmR (lxw x p i)))
theorem nmR_le6 {l : List Nat} (h : ∀ a ∈ l, 1 ≤ a ∧ a ≤ 26) (h6 : l.length ≤ 6) : nmR l < 2 ^ 48 := by
  have h1 := nmR_lt h
  have h2 : 256 ^ l.length ≤ 256 ^ 6 := Nat.pow_le_pow_right (by decide) h6
  omega
theorem r_nxtT (ht : lxt n x I 1) (h2 : I 0 2 = nI n) (h5 : I 0 5 = nI a) (h8 : I 0 8 = 0) (hs : lxs n x a p) (hp : p < n) (hr : lxr n x p (lxk (x p)) m) : ∃ I' J', C2 (D + 2) 13 [.ref 0] I J .null I' J' ∧ lxg I I' ∧ lxgJ J J' ∧
    (lxk (x p) = 1 → I' 0 5 = nI (p + 1) ∧ I' 0 3 = nI 3 ∧ I' 0 6 = nI (x p) ∧ I' 0 4 = nI p ∧ I' 0 8 = 0 ∧ I' 0 9 = I 0 9) ∧
    (lxk (x p) ≠ 1 → 0 < p → lxk (x (p - 1)) ≠ 1 → I' 0 8 = nI 1 ∧ I' 0 9 = nI p) ∧
    (lxk (x p) ≠ 1 → ¬ (0 < p ∧ lxk (x (p - 1)) ≠ 1) → lxm (lxk (x p)) < m → I' 0 8 = nI 1 ∧ I' 0 9 = nI (p + lxm (lxk (x p)))) ∧
    (lxk (x p) ≠ 1 → ¬ (0 < p ∧ lxk (x (p - 1)) ≠ 1) → m ≤ lxm (lxk (x p)) → I' 0 8 = 0 ∧ I' 0 9 = I 0 9 ∧ I' 0 5 = nI (p + m) ∧ I' 0 3 = nI (4 - lxk (x p)) ∧ I' 0 4 = nI p ∧ lxv (lxk (x p)) m x p I' J') := by
  have hn := ht.1
  obtain ⟨hx, hx2⟩ := ht.2 p hp
  obtain ⟨k, hk⟩ : ∃ k, k = lxk (x p) := ⟨_, rfl⟩
  rw [← hk] at hr ⊢
  obtain ⟨r1, r2, r3⟩ := hr
  have k123 : k = 1 ∨ k = 2 ∨ k = 3 := by rw [hk]; exact lxk_rng _
  have m1 : 1 ≤ m := by
    refine Classical.byContradiction fun q => ?_
    obtain rfl : m = 0 := by omega
    exact r3 (by omega) hk.symm
  have vp : vp_in (nI p) 900 := vp_in_nI (by omega) (by decide)
  refine mj_cN (e13 ?_)
  obtain ⟨P, hP⟩ : ∃ P : (Nat → Nat → Int32) → (Nat → Nat → Int64) → Prop, P = fun I' J' => lxg I I' ∧ lxgJ J J' ∧
    (k = 1 → I' 0 5 = nI (p + 1) ∧ I' 0 3 = nI 3 ∧ I' 0 6 = nI (x p) ∧ I' 0 4 = nI p ∧ I' 0 8 = 0 ∧ I' 0 9 = I 0 9) ∧
    (k ≠ 1 → 0 < p → lxk (x (p - 1)) ≠ 1 → I' 0 8 = nI 1 ∧ I' 0 9 = nI p) ∧
    (k ≠ 1 → ¬ (0 < p ∧ lxk (x (p - 1)) ≠ 1) → lxm k < m → I' 0 8 = nI 1 ∧ I' 0 9 = nI (p + lxm k)) ∧
    (k ≠ 1 → ¬ (0 < p ∧ lxk (x (p - 1)) ≠ 1) → m ≤ lxm k → I' 0 8 = 0 ∧ I' 0 9 = I 0 9 ∧ I' 0 5 = nI (p + m) ∧ I' 0 3 = nI (4 - k) ∧ I' 0 4 = nI p ∧ lxv k m x p I' J') := ⟨_, rfl⟩
  obtain ⟨Q, hQ⟩ : ∃ Q, Q = qN mj_R2 (fun I' J' => P I' J') := ⟨_, rfl⟩
  have eQ : qN mj_R2 (fun I' J' => lxg I I' ∧ lxgJ J J' ∧
    (k = 1 → I' 0 5 = nI (p + 1) ∧ I' 0 3 = nI 3 ∧ I' 0 6 = nI (x p) ∧ I' 0 4 = nI p ∧ I' 0 8 = 0 ∧ I' 0 9 = I 0 9) ∧
    (k ≠ 1 → 0 < p → lxk (x (p - 1)) ≠ 1 → I' 0 8 = nI 1 ∧ I' 0 9 = nI p) ∧
    (k ≠ 1 → ¬ (0 < p ∧ lxk (x (p - 1)) ≠ 1) → lxm k < m → I' 0 8 = nI 1 ∧ I' 0 9 = nI (p + lxm k)) ∧
    (k ≠ 1 → ¬ (0 < p ∧ lxk (x (p - 1)) ≠ 1) → m ≤ lxm k → I' 0 8 = 0 ∧ I' 0 9 = I 0 9 ∧ I' 0 5 = nI (p + m) ∧ I' 0 3 = nI (4 - k) ∧ I' 0 4 = nI p ∧ lxv k m x p I' J')) = Q := by rw [hQ, hP]
  rw [eQ, h5]
  have fin : ∀ I' J', P I' J' → Q (.null, (I', J', mj_R2)) := fun I' J' h => by rw [hQ]; exact ⟨_, _, rfl, h⟩
  refine r_skip ht h2 hs ?_
  refine mj_on (s13_41 _ ?_)
  rw [h2, nI_clamp (by omega)]
  refine if_lt (by omega) (by omega) (fun _ => ?_) (fun z => absurd z (by omega))
  rw [hx]
  refine ⟨vp, trivial, _, _, _, r_letter hx2, vp, ?_⟩
  rw [up_n (Or.inl (by decide)), up_n (Or.inl (by decide)), up_n (Or.inl (by decide)), hx]
  refine ⟨trivial, _, _, _, r_digit hx2, ?_⟩
  rw [← hk]
  obtain ⟨Ia, hIa⟩ : ∃ Ia, Ia = mj_up (mj_up (mj_up I 0 4 (nI p)) 0 5 (nI p)) 0 3 0 := ⟨_, rfl⟩
  rw [← hIa]
  have a4 : Ia 0 4 = nI p := by rw [hIa, up_n (by decide), up_n (by decide), up_s]
  have a8 : Ia 0 8 = 0 := by rw [hIa, up_n (by decide), up_n (by decide), up_n (by decide)]; exact h8
  have a9 : Ia 0 9 = I 0 9 := by rw [hIa, up_n (by decide), up_n (by decide), up_n (by decide)]
  have fa : lxg I Ia := fun q j hq => by rw [hIa, up_n (by omega), up_n (by omega), up_n (by omega)]
  -- from 131 on, with a fault told or none
  obtain ⟨adj, hadj⟩ : ∃ adj : Prop, adj = (0 < p ∧ lxk (x (p - 1)) ≠ 1) := ⟨_, rfl⟩
  have e131 : ∀ Ib, lxg I Ib → Ib 0 4 = nI p → ((k = 1 ∨ ¬ adj) ∧ Ib 0 8 = 0 ∧ Ib 0 9 = I 0 9 ∨ adj ∧ k ≠ 1 ∧ Ib 0 8 = nI 1 ∧ Ib 0 9 = nI p) → E2 13 (D + 1) Q 131 [(0, .ref 0), (1, .int (nI p)), (2, .int (tf (k = 3))), (3, .int (tf (k = 2)))] Ib J := fun Ib fb b4 hb => by
    refine mj_on (s13_131 _ _ _ ?_)
    rw [nI_1]
    obtain ⟨Ic, hIc⟩ : ∃ Ic, Ic = mj_up (mj_up (mj_up Ib 0 6 0) 0 3 3) 0 5 (nI (p + 1)) := ⟨_, rfl⟩
    obtain ⟨Jc, hJc⟩ : ∃ Jc, Jc = mj_up J 0 7 0 := ⟨_, rfl⟩
    rw [← hIc, ← hJc]
    have c3 : Ic 0 3 = nI 3 := by rw [hIc, up_n (by decide), up_s]; rfl
    have c4 : Ic 0 4 = nI p := by rw [hIc, up_n (by decide), up_n (by decide), up_n (by decide)]; exact b4
    have c5 : Ic 0 5 = nI (p + 1) := by rw [hIc, up_s]
    have c6 : Ic 0 6 = nI 0 := by rw [hIc, up_n (by decide), up_n (by decide), up_s]; rfl
    have c8 : Ic 0 8 = Ib 0 8 := by rw [hIc, up_n (by decide), up_n (by decide), up_n (by decide)]
    have c9 : Ic 0 9 = Ib 0 9 := by rw [hIc, up_n (by decide), up_n (by decide), up_n (by decide)]
    have fc : lxg I Ic := fun q j hq => by rw [hIc, up_n (by omega), up_n (by omega), up_n (by omega)]; exact fb q j hq
    have fJ : lxgJ J Jc := fun q j hq => by rw [hJc, up_n hq]
    have j7 : Jc 0 7 = lN 0 := by rw [hJc, up_s]; rfl
    have hch : ∀ i, p + i < n → Ic 1 (p + i) = nI (x (p + i)) ∧ x (p + i) < 256 := fun i hi => by rw [fc 1 _ (Or.inl (by decide))]; exact ht.2 _ hi
    refine mj_on (s13_153 _ _ _ ?_)
    by_cases k1 : k = 1
    · rw [tf_f (show ¬ k = 3 by omega), tf_f (show ¬ k = 2 by omega), if_pos rfl, if_pos rfl, nI_clamp (by omega)]
      have hx' := (hch 0 (by omega)).1
      rw [Nat.add_zero] at hx'
      rw [hx']
      refine ⟨vp, fin _ _ ?_⟩
      rw [hP]
      rcases hb with ⟨-, b8, b9⟩ | ⟨_, q, _⟩
      · refine ⟨fun q j hq => by rw [up_n (by omega)]; exact fc q j hq, fJ, fun _ => ⟨?_, ?_, up_s, ?_, ?_, ?_⟩, fun q => absurd k1 q, fun q => absurd k1 q, fun q => absurd k1 q⟩
        · rw [up_n (by decide)]; exact c5
        · rw [up_n (by decide)]; exact c3
        · rw [up_n (by decide)]; exact c4
        · rw [up_n (by decide), c8]; exact b8
        · rw [up_n (by decide), c9]; exact b9
      · exact absurd k1 q
    -- a word or a number
    have e172 : E2 13 (D + 1) Q 172 [(0, .ref 0), (1, .int (nI p)), (2, .int (tf (k = 3))), (3, .int (tf (k = 2)))] Ic Jc := by
      refine mj_on (s13_172 _ _ _ ?_)
      have e185 : ∀ Id, Id = mj_up Ic 0 3 (nI (4 - k)) → E2 13 (D + 1) Q 185 [(0, .ref 0), (1, .int (nI p)), (2, .int (tf (k = 3))), (3, .int (tf (k = 2)))] Id Jc := fun Id hId => by
        have d3 : Id 0 3 = nI (4 - k) := by rw [hId, up_s]
        have d4 : Id 0 4 = nI p := by rw [hId, up_n (by decide)]; exact c4
        have d6 : Id 0 6 = nI 0 := by rw [hId, up_n (by decide)]; exact c6
        have d8 : Id 0 8 = Ib 0 8 := by rw [hId, up_n (by decide)]; exact c8
        have d9 : Id 0 9 = Ib 0 9 := by rw [hId, up_n (by decide)]; exact c9
        have fd : lxg I Id := fun q j hq => by rw [hId, up_n (by omega)]; exact fc q j hq
        have lm : lxm k = 6 ∨ lxm k = 4 := by unfold lxm; split <;> omega
        have e197 : E2 13 (D + 1) Q 197 [(0, .ref 0), (1, .int (nI p)), (2, .int (tf (k = 3))), (3, .int (tf (k = 2))), (4, .int (nI (lxm k)))] Id Jc := by
          refine mj_on (s13_197 _ _ _ _ ?_)
          have lp := lp_up (n := m) (fun i => ∀ I0 J0, lxg I I0 → lxgJ J J0 → I0 0 3 = nI (4 - k) → I0 0 4 = nI p → (i ≤ lxm k → lxv k i x p I0 J0) → (adj ∧ I0 0 8 = nI 1 ∧ I0 0 9 = nI p ∨ ¬ adj ∧ i ≤ lxm k ∧ I0 0 8 = 0 ∧ I0 0 9 = I 0 9 ∨ ¬ adj ∧ lxm k < i ∧ I0 0 8 = nI 1 ∧ I0 0 9 = nI (p + lxm k)) → E2 13 (D + 1) Q 200 [(0, .ref 0), (1, .int (nI (p + i))), (2, .int (tf (k = 3))), (3, .int (tf (k = 2))), (4, .int (nI (lxm k))), (5, .int (nI i))] I0 J0) (fun i hi ih I0 J0 f0 g0 i3 i4 iv ib => ?_) 0 (Nat.zero_le _) Id Jc fd fJ d3 d4 (fun _ => ⟨fun _ => d6, fun _ => j7⟩) (by
            rcases hb with ⟨q | q, b8, b9⟩ | ⟨q, -, b8, b9⟩
            · exact absurd q k1
            · exact Or.inr (Or.inl ⟨q, Nat.zero_le _, by rw [d8]; exact b8, by rw [d9]; exact b9⟩)
            · exact Or.inl ⟨q, by rw [d8]; exact b8, by rw [d9]; exact b9⟩)
          · exact lp
          refine mj_on (s13_200 _ _ _ _ _ ?_)
          rw [f0 0 2 (by decide), h2]
          have stop : i = m → Q (.null, (mj_up I0 0 5 (nI (p + i)), J0, mj_R2)) := fun e => by
            refine fin _ _ ?_
            rw [hP]
            refine ⟨fun q j hq => by rw [up_n (by omega)]; exact f0 q j hq, g0, fun q => absurd q k1, fun _ q1 q2 => ?_, fun _ q1 q2 => ?_, fun _ q1 q2 => ?_⟩
            · rw [up_n (by decide), up_n (by decide)]
              rw [hadj] at ib
              rcases ib with ⟨_, b⟩ | ⟨b, _⟩ | ⟨b, _⟩
              · exact b
              · exact absurd ⟨q1, q2⟩ b
              · exact absurd ⟨q1, q2⟩ b
            · rw [up_n (by decide), up_n (by decide)]
              rw [hadj] at ib
              rcases ib with ⟨b, _⟩ | ⟨_, b, _⟩ | ⟨_, _, b⟩
              · exact absurd b q1
              · omega
              · exact b
            · rw [hadj] at ib
              rcases ib with ⟨b, _⟩ | ⟨_, b, b8, b9⟩ | ⟨_, b, _⟩
              · exact absurd b q1
              · subst e
                refine ⟨?_, ?_, up_s, ?_, ?_, fun q => ?_, fun q => (iv b).2 q⟩
                · rw [up_n (by decide)]; exact b8
                · rw [up_n (by decide)]; exact b9
                · rw [up_n (by decide)]; exact i3
                · rw [up_n (by decide)]; exact i4
                · rw [up_n (by decide)]; exact (iv b).1 q
              · omega
          refine if_le (by omega) (by omega) (fun c => stop (by omega)) (fun c => ?_)
          obtain ⟨u1, u2⟩ := ht.2 (p + i) c
          have vi : vp_in (nI (p + i)) 900 := vp_in_nI (by omega) (by decide)
          rw [nI_clamp (by omega), f0 1 _ (Or.inl (by decide)), u1]
          have on : i < m → E2 13 (D + 1) Q 239 [(0, .ref 0), (1, .int (nI (p + i))), (2, .int (tf (k = 3))), (3, .int (tf (k = 2))), (4, .int (nI (lxm k))), (5, .int (nI i))] I0 J0 := fun him => by
            have hki := r2 i him
            have e252 : ∀ Ie, lxg I Ie → Ie 0 3 = nI (4 - k) → Ie 0 4 = nI p → (i ≤ lxm k → lxv k i x p Ie J0) → (adj ∧ Ie 0 8 = nI 1 ∧ Ie 0 9 = nI p ∨ ¬ adj ∧ i + 1 ≤ lxm k ∧ Ie 0 8 = 0 ∧ Ie 0 9 = I 0 9 ∨ ¬ adj ∧ lxm k < i + 1 ∧ Ie 0 8 = nI 1 ∧ Ie 0 9 = nI (p + lxm k)) → E2 13 (D + 1) Q 252 [(0, .ref 0), (1, .int (nI (p + i))), (2, .int (tf (k = 3))), (3, .int (tf (k = 2))), (4, .int (nI (lxm k))), (5, .int (nI i))] Ie J0 := fun Ie fe e3 e4 ev eb => by
              have e282 : ∀ If Jf, lxg I If → lxgJ J Jf → If 0 3 = nI (4 - k) → If 0 4 = nI p → (lxm k ≤ i ∨ (k = 3 ∧ lxv k (i + 1) x p If Jf) ∨ (k = 2 ∧ lxv k i x p If Jf)) → (adj ∧ If 0 8 = nI 1 ∧ If 0 9 = nI p ∨ ¬ adj ∧ i + 1 ≤ lxm k ∧ If 0 8 = 0 ∧ If 0 9 = I 0 9 ∨ ¬ adj ∧ lxm k < i + 1 ∧ If 0 8 = nI 1 ∧ If 0 9 = nI (p + lxm k)) → E2 13 (D + 1) Q 282 [(0, .ref 0), (1, .int (nI (p + i))), (2, .int (tf (k = 3))), (3, .int (tf (k = 2))), (4, .int (nI (lxm k))), (5, .int (nI i))] If Jf := fun If Jf ff gf f3 f4 fv fbl => by
                refine mj_on (s13_282 _ _ _ _ _ ?_)
                rw [nI_1, nI_1]
                refine if_le (by omega) (by omega) (fun d => ih him If Jf ff gf f3 f4 (fun q => absurd q (by omega)) fbl) (fun d => ?_)
                refine if_tf (fun k2 => ?_) (fun k2 => ?_)
                · refine ⟨vi, ?_⟩
                  rcases fv with q | ⟨q, _⟩ | ⟨_, fv⟩
                  · omega
                  · omega
                  rw [nI_clamp (by omega), ff 1 _ (Or.inl (by decide)), u1, fv.1 k2]
                  have hd := lxk_2.mp (hki.trans k2)
                  rw [show (10 : Int32) = nI 10 from rfl, show (48 : Int32) = nI 48 from rfl, pk_mul, nI_add, nI_mns (by omega)]
                  refine ih him _ Jf (fun q j hq => by rw [up_n (by omega)]; exact ff q j hq) gf (by rw [up_n (by decide)]; exact f3) (by rw [up_n (by decide)]; exact f4) (fun _ => ⟨fun _ => ?_, fun q => absurd q (by omega)⟩) ?_
                  · rw [up_s]
                    show _ = nI (10 * lxn x p i + (x (p + i) - 48))
                    congr 1
                    omega
                  · rw [up_n (by decide), up_n (by decide)]; exact fbl
                · refine ih him If Jf ff gf f3 f4 (fun _ => ?_) fbl
                  rcases fv with q | ⟨_, q⟩ | ⟨q, _⟩
                  · omega
                  · exact q
                  · exact absurd q k2
              refine mj_on (s13_252 _ _ _ _ _ ?_)
              refine if_le (by omega) (by omega) (fun d => e282 Ie J0 fe g0 e3 e4 (Or.inl d) eb) (fun d => ?_)
              refine if_tf (fun k3 => ?_) (fun k3 => e282 Ie J0 fe g0 e3 e4 (Or.inr (Or.inr ⟨by omega, ev (by omega)⟩)) eb)
              rw [nI_clamp (by omega), fe 1 _ (Or.inl (by decide)), u1, (ev (by omega)).2 k3]
              have hl := lxk_3.mp (hki.trans k3)
              have hw : ∀ z ∈ lxw x p i, 1 ≤ z ∧ z ≤ 26 := lxw_ok fun j hj => by rw [r2 j (by omega), k3]
              have h6 : i < 6 := by rw [k3] at d; exact d
              have hlt := nmR_le6 hw (by rw [lxw_len]; omega)
              have h48 := hlt
              rw [show (8 : Int32) = nI 8 from rfl, wb_shl _ (by decide), nI_toL (by omega), g_or (k := 8) (p := 2 ^ 8) rfl (by omega) (by omega)]
              refine ⟨vi, e282 Ie _ fe (fun q j hq => by rw [up_n hq]; exact g0 q j hq) e3 e4 (Or.inr (Or.inl ⟨k3, fun q => absurd q (by omega), fun _ => ?_⟩)) eb⟩
              rw [up_s]
              show _ = lN (nmR (lxw x p i) * 256 + (x (p + i) - 96 + 96))
              congr 1
              omega
            refine mj_on (s13_239 _ _ _ _ _ ?_)
            refine if_eq (by omega) (by omega) (fun e => ?_) (fun e => e252 I0 f0 i3 i4 iv ?_)
            · rcases ib with ⟨b1, b8, b9⟩ | ⟨b1, b2, b8, b9⟩ | ⟨b1, b2, _⟩
              · refine ⟨trivial, _, _, r_blame1 (by rw [b8]; decide), e252 I0 f0 i3 i4 iv (Or.inl ⟨b1, b8, b9⟩)⟩
              · refine ⟨trivial, _, _, r_blame0 b8, e252 _ (fun q j hq => by rw [up_n (by omega), up_n (by omega)]; exact f0 q j hq) (by rw [up_n (by decide), up_n (by decide)]; exact i3) (by rw [up_n (by decide), up_n (by decide)]; exact i4) (fun q => ⟨fun z => ?_, fun z => (iv q).2 z⟩) (Or.inr (Or.inr ⟨b1, by omega, ?_, ?_⟩))⟩
                · rw [up_n (by decide), up_n (by decide)]; exact (iv q).1 z
                · rw [up_n (by decide), up_s]; rfl
                · rw [up_s, e]
              · omega
            · rcases ib with b | ⟨b1, b2, b3⟩ | ⟨b1, b2, b3⟩
              · exact Or.inl b
              · exact Or.inr (Or.inl ⟨b1, by omega, b3⟩)
              · exact Or.inr (Or.inr ⟨b1, by omega, b3⟩)
          refine if_tf (fun k3 => ⟨vi, trivial, _, _, _, r_letter u2, if_tf (fun q => on (Classical.byContradiction fun z => ?_)) (fun q => stop (Classical.byContradiction fun z => ?_))⟩) (fun k3 => ⟨vi, trivial, _, _, _, r_digit u2, if_tf (fun q => on (Classical.byContradiction fun z => ?_)) (fun q => stop (Classical.byContradiction fun z => ?_))⟩)
          · obtain rfl : i = m := by omega
            exact r3 c (q.trans k3.symm)
          · exact q ((r2 i (by omega)).trans k3)
          · obtain rfl : i = m := by omega
            exact r3 c (q.trans (show 2 = k by omega))
          · exact q ((r2 i (by omega)).trans (show k = 2 by omega))
        refine mj_on (s13_185 _ _ _ ?_)
        refine if_tf (fun k3 => ?_) (fun k3 => ?_)
        · have : lxm k = 6 := by rw [k3]; rfl
          rw [this] at e197
          exact e197
        · have : lxm k = 4 := if_neg k3
          rw [this] at e197
          exact e197
      refine if_tf (fun k3 => e185 _ (by rw [k3]; rfl)) (fun k3 => e185 _ (by rw [show k = 2 by omega]; rfl))
    refine if_tf (fun _ => e172) (fun k3 => if_tf (fun _ => e172) (fun k2 => absurd k1 (by omega)))
  have none : (k = 1 ∨ ¬ adj) → E2 13 (D + 1) Q 131 [(0, .ref 0), (1, .int (nI p)), (2, .int (tf (k = 3))), (3, .int (tf (k = 2)))] Ia J := fun q => e131 Ia fa a4 (Or.inl ⟨q, a8, a9⟩)
  have e93 : k ≠ 1 → E2 13 (D + 1) Q 93 [(0, .ref 0), (1, .int (nI p)), (2, .int (tf (k = 3))), (3, .int (tf (k = 2)))] Ia J := fun k1 => by
    refine mj_on (s13_93 _ _ _ ?_)
    rw [show (0 : Int32) = nI 0 from rfl]
    refine if_le (by omega) (by decide) (fun c => none (Or.inr (by rw [hadj]; omega))) (fun c => ?_)
    obtain ⟨u1, u2⟩ := ht.2 (p - 1) (by omega)
    have vm : vp_in (nI (p - 1)) 900 := vp_in_nI (by omega) (by decide)
    rw [show (1 : Int32) = nI 1 from rfl, nI_mns (by omega), nI_clamp (by omega), fa 1 _ (Or.inl (by decide)), u1]
    have tell : lxk (x (p - 1)) ≠ 1 → E2 13 (D + 1) Q 131 [(0, .ref 0), (1, .int (nI p)), (2, .int (tf (k = 3))), (3, .int (tf (k = 2)))] (mj_up (mj_up Ia 0 8 1) 0 9 (nI p)) J := fun q => e131 _ (fun q j hq => by rw [up_n (by omega), up_n (by omega)]; exact fa q j hq) (by rw [up_n (by decide), up_n (by decide)]; exact a4) (Or.inr ⟨by rw [hadj]; exact ⟨c, q⟩, k1, by rw [up_n (by decide), up_s]; rfl, up_s⟩)
    refine ⟨vm, trivial, _, _, _, r_letter u2, if_tf (fun q => ⟨trivial, _, _, r_blame0 a8, tell (by omega)⟩) (fun q => ⟨vm, ?_⟩)⟩
    rw [fa 1 _ (Or.inl (by decide)), u1]
    refine ⟨trivial, _, _, _, r_digit u2, if_tf (fun q2 => ⟨trivial, _, _, r_blame0 a8, tell (by omega)⟩) (fun q2 => none (Or.inr ?_))⟩
    rw [hadj]
    intro z
    rcases lxk_rng (x (p - 1)) with w | w | w
    · exact z.2 w
    · exact q2 w
    · exact q w
  refine if_tf (fun k3 => e93 (by omega)) (fun k3 => if_tf (fun k2 => e93 (by omega)) (fun k2 => none (Or.inl (by omega))))
end Sa2
end
