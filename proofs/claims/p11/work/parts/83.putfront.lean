/-! the pool's front, put into the class' two fronts of its own -/
def fnP_a (W : Nat) (P : Nat → Nat → Int32) (K : Nat → Nat) (I : Nat → Nat → Int32) (J : Nat → Nat → Int64) (L : List Nat) : Prop := I 44 1 = nI L.length ∧ ∀ r x, L[r]? = some x → (∀ w, w < W → I 45 (4 * r + w) = P x w) ∧ J 46 r = lN (K x)
theorem c_under_a {D W N : Nat} {P : Nat → Nat → Int32} {K : Nat → Nat} {I : Nat → Nat → Int32} {J : Nat → Nat → Int64} {L : List Nat} {x : Nat} (h : plP W N P K I J) (hf : fnP_a W P K I J L) (hL : L.length ≤ 100) (hm : ∀ y ∈ L, y < N) (hx : x < N) : C1 (D + 2) 218 [.ref 44, .ref 30, .int (nI (4 * x)), .int (nI W)] I J (.int (tf (∃ y, y ∈ L ∧ nm W (P y) (P x)))) I J := by
  obtain ⟨h1, h2, h3, h4, h5, h6⟩ := h
  refine mj_mk (e218_b _ _ ?_)
  refine lp_up (n := L.length) (fun k => (∀ r y, r < k → L[r]? = some y → ¬ nm W (P y) (P x)) → E1 218 (D + 1) (fun q => q = (.int (tf (∃ y, y ∈ L ∧ nm W (P y) (P x))), (I, J, mj_R1))) 3 [(0, .ref 44), (1, .ref 30), (2, .int (nI (4 * x))), (3, .int (nI W)), (4, .int (nI k))] I J) (fun k hk ih hp => ?_) 0 (Nat.zero_le _) (fun r y q => absurd q (Nat.not_lt_zero r))
  refine mj_on (s218_3_b _ _ _ ?_)
  rw [hf.1, ix4m, nI_1]
  refine if_le (by omega) (by omega) (fun c => mzF ?_) (fun c => ⟨trivial, _, _, _, c_nm_a (by omega) (by omega) h4, ?_⟩)
  · rintro ⟨y, hy, q⟩
    obtain ⟨r, hr, e⟩ := List.getElem_of_mem hy
    exact hp r y (by omega) (by rw [List.getElem?_eq_getElem hr, e]) q
  · obtain ⟨y, hy, hym, -⟩ := gt_of c
    have e : nm W (fun w => I 45 (4 * k + w)) (fun w => I 30 (4 * x + w)) ↔ nm W (P y) (P x) := by
      unfold nm
      refine forall_congr' fun w => forall_congr' fun hw => ?_
      show I 45 (4 * k + w) ≤ I 30 (4 * x + w) ↔ _
      rw [(hf.2 k y hy).1 w hw, h5 x hx w hw]
    rw [tf_iff e]
    refine if_tf (fun q => mzT ⟨y, hym, q⟩) (fun q => ih c fun r z hr hz => ?_)
    by_cases d : r = k
    · rw [d, hy] at hz
      cases hz
      exact q
    · exact hp r z (by omega) hz
theorem c_putF_a {D W N kd : Nat} {P : Nat → Nat → Int32} {K : Nat → Nat} {I : Nat → Nat → Int32} {J : Nat → Nat → Int64} (h : plP W N P K I J) (ho : odP N (fun i => i) I) : ∃ f, (∀ i, i < N → f i < N) ∧ srt W P K N f ∧ ∃ r I' J', C1 (D + 4) 213 [.ref 29, .ref 44, .int (nI kd)] I J (.int r) I' J' ∧ (∀ q, q ≠ 32 → q ≠ 44 → q ≠ 45 → I' q = I q) ∧ (∀ q, q ≠ 46 → J' q = J q) ∧ I' 44 0 = nI kd ∧ ((cho W P f N).length ≤ 100 → r = nI (cho W P f N).length ∧ fnP_a W P K I' J' (cho W P f N)) ∧ (100 < (cho W P f N).length → r = -2) := by
  obtain ⟨I0, f, hc, s1, s2, s3⟩ := c_plSort (D := D) h ho
  have hfN : ∀ i, i < N → f i < N := fun i hi => (s2 i hi).2
  refine ⟨f, hfN, s3, ?_⟩
  have hN := h.2.2.1
  have hok := cho_ok (P := P) (K := K) s3.1
  refine mj_cI (e213_b _ ?_)
  refine ⟨trivial, _, _, hc, trivial, _, _, mj_mk (e182_c _ rfl), ?_⟩
  obtain ⟨Q, hQ⟩ : ∃ Q, Q = qI mj_R1 (fun r I' J' => (∀ q, q ≠ 32 → q ≠ 44 → q ≠ 45 → I' q = I q) ∧ (∀ q, q ≠ 46 → J' q = J q) ∧ I' 44 0 = nI kd ∧ ((cho W P f N).length ≤ 100 → r = nI (cho W P f N).length ∧ fnP_a W P K I' J' (cho W P f N)) ∧ (100 < (cho W P f N).length → r = -2)) := ⟨_, rfl⟩
  rw [← hQ]
  refine lp_up (n := N) (fun i => ∀ I' J', (∀ q, q ≠ 44 → q ≠ 45 → I' q = I0 q) → (∀ q, q ≠ 46 → J' q = J q) → I' 44 0 = nI kd → (cho W P f i).length ≤ 100 → fnP_a W P K I' J' (cho W P f i) → E1 213 (D + 3) Q 11 [(0, .ref 29), (1, .ref 44), (3, .int (nI i))] I' J') (fun i hi ih I' J' k1 k2 k3 k4 k5 => ?_) 0 (Nat.zero_le _) _ J (fun q q1 q2 => by rw [up_c q1, up_c q1]) (fun _ _ => rfl) (by rw [up_j (by decide), up_s]) (Nat.zero_le _) ⟨by rw [up_s]; rfl, fun r x q => by cases q⟩
  have frame : ∀ q, q ≠ 32 → q ≠ 44 → q ≠ 45 → I' q = I q := fun q q1 q2 q3 => by rw [k1 q q2 q3, s1 q q1]
  have hpl : plP W N P K I' J' := by
    obtain ⟨h1, h2, h3, h4, h5, h6⟩ := h
    exact ⟨by rw [frame 29 (by decide) (by decide) (by decide)]; exact h1, by rw [frame 29 (by decide) (by decide) (by decide)]; exact h2, h3, h4, fun x hx w hw => by rw [frame 30 (by decide) (by decide) (by decide)]; exact h5 x hx w hw, fun x hx => by rw [k2 31 (by decide)]; exact h6 x hx⟩
  refine mj_on (s213_11_b _ ?_)
  rw [hpl.1]
  refine if_le (by omega) (by omega) (fun c => ?_) (fun c => ⟨vp_in_nI (by omega) (by decide), ?_⟩)
  · obtain rfl : i = N := by omega
    rw [hQ]
    exact ⟨_, _, _, rfl, frame, k2, k3, fun _ => ⟨k5.1, k5⟩, fun q => absurd q (by omega)⟩
  obtain ⟨o1, o2⟩ := s2 i c
  have o1' : I' 32 i = nI (f i) := by rw [k1 32 (by decide) (by decide)]; exact o1
  have mem : ∀ y ∈ cho W P f i, y < N := fun y hy => by
    obtain ⟨j, hj, rfl⟩ := (hok i hi).1 y hy
    exact hfN j (by omega)
  rw [nI_clamp (by omega), o1', ix4m, hpl.2.1, nI_1]
  refine ⟨trivial, _, _, _, c_under_a (D := D + 1) hpl k5 k4 mem o2, if_tf (fun q => ?_) (fun q => ?_)⟩
  · exact ih c I' J' k1 k2 k3 (by rw [cho_t q]; exact k4) (by rw [cho_t q]; exact k5)
  have hl : (cho W P f (i + 1)).length = (cho W P f i).length + 1 := by rw [cho_f q, List.length_append]; rfl
  rw [k5.1, show (100 : Int32) = nI 100 from rfl]
  refine if_lt (by omega) (by decide) (fun d => ⟨vp_in_nI (by omega) (by decide), ?_⟩) (fun d => ?_)
  · rw [o1', nI_clamp (n := f i) (by omega), (hpl.2.2.2.2.2 (f i) o2).1]
    refine ⟨vp_in_nI (by omega) (by decide), ?_⟩
    have add : ∃ I'' J'', C1 (D + 3) 205 [.ref 44, .ref 30, .int (nI (4 * f i)), .long (lN (K (f i)))] I' J' .null I'' J'' ∧ (∀ q, q ≠ 44 → q ≠ 45 → I'' q = I' q) ∧ (∀ q, q ≠ 46 → J'' q = J' q) ∧ I'' 44 0 = I' 44 0 ∧ fnP_a W P K I'' J'' (cho W P f i ++ [f i]) := by
      refine ⟨mj_up (mj_cp I' 30 (4 * f i) 45 (4 * (cho W P f i).length) 4) 44 1 (nI ((cho W P f i).length + 1)), mj_up J' 46 (cho W P f i).length (lN (K (f i))), mj_mk (e205_e _ _ ?_), fun q q1 q2 => ?_, fun q q1 => ?_, ?_, ?_, fun r x hr => ?_⟩
      · rw [k5.1, show (100 : Int32) = nI 100 from rfl]
        refine if_le (by decide) (by omega) (fun z => absurd z (by omega)) (fun _ => ?_)
        rw [ix4m, nI_clamp (by omega), nI_clamp (by omega), nI_clamp (by omega), nI_1]
        exact ⟨⟨nI_pos (by omega), nI_pos (by omega), by decide, by show 4 * f i + 4 ≤ 26244; omega, by show 4 * (cho W P f i).length + 4 ≤ 400; omega⟩, vp_in_nI (by omega) (by decide), rfl⟩
      · rw [up_c q1]
        funext j
        exact if_neg q2
      · funext j
        exact if_neg q1
      · rw [up_j (by decide)]
        rfl
      · rw [up_s, List.length_append]
        rfl
      · have cp : ∀ j, mj_cp I' 30 (4 * f i) 45 (4 * (cho W P f i).length) 4 45 j = if 4 * (cho W P f i).length ≤ j ∧ j < 4 * (cho W P f i).length + 4 then I' 30 (4 * f i + (j - 4 * (cho W P f i).length)) else I' 45 j := fun j => if_pos rfl
        by_cases z : r < (cho W P f i).length
        · rw [List.getElem?_append_left z] at hr
          obtain ⟨y1, y2⟩ := k5.2 r x hr
          refine ⟨fun w hw => ?_, ?_⟩
          · have := hpl.2.2.2.1
            rw [up_c (by decide), cp, if_neg (by omega)]
            exact y1 w hw
          · rw [show mj_up J' 46 (cho W P f i).length (lN (K (f i))) 46 r = J' 46 r from by simp [mj_up]; omega]
            exact y2
        · rw [List.getElem?_append_right (by omega)] at hr
          have : r = (cho W P f i).length ∧ x = f i := by
            cases y : r - (cho W P f i).length with
            | zero => rw [y] at hr; cases hr; exact ⟨by omega, rfl⟩
            | succ y' => rw [y] at hr; cases hr
          obtain ⟨rfl, rfl⟩ := this
          refine ⟨fun w hw => ?_, upJ_s⟩
          have := hpl.2.2.2.1
          rw [up_c (by decide), cp, if_pos (by omega), show 4 * (cho W P f i).length + w - 4 * (cho W P f i).length = w by omega]
          exact hpl.2.2.2.2.1 (f i) o2 w hw
    obtain ⟨I'', J'', hc2, u1, u2, u3, u4⟩ := add
    refine ⟨trivial, _, _, hc2, ih c I'' J'' (fun q q1 q2 => by rw [u1 q q1 q2]; exact k1 q q1 q2) (fun q q1 => by rw [u2 q q1]; exact k2 q q1) (by rw [u3]; exact k3) (by omega) (by rw [cho_f q]; exact u4)⟩
  · rw [hQ]
    have := cho_len (W := W) (P := P) (f := f) (i := i + 1) (j := N) c
    exact ⟨_, _, _, rfl, frame, k2, k3, fun z => absurd z (by omega), fun _ => rfl⟩
def fnP_b (W : Nat) (P : Nat → Nat → Int32) (K : Nat → Nat) (I : Nat → Nat → Int32) (J : Nat → Nat → Int64) (L : List Nat) : Prop := I 41 1 = nI L.length ∧ ∀ r x, L[r]? = some x → (∀ w, w < W → I 42 (4 * r + w) = P x w) ∧ J 43 r = lN (K x)
theorem c_under_b {D W N : Nat} {P : Nat → Nat → Int32} {K : Nat → Nat} {I : Nat → Nat → Int32} {J : Nat → Nat → Int64} {L : List Nat} {x : Nat} (h : plP W N P K I J) (hf : fnP_b W P K I J L) (hL : L.length ≤ 100) (hm : ∀ y ∈ L, y < N) (hx : x < N) : C1 (D + 2) 218 [.ref 41, .ref 30, .int (nI (4 * x)), .int (nI W)] I J (.int (tf (∃ y, y ∈ L ∧ nm W (P y) (P x)))) I J := by
  obtain ⟨h1, h2, h3, h4, h5, h6⟩ := h
  refine mj_mk (e218_a _ _ ?_)
  refine lp_up (n := L.length) (fun k => (∀ r y, r < k → L[r]? = some y → ¬ nm W (P y) (P x)) → E1 218 (D + 1) (fun q => q = (.int (tf (∃ y, y ∈ L ∧ nm W (P y) (P x))), (I, J, mj_R1))) 3 [(0, .ref 41), (1, .ref 30), (2, .int (nI (4 * x))), (3, .int (nI W)), (4, .int (nI k))] I J) (fun k hk ih hp => ?_) 0 (Nat.zero_le _) (fun r y q => absurd q (Nat.not_lt_zero r))
  refine mj_on (s218_3_a _ _ _ ?_)
  rw [hf.1, ix4m, nI_1]
  refine if_le (by omega) (by omega) (fun c => mzF ?_) (fun c => ⟨trivial, _, _, _, c_nm_b (by omega) (by omega) h4, ?_⟩)
  · rintro ⟨y, hy, q⟩
    obtain ⟨r, hr, e⟩ := List.getElem_of_mem hy
    exact hp r y (by omega) (by rw [List.getElem?_eq_getElem hr, e]) q
  · obtain ⟨y, hy, hym, -⟩ := gt_of c
    have e : nm W (fun w => I 42 (4 * k + w)) (fun w => I 30 (4 * x + w)) ↔ nm W (P y) (P x) := by
      unfold nm
      refine forall_congr' fun w => forall_congr' fun hw => ?_
      show I 42 (4 * k + w) ≤ I 30 (4 * x + w) ↔ _
      rw [(hf.2 k y hy).1 w hw, h5 x hx w hw]
    rw [tf_iff e]
    refine if_tf (fun q => mzT ⟨y, hym, q⟩) (fun q => ih c fun r z hr hz => ?_)
    by_cases d : r = k
    · rw [d, hy] at hz
      cases hz
      exact q
    · exact hp r z (by omega) hz
theorem c_putF_b {D W N kd : Nat} {P : Nat → Nat → Int32} {K : Nat → Nat} {I : Nat → Nat → Int32} {J : Nat → Nat → Int64} (h : plP W N P K I J) (ho : odP N (fun i => i) I) : ∃ f, (∀ i, i < N → f i < N) ∧ srt W P K N f ∧ ∃ r I' J', C1 (D + 4) 213 [.ref 29, .ref 41, .int (nI kd)] I J (.int r) I' J' ∧ (∀ q, q ≠ 32 → q ≠ 41 → q ≠ 42 → I' q = I q) ∧ (∀ q, q ≠ 43 → J' q = J q) ∧ I' 41 0 = nI kd ∧ ((cho W P f N).length ≤ 100 → r = nI (cho W P f N).length ∧ fnP_b W P K I' J' (cho W P f N)) ∧ (100 < (cho W P f N).length → r = -2) := by
  obtain ⟨I0, f, hc, s1, s2, s3⟩ := c_plSort (D := D) h ho
  have hfN : ∀ i, i < N → f i < N := fun i hi => (s2 i hi).2
  refine ⟨f, hfN, s3, ?_⟩
  have hN := h.2.2.1
  have hok := cho_ok (P := P) (K := K) s3.1
  refine mj_cI (e213_a _ ?_)
  refine ⟨trivial, _, _, hc, trivial, _, _, mj_mk (e182_b _ rfl), ?_⟩
  obtain ⟨Q, hQ⟩ : ∃ Q, Q = qI mj_R1 (fun r I' J' => (∀ q, q ≠ 32 → q ≠ 41 → q ≠ 42 → I' q = I q) ∧ (∀ q, q ≠ 43 → J' q = J q) ∧ I' 41 0 = nI kd ∧ ((cho W P f N).length ≤ 100 → r = nI (cho W P f N).length ∧ fnP_b W P K I' J' (cho W P f N)) ∧ (100 < (cho W P f N).length → r = -2)) := ⟨_, rfl⟩
  rw [← hQ]
  refine lp_up (n := N) (fun i => ∀ I' J', (∀ q, q ≠ 41 → q ≠ 42 → I' q = I0 q) → (∀ q, q ≠ 43 → J' q = J q) → I' 41 0 = nI kd → (cho W P f i).length ≤ 100 → fnP_b W P K I' J' (cho W P f i) → E1 213 (D + 3) Q 11 [(0, .ref 29), (1, .ref 41), (3, .int (nI i))] I' J') (fun i hi ih I' J' k1 k2 k3 k4 k5 => ?_) 0 (Nat.zero_le _) _ J (fun q q1 q2 => by rw [up_c q1, up_c q1]) (fun _ _ => rfl) (by rw [up_j (by decide), up_s]) (Nat.zero_le _) ⟨by rw [up_s]; rfl, fun r x q => by cases q⟩
  have frame : ∀ q, q ≠ 32 → q ≠ 41 → q ≠ 42 → I' q = I q := fun q q1 q2 q3 => by rw [k1 q q2 q3, s1 q q1]
  have hpl : plP W N P K I' J' := by
    obtain ⟨h1, h2, h3, h4, h5, h6⟩ := h
    exact ⟨by rw [frame 29 (by decide) (by decide) (by decide)]; exact h1, by rw [frame 29 (by decide) (by decide) (by decide)]; exact h2, h3, h4, fun x hx w hw => by rw [frame 30 (by decide) (by decide) (by decide)]; exact h5 x hx w hw, fun x hx => by rw [k2 31 (by decide)]; exact h6 x hx⟩
  refine mj_on (s213_11_a _ ?_)
  rw [hpl.1]
  refine if_le (by omega) (by omega) (fun c => ?_) (fun c => ⟨vp_in_nI (by omega) (by decide), ?_⟩)
  · obtain rfl : i = N := by omega
    rw [hQ]
    exact ⟨_, _, _, rfl, frame, k2, k3, fun _ => ⟨k5.1, k5⟩, fun q => absurd q (by omega)⟩
  obtain ⟨o1, o2⟩ := s2 i c
  have o1' : I' 32 i = nI (f i) := by rw [k1 32 (by decide) (by decide)]; exact o1
  have mem : ∀ y ∈ cho W P f i, y < N := fun y hy => by
    obtain ⟨j, hj, rfl⟩ := (hok i hi).1 y hy
    exact hfN j (by omega)
  rw [nI_clamp (by omega), o1', ix4m, hpl.2.1, nI_1]
  refine ⟨trivial, _, _, _, c_under_b (D := D + 1) hpl k5 k4 mem o2, if_tf (fun q => ?_) (fun q => ?_)⟩
  · exact ih c I' J' k1 k2 k3 (by rw [cho_t q]; exact k4) (by rw [cho_t q]; exact k5)
  have hl : (cho W P f (i + 1)).length = (cho W P f i).length + 1 := by rw [cho_f q, List.length_append]; rfl
  rw [k5.1, show (100 : Int32) = nI 100 from rfl]
  refine if_lt (by omega) (by decide) (fun d => ⟨vp_in_nI (by omega) (by decide), ?_⟩) (fun d => ?_)
  · rw [o1', nI_clamp (n := f i) (by omega), (hpl.2.2.2.2.2 (f i) o2).1]
    refine ⟨vp_in_nI (by omega) (by decide), ?_⟩
    have add : ∃ I'' J'', C1 (D + 3) 205 [.ref 41, .ref 30, .int (nI (4 * f i)), .long (lN (K (f i)))] I' J' .null I'' J'' ∧ (∀ q, q ≠ 41 → q ≠ 42 → I'' q = I' q) ∧ (∀ q, q ≠ 43 → J'' q = J' q) ∧ I'' 41 0 = I' 41 0 ∧ fnP_b W P K I'' J'' (cho W P f i ++ [f i]) := by
      refine ⟨mj_up (mj_cp I' 30 (4 * f i) 42 (4 * (cho W P f i).length) 4) 41 1 (nI ((cho W P f i).length + 1)), mj_up J' 43 (cho W P f i).length (lN (K (f i))), mj_mk (e205_b _ _ ?_), fun q q1 q2 => ?_, fun q q1 => ?_, ?_, ?_, fun r x hr => ?_⟩
      · rw [k5.1, show (100 : Int32) = nI 100 from rfl]
        refine if_le (by decide) (by omega) (fun z => absurd z (by omega)) (fun _ => ?_)
        rw [ix4m, nI_clamp (by omega), nI_clamp (by omega), nI_clamp (by omega), nI_1]
        exact ⟨⟨nI_pos (by omega), nI_pos (by omega), by decide, by show 4 * f i + 4 ≤ 26244; omega, by show 4 * (cho W P f i).length + 4 ≤ 400; omega⟩, vp_in_nI (by omega) (by decide), rfl⟩
      · rw [up_c q1]
        funext j
        exact if_neg q2
      · funext j
        exact if_neg q1
      · rw [up_j (by decide)]
        rfl
      · rw [up_s, List.length_append]
        rfl
      · have cp : ∀ j, mj_cp I' 30 (4 * f i) 42 (4 * (cho W P f i).length) 4 42 j = if 4 * (cho W P f i).length ≤ j ∧ j < 4 * (cho W P f i).length + 4 then I' 30 (4 * f i + (j - 4 * (cho W P f i).length)) else I' 42 j := fun j => if_pos rfl
        by_cases z : r < (cho W P f i).length
        · rw [List.getElem?_append_left z] at hr
          obtain ⟨y1, y2⟩ := k5.2 r x hr
          refine ⟨fun w hw => ?_, ?_⟩
          · have := hpl.2.2.2.1
            rw [up_c (by decide), cp, if_neg (by omega)]
            exact y1 w hw
          · rw [show mj_up J' 43 (cho W P f i).length (lN (K (f i))) 43 r = J' 43 r from by simp [mj_up]; omega]
            exact y2
        · rw [List.getElem?_append_right (by omega)] at hr
          have : r = (cho W P f i).length ∧ x = f i := by
            cases y : r - (cho W P f i).length with
            | zero => rw [y] at hr; cases hr; exact ⟨by omega, rfl⟩
            | succ y' => rw [y] at hr; cases hr
          obtain ⟨rfl, rfl⟩ := this
          refine ⟨fun w hw => ?_, upJ_s⟩
          have := hpl.2.2.2.1
          rw [up_c (by decide), cp, if_pos (by omega), show 4 * (cho W P f i).length + w - 4 * (cho W P f i).length = w by omega]
          exact hpl.2.2.2.2.1 (f i) o2 w hw
    obtain ⟨I'', J'', hc2, u1, u2, u3, u4⟩ := add
    refine ⟨trivial, _, _, hc2, ih c I'' J'' (fun q q1 q2 => by rw [u1 q q1 q2]; exact k1 q q1 q2) (fun q q1 => by rw [u2 q q1]; exact k2 q q1) (by rw [u3]; exact k3) (by omega) (by rw [cho_f q]; exact u4)⟩
  · rw [hQ]
    have := cho_len (W := W) (P := P) (f := f) (i := i + 1) (j := N) c
    exact ⟨_, _, _, rfl, frame, k2, k3, fun z => absurd z (by omega), fun _ => rfl⟩
