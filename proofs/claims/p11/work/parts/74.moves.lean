/-! the next choice, on both sides; what a choice needs -/
def arrL (I : Nat → Nat → Int32) (c : Nat) (t : List Nat) : Prop := ∀ i x, t[i]? = some x → I c i = nI x
theorem arrL_iot {I : Nat → Nat → Int32} {c s : Nat} (h : ∀ i, i < s → I c i = nI i) : arrL I c (iot 0 s) := fun i x hx => by
  have hi : i < s := by
    have := (List.getElem?_eq_some_iff.mp hx).1
    rwa [iot_len] at this
  rw [iot_at hi] at hx
  cases hx
  rw [h i hi, Nat.zero_add]
theorem arrL_nxt {I : Nat → Nat → Int32} {c k x s : Nat} {t : List Nat} (hs : t.length = s) (hk : k < s) (h1 : ∀ j y, j < k → t[j]? = some y → I c j = nI y) (h2 : ∀ j, k ≤ j → j < s → I c j = nI (x + 1 + (j - k))) : arrL I c (t.take k ++ iot (x + 1) (s - k)) := fun i y hy => by
  have hl : (t.take k).length = k := by rw [List.length_take]; omega
  by_cases e : i < k
  · rw [List.getElem?_append_left (by omega), List.getElem?_take_of_lt e] at hy
    exact h1 i y e hy
  · rw [List.getElem?_append_right (by omega), hl] at hy
    have hi : i - k < s - k := by
      have := (List.getElem?_eq_some_iff.mp hy).1
      rwa [iot_len] at this
    rw [iot_at hi] at hy
    cases hy
    rw [h2 i (by omega) (by omega)]
theorem nI_m1 (k : Nat) : nI k + (-1) = nI k - 1 := (Int32.sub_eq_add_neg _ _).symm
section S74
variable {D b W Rn Kn Tn Hn Un g : Nat} {I I1 I2 : Nat → Nat → Int32} {J J1 J2 : Nat → Nat → Int64}
theorem c_moveOn {n s : Nat} {t : List Nat} (hn : I 47 0 = nI n) (hn2 : n ≤ 24) (hs : t.length = s) (hs2 : s ≤ 16) (hsn : s ≤ n) (hv : vld n t) (ha : arrL I 49 t) : ∃ r I' J', C1 (D + 1) 248 [.ref 47, .int (nI s)] I J (.int r) I' J' ∧ r = tf (nxt n t ≠ none) ∧ J' = J ∧ (∀ q, q ≠ 49 → I' q = I q) ∧ ∀ t', nxt n t = some t' → arrL I' 49 t' := by
  refine mj_cI (e248 _ ?_)
  obtain ⟨Q, hQ⟩ : ∃ Q, Q = qI mj_R1 (fun r I' J' => r = tf (nxt n t ≠ none) ∧ J' = J ∧ (∀ q, q ≠ 49 → I' q = I q) ∧ ∀ t', nxt n t = some t' → arrL I' 49 t') := ⟨_, rfl⟩
  rw [← hQ]
  have key : ∀ k, k ≤ s → (∀ j y, k ≤ j → t[j]? = some y → n ≤ y + (s - j)) → E1 248 D Q 4 [(0, .ref 47), (1, .int (nI s)), (2, .int (nI k - 1))] I J := by
    intro k
    induction k with
    | zero =>
      intro _ h
      refine mj_on (s248_4 _ _ ?_)
      rw [if_pos (by decide), hQ]
      have e : nxt n t = none := nxt_none fun j y hy => by rw [hs]; exact h j y (Nat.zero_le _) hy
      exact ⟨Or.inl rfl, _, _, _, rfl, by rw [tf_f (fun q => q e)], rfl, fun _ _ => rfl, fun t' q => by rw [e] at q; cases q⟩
    | succ k ih =>
      intro hk h
      obtain ⟨x, hx, -, -⟩ := gt_of (l := t) (n := k) (by omega)
      have hvx := vld_at hv hx
      rw [hs] at hvx
      refine mj_on (s248_4 _ _ ?_)
      rw [n1_sub, if_neg (nI_pos (by omega)), nI_clamp (by omega), hn, pk_sub hsn, nI_add, ha k x hx, nI_m1]
      refine ⟨vp_in_nI (by omega) (by decide), if_le (by omega) (by omega) (fun c => ih (by omega) fun j y h1 h2 => ?_) (fun c => ?_)⟩
      · by_cases e : j = k
        · subst e
          rw [hx] at h2
          cases h2
          omega
        · exact h j y (by omega) h2
      have e : nxt n t = some (t.take k ++ iot (x + 1) (s - k)) := by
        have := nxt_find (n := n) hx (by rw [hs]; omega) (fun j y h1 h2 => by rw [hs]; exact h j y (by omega) h2)
        rwa [hs] at this
      rw [nI_1, nI_1]
      refine ⟨vp_in_nI (by omega) (by decide), vp_in_nI (by omega) (by decide), ?_⟩
      refine lp_up (n := s) (fun m => k < m → ∀ I', (∀ q, q ≠ 49 → I' q = I q) → (∀ j y, j < k → t[j]? = some y → I' 49 j = nI y) → (∀ j, k ≤ j → j < m → I' 49 j = nI (x + 1 + (j - k))) → E1 248 D Q 39 [(0, .ref 47), (1, .int (nI s)), (3, .int (nI m))] I' J) (fun m hm ih2 hkm I' i1 i2 i3 => ?_) (k + 1) hk (by omega) _ (fun q hq => by rw [up_c hq]) (fun j y h1 h2 => by rw [up_j (by omega)]; exact ha j y h2) (fun j h1 h2 => by
        obtain rfl : j = k := by omega
        rw [up_s, Nat.sub_self, Nat.add_zero])
      refine mj_on (s248_39 _ _ ?_)
      refine if_le (by omega) (by omega) (fun d => ?_) (fun d => ?_)
      · obtain rfl : m = s := by omega
        rw [hQ]
        exact ⟨Or.inr rfl, _, _, _, rfl, by rw [tf_t (fun q => by rw [e] at q; cases q)], rfl, i1, fun t' q => by
          rw [e] at q
          cases q
          exact arrL_nxt hs (by omega) i2 i3⟩
      · obtain ⟨m', rfl⟩ : ∃ m', m = m' + 1 := ⟨m - 1, by omega⟩
        rw [n1_sub, nI_clamp (by omega), nI_clamp (by omega), i3 m' (by omega) (by omega), nI_1, nI_1]
        refine ⟨vp_in_nI (by omega) (by decide), vp_in_nI (by omega) (by decide), ih2 d (by omega) _ (fun q hq => by rw [up_c hq]; exact i1 q hq) (fun j y h1 h2 => by rw [up_j (by omega)]; exact i2 j y h1 h2) (fun j h1 h2 => ?_)⟩
        by_cases z : j = m' + 1
        · rw [z, up_s]
          congr 1
          omega
        · rw [up_j z]; exact i3 j h1 (by omega)
  exact key s (Nat.le_refl _) (fun j y h1 h2 => by
    have := (List.getElem?_eq_some_iff.mp h2).1
    omega)
theorem r_next {n s : Nat} {t : List Nat} (hn : I 0 58 = nI n) (hn2 : n ≤ 24) (hs : t.length = s) (hs2 : s ≤ 16) (hsn : s ≤ n) (hv : vld n t) (ha : arrL I 42 t) : ∃ r I' J', C2 (D + 1) 99 [.ref 0, .int (nI s)] I J (.int r) I' J' ∧ r = tf (nxt n t ≠ none) ∧ J' = J ∧ (∀ q, q ≠ 42 → I' q = I q) ∧ ∀ t', nxt n t = some t' → arrL I' 42 t' := by
  refine mj_cI (e99 _ ?_)
  obtain ⟨Q, hQ⟩ : ∃ Q, Q = qI mj_R2 (fun r I' J' => r = tf (nxt n t ≠ none) ∧ J' = J ∧ (∀ q, q ≠ 42 → I' q = I q) ∧ ∀ t', nxt n t = some t' → arrL I' 42 t') := ⟨_, rfl⟩
  rw [← hQ]
  have key : ∀ k, k ≤ s → (∀ j y, k ≤ j → t[j]? = some y → n ≤ y + (s - j)) → E2 99 D Q 4 [(0, .ref 0), (1, .int (nI s)), (2, .int (nI k - 1))] I J := by
    intro k
    induction k with
    | zero =>
      intro _ h
      refine mj_on (s99_4 _ _ ?_)
      rw [if_pos (by decide)]
      refine mj_on (s99_31 _ _ ?_)
      rw [if_pos (by decide), hQ]
      have e : nxt n t = none := nxt_none fun j y hy => by rw [hs]; exact h j y (Nat.zero_le _) hy
      exact ⟨Or.inl rfl, _, _, _, rfl, by rw [tf_f (fun q => q e)], rfl, fun _ _ => rfl, fun t' q => by rw [e] at q; cases q⟩
    | succ k ih =>
      intro hk h
      obtain ⟨x, hx, -, -⟩ := gt_of (l := t) (n := k) (by omega)
      have hvx := vld_at hv hx
      rw [hs] at hvx
      refine mj_on (s99_4 _ _ ?_)
      rw [n1_sub, if_neg (nI_pos (by omega)), nI_clamp (by omega), hn, pk_sub hsn, nI_add, ha k x hx, nI_m1]
      refine ⟨vp_in_nI (by omega) (by decide), if_eq (by omega) (by omega) (fun c => ih (by omega) fun j y h1 h2 => ?_) (fun c => ?_)⟩
      · by_cases e : j = k
        · subst e
          rw [hx] at h2
          cases h2
          omega
        · exact h j y (by omega) h2
      have e : nxt n t = some (t.take k ++ iot (x + 1) (s - k)) := by
        have := nxt_find (n := n) hx (by rw [hs]; omega) (fun j y h1 h2 => by rw [hs]; exact h j y (by omega) h2)
        rwa [hs] at this
      refine mj_on (s99_31 _ _ ?_)
      rw [if_neg (nI_pos (by omega)), nI_clamp (by omega), ha k x hx, nI_1, nI_1]
      refine ⟨vp_in_nI (by omega) (by decide), vp_in_nI (by omega) (by decide), ?_⟩
      refine lp_up (n := s) (fun m => k < m → ∀ I', (∀ q, q ≠ 42 → I' q = I q) → (∀ j y, j < k → t[j]? = some y → I' 42 j = nI y) → (∀ j, k ≤ j → j < m → I' 42 j = nI (x + 1 + (j - k))) → E2 99 D Q 51 [(0, .ref 0), (1, .int (nI s)), (3, .int (nI m))] I' J) (fun m hm ih2 hkm I' i1 i2 i3 => ?_) (k + 1) hk (by omega) _ (fun q hq => by rw [up_c hq]) (fun j y h1 h2 => by rw [up_j (by omega)]; exact ha j y h2) (fun j h1 h2 => by
        obtain rfl : j = k := by omega
        rw [up_s, Nat.sub_self, Nat.add_zero])
      refine mj_on (s99_51 _ _ ?_)
      refine if_le (by omega) (by omega) (fun d => ?_) (fun d => ?_)
      · obtain rfl : m = s := by omega
        rw [hQ]
        exact ⟨Or.inr rfl, _, _, _, rfl, by rw [tf_t (fun q => by rw [e] at q; cases q)], rfl, i1, fun t' q => by
          rw [e] at q
          cases q
          exact arrL_nxt hs (by omega) i2 i3⟩
      · obtain ⟨m', rfl⟩ : ∃ m', m = m' + 1 := ⟨m - 1, by omega⟩
        rw [n1_sub, nI_clamp (by omega), nI_clamp (by omega), i3 m' (by omega) (by omega), nI_1, nI_1]
        refine ⟨vp_in_nI (by omega) (by decide), vp_in_nI (by omega) (by decide), ih2 d (by omega) _ (fun q hq => by rw [up_c hq]; exact i1 q hq) (fun j y h1 h2 => by rw [up_j (by omega)]; exact i2 j y h1 h2) (fun j h1 h2 => ?_)⟩
        by_cases z : j = m' + 1
        · rw [z, up_s]
          congr 1
          omega
        · rw [up_j z]; exact i3 j h1 (by omega)
  exact key s (Nat.le_refl _) (fun j y h1 h2 => by
    have := (List.getElem?_eq_some_iff.mp h2).1
    omega)
end S74
