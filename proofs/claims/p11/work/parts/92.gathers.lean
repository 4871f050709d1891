/-! the reference keeps rows that nothing beats: gathers() -/
section S92a
variable {W : Nat}
/-- r is not beaten by v, nor like it -/
noncomputable def kp (W : Nat) (v r : Nat → Int32) : Bool := @decide (¬ nm W v r) (Classical.propDecidable _)
theorem kp_t {v r : Nat → Int32} : kp W v r = true ↔ ¬ nm W v r := by
  unfold kp
  exact @decide_eq_true_iff _ (Classical.propDecidable _)
noncomputable def gth (W : Nat) (v : Nat → Int32) (R : List (Nat → Int32)) : List (Nat → Int32) := @ite _ (∃ r, r ∈ R ∧ nm W r v) (Classical.propDecidable _) R (R.filter (kp W v) ++ [v])
theorem gth_t {v : Nat → Int32} {R : List (Nat → Int32)} (h : ∃ r, r ∈ R ∧ nm W r v) : gth W v R = R := @if_pos _ (Classical.propDecidable _) h _ _ _
theorem gth_f {v : Nat → Int32} {R : List (Nat → Int32)} (h : ¬ ∃ r, r ∈ R ∧ nm W r v) : gth W v R = R.filter (kp W v) ++ [v] := @if_neg _ (Classical.propDecidable _) h _ _ _
/-- R holds just what nothing else of S beats -/
def mnR (W : Nat) (S : (Nat → Int32) → Prop) (R : List (Nat → Int32)) : Prop := (∀ r, r ∈ R → S r) ∧ R.Pairwise (fun a c => ¬ nm W a c ∧ ¬ nm W c a) ∧ ∀ f, S f → ∃ r, r ∈ R ∧ nm W r f
theorem mnR_cg {S T : (Nat → Int32) → Prop} {R : List (Nat → Int32)} (h : mnR W S R) (e : ∀ f, S f ↔ T f) : mnR W T R := ⟨fun r hr => (e r).mp (h.1 r hr), h.2.1, fun f hf => h.2.2 f ((e f).mpr hf)⟩
theorem mnR_gth {S : (Nat → Int32) → Prop} {R : List (Nat → Int32)} {v : Nat → Int32} (h : mnR W S R) : mnR W (fun f => S f ∨ f = v) (gth W v R) := by
  obtain ⟨h1, h2, h3⟩ := h
  rcases Classical.em (∃ r, r ∈ R ∧ nm W r v) with c | c
  · rw [gth_t c]
    refine ⟨fun r hr => Or.inl (h1 r hr), h2, fun f hf => ?_⟩
    rcases hf with hf | rfl
    · exact h3 f hf
    · exact c
  · rw [gth_f c]
    refine ⟨fun r hr => ?_, ?_, fun f hf => ?_⟩
    · rcases List.mem_append.mp hr with hr | hr
      · exact Or.inl (h1 r (List.mem_filter.mp hr).1)
      · exact Or.inr (List.mem_singleton.mp hr)
    · refine List.pairwise_append.mpr ⟨h2.filter _, List.pairwise_singleton _ _, fun a ha x hx => ?_⟩
      obtain rfl := List.mem_singleton.mp hx
      obtain ⟨m1, m2⟩ := List.mem_filter.mp ha
      exact ⟨fun q => c ⟨a, m1, q⟩, kp_t.mp m2⟩
    · rcases hf with hf | rfl
      · obtain ⟨r, hr, hn⟩ := h3 f hf
        rcases Classical.em (nm W v r) with q | q
        · exact ⟨v, List.mem_append.mpr (Or.inr (List.mem_singleton.mpr rfl)), nm_tr q hn⟩
        · exact ⟨r, List.mem_append.mpr (Or.inl (List.mem_filter.mpr ⟨hr, kp_t.mpr q⟩)), hn⟩
      · exact ⟨f, List.mem_append.mpr (Or.inr (List.mem_singleton.mpr rfl)), nm_rf⟩
theorem mn_len {α : Type} : ∀ {R L : List α}, R.Nodup → (∀ r, r ∈ R → r ∈ L) → R.length ≤ L.length
  | [], _, _, _ => Nat.zero_le _
  | r :: R, L, hn, hs => by
    obtain ⟨h1, h2⟩ := List.nodup_cons.mp hn
    obtain ⟨a, c, rfl⟩ := List.append_of_mem (hs r List.mem_cons_self)
    have ih := mn_len (R := R) (L := a ++ c) h2 (fun x hx => by
      have hx2 := hs x (List.mem_cons_of_mem _ hx)
      rcases List.mem_append.mp hx2 with q | q
      · exact List.mem_append.mpr (Or.inl q)
      · rcases List.mem_cons.mp q with q | q
        · subst q; exact absurd hx h1
        · exact List.mem_append.mpr (Or.inr q))
    rw [List.length_append] at ih ⊢
    simp only [List.length_cons]
    omega
theorem mnR_len {S : (Nat → Int32) → Prop} {R L : List (Nat → Int32)} (h : mnR W S R) (hS : ∀ f, S f → f ∈ L) : R.length ≤ L.length := by
  refine mn_len ?_ (fun r hr => hS r (h.1 r hr))
  refine h.2.1.imp (fun q e => ?_)
  rw [e] at q
  exact q.1 nm_rf
end S92a
section S92
variable {D b W Rn : Nat} {I : Nat → Nat → Int32} {J : Nat → Nat → Int64} {R : List (Nat → Int32)} {v : Nat → Int32} {Wb : Nat → Prop}
def gaL (W : Nat) (Wb : Nat → Prop) (R : List (Nat → Int32)) (I : Nat → Nat → Int32) : Prop := I 0 48 = nI R.length ∧ ∀ k r, R[k]? = some r → (∀ w, w < W → I 29 (4 * k + w) = r w) ∧ ∃ y, Wb y ∧ I 30 k = nI y
theorem r_isLost {k : Nat} {r : Nat → Int32} (hB : rB I b W Rn) (hk : k < 8192) (hr : ∀ w, w < W → I 29 (4 * k + w) = r w) (hv : ∀ w, w < W → I 32 w = v w) : C2 (D + 1) 73 [.ref 0, .int (nI k)] I J (.int (tf (nm W r v))) I J := by
  obtain ⟨h1, h2, h3, h4, h5, h6⟩ := id hB
  refine mj_mk (e73 _ ?_)
  have lp := lp_up (n := W) (fun w => (∀ u, u < w → r u ≤ v u) → E2 73 D (fun x => x = (.int (tf (nm W r v)), (I, J, mj_R2))) 2 [(0, .ref 0), (1, .int (nI k)), (2, .int (nI w))] I J) (fun w hw ih hu => ?_) 0 (by omega) (fun u hu => by omega)
  · exact lp
  refine mj_on (s73_2 _ _ ?_)
  rw [h1, nI_clamp (by omega), h3]
  refine ⟨vp_in_nI h2 (by decide), if_le (by omega) (by omega) (fun c => ?_) (fun c => ?_)⟩
  · obtain rfl : w = W := by omega
    exact mzT (fun u hu2 => hu u hu2)
  · rw [ix4', nI_clamp (by omega), nI_clamp (by omega), hr w c, hv w c, nI_1]
    refine ⟨vp_in_nI (by omega) (by decide), vp_in_nI (by omega) (by decide), if_i (fun d => ih c (fun u hu2 => ?_)) (fun d => mzF fun q => d (q w c))⟩
    by_cases e : u = w
    · subst e; exact d
    · exact hu u (by omega)
theorem r_isWorse {k : Nat} {r : Nat → Int32} (hB : rB I b W Rn) (hk : k < 8192) (hr : ∀ w, w < W → I 29 (4 * k + w) = r w) (hv : ∀ w, w < W → I 32 w = v w) : C2 (D + 1) 74 [.ref 0, .int (nI k)] I J (.int (tf (nm W v r))) I J := by
  obtain ⟨h1, h2, h3, h4, h5, h6⟩ := id hB
  refine mj_mk (e74 _ ?_)
  have lp := lp_up (n := W) (fun w => (∀ u, u < w → v u ≤ r u) → E2 74 D (fun x => x = (.int (tf (nm W v r)), (I, J, mj_R2))) 2 [(0, .ref 0), (1, .int (nI k)), (2, .int (nI w))] I J) (fun w hw ih hu => ?_) 0 (by omega) (fun u hu => by omega)
  · exact lp
  refine mj_on (s74_2 _ _ ?_)
  rw [h1, nI_clamp (by omega), h3]
  refine ⟨vp_in_nI h2 (by decide), if_le (by omega) (by omega) (fun c => ?_) (fun c => ?_)⟩
  · obtain rfl : w = W := by omega
    exact mzT (fun u hu2 => hu u hu2)
  · rw [ix4', nI_clamp (by omega), nI_clamp (by omega), hr w c, hv w c, nI_1]
    refine ⟨vp_in_nI (by omega) (by decide), vp_in_nI (by omega) (by decide), if_i (fun d => ih c (fun u hu2 => ?_)) (fun d => mzF fun q => d (q w c))⟩
    by_cases e : u = w
    · subst e; exact d
    · exact hu u (by omega)
theorem r_lays {k p : Nat} (hk : k < 8192) (hp : p < 8192) : ∃ I' J', C2 (D + 1) 75 [.ref 0, .int (nI k), .int (nI p)] I J .null I' J' ∧ J' = J ∧ (∀ w, w < 4 → I' 29 (4 * k + w) = I 29 (4 * p + w)) ∧ (∀ j, (j < 4 * k ∨ 4 * k + 4 ≤ j) → I' 29 j = I 29 j) ∧ I' 30 k = I 30 p ∧ (∀ j, j ≠ k → I' 30 j = I 30 j) ∧ ∀ q, q ≠ 29 → q ≠ 30 → q ≠ 31 → I' q = I q := by
  refine mj_cN (e75 _ _ ?_)
  obtain ⟨Q, hQ⟩ : ∃ Q, Q = qN mj_R2 (fun I' J' => J' = J ∧ (∀ w, w < 4 → I' 29 (4 * k + w) = I 29 (4 * p + w)) ∧ (∀ j, (j < 4 * k ∨ 4 * k + 4 ≤ j) → I' 29 j = I 29 j) ∧ I' 30 k = I 30 p ∧ (∀ j, j ≠ k → I' 30 j = I 30 j) ∧ ∀ q, q ≠ 29 → q ≠ 30 → q ≠ 31 → I' q = I q) := ⟨_, rfl⟩
  rw [← hQ]
  have lp := lp_up (n := 4) (fun w => ∀ I0, (∀ u, u < w → I0 29 (4 * k + u) = I 29 (4 * p + u)) → (∀ u, w ≤ u → u < 4 → I0 29 (4 * p + u) = I 29 (4 * p + u)) → (∀ j, (j < 4 * k ∨ 4 * k + 4 ≤ j) → I0 29 j = I 29 j) → (∀ q, q ≠ 29 → I0 q = I q) → E2 75 D Q 2 [(0, .ref 0), (1, .int (nI k)), (2, .int (nI p)), (3, .int (nI w))] I0 J) (fun w hw ih I0 h1 h2 h3 h4 => ?_) 0 (by omega) I (fun u hu => by omega) (fun _ _ _ => rfl) (fun _ _ => rfl) (fun _ _ => rfl)
  · exact lp
  refine mj_on (s75_2 _ _ _ ?_)
  rw [show (4 : Int32) = nI 4 from rfl]
  refine if_le (by omega) (by omega) (fun c => ?_) (fun c => ?_)
  · obtain rfl : w = 4 := by omega
    rw [nI_clamp (by omega), nI_clamp (by omega)]
    refine ⟨vp_in_nI hp (by decide), vp_in_nI hk (by decide), ?_⟩
    obtain ⟨Ia, hIa⟩ : ∃ Ia, Ia = mj_up I0 30 k (I0 30 p) := ⟨_, rfl⟩
    rw [← hIa]
    have lp2 := lp_up (n := 10) (fun i => ∀ I1, (∀ q, q ≠ 31 → I1 q = Ia q) → E2 75 D Q 47 [(0, .ref 0), (1, .int (nI k)), (2, .int (nI p)), (3, .int (nI i))] I1 J) (fun i hi ih2 I1 g1 => ?_) 0 (by omega) Ia (fun _ _ => rfl)
    · exact lp2
    refine mj_on (s75_47 _ _ _ ?_)
    rw [show (10 : Int32) = nI 10 from rfl]
    refine if_le (by omega) (by omega) (fun d => ?_) (fun d => ?_)
    · rw [hQ]
      refine ⟨_, _, rfl, rfl, fun u hu => ?_, fun j hj => ?_, ?_, fun j hj => ?_, fun q q1 q2 q3 => ?_⟩
      · rw [g1 29 (by decide), hIa, up_c (by decide)]; exact h1 u hu
      · rw [g1 29 (by decide), hIa, up_c (by decide)]; exact h3 j hj
      · rw [g1 30 (by decide), hIa, up_s, h4 30 (by decide)]
      · rw [g1 30 (by decide), hIa, up_j hj, h4 30 (by decide)]
      · rw [g1 q q3, hIa, up_c q2, h4 q q1]
    · rw [pk_mul, nI_add, pk_mul, nI_add, nI_clamp (by omega), nI_clamp (by omega), nI_1]
      exact ⟨vp_in_nI (by omega) (by decide), vp_in_nI (by omega) (by decide), ih2 d _ (fun q hq => by rw [up_c hq]; exact g1 q hq)⟩
  · rw [pk_mul, nI_add, pk_mul, nI_add, nI_clamp (by omega), nI_clamp (by omega), nI_1]
    refine ⟨vp_in_nI (by omega) (by decide), vp_in_nI (by omega) (by decide), ?_⟩
    refine ih c _ (fun u hu => ?_) (fun u hu hu4 => ?_) (fun j hj => by rw [up_j (by omega)]; exact h3 j hj) (fun q hq => by rw [up_c hq]; exact h4 q hq)
    · by_cases e : u = w
      · subst e
        rw [up_s, h2 u (by omega) c]
      · rw [up_j (by omega)]
        exact h1 u (by omega)
    · by_cases e : 4 * p + u = 4 * k + w
      · obtain ⟨e1, e2⟩ : p = k ∧ u = w := by omega
        omega
      · rw [up_j e]
        exact h2 u (by omega) hu4
theorem r_gathers {x : Nat} (hB : rB I b W Rn) (hg : gaL W Wb R I) (hv : ∀ w, w < W → I 32 w = v w) (h8 : R.length < 8191) (hx : Wb x) : ∃ I' J', C2 (D + 2) 72 [.ref 0, .int (nI x)] I J .null I' J' ∧ J' = J ∧ gaL W Wb (gth W v R) I' ∧ ∀ q j, q ≠ 29 → q ≠ 30 → q ≠ 31 → (q ≠ 0 ∨ j ≠ 48) → I' q j = I q j := by
  obtain ⟨b1, b2, b3, b4, b5, b6⟩ := id hB
  obtain ⟨g1, g2⟩ := id hg
  refine mj_cN (e72 _ ?_)
  obtain ⟨Q, hQ⟩ : ∃ Q, Q = qN mj_R2 (fun I' J' => J' = J ∧ gaL W Wb (gth W v R) I' ∧ ∀ q j, q ≠ 29 → q ≠ 30 → q ≠ 31 → (q ≠ 0 ∨ j ≠ 48) → I' q j = I q j) := ⟨_, rfl⟩
  rw [← hQ]
  have row : ∀ k, k < R.length → ∃ r, R[k]? = some r ∧ r ∈ R := fun k hk => ⟨R[k], List.getElem?_eq_getElem hk, List.getElem_mem hk⟩
  have lp := lp_up (n := R.length) (fun k => (∀ j r, j < k → R[j]? = some r → ¬ nm W r v) → E2 72 (D + 1) Q 2 [(0, .ref 0), (1, .int (nI x)), (2, .int (nI k))] I J) (fun k hk ih hn => ?_) 0 (by omega) (fun j r hj => by omega)
  · exact lp
  refine mj_on (s72_2 _ _ ?_)
  rw [g1]
  refine if_le (by omega) (by omega) (fun c => ?_) (fun c => ?_)
  · have hno : ¬ ∃ r, r ∈ R ∧ nm W r v := by
      rintro ⟨r, hr, hq⟩
      obtain ⟨j, hj⟩ := List.getElem?_of_mem hr
      have hjl := (List.getElem?_eq_some_iff.mp hj).1
      exact hn j r (by omega) hj hq
    have lp2 := lp_up (n := R.length) (fun i => ∀ I0, (∀ q, q ≠ 29 → q ≠ 30 → q ≠ 31 → I0 q = I q) → (∀ j r, ((R.take i).filter (kp W v))[j]? = some r → (∀ w, w < W → I0 29 (4 * j + w) = r w) ∧ ∃ y, Wb y ∧ I0 30 j = nI y) → (∀ j r, i ≤ j → R[j]? = some r → (∀ w, w < W → I0 29 (4 * j + w) = r w) ∧ ∃ y, Wb y ∧ I0 30 j = nI y) → E2 72 (D + 1) Q 29 [(0, .ref 0), (1, .int (nI x)), (2, .int (nI ((R.take i).filter (kp W v)).length)), (3, .int (nI i))] I0 J) (fun i hi ih2 I0 f1 f2 f3 => ?_) 0 (by omega) I (fun _ _ _ _ => rfl) (fun j r hj => by simp at hj) (fun j r _ hj => g2 j r hj)
    · exact lp2
    have hB0 : rB I0 b W Rn := by
      unfold rB at hB ⊢
      rw [f1 0 (by decide) (by decide) (by decide), f1 2 (by decide) (by decide) (by decide), f1 3 (by decide) (by decide) (by decide)]
      exact hB
    have hfl : ((R.take i).filter (kp W v)).length ≤ i := Nat.le_trans (List.length_filter_le _ _) (by rw [List.length_take]; omega)
    refine mj_on (s72_29 _ _ _ ?_)
    rw [f1 0 (by decide) (by decide) (by decide), g1]
    refine if_le (by omega) (by omega) (fun d => ?_) (fun d => ?_)
    · obtain rfl : i = R.length := by omega
      rw [List.take_length] at hfl f2 ⊢
      obtain ⟨m, hm⟩ : ∃ m, m = (R.filter (kp W v)).length := ⟨_, rfl⟩
      rw [← hm] at hfl ⊢
      have lp3 := lp_up (n := W) (fun w => ∀ I1, (∀ q, q ≠ 29 → I1 q = I0 q) → (∀ j, j < 4 * m → I1 29 j = I0 29 j) → (∀ u, u < w → I1 29 (4 * m + u) = v u) → E2 72 (D + 1) Q 65 [(0, .ref 0), (1, .int (nI x)), (2, .int (nI m)), (3, .int (nI w))] I1 J) (fun w hw ih3 I1 k1 k2 k3 => ?_) 0 (by omega) I0 (fun _ _ => rfl) (fun _ _ => rfl) (fun u hu => by omega)
      · exact lp3
      refine mj_on (s72_65 _ _ _ ?_)
      rw [k1 0 (by decide), f1 0 (by decide) (by decide) (by decide), b1, nI_clamp (by omega), k1 2 (by decide), f1 2 (by decide) (by decide) (by decide), b3]
      refine ⟨vp_in_nI b2 (by decide), if_le (by omega) (by omega) (fun e => ?_) (fun e => ?_)⟩
      · obtain rfl : w = W := by omega
        rw [nI_clamp (by omega)]
        refine ⟨vp_in_nI (by omega) (by decide), ?_⟩
        obtain ⟨Ia, hIa⟩ : ∃ Ia, Ia = mj_up I1 30 m (nI x) := ⟨_, rfl⟩
        rw [← hIa]
        have lp4 := lp_up (n := 10) (fun i => ∀ I2, (∀ q, q ≠ 31 → I2 q = Ia q) → E2 72 (D + 1) Q 109 [(0, .ref 0), (2, .int (nI m)), (3, .int (nI i))] I2 J) (fun i hi ih4 I2 n1 => ?_) 0 (by omega) Ia (fun _ _ => rfl)
        · exact lp4
        refine mj_on (s72_109 _ _ ?_)
        rw [show (10 : Int32) = nI 10 from rfl]
        refine if_le (by omega) (by omega) (fun y => ?_) (fun y => ?_)
        · rw [hQ, nI_1]
          refine ⟨_, _, rfl, rfl, ⟨?_, fun j r hj => ?_⟩, fun q j q1 q2 q3 q4 => ?_⟩
          · rw [gth_f hno, List.length_append, up_s, ← hm]
            rfl
          · rw [gth_f hno] at hj
            rw [up_c (by decide), up_c (by decide), n1 29 (by decide), n1 30 (by decide), hIa]
            rcases app_at hj with ⟨hj1, hj2⟩ | ⟨hj1, hj2⟩
            · rw [← hm] at hj1
              obtain ⟨p1, p2⟩ := f2 j r hj2
              refine ⟨fun w hw => ?_, ?_⟩
              · rw [up_c (by decide), k2 _ (by omega)]
                exact p1 w hw
              · rw [up_j (by omega), k1 30 (by decide)]
                exact p2
            · rw [← hm] at hj1
              subst hj1; subst hj2
              refine ⟨fun w hw => ?_, x, hx, up_s⟩
              rw [up_c (by decide)]
              exact k3 w hw
          · rw [up_n (by omega), n1 q q3, hIa, up_c q2, k1 q q1, f1 q q1 q2 q3]
        · rw [pk_mul, nI_add, nI_clamp (by omega), nI_clamp (by omega), nI_1]
          exact ⟨vp_in_nI (by omega) (by decide), vp_in_nI (by omega) (by decide), ih4 y _ (fun q hq => by rw [up_c hq]; exact n1 q hq)⟩
      · rw [ix4', nI_clamp (by omega), nI_clamp (by omega), nI_1, k1 32 (by decide), f1 32 (by decide) (by decide) (by decide), hv w e]
        refine ⟨vp_in_nI (by omega) (by decide), vp_in_nI (by omega) (by decide), ?_⟩
        refine ih3 e _ (fun q hq => by rw [up_c hq]; exact k1 q hq) (fun j hj => by rw [up_j (by omega)]; exact k2 j hj) (fun u hu => ?_)
        by_cases z : u = w
        · subst z; exact up_s
        · rw [up_j (by omega)]; exact k3 u (by omega)
    · obtain ⟨r, hr, hrm⟩ := row i d
      obtain ⟨p1, p2⟩ := f3 i r (Nat.le_refl _) hr
      have htk : R.take (i + 1) = R.take i ++ [r] := by rw [List.take_add_one, hr]; rfl
      have c74 := r_isWorse (D := D) (J := J) hB0 (by omega) p1 (v := v) (fun w hw => by rw [f1 32 (by decide) (by decide) (by decide)]; exact hv w hw)
      refine ⟨trivial, _, _, _, c74, ?_⟩
      rw [nI_1, nI_1]
      refine if_tf (fun hq => ?_) (fun hq => ?_)
      · have hf : (R.take (i + 1)).filter (kp W v) = (R.take i).filter (kp W v) := by
          rw [htk, List.filter_append, List.filter_cons, if_neg (fun z => kp_t.mp z hq), List.filter_nil, List.append_nil]
        have := ih2 d I0 f1 (by rw [hf]; exact f2) (fun j r hj => f3 j r (by omega))
        rw [hf] at this
        exact this
      · have hf : (R.take (i + 1)).filter (kp W v) = (R.take i).filter (kp W v) ++ [r] := by
          rw [htk, List.filter_append, List.filter_cons, if_pos (kp_t.mpr hq), List.filter_nil]
        obtain ⟨m, hm⟩ : ∃ m, m = ((R.take i).filter (kp W v)).length := ⟨_, rfl⟩
        rw [← hm] at hfl ⊢
        obtain ⟨I1, J1, c1, rfl, l1, l2, l3, l4, l5⟩ := r_lays (D := D) (I := I0) (J := J) (k := m) (p := i) (by omega) (by omega)
        refine ⟨trivial, _, _, c1, ?_⟩
        have := ih2 d I1 (fun q q1 q2 q3 => by rw [l5 q q1 q2 q3, f1 q q1 q2 q3]) (fun j r2 hj => ?_) (fun j r2 hj hr2 => ?_)
        · rw [hf, List.length_append, ← hm] at this
          exact this
        · rw [hf] at hj
          rcases app_at hj with ⟨hj1, hj2⟩ | ⟨hj1, hj2⟩
          · rw [← hm] at hj1
            obtain ⟨o1, o2⟩ := f2 j r2 hj2
            refine ⟨fun w hw => ?_, ?_⟩
            · rw [l2 _ (by omega)]
              exact o1 w hw
            · rw [l4 j (by omega)]
              exact o2
          · rw [← hm] at hj1
            subst hj1; subst hj2
            refine ⟨fun w hw => ?_, ?_⟩
            · rw [l1 w (by omega)]
              exact p1 w hw
            · rw [l3]
              exact p2
        · obtain ⟨o1, o2⟩ := f3 j r2 (by omega) hr2
          refine ⟨fun w hw => ?_, ?_⟩
          · rw [l2 _ (by omega)]
            exact o1 w hw
          · rw [l4 j (by omega)]
            exact o2
  · obtain ⟨r, hr, hrm⟩ := row k c
    refine ⟨trivial, _, _, _, r_isLost (D := D) hB (by omega) (g2 k r hr).1 hv, ?_⟩
    rw [nI_1]
    refine if_tf (fun hq => ?_) (fun hq => ?_)
    · rw [hQ]
      refine ⟨_, _, rfl, rfl, ?_, fun _ _ _ _ _ _ => rfl⟩
      rw [gth_t ⟨r, hrm, hq⟩]
      exact hg
    · refine ih c (fun j r2 hj hr2 => ?_)
      by_cases e : j = k
      · subst e
        rw [hr] at hr2
        cases hr2
        exact hq
      · exact hn j r2 (by omega) hr2
end S92
