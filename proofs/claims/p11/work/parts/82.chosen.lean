/-! what is chosen of an ordered pool is its front; there is but one front -/
noncomputable def cho (W : Nat) (P : Nat → Nat → Int32) (f : Nat → Nat) : Nat → List Nat
  | 0 => []
  | i + 1 => @ite _ (∃ x, x ∈ cho W P f i ∧ nm W (P x) (P (f i))) (Classical.propDecidable _) (cho W P f i) (cho W P f i ++ [f i])
section CH
variable {W N : Nat} {P : Nat → Nat → Int32} {K : Nat → Nat} {f : Nat → Nat}
theorem cho_t {i : Nat} (h : ∃ x, x ∈ cho W P f i ∧ nm W (P x) (P (f i))) : cho W P f (i + 1) = cho W P f i := @if_pos _ (Classical.propDecidable _) h _ _ _
theorem cho_f {i : Nat} (h : ¬ ∃ x, x ∈ cho W P f i ∧ nm W (P x) (P (f i))) : cho W P f (i + 1) = cho W P f i ++ [f i] := @if_neg _ (Classical.propDecidable _) h _ _ _
theorem cho_len {i : Nat} : ∀ {j : Nat}, i ≤ j → (cho W P f i).length ≤ (cho W P f j).length
  | 0, h => by rw [show i = 0 by omega]; exact Nat.le_refl _
  | j + 1, h => by
    by_cases e : i = j + 1
    · rw [e]; exact Nat.le_refl _
    · have := cho_len (i := i) (j := j) (by omega)
      rcases Classical.em (∃ x, x ∈ cho W P f j ∧ nm W (P x) (P (f j))) with q | q
      · rw [cho_t q]; exact this
      · rw [cho_f q, List.length_append]; omega
theorem nm_tr {a b c : Nat → Int32} (h : nm W a b) (k : nm W b c) : nm W a c := fun w hw => Int32.le_trans (h w hw) (k w hw)
theorem nm_rf {a : Nat → Int32} : nm W a a := fun _ _ => Int32.le_refl _
theorem nm_eq {a b : Nat → Int32} (e : ∀ w, w < W → a w = b w) : nm W a b := fun w hw => by rw [e w hw]; exact Int32.le_refl _
/-- what is nowhere more is the same, or is less by its first difference -/
theorem nm_lx {a b : Nat → Int32} (h : nm W a b) : (∀ w, w < W → a w = b w) ∨ lexlt W a b := by
  rcases lex_tri (W := W) (f := a) (g := b) with q | q | ⟨w, w1, w2, -⟩
  · exact Or.inr q
  · exact Or.inl q
  · exact absurd (h w w1) (Int32.not_le.mpr w2)
theorem cho_ok (hs : ∀ i j, i < j → j < N → ¬ ah W P K (f j) (f i)) : ∀ i, i ≤ N →
    (∀ x, x ∈ cho W P f i → ∃ j, j < i ∧ x = f j) ∧ (∀ j, j < i → ∃ x, x ∈ cho W P f i ∧ nm W (P x) (P (f j))) ∧
    (cho W P f i).Pairwise (fun x y => lexlt W (P x) (P y)) ∧ (∀ x, x ∈ cho W P f i → ∀ j, j < i → nm W (P (f j)) (P x) → nm W (P x) (P (f j))) ∧
    (∀ x, x ∈ cho W P f i → ∀ j, j < i → (∀ w, w < W → P (f j) w = P x w) → K x ≤ K (f j))
  | 0, _ => ⟨fun x h => (by cases h), fun j h => absurd h (Nat.not_lt_zero j), List.Pairwise.nil, fun x h => (by cases h), fun x h => (by cases h)⟩
  | i + 1, hi => by
    obtain ⟨hA, hB, hS, hM, hK⟩ := cho_ok hs i (by omega)
    have oldM : ∀ x, x ∈ cho W P f i → nm W (P (f i)) (P x) → nm W (P x) (P (f i)) := fun x hx q => by
      obtain ⟨j, hj, rfl⟩ := hA x hx
      rcases nm_lx q with e | e
      · exact nm_eq fun w hw => (e w hw).symm
      · exact absurd (Or.inl e) (hs j i hj (by omega))
    have oldK : ∀ x, x ∈ cho W P f i → (∀ w, w < W → P (f i) w = P x w) → K x ≤ K (f i) := fun x hx q => by
      obtain ⟨j, hj, rfl⟩ := hA x hx
      refine Nat.le_of_not_lt fun z => hs j i hj (by omega) (Or.inr ⟨q, z⟩)
    rcases Classical.em (∃ x, x ∈ cho W P f i ∧ nm W (P x) (P (f i))) with q | q
    · rw [cho_t q]
      refine ⟨fun x hx => ?_, fun j hj => ?_, hS, fun x hx j hj => ?_, fun x hx j hj => ?_⟩
      · obtain ⟨j, h1, h2⟩ := hA x hx
        exact ⟨j, by omega, h2⟩
      · by_cases e : j = i
        · rw [e]; exact q
        · exact hB j (by omega)
      · by_cases e : j = i
        · rw [e]; exact oldM x hx
        · exact hM x hx j (by omega)
      · by_cases e : j = i
        · rw [e]; exact oldK x hx
        · exact hK x hx j (by omega)
    · rw [cho_f q]
      have newM : ∀ j, j < i → ¬ nm W (P (f j)) (P (f i)) := fun j hj z => by
        obtain ⟨x, hx, y⟩ := hB j hj
        exact q ⟨x, hx, nm_tr y z⟩
      refine ⟨fun x hx => ?_, fun j hj => ?_, ?_, fun x hx j hj => ?_, fun x hx j hj => ?_⟩
      · rcases List.mem_append.mp hx with hx | hx
        · obtain ⟨j, h1, h2⟩ := hA x hx
          exact ⟨j, by omega, h2⟩
        · exact ⟨i, by omega, List.mem_singleton.mp hx⟩
      · by_cases e : j = i
        · rw [e]; exact ⟨f i, List.mem_append_right _ List.mem_cons_self, nm_rf⟩
        · obtain ⟨x, h1, h2⟩ := hB j (by omega)
          exact ⟨x, List.mem_append_left _ h1, h2⟩
      · refine List.pairwise_append.mpr ⟨hS, List.pairwise_singleton _ _, fun x hx y hy => ?_⟩
        rw [List.mem_singleton.mp hy]
        obtain ⟨j, hj, rfl⟩ := hA x hx
        rcases lex_tri (W := W) (f := P (f j)) (g := P (f i)) with z | z | z
        · exact z
        · exact absurd (nm_eq z) (newM j hj)
        · exact absurd (Or.inl z) (hs j i hj (by omega))
      · rcases List.mem_append.mp hx with hx | hx
        · by_cases e : j = i
          · rw [e]; exact oldM x hx
          · exact hM x hx j (by omega)
        · rw [List.mem_singleton.mp hx]
          by_cases e : j = i
          · rw [e]; exact fun _ => nm_rf
          · exact fun z => absurd z (newM j (by omega))
      · rcases List.mem_append.mp hx with hx | hx
        · by_cases e : j = i
          · rw [e]; exact oldK x hx
          · exact hK x hx j (by omega)
        · rw [List.mem_singleton.mp hx]
          by_cases e : j = i
          · rw [e]; exact fun _ => Nat.le_refl _
          · exact fun z => absurd (nm_eq z) (newM j (by omega))
/-- the candidates of a pool -/
def plC (W N : Nat) (P : Nat → Nat → Int32) (K : Nat → Nat) (r : Nat → Int32) (k : Nat) : Prop := ∃ x, x < N ∧ (∀ w, w < W → r w = P x w) ∧ k = K x
theorem cho_FR (hf : ∀ i, i < N → f i < N) (h : srt W P K N f) : FR W (plC W N P K) (cho W P f N).length (fun r => P ((cho W P f N).getD r 0)) (fun r => K ((cho W P f N).getD r 0)) := by
  obtain ⟨hA, hB, hS, hM, hK⟩ := cho_ok (P := P) (K := K) h.1 N (Nat.le_refl _)
  have gd : ∀ r, r < (cho W P f N).length → ∃ x, (cho W P f N)[r]? = some x ∧ (cho W P f N).getD r 0 = x ∧ x ∈ cho W P f N := fun r hr => by
    obtain ⟨x, h1, h2, -⟩ := gt_of hr
    exact ⟨x, h1, by rw [List.getD_eq_getElem?_getD, h1]; rfl, h2⟩
  have of : ∀ x, x < N → ∃ j, j < N ∧ f j = x := h.2
  refine ⟨fun i j hij hj => ?_, fun i hi => ?_, fun i hi r k ⟨x, x1, x2, x3⟩ q => ?_, fun i hi r k ⟨x, x1, x2, x3⟩ q => ?_, fun r k ⟨x, x1, x2, x3⟩ => ?_⟩
  · obtain ⟨x, hx, ex, -⟩ := gd i (by omega)
    obtain ⟨y, hy, ey, -⟩ := gd j hj
    show lexlt W (P ((cho W P f N).getD i 0)) (P ((cho W P f N).getD j 0))
    rw [ex, ey]
    have hx2 := List.getElem?_eq_some_iff.mp hx
    have hy2 := List.getElem?_eq_some_iff.mp hy
    have := (List.pairwise_iff_getElem.mp hS) i j hx2.1 hy2.1 hij
    rw [hx2.2, hy2.2] at this
    exact this
  · obtain ⟨x, hx, ex, hm⟩ := gd i hi
    obtain ⟨j, hj, e⟩ := hA x hm
    exact ⟨(cho W P f N).getD i 0, by rw [ex, e]; exact hf j hj, fun w _ => rfl, rfl⟩
  · obtain ⟨y, hy, ey, hm⟩ := gd i hi
    obtain ⟨j, hj, rfl⟩ := of x x1
    have q : nm W r (P y) := by rw [← ey]; exact q
    show nm W (P ((cho W P f N).getD i 0)) r
    rw [ey]
    have := hM y hm j hj (nm_tr (nm_eq fun w hw => (x2 w hw).symm) q)
    exact nm_tr this (nm_eq fun w hw => (x2 w hw).symm)
  · obtain ⟨y, hy, ey, hm⟩ := gd i hi
    obtain ⟨j, hj, rfl⟩ := of x x1
    show K ((cho W P f N).getD i 0) ≤ k
    rw [ey, x3]
    refine hK y hm j hj fun w hw => ?_
    have := q w hw
    rw [← x2 w hw, this]
    show P ((cho W P f N).getD i 0) w = _
    rw [ey]
  · obtain ⟨j, hj, rfl⟩ := of x x1
    obtain ⟨y, hy, z⟩ := hB j hj
    obtain ⟨i, hi, e⟩ := List.getElem_of_mem hy
    refine ⟨i, hi, ?_⟩
    show nm W (P ((cho W P f N).getD i 0)) r
    rw [List.getD_eq_getElem?_getD, List.getElem?_eq_getElem hi, e]
    exact nm_tr z (nm_eq fun w hw => (x2 w hw).symm)
end CH
theorem mono_ge {σ : Nat → Nat} {n : Nat} (h : ∀ i j, i < j → j < n → σ i < σ j) : ∀ i, i < n → i ≤ σ i
  | 0, _ => Nat.zero_le _
  | i + 1, hi => by
    have h1 := mono_ge h i (by omega)
    have h2 := h i (i + 1) (by omega) hi
    omega
/-- two fronts of the same candidates are the same -/
theorem FR_one {W : Nat} {C : (Nat → Int32) → Nat → Prop} {n n' : Nat} {F F' : Nat → Nat → Int32} {key key' : Nat → Nat} (h : FR W C n F key) (h' : FR W C n' F' key') : n = n' ∧ ∀ i, i < n → (∀ w, w < W → F i w = F' i w) ∧ key i = key' i := by
  have half : ∀ {n n' : Nat} {F F' : Nat → Nat → Int32} {key key' : Nat → Nat}, FR W C n F key → FR W C n' F' key' → ∀ i, i < n → ∃ j, j < n' ∧ ∀ w, w < W → F i w = F' j w := by
    intro n n' F F' key key' h h' i hi
    obtain ⟨j, hj, q⟩ := h'.2.2.2.2 (F i) (key i) (h.2.1 i hi)
    have q2 := h.2.2.1 i hi (F' j) (key' j) (h'.2.1 j hj) q
    exact ⟨j, hj, fun w hw => Int32.le_antisymm (q2 w hw) (q w hw)⟩
  have mono : ∀ {n n' : Nat} {F F' : Nat → Nat → Int32} {key key' : Nat → Nat}, FR W C n F key → FR W C n' F' key' → ∀ (σ : Nat → Nat), (∀ i, i < n → σ i < n' ∧ ∀ w, w < W → F i w = F' (σ i) w) → ∀ i j, i < j → j < n → σ i < σ j := by
    intro n n' F F' key key' h h' σ hσ i j hij hj
    have l1 := h.1 i j hij hj
    have l2 : lexlt W (F' (σ i)) (F' (σ j)) := lex_el (hσ i (by omega)).2 (lex_er (hσ j hj).2 l1)
    refine Nat.lt_of_not_le fun z => ?_
    by_cases e : σ i = σ j
    · rw [e] at l2; exact lex_ir l2
    · exact lex_ir (lex_tr l2 (h'.1 (σ j) (σ i) (by omega) (hσ i (by omega)).1))
  obtain ⟨σ, hσ⟩ : ∃ σ : Nat → Nat, ∀ i, i < n → σ i < n' ∧ ∀ w, w < W → F i w = F' (σ i) w := by
    have ex : ∀ i, ∃ j, i < n → j < n' ∧ ∀ w, w < W → F i w = F' j w := fun i => by
      by_cases hi : i < n
      · obtain ⟨j, q⟩ := half h h' i hi
        exact ⟨j, fun _ => q⟩
      · exact ⟨0, fun q => absurd q hi⟩
    exact Classical.axiomOfChoice ex
  obtain ⟨τ, hτ⟩ : ∃ τ : Nat → Nat, ∀ i, i < n' → τ i < n ∧ ∀ w, w < W → F' i w = F (τ i) w := by
    have ex : ∀ i, ∃ j, i < n' → j < n ∧ ∀ w, w < W → F' i w = F j w := fun i => by
      by_cases hi : i < n'
      · obtain ⟨j, q⟩ := half h' h i hi
        exact ⟨j, fun _ => q⟩
      · exact ⟨0, fun q => absurd q hi⟩
    exact Classical.axiomOfChoice ex
  have m1 := mono_ge (mono h h' σ hσ)
  have m2 := mono_ge (mono h' h τ hτ)
  have inv : ∀ i, i < n → τ (σ i) = i := fun i hi => by
    obtain ⟨a1, a2⟩ := hσ i hi
    obtain ⟨c1, c2⟩ := hτ (σ i) a1
    have e : ∀ w, w < W → F i w = F (τ (σ i)) w := fun w hw => by rw [a2 w hw, c2 w hw]
    rcases Nat.lt_trichotomy i (τ (σ i)) with q | q | q
    · exact (lex_ir (lex_el e (h.1 i _ q c1))).elim
    · exact q.symm
    · exact (lex_ir (lex_er e (h.1 _ i q hi))).elim
  have sid : ∀ i, i < n → σ i = i := fun i hi => by
    have a1 := m1 i hi
    have a2 := m2 (σ i) (hσ i hi).1
    have a3 := inv i hi
    omega
  have nn : n = n' := by
    refine Nat.le_antisymm (Nat.le_of_not_lt fun z => ?_) (Nat.le_of_not_lt fun z => ?_)
    · have := (hσ n' z).1
      have := sid n' z
      omega
    · have a1 := (hτ n z).1
      have a2 := m2 n z
      omega
  refine ⟨nn, fun i hi => ?_⟩
  have e := (hσ i hi).2
  rw [sid i hi] at e
  refine ⟨e, Nat.le_antisymm (h.2.2.2.1 i hi (F' i) (key' i) (h'.2.1 i (by omega)) fun w hw => (e w hw).symm) (h'.2.2.2.1 i (by omega) (F i) (key i) (h.2.1 i hi) e)⟩
