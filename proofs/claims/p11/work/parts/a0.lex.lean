/-! what stands at a place of the text: signs, numbers, words -/
def lxk (x : Nat) : Nat := if 97 ≤ x ∧ x ≤ 122 then 3 else if 48 ≤ x ∧ x ≤ 57 then 2 else 1
theorem lxk_3 {x : Nat} : lxk x = 3 ↔ 97 ≤ x ∧ x ≤ 122 := by
  unfold lxk
  by_cases h : 97 ≤ x ∧ x ≤ 122
  · rw [if_pos h]; exact ⟨fun _ => h, fun _ => rfl⟩
  · rw [if_neg h]
    refine ⟨fun q => ?_, fun q => absurd q h⟩
    split at q <;> omega
theorem lxk_2 {x : Nat} : lxk x = 2 ↔ 48 ≤ x ∧ x ≤ 57 := by
  unfold lxk
  by_cases h : 97 ≤ x ∧ x ≤ 122
  · rw [if_pos h]
    exact ⟨fun q => by omega, fun q => by omega⟩
  · rw [if_neg h]
    by_cases h2 : 48 ≤ x ∧ x ≤ 57
    · rw [if_pos h2]; exact ⟨fun _ => h2, fun _ => rfl⟩
    · rw [if_neg h2]; exact ⟨fun q => by omega, fun q => absurd q h2⟩
theorem lxk_rng (x : Nat) : lxk x = 1 ∨ lxk x = 2 ∨ lxk x = 3 := by
  unfold lxk
  split
  · exact Or.inr (Or.inr rfl)
  · split
    · exact Or.inr (Or.inl rfl)
    · exact Or.inl rfl
def lxb (x : Nat) : Prop := x = 32 ∨ x = 10
def lxt (n : Nat) (x : Nat → Nat) (I : Nat → Nat → Int32) (c : Nat) : Prop := n ≤ 900 ∧ ∀ j, j < n → I c j = nI (x j) ∧ x j < 256
/-- a word's letters, from its last one on -/
def lxw (x : Nat → Nat) (p : Nat) : Nat → List Nat
  | 0 => []
  | i + 1 => (x (p + i) - 96) :: lxw x p i
def lxn (x : Nat → Nat) (p : Nat) : Nat → Nat
  | 0 => 0
  | i + 1 => 10 * lxn x p i + (x (p + i) - 48)
def lxl (l : List Nat) : Prop := 1 ≤ l.length ∧ l.length ≤ 6 ∧ ∀ a ∈ l, 1 ≤ a ∧ a ≤ 26
theorem lxw_len {x : Nat → Nat} {p : Nat} : ∀ {i}, (lxw x p i).length = i
  | 0 => rfl
  | i + 1 => by show (lxw x p i).length + 1 = _; rw [lxw_len]
theorem lxw_ok {x : Nat → Nat} {p : Nat} : ∀ {i}, (∀ j, j < i → lxk (x (p + j)) = 3) → ∀ a ∈ lxw x p i, 1 ≤ a ∧ a ≤ 26
  | 0, _, a, ha => absurd ha List.not_mem_nil
  | i + 1, h, a, ha => by
    rcases List.mem_cons.mp ha with rfl | ha
    · have := lxk_3.mp (h i (by omega)); omega
    · exact lxw_ok (fun j hj => h j (by omega)) a ha
theorem lxn_lt {x : Nat → Nat} {p : Nat} : ∀ {i}, (∀ j, j < i → lxk (x (p + j)) = 2) → lxn x p i < 10 ^ i
  | 0, _ => Nat.zero_lt_one
  | i + 1, h => by
    have ih := lxn_lt (x := x) (p := p) (i := i) fun j hj => h j (by omega)
    have := lxk_2.mp (h i (by omega))
    show 10 * lxn x p i + (x (p + i) - 48) < _
    rw [Nat.pow_succ]
    omega
theorem nmC_inj : ∀ {l m : List Nat}, (∀ a ∈ l, 1 ≤ a ∧ a ≤ 26) → (∀ a ∈ m, 1 ≤ a ∧ a ≤ 26) → nmC l = nmC m → l = m
  | [], [], _, _, _ => rfl
  | [], y :: m, _, h, e => by
    have := h y List.mem_cons_self
    have e : 0 = nmC m * 32 + y := e
    omega
  | y :: l, [], h, _, e => by
    have := h y List.mem_cons_self
    have e : nmC l * 32 + y = 0 := e
    omega
  | y :: l, z :: m, h, h', e => by
    have h1 := h y List.mem_cons_self
    have h2 := h' z List.mem_cons_self
    have e : nmC l * 32 + y = nmC m * 32 + z := e
    have e1 : y = z := by omega
    have e2 : nmC l = nmC m := by omega
    rw [e1, nmC_inj (fun a ha => h a (List.mem_cons_of_mem _ ha)) (fun a ha => h' a (List.mem_cons_of_mem _ ha)) e2]
theorem nmR_inj : ∀ {l m : List Nat}, (∀ a ∈ l, 1 ≤ a ∧ a ≤ 26) → (∀ a ∈ m, 1 ≤ a ∧ a ≤ 26) → nmR l = nmR m → l = m
  | [], [], _, _, _ => rfl
  | [], y :: m, _, h, e => by
    have := h y List.mem_cons_self
    have e : 0 = nmR m * 256 + (y + 96) := e
    omega
  | y :: l, [], h, _, e => by
    have := h y List.mem_cons_self
    have e : nmR l * 256 + (y + 96) = 0 := e
    omega
  | y :: l, z :: m, h, h', e => by
    have h1 := h y List.mem_cons_self
    have h2 := h' z List.mem_cons_self
    have e : nmR l * 256 + (y + 96) = nmR m * 256 + (z + 96) := e
    have e1 : y = z := by omega
    have e2 : nmR l = nmR m := by omega
    rw [e1, nmR_inj (fun a ha => h a (List.mem_cons_of_mem _ ha)) (fun a ha => h' a (List.mem_cons_of_mem _ ha)) e2]
theorem owL_ok : ∀ n, n < 17 → (1 ≤ (owL.getD n []).length ∧ (owL.getD n []).length ≤ 6 ∧ ∀ a ∈ owL.getD n [], 1 ≤ a ∧ a ≤ 26) := by decide
/-- the number of a word that the language has for itself, or -1 -/
def lxo (l : List Nat) (o : Int) : Prop := (o = -1 ∧ ∀ n, n < 17 → owL.getD n [] ≠ l) ∨ ∃ n : Nat, n < 17 ∧ o = n ∧ owL.getD n [] = l
section Sa0
variable {D n a p : Nat} {x : Nat → Nat} {I : Nat → Nat → Int32} {J : Nat → Nat → Int64}
theorem c_kind {y : Nat} (hx : y < 256) : C1 (D + 1) 141 [.int (nI y)] I J (.int (nI (lxk y))) I J := by
  refine mj_mk (e141 _ ?_)
  have low : ¬ (97 ≤ y ∧ y ≤ 122) → E1 141 D (fun r => r = (.int (nI (lxk y)), (I, J, mj_R1))) 14 [(0, .int (nI y))] I J := fun h => by
    refine mj_on (s141_14 _ ?_)
    rw [show (48 : Int32) = nI 48 from rfl, show (57 : Int32) = nI 57 from rfl]
    refine if_lt (by omega) (by decide) (fun c => ?_) (fun c => if_lt (by decide) (by omega) (fun d => ?_) (fun d => ?_))
    · have e : lxk y = 1 := by
        rcases lxk_rng y with q | q | q
        · exact q
        · have := lxk_2.mp q; omega
        · exact absurd (lxk_3.mp q) h
      rw [e]; rfl
    · have e : lxk y = 1 := by
        rcases lxk_rng y with q | q | q
        · exact q
        · have := lxk_2.mp q; omega
        · exact absurd (lxk_3.mp q) h
      rw [e]; rfl
    · rw [lxk_2.mpr ⟨c, d⟩]; rfl
  rw [show (97 : Int32) = nI 97 from rfl, show (122 : Int32) = nI 122 from rfl]
  refine if_lt (by omega) (by decide) (fun c => low (by omega)) (fun c => if_lt (by decide) (by omega) (fun d => low (by omega)) (fun d => ?_))
  rw [lxk_3.mpr ⟨c, d⟩]; rfl
theorem r_letter {y : Nat} (hx : y < 256) : C2 (D + 1) 14 [.int (nI y)] I J (.int (tf (lxk y = 3))) I J := by
  refine mj_mk (e14 _ ?_)
  rw [show (97 : Int32) = nI 97 from rfl, show (122 : Int32) = nI 122 from rfl]
  exact if_lt (by omega) (by decide) (fun c => mzF fun q => by have := lxk_3.mp q; omega) (fun c => if_lt (by decide) (by omega) (fun d => mzF fun q => by have := lxk_3.mp q; omega) (fun d => mzT (lxk_3.mpr ⟨c, d⟩)))
theorem r_digit {y : Nat} (hx : y < 256) : C2 (D + 1) 15 [.int (nI y)] I J (.int (tf (lxk y = 2))) I J := by
  refine mj_mk (e15 _ ?_)
  rw [show (48 : Int32) = nI 48 from rfl, show (57 : Int32) = nI 57 from rfl]
  exact if_lt (by omega) (by decide) (fun c => mzF fun q => by have := lxk_2.mp q; omega) (fun c => if_lt (by decide) (by omega) (fun d => mzF fun q => by have := lxk_2.mp q; omega) (fun d => mzT (lxk_2.mpr ⟨c, d⟩)))
/-- from a on to p there are but blanks -/
def lxs (n : Nat) (x : Nat → Nat) (a p : Nat) : Prop := a ≤ p ∧ p ≤ n ∧ (∀ j, a ≤ j → j < p → lxb (x j)) ∧ (p < n → ¬ lxb (x p))
theorem lxs_ex : ∀ (k a : Nat), n = a + k → ∃ p, lxs n x a p
  | 0, a, h => ⟨a, Nat.le_refl _, by omega, fun j h1 h2 => by omega, fun q => by omega⟩
  | k + 1, a, h => by
    rcases Classical.em (lxb (x a)) with c | c
    · obtain ⟨p, h1, h2, h3, h4⟩ := lxs_ex k (a + 1) (by omega)
      refine ⟨p, by omega, h2, fun j q1 q2 => ?_, h4⟩
      by_cases e : j = a
      · subst e; exact c
      · exact h3 j (by omega) q2
    · exact ⟨a, Nat.le_refl _, by omega, fun j h1 h2 => by omega, fun _ => c⟩
theorem c_skip (ht : lxt n x I 13) (h2 : I 11 2 = nI n) (h4 : I 11 4 = nI a) (hs : lxs n x a p) : ∃ I' J', C1 (D + 1) 140 [.ref 11] I J .null I' J' ∧ J' = J ∧ I' 11 4 = nI p ∧ ∀ q j, (q ≠ 11 ∨ j ≠ 4) → I' q j = I q j := by
  obtain ⟨s1, s2, s3, s4⟩ := hs
  obtain ⟨t1, t2⟩ := ht
  refine mj_cN (e140 ?_)
  obtain ⟨Q, hQ⟩ : ∃ Q, Q = qN mj_R1 (fun I' J' => J' = J ∧ I' 11 4 = nI p ∧ ∀ q j, (q ≠ 11 ∨ j ≠ 4) → I' q j = I q j) := ⟨_, rfl⟩
  rw [← hQ, h4]
  have lp := lp_up (n := p) (fun i => a ≤ i → ∀ I0, I0 11 4 = nI i → (∀ q j, (q ≠ 11 ∨ j ≠ 4) → I0 q j = I q j) → E1 140 D Q 5 [(0, .ref 11), (1, .int (nI i))] I0 J) (fun i hi ih hai I0 g1 g2 => ?_) a s1 (Nat.le_refl _) I h4 (fun _ _ _ => rfl)
  · exact lp
  have nxt : i < p → E1 140 D Q 35 [(0, .ref 11), (1, .int (nI i))] I0 J := fun c => by
    refine mj_on (s140_35 _ ?_)
    rw [nI_1]
    exact ih c (by omega) _ up_s (fun q j hq => by rw [up_n hq]; exact g2 q j hq)
  refine mj_on (s140_5 _ ?_)
  rw [g2 11 2 (by decide), h2]
  refine if_le (by omega) (by omega) (fun c => ?_) (fun c => ?_)
  · obtain rfl : i = p := by omega
    rw [hQ]
    exact ⟨_, _, rfl, rfl, g1, g2⟩
  obtain ⟨u1, u2⟩ := t2 i c
  rw [nI_clamp (by omega), g2 13 i (Or.inl (by decide)), u1, show (32 : Int32) = nI 32 from rfl, show (10 : Int32) = nI 10 from rfl]
  have vi : vp_in (nI i) 900 := vp_in_nI (by omega) (by decide)
  by_cases e : i = p
  · subst e
    have nb := s4 c
    refine ⟨vi, if_eq (by omega) (by decide) (fun q => absurd (Or.inl q) nb) (fun _ => ⟨vi, if_eq (by omega) (by decide) (fun q => absurd (Or.inr q) nb) (fun _ => ?_)⟩)⟩
    rw [hQ]
    exact ⟨_, _, rfl, rfl, g1, g2⟩
  · have hb := s3 i hai (by omega)
    refine ⟨vi, if_eq (by omega) (by decide) (fun _ => nxt (by omega)) (fun q1 => ⟨vi, if_eq (by omega) (by decide) (fun _ => nxt (by omega)) (fun q2 => ?_)⟩)⟩
    rcases hb with hb | hb
    · exact absurd hb q1
    · exact absurd hb q2
theorem r_skip {Q : mj_R → Prop} (ht : lxt n x I 1) (h2 : I 0 2 = nI n) (hs : lxs n x a p) (h : E2 13 D Q 41 [(0, .ref 0), (1, .int (nI p))] I J) : E2 13 D Q 5 [(0, .ref 0), (1, .int (nI a))] I J := by
  obtain ⟨s1, s2, s3, s4⟩ := hs
  obtain ⟨t1, t2⟩ := ht
  have lp := lp_up (n := p) (fun i => a ≤ i → E2 13 D Q 5 [(0, .ref 0), (1, .int (nI i))] I J) (fun i hi ih hai => ?_) a s1 (Nat.le_refl _)
  · exact lp
  refine mj_on (s13_5 _ ?_)
  rw [h2, nI_1]
  refine if_le (by omega) (by omega) (fun c => ?_) (fun c => ?_)
  · obtain rfl : i = p := by omega
    exact h
  obtain ⟨u1, u2⟩ := t2 i c
  rw [nI_clamp (by omega), u1, show (32 : Int32) = nI 32 from rfl, show (10 : Int32) = nI 10 from rfl]
  have vi : vp_in (nI i) 900 := vp_in_nI (by omega) (by decide)
  by_cases e : i = p
  · subst e
    have nb := s4 c
    exact ⟨vi, if_eq (by omega) (by decide) (fun q => absurd (Or.inl q) nb) (fun _ => ⟨vi, if_eq (by omega) (by decide) (fun q => absurd (Or.inr q) nb) (fun _ => h)⟩)⟩
  · have hb := s3 i hai (by omega)
    refine ⟨vi, if_eq (by omega) (by decide) (fun _ => ih (by omega) (by omega)) (fun q1 => ⟨vi, if_eq (by omega) (by decide) (fun _ => ih (by omega) (by omega)) (fun q2 => ?_)⟩)⟩
    rcases hb with hb | hb
    · exact absurd hb q1
    · exact absurd hb q2
/-- the run of k's that begins at p: m long -/
def lxr (n : Nat) (x : Nat → Nat) (p k m : Nat) : Prop := p + m ≤ n ∧ (∀ j, j < m → lxk (x (p + j)) = k) ∧ (p + m < n → lxk (x (p + m)) ≠ k)
theorem lxr_ex (k : Nat) : ∀ (r p : Nat), n = p + r → ∃ m, lxr n x p k m
  | 0, p, h => ⟨0, by omega, fun j hj => by omega, fun q => by omega⟩
  | r + 1, p, h => by
    by_cases c : lxk (x p) = k
    · obtain ⟨m, h1, h2, h3⟩ := lxr_ex k r (p + 1) (by omega)
      refine ⟨m + 1, by omega, fun j hj => ?_, fun q => ?_⟩
      · by_cases e : j = 0
        · subst e; exact c
        · have := h2 (j - 1) (by omega)
          rw [show p + 1 + (j - 1) = p + j by omega] at this
          exact this
      · have := h3 (by omega)
        rw [show p + 1 + m = p + (m + 1) by omega] at this
        exact this
    · exact ⟨0, by omega, fun j hj => by omega, fun _ => c⟩
/-- the number of an own word -/
theorem c_own {l : List Nat} (hO : rlO I) (hl : ∀ a ∈ l, 1 ≤ a ∧ a ≤ 26) (h6 : l.length ≤ 6) : ∃ r I' J', C1 (D + 1) 142 [.ref 11, .int (nI (nmC l))] I J (.int r) I' J' ∧ (∃ o, r = iI o ∧ lxo l o) ∧ I' = I ∧ J' = J := by
  refine mj_cI (e142 _ ?_)
  obtain ⟨Q, hQ⟩ : ∃ Q, Q = qI mj_R1 (fun r I' J' => (∃ o, r = iI o ∧ lxo l o) ∧ I' = I ∧ J' = J) := ⟨_, rfl⟩
  rw [← hQ]
  have lt : ∀ {l : List Nat}, (∀ a ∈ l, 1 ≤ a ∧ a ≤ 26) → l.length ≤ 6 → nmC l < 2 ^ 30 := fun {l} h1 h2 => by
    have := nmC_lt h1
    have h3 : 32 ^ l.length ≤ 32 ^ 6 := Nat.pow_le_pow_right (by decide) h2
    omega
  have lp := lp_up (n := 17) (fun k => (∀ i, i < k → owL.getD i [] ≠ l) → E1 142 D Q 2 [(0, .ref 11), (1, .int (nI (nmC l))), (2, .int (nI k))] I J) (fun k hk ih hn => ?_) 0 (by omega) (fun i hi => by omega)
  · exact lp
  refine mj_on (s142_2 _ _ ?_)
  rw [show (17 : Int32) = nI 17 from rfl]
  refine if_le (by decide) (by omega) (fun c => ?_) (fun c => ?_)
  · obtain rfl : k = 17 := by omega
    rw [hQ]
    exact ⟨_, _, _, rfl, ⟨-1, rfl, Or.inl ⟨rfl, hn⟩⟩, rfl, rfl⟩
  obtain ⟨w1, w2, w3⟩ := owL_ok k c
  rw [nI_clamp (by omega), hO k c, nI_1]
  refine ⟨vp_in_nI c (by decide), if_eq (by have := lt w3 w2; omega) (by have := lt hl h6; omega) (fun e => ?_) (fun e => ?_)⟩
  · have := nmC_inj w3 hl e
    rw [hQ]
    exact ⟨_, _, _, rfl, ⟨k, (iI_nI k).symm, Or.inr ⟨k, c, rfl, this⟩⟩, rfl, rfl⟩
  · refine ih c (fun i hi => ?_)
    by_cases z : i = k
    · subst z; intro q; exact e (by rw [q])
    · exact hn i (by omega)
end Sa0
