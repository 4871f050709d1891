/-! the class' pool put in order -/
section LX
variable {W : Nat} {f g h : Nat → Int32}
theorem lex_tri : ∀ {W : Nat}, lexlt W f g ∨ (∀ w, w < W → f w = g w) ∨ lexlt W g f
  | 0 => Or.inr (Or.inl fun w hw => absurd hw (Nat.not_lt_zero w))
  | W + 1 => by
    rcases lex_tri (W := W) with ⟨w, h1, h2, h3⟩ | e | ⟨w, h1, h2, h3⟩
    · exact Or.inl ⟨w, by omega, h2, h3⟩
    · rcases Classical.em (f W = g W) with q | q
      · refine Or.inr (Or.inl fun w hw => ?_)
        by_cases z : w = W
        · rw [z]; exact q
        · exact e w (by omega)
      · by_cases c : f W < g W
        · exact Or.inl ⟨W, by omega, c, e⟩
        · refine Or.inr (Or.inr ⟨W, by omega, ?_, fun u hu => (e u hu).symm⟩)
          refine Int32.lt_iff_le_and_ne.mpr ⟨Int32.not_lt.mp c, fun z => q z.symm⟩
    · exact Or.inr (Or.inr ⟨w, by omega, h2, h3⟩)
theorem lex_tr (a : lexlt W f g) (b : lexlt W g h) : lexlt W f h := by
  obtain ⟨w, a1, a2, a3⟩ := a
  obtain ⟨v, b1, b2, b3⟩ := b
  by_cases c : w < v
  · exact ⟨w, a1, by rw [← b3 w c]; exact a2, fun u hu => by rw [a3 u hu, b3 u (by omega)]⟩
  · by_cases d : v < w
    · exact ⟨v, b1, by rw [a3 v d]; exact b2, fun u hu => by rw [a3 u (by omega), b3 u hu]⟩
    · obtain rfl : w = v := by omega
      exact ⟨w, a1, Int32.lt_trans a2 b2, fun u hu => by rw [a3 u hu, b3 u hu]⟩
theorem lex_ir (a : lexlt W f f) : False := by
  obtain ⟨w, -, a2, -⟩ := a
  exact Int32.lt_irrefl a2
theorem lex_el (e : ∀ w, w < W → f w = g w) (a : lexlt W f h) : lexlt W g h := by
  obtain ⟨w, a1, a2, a3⟩ := a
  exact ⟨w, a1, by rw [← e w a1]; exact a2, fun u hu => by rw [← e u (by omega)]; exact a3 u hu⟩
theorem lex_er (e : ∀ w, w < W → g w = h w) (a : lexlt W f g) : lexlt W f h := by
  obtain ⟨w, a1, a2, a3⟩ := a
  exact ⟨w, a1, by rw [← e w a1]; exact a2, fun u hu => by rw [a3 u hu]; exact e u (by omega)⟩
end LX
/-- x comes before y in the pool -/
def ah (W : Nat) (P : Nat → Nat → Int32) (K : Nat → Nat) (x y : Nat) : Prop := lexlt W (P x) (P y) ∨ ((∀ w, w < W → P x w = P y w) ∧ K x < K y)
section AH
variable {W : Nat} {P : Nat → Nat → Int32} {K : Nat → Nat} {x y z : Nat}
theorem ah_as (a : ah W P K x y) : ¬ ah W P K y x := by
  rintro (b | ⟨b1, b2⟩)
  · rcases a with a | ⟨a1, a2⟩
    · exact lex_ir (lex_tr a b)
    · exact lex_ir (lex_er a1 b)
  · rcases a with a | ⟨a1, a2⟩
    · exact lex_ir (lex_er b1 a)
    · omega
theorem ah_nt (a : ¬ ah W P K x y) (b : ¬ ah W P K y z) : ¬ ah W P K x z := by
  intro c
  rcases lex_tri (W := W) (f := P x) (g := P y) with q | q | q
  · exact a (Or.inl q)
  · rcases c with c | ⟨c1, c2⟩
    · exact b (Or.inl (lex_el q c))
    · by_cases d : K x < K y
      · exact a (Or.inr ⟨q, d⟩)
      · exact b (Or.inr ⟨fun w hw => by rw [← q w hw]; exact c1 w hw, by omega⟩)
  · rcases c with c | ⟨c1, c2⟩
    · exact b (Or.inl (lex_tr q c))
    · exact b (Or.inl (lex_er c1 q))
end AH
section S80
variable {D W N : Nat} {P : Nat → Nat → Int32} {K : Nat → Nat} {I : Nat → Nat → Int32} {J : Nat → Nat → Int64}
def plP (W N : Nat) (P : Nat → Nat → Int32) (K : Nat → Nat) (I : Nat → Nat → Int32) (J : Nat → Nat → Int64) : Prop := I 29 3 = nI N ∧ I 29 4 = nI W ∧ N ≤ 6561 ∧ W ≤ 4 ∧ (∀ x, x < N → ∀ w, w < W → I 30 (4 * x + w) = P x w) ∧ ∀ x, x < N → J 31 x = lN (K x) ∧ K x < 2 ^ 62
theorem plP_up {I' : Nat → Nat → Int32} (h : plP W N P K I J) (e : ∀ q, q ≠ 32 → I' q = I q) : plP W N P K I' J := by
  obtain ⟨h1, h2, h3, h4, h5, h6⟩ := h
  exact ⟨by rw [e 29 (by decide)]; exact h1, by rw [e 29 (by decide)]; exact h2, h3, h4, fun x hx w hw => by rw [e 30 (by decide)]; exact h5 x hx w hw, h6⟩
theorem c_plAhead {x y : Nat} (h : plP W N P K I J) (hx : x < N) (hy : y < N) : C1 (D + 1) 216 [.ref 29, .int (nI x), .int (nI y)] I J (.int (tf (ah W P K x y))) I J := by
  obtain ⟨h1, h2, h3, h4, h5, h6⟩ := h
  refine mj_mk (e216 _ _ ?_)
  refine lp_up (n := W) (fun w => (∀ u, u < w → P x u = P y u) → E1 216 D (fun q => q = (.int (tf (ah W P K x y)), (I, J, mj_R1))) 2 [(0, .ref 29), (1, .int (nI x)), (2, .int (nI y)), (3, .int (nI w))] I J) (fun w hw ih he => ?_) 0 (Nat.zero_le _) (fun u hu => absurd hu (Nat.not_lt_zero u))
  refine mj_on (s216_2 _ _ _ ?_)
  rw [h2, nI_1, ix4, ix4, nI_clamp (by omega), nI_clamp (by omega), nI_clamp (by omega), nI_clamp (by omega)]
  refine if_le (by omega) (by omega) (fun c => ⟨vp_in_nI (by omega) (by decide), vp_in_nI (by omega) (by decide), ?_⟩) (fun c => ⟨vp_in_nI (by omega) (by decide), vp_in_nI (by omega) (by decide), ?_⟩)
  · obtain rfl : w = W := by omega
    rw [(h6 x hx).1, (h6 y hy).1]
    have kx := (h6 x hx).2
    have ky := (h6 y hy).2
    refine if_i (fun d => mzT ?_) (fun d => mzF ?_)
    · rw [cmp_lt.1, lNtI kx, lNtI ky] at d
      exact Or.inr ⟨he, by omega⟩
    · rw [cmp_lt.1, lNtI kx, lNtI ky] at d
      rintro (q | q)
      · exact lex_ir (lex_er (fun u hu => (he u hu).symm) q)
      · omega
  · rw [h5 x hx w c, h5 y hy w c]
    refine if_i (fun d => ih c fun u hu => ?_) (fun d => if_i (fun e => mzF ?_) (fun e => mzT (Or.inl ⟨w, c, Int32.not_le.mp e, he⟩)))
    · by_cases z : u = w
      · rw [z]; exact d
      · exact he u (by omega)
    · have lt : P y w < P x w := Int32.lt_iff_le_and_ne.mpr ⟨e, fun z => d z.symm⟩
      exact ah_as (Or.inl ⟨w, c, lt, fun u hu => (he u hu).symm⟩)
/-- the order: f tells which one stands where -/
def odP (N : Nat) (f : Nat → Nat) (I : Nat → Nat → Int32) : Prop := ∀ i, i < N → I 32 i = nI (f i) ∧ f i < N
def swp (f : Nat → Nat) (a c : Nat) : Nat → Nat := fun i => if i = c then f a else if i = a then f c else f i
theorem c_plSwap {f : Nat → Nat} {a c : Nat} (hN : N ≤ 6561) (ho : odP N f I) (ha : a < N) (hc : c < N) : ∃ I', C1 (D + 1) 217 [.ref 29, .int (nI a), .int (nI c)] I J .null I' J ∧ (∀ q, q ≠ 32 → I' q = I q) ∧ odP N (swp f a c) I' := by
  refine ⟨mj_up (mj_up I 32 a (I 32 c)) 32 c (I 32 a), mj_mk (e217 _ _ ?_), fun q hq => by rw [up_c hq, up_c hq], fun i hi => ?_⟩
  · rw [nI_clamp (by omega), nI_clamp (by omega)]
    have v1 : vp_in (nI a) 6561 := vp_in_nI (by omega) (by decide)
    have v2 : vp_in (nI c) 6561 := vp_in_nI (by omega) (by decide)
    exact ⟨v1, v2, v1, v2, rfl⟩
  · unfold swp
    by_cases e : i = c
    · rw [e, up_s, if_pos rfl]
      exact ho a ha
    · rw [up_j e, if_neg e]
      by_cases d : i = a
      · rw [d, up_s, if_pos rfl]
        exact ho c hc
      · rw [up_j d, if_neg d]
        exact ho i hi
/-- c hangs under i -/
def chd (i c : Nat) : Prop := c = 2 * i + 1 ∨ c = 2 * i + 2
def hpP (W : Nat) (P : Nat → Nat → Int32) (K : Nat → Nat) (f : Nat → Nat) (lo n : Nat) : Prop := ∀ i c, lo ≤ i → chd i c → c < n → ¬ ah W P K (f i) (f c)
def imP (f g : Nat → Nat) (n : Nat) : Prop := ∀ x, (∃ i, i < n ∧ f i = x) ↔ ∃ i, i < n ∧ g i = x
theorem imP_swp {f : Nat → Nat} {a c n : Nat} (ha : a < n) (hc : c < n) : imP (swp f a c) f n := fun x => by
  unfold swp
  constructor
  · rintro ⟨i, hi, e⟩
    by_cases z : i = c
    · rw [if_pos z] at e; exact ⟨a, ha, e⟩
    · rw [if_neg z] at e
      by_cases y : i = a
      · rw [if_pos y] at e; exact ⟨c, hc, e⟩
      · rw [if_neg y] at e; exact ⟨i, hi, e⟩
  · rintro ⟨i, hi, e⟩
    by_cases z : i = c
    · refine ⟨a, ha, ?_⟩
      by_cases y : a = c
      · rw [if_pos y, y, ← z]; exact e
      · rw [if_neg y, if_pos rfl, ← z]; exact e
    · by_cases y : i = a
      · refine ⟨c, hc, ?_⟩
        rw [if_pos rfl, ← y]; exact e
      · refine ⟨i, hi, ?_⟩
        rw [if_neg z, if_neg y]; exact e
theorem imP_tr {f g h : Nat → Nat} {n : Nat} (a : imP f g n) (b : imP g h n) : imP f h n := fun x => (a x).trans (b x)
theorem c_sink {f : Nat → Nat} {i0 n : Nat} (h : plP W N P K I J) (ho : odP N f I) (hn : n ≤ N) (hi : i0 < n) (hp : hpP W P K f (i0 + 1) n) : ∃ I' J' f', C1 (D + 2) 215 [.ref 29, .int (nI i0), .int (nI n)] I J .null I' J' ∧ J' = J ∧ (∀ q, q ≠ 32 → I' q = I q) ∧ odP N f' I' ∧ hpP W P K f' i0 n ∧ imP f' f n ∧ ∀ i, n ≤ i → f' i = f i := by
  have hN := h.2.2.1
  suffices hs : ∃ I' J', C1 (D + 2) 215 [.ref 29, .int (nI i0), .int (nI n)] I J .null I' J' ∧ (J' = J ∧ (∀ q, q ≠ 32 → I' q = I q) ∧ ∃ f', odP N f' I' ∧ hpP W P K f' i0 n ∧ imP f' f n ∧ ∀ i, n ≤ i → f' i = f i) by
    obtain ⟨I', J', q1, q2, q3, f', q4⟩ := hs
    exact ⟨I', J', f', q1, q2, q3, q4⟩
  refine mj_cN (e215 _ _ ?_)
  obtain ⟨Q, hQ⟩ : ∃ Q, Q = qN mj_R1 (fun I' J' => J' = J ∧ (∀ q, q ≠ 32 → I' q = I q) ∧ ∃ f', odP N f' I' ∧ hpP W P K f' i0 n ∧ imP f' f n ∧ ∀ i, n ≤ i → f' i = f i) := ⟨_, rfl⟩
  rw [← hQ]
  have loop : ∀ m p t I' f', n - p ≤ m → p < n → i0 ≤ p → 2 ^ t ≤ p + 1 → (∀ q, q ≠ 32 → I' q = I q) → odP N f' I' → imP f' f n → (∀ i, n ≤ i → f' i = f i) → (∀ j c, i0 ≤ j → j ≠ p → chd j c → c < n → ¬ ah W P K (f' j) (f' c)) → (∀ q c, i0 ≤ q → chd q p → chd p c → c < n → ¬ ah W P K (f' q) (f' c)) → E1 215 (D + 1) Q 5 [(0, .ref 29), (2, .int (nI n)), (3, .int (nI p)), (4, .int (nI t))] I' J := by
    intro m
    induction m with
    | zero => intro p t I' f' h1 h2; omega
    | succ m ih =>
      intro p t I' f' h1 h2 h3 h4 h5 h6 h7 h8 h9 h10
      have ht : t < 14 := by
        refine Nat.lt_of_not_le fun z => ?_
        have : 2 ^ 14 ≤ 2 ^ t := Nat.pow_le_pow_right (by decide) z
        omega
      have hpl := plP_up h h5
      have done : (∀ c, chd p c → c < n → ¬ ah W P K (f' p) (f' c)) → Q (.null, (I', J, mj_R1)) := fun q => by
        rw [hQ]
        refine ⟨_, _, rfl, rfl, h5, f', h6, fun j c j1 j2 j3 => ?_, h7, h8⟩
        by_cases z : j = p
        · subst z; exact q c j2 j3
        · exact h9 j c j1 z j2 j3
      refine mj_on (s215_5 _ _ _ ?_)
      rw [show (32 : Int32) = nI 32 from rfl, show (2 : Int32) = nI 2 from rfl, pk_mul, nI_1, nI_1]
      refine if_le (by omega) (by omega) (fun q => absurd q (by omega)) (fun _ => if_le (by omega) (by omega) (fun c1 => done fun c hc1 hc2 => ?_) (fun c1 => ?_))
      · unfold chd at hc1; omega
      -- the greater child
      have go : ∀ c, chd p c → c < n → (∀ c2, chd p c2 → c2 < n → ¬ ah W P K (f' c) (f' c2)) → E1 215 (D + 1) Q 62 [(0, .ref 29), (2, .int (nI n)), (3, .int (nI p)), (4, .int (nI t)), (5, .int (nI c))] I' J := fun c k1 k2 k3 => by
        refine mj_on (s215_62 _ _ _ _ ?_)
        rw [nI_clamp (by omega), nI_clamp (by omega), (h6 p (by omega)).1, (h6 c (by omega)).1, nI_1]
        refine ⟨vp_in_nI (by omega) (by decide), vp_in_nI (by omega) (by decide), trivial, _, _, _, c_plAhead hpl (h6 p (by omega)).2 (h6 c (by omega)).2, if_tf (fun a => ?_) (fun a => done fun c2 z1 z2 => ah_nt a (k3 c2 z1 z2))⟩
        have hcp : p < c := by unfold chd at k1; omega
        obtain ⟨I'', hc, u1, u2⟩ := c_plSwap (D := D) (J := J) hN h6 (show p < N by omega) (show c < N by omega)
        refine ⟨trivial, _, _, hc, ?_⟩
        have sp : swp f' p c p = f' c := by unfold swp; rw [if_neg (by omega), if_pos rfl]
        have sc : swp f' p c c = f' p := by unfold swp; rw [if_pos rfl]
        have so : ∀ i, i ≠ p → i ≠ c → swp f' p c i = f' i := fun i i1 i2 => by unfold swp; rw [if_neg i2, if_neg i1]
        refine ih c (t + 1) I'' (swp f' p c) (by omega) k2 (by omega) ?_ (fun q hq => by rw [u1 q hq]; exact h5 q hq) u2 (imP_tr (imP_swp h2 k2) h7) (fun i hi => by rw [so i (by omega) (by omega)]; exact h8 i hi) (fun j d j1 j2 j3 j4 => ?_) (fun q d q1 q2 q3 q4 => ?_)
        · rw [Nat.pow_succ]
          unfold chd at k1
          omega
        · by_cases e1 : j = p
          · subst e1
            rw [sp]
            by_cases e2 : d = c
            · rw [e2, sc]; exact ah_as a
            · rw [so d (by unfold chd at j3; omega) e2]
              exact k3 d j3 j4
          · rw [so j e1 j2]
            by_cases e2 : d = p
            · subst e2
              rw [sp]
              exact h10 j c j1 j3 k1 k2
            · by_cases e3 : d = c
              · exfalso
                unfold chd at j3 k1
                omega
              · rw [so d e2 e3]
                exact h9 j d j1 e1 j3 j4
        · have eq : q = p := by unfold chd at q2 k1; omega
          rw [eq, sp, so d (by unfold chd at q3; omega) (by unfold chd at q3; omega)]
          exact h9 c d (by omega) (by omega) q3 q4
      refine if_le (by omega) (by omega) (fun c2 => go _ (Or.inl rfl) c1 fun d z1 z2 => ?_) (fun c2 => ?_)
      · have : d = 2 * p + 1 := by unfold chd at z1; omega
        rw [this]
        exact fun q => ah_as q q
      · rw [nI_clamp (by omega), nI_clamp (by omega), (h6 (2 * p + 1) (by omega)).1, (h6 (2 * p + 1 + 1) (by omega)).1]
        refine ⟨vp_in_nI (by omega) (by decide), vp_in_nI (by omega) (by decide), trivial, _, _, _, c_plAhead hpl (h6 _ (by omega)).2 (h6 _ (by omega)).2, if_tf (fun a => go _ (Or.inr rfl) (by omega) fun d z1 z2 => ?_) (fun a => go _ (Or.inl rfl) c1 fun d z1 z2 => ?_)⟩
        · rcases z1 with z | z
          · rw [z]; exact ah_as a
          · rw [z]; exact fun q => ah_as q q
        · rcases z1 with z | z
          · rw [z]; exact fun q => ah_as q q
          · rw [z]; exact a
  exact loop (n - i0) i0 0 I f (Nat.le_refl _) hi (Nat.le_refl _) (by show 1 ≤ i0 + 1; omega) (fun _ _ => rfl) ho (fun _ => Iff.rfl) (fun _ _ => rfl) (fun j c j1 j2 j3 j4 => hp j c (by omega) j3 j4) (fun q c q1 q2 => by unfold chd at q2; omega)
end S80
