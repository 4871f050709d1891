/-! sayings: rather, unsay, agreement, agree -/
theorem wl_le : ∀ g, g < 13 → ∀ W, W < 5 → ((wl W g).all fun r => r.all fun x => decide (x ≤ 12)) = true := by decide +kernel
/-- bits of a set as a number -/
noncomputable def nb : Nat → (Nat → Prop) → Nat
  | 0, _ => 0
  | n + 1, p => nb n p + @ite _ (p n) (Classical.propDecidable (p n)) (2 ^ n) 0
theorem nb_t {n : Nat} {p : Nat → Prop} (h : p n) : nb (n + 1) p = nb n p + 2 ^ n := congrArg _ (@if_pos (p n) (Classical.propDecidable _) h _ _ _)
theorem nb_f {n : Nat} {p : Nat → Prop} (h : ¬ p n) : nb (n + 1) p = nb n p := congrArg _ (@if_neg (p n) (Classical.propDecidable _) h _ _ _)
theorem nb_lt {p : Nat → Prop} : ∀ {n : Nat}, nb n p < 2 ^ n
  | 0 => Nat.zero_lt_one
  | n + 1 => by
    have ih := nb_lt (p := p) (n := n)
    rw [Nat.pow_succ]
    rcases Classical.em (p n) with c | c
    · rw [nb_t c]; omega
    · rw [nb_f c]; omega
theorem or_add {n x : Nat} (h : x < 2 ^ n) : 2 ^ n + x = 2 ^ n ||| x := by
  have := Nat.two_pow_add_eq_or_of_lt h 1
  rwa [Nat.mul_one] at this
theorem nb_full {p : Nat → Prop} : ∀ {n : Nat}, nb n p = 2 ^ n - 1 ↔ ∀ i, i < n → p i
  | 0 => ⟨fun _ i hi => absurd hi (Nat.not_lt_zero i), fun _ => rfl⟩
  | n + 1 => by
    have ih := nb_full (p := p) (n := n)
    have hl := nb_lt (p := p) (n := n)
    have h2 := Nat.two_pow_pos n
    rw [Nat.pow_succ]
    rcases Classical.em (p n) with c | c
    · rw [nb_t c]
      constructor
      · intro q i hi
        by_cases e : i = n
        · rw [e]; exact c
        · exact ih.mp (by omega) i (by omega)
      · intro q
        have := ih.mpr fun i hi => q i (by omega)
        omega
    · rw [nb_f c]
      exact ⟨fun q => by omega, fun q => absurd (q n (by omega)) c⟩
theorem nb_bit {p : Nat → Prop} : ∀ {n i : Nat}, (nb n p).testBit i = true ↔ i < n ∧ p i
  | 0, i => by
    show (0 : Nat).testBit i = true ↔ _
    simp
  | n + 1, i => by
    have ih := nb_bit (p := p) (n := n) (i := i)
    have hl := nb_lt (p := p) (n := n)
    rcases Classical.em (p n) with c | c
    · rw [nb_t c, Nat.add_comm, or_add hl, Nat.testBit_or, Nat.testBit_two_pow, Bool.or_eq_true, ih, decide_eq_true_eq]
      constructor
      · rintro (q | ⟨q1, q2⟩)
        · exact ⟨by omega, q ▸ c⟩
        · exact ⟨by omega, q2⟩
      · rintro ⟨q1, q2⟩
        by_cases e : n = i
        · exact Or.inl e
        · exact Or.inr ⟨by omega, q2⟩
    · rw [nb_f c, ih]
      constructor
      · rintro ⟨q1, q2⟩; exact ⟨by omega, q2⟩
      · rintro ⟨q1, q2⟩
        by_cases e : i = n
        · exact absurd (e ▸ q2) c
        · exact ⟨by omega, q2⟩
theorem nx_or (a b : Nat) : nI a ||| nI b = nI (a ||| b) := by
  apply Int32.toBitVec_inj.1
  show BitVec.ofNat 32 a ||| BitVec.ofNat 32 b = BitVec.ofNat 32 (a ||| b)
  apply BitVec.eq_of_getLsbD_eq
  intro i hi
  simp [hi]
theorem sh1 {n : Nat} (h : n < 32) : (1 : Int32) <<< (nI n &&& 31) = nI (2 ^ n) := by
  have : ∀ n, n < 32 → (1 : Int32) <<< (nI n &&& 31) = nI (2 ^ n) := by decide +kernel
  exact this n h
theorem nb_or {n : Nat} {p : Nat → Prop} (hn : n < 31) (h : p n) : nI (nb n p) ||| ((1 : Int32) <<< (nI n &&& 31)) = nI (nb (n + 1) p) := by
  rw [sh1 (by omega), nx_or, nb_t h, Nat.or_comm, ← or_add nb_lt, Nat.add_comm]
theorem nb_or0 {n : Nat} {p : Nat → Prop} (h : ¬ p n) : nI (nb n p) ||| (0 : Int32) = nI (nb (n + 1) p) := by
  rw [show (0 : Int32) = nI 0 from rfl, nx_or, nb_f h, Nat.or_zero]
section S60
variable {D b W Rn Kn Tn Hn Un g : Nat} {I I1 I2 : Nat → Nat → Int32} {J J1 J2 : Nat → Nat → Int64}
theorem al_rather {x y : Int32} (h : Rl b W Rn Kn Tn Hn Un g I1 J1 I2 J2) : AI 256 105 [.int x, .int y] I1 J1 I2 J2 (Rl b W Rn Kn Tn Hn Un g) := by
  obtain ⟨w1, w2, w3, w4⟩ := h.W24
  have hB := h.rB
  obtain ⟨n, n1, n2, n3, n4⟩ := h.2.2.2.2.2.2.2.2.1
  have bad : ∀ (hc : C1 900 256 [.ref 0, .int x, .int y] I1 J1 (.int (-1)) I1 J1) (hr : C2 900 105 [.ref 0, .int x, .int y] I2 J2 (.int (-1)) I2 J2), AI 256 105 [.int x, .int y] I1 J1 I2 J2 (Rl b W Rn Kn Tn Hn Un g) := fun hc hr => AI.same (-1) hc hr h
  rcases Classical.em (∃ j, j < Rn ∧ x = nI j) with p | p
  · rcases Classical.em (∃ j, j < Rn ∧ y = nI j) with q | q
    · obtain ⟨r, hr, rfl⟩ := p
      obtain ⟨u, hu, rfl⟩ := q
      by_cases ok : ¬ lbit (J1 24 5) r ∧ ¬ lbit (J1 24 5) u ∧ r ≠ u ∧ n < 12
      · obtain ⟨ok1, ok2, ok3, ok4⟩ := ok
        refine ⟨nI (n + 1), mj_up (mj_up (mj_up I1 54 n (nI r)) 55 n (nI u)) 53 0 (nI (n + 1)), J1, mj_up (mj_up (mj_up I2 43 n (nI r)) 44 n (nI u)) 0 68 (nI (n + 1)), J2, mj_mk (D := 899) (e256 _ _ ?_), mj_mk (D := 899) (e105 _ _ ?_), ?_⟩
        · refine ⟨trivial, _, _, _, c_judged (n := Rn) w1 w2, if_tf (fun c => ?_) (fun c => absurd ((c_jud hr).mpr ok1) c)⟩
          refine ⟨trivial, _, _, _, c_judged (n := Rn) w1 w2, if_tf (fun d => ?_) (fun d => absurd ((c_jud hu).mpr ok2) d)⟩
          refine if_eq (by omega) (by omega) (fun e => absurd e ok3) (fun _ => ?_)
          rw [n2]
          refine if_lt (b := 12) (by omega) (by decide) (fun _ => ?_) (fun e => absurd e (by omega))
          refine ⟨trivial, _, _, _, mj_mk (e257 _ _ ?_), rfl⟩
          rw [n2, nI_clamp (by omega), nI_1]
          exact ⟨vp_in_nI ok4 (by decide), vp_in_nI ok4 (by decide), rfl⟩
        · refine ⟨trivial, _, _, _, r_isRow hB, if_tf (fun _ => ?_) (fun f => absurd ⟨r, hr, rfl⟩ f)⟩
          refine ⟨trivial, _, _, _, r_isRow hB, if_tf (fun _ => ?_) (fun f => absurd ⟨u, hu, rfl⟩ f)⟩
          refine if_eq (by omega) (by omega) (fun e => absurd e ok3) (fun _ => ?_)
          refine ⟨trivial, _, _, _, r_isAside hB (by omega), if_tf (fun c => absurd ((h.asd hr).mp c) ok1) (fun _ => ?_)⟩
          refine ⟨trivial, _, _, _, r_isAside hB (by omega), if_tf (fun c => absurd ((h.asd hu).mp c) ok2) (fun _ => ?_)⟩
          rw [n3]
          refine if_eq (b := 12) (by omega) (by decide) (fun e => absurd e (by omega)) (fun _ => ?_)
          rw [nI_clamp (by omega), nI_1]
          exact ⟨vp_in_nI ok4 (by decide), vp_in_nI ok4 (by decide), rfl⟩
        · refine Rl_S h ?_ rfl ?_ rfl ?_
          · rw [mkI_up rfl, mkI_up rfl, mkI_up rfl]
          · rw [mkI_up rfl, mkI_up rfl, mkI_up rfl]
          · refine ⟨n + 1, by omega, up_s, up_s, fun i hi => ?_⟩
            have c43 : mj_up (mj_up (mj_up I2 43 n (nI r)) 44 n (nI u)) 0 68 (nI (n + 1)) 43 = mj_up I2 43 n (nI r) 43 := by rw [up_c (q := 0) (by decide), up_c (q := 44) (by decide)]
            have c44 : mj_up (mj_up (mj_up I2 43 n (nI r)) 44 n (nI u)) 0 68 (nI (n + 1)) 44 = mj_up (mj_up I2 43 n (nI r)) 44 n (nI u) 44 := by rw [up_c (q := 0) (by decide)]
            have c54 : mj_up (mj_up (mj_up I1 54 n (nI r)) 55 n (nI u)) 53 0 (nI (n + 1)) 54 = mj_up I1 54 n (nI r) 54 := by rw [up_c (q := 53) (by decide), up_c (q := 55) (by decide)]
            have c55 : mj_up (mj_up (mj_up I1 54 n (nI r)) 55 n (nI u)) 53 0 (nI (n + 1)) 55 = mj_up (mj_up I1 54 n (nI r)) 55 n (nI u) 55 := by rw [up_c (q := 53) (by decide)]
            rw [c43, c44, c54, c55]
            by_cases e : i = n
            · subst e
              rw [up_s, up_s, up_s, up_s]
              exact ⟨rfl, rfl, r, u, hr, hu, rfl, rfl⟩
            · rw [up_j e, up_j e, up_j e, up_j e, up_c (k := 44) (q := 43) (by decide), up_c (k := 55) (q := 54) (by decide)]
              exact n4 i (by omega)
      · refine bad (mj_mk (D := 899) (e256 _ _ ?_)) (mj_mk (D := 899) (e105 _ _ ?_))
        · refine ⟨trivial, _, _, _, c_judged (n := Rn) w1 w2, if_tf (fun c => ?_) (fun c => rfl)⟩
          refine ⟨trivial, _, _, _, c_judged (n := Rn) w1 w2, if_tf (fun d => ?_) (fun d => rfl)⟩
          refine if_eq (by omega) (by omega) (fun e => rfl) (fun e => ?_)
          rw [n2]
          exact if_lt (b := 12) (by omega) (by decide) (fun f => absurd ⟨(c_jud hr).mp c, (c_jud hu).mp d, e, f⟩ ok) (fun _ => rfl)
        · refine ⟨trivial, _, _, _, r_isRow hB, if_tf (fun _ => ?_) (fun f => absurd ⟨r, hr, rfl⟩ f)⟩
          refine ⟨trivial, _, _, _, r_isRow hB, if_tf (fun _ => ?_) (fun f => absurd ⟨u, hu, rfl⟩ f)⟩
          refine if_eq (by omega) (by omega) (fun e => rfl) (fun e => ?_)
          refine ⟨trivial, _, _, _, r_isAside hB (by omega), if_tf (fun c => rfl) (fun c => ?_)⟩
          refine ⟨trivial, _, _, _, r_isAside hB (by omega), if_tf (fun d => rfl) (fun d => ?_)⟩
          rw [n3]
          refine if_eq (b := 12) (by omega) (by decide) (fun _ => rfl) (fun f => absurd ⟨fun z => c ((h.asd hr).mpr z), fun z => d ((h.asd hu).mpr z), e, by omega⟩ ok)
    · refine bad (mj_mk (D := 899) (e256 _ _ ?_)) (mj_mk (D := 899) (e105 _ _ ?_))
      · refine ⟨trivial, _, _, _, c_judged (n := Rn) w1 w2, if_tf (fun c => ?_) (fun c => rfl)⟩
        exact ⟨trivial, _, _, _, c_judged (n := Rn) w1 w2, if_tf (fun ⟨j, hj, e, _⟩ => absurd ⟨j, hj, e⟩ q) (fun _ => rfl)⟩
      · refine ⟨trivial, _, _, _, r_isRow hB, if_tf (fun _ => ?_) (fun f => absurd p f)⟩
        exact ⟨trivial, _, _, _, r_isRow hB, if_tf (fun f => absurd f q) (fun _ => rfl)⟩
  · refine bad (mj_mk (D := 899) (e256 _ _ ?_)) (mj_mk (D := 899) (e105 _ _ ?_))
    · exact ⟨trivial, _, _, _, c_judged (n := Rn) w1 w2, if_tf (fun ⟨j, hj, e, _⟩ => absurd ⟨j, hj, e⟩ p) (fun _ => rfl)⟩
    · exact ⟨trivial, _, _, _, r_isRow hB, if_tf (fun f => absurd f p) (fun _ => rfl)⟩
theorem al_unsay (h : Rl b W Rn Kn Tn Hn Un g I1 J1 I2 J2) : AI 258 106 [] I1 J1 I2 J2 (Rl b W Rn Kn Tn Hn Un g) := by
  obtain ⟨n, n1, n2, n3, n4⟩ := h.2.2.2.2.2.2.2.2.1
  cases n with
  | zero => exact AI.same (-1) (mj_mk (D := 899) (e258 (by rw [n2]; rfl))) (mj_mk (D := 899) (e106 (by rw [n3]; rfl))) h
  | succ n =>
    refine ⟨nI n, mj_up I1 53 0 (nI n), J1, mj_up I2 0 68 (nI n), J2, mj_mk (D := 899) (e258 ?_), mj_mk (D := 899) (e106 ?_), ?_⟩
    · rw [n2, if_neg (nI_ne0 (by omega) (by omega)), n1_sub]
    · rw [n3, if_neg (nI_ne0 (by omega) (by omega)), n1_sub]
    · refine Rl_S h (mkI_up rfl) rfl (mkI_up rfl) rfl ⟨n, by omega, up_s, up_s, fun i hi => ?_⟩
      rw [up_c (k := 43) (by decide), up_c (k := 44) (by decide), up_c (k := 54) (by decide), up_c (k := 55) (by decide)]
      exact n4 i (by omega)
/-- a row's worth by r -/
def rwo (I : Nat → Nat → Int32) (W : Nat) (r : List Nat) (u : Nat) : Int32 := wo r (fun w => I 25 (4 * u + w)) W
/-- saying s is agreed with by r -/
def saA (I : Nat → Nat → Int32) (J : Nat → Nat → Int64) (W s : Nat) (r : List Nat) : Prop := lbit (J 24 5) (I 54 s).toNatClampNeg ∨ lbit (J 24 5) (I 55 s).toNatClampNeg ∨ rwo I W r (I 54 s).toNatClampNeg ≤ rwo I W r (I 55 s).toNatClampNeg
def sAg (I : Nat → Nat → Int32) (J : Nat → Nat → Int64) (W n : Nat) (r : List Nat) : Prop := ∀ s, s < n → saA I J W s r
theorem c_sayAg {s n : Nat} {r : List Nat} {x y : Nat} (w1 : I 24 0 = nI Rn) (w2 : Rn ≤ 40) (h1 : I 51 1 = nI W) (hW : W ≤ 4) (hs : s < 12) (hx : I 54 s = nI x) (hy : I 55 s = nI y) (hx2 : x < Rn) (hy2 : y < Rn) (hn : n < 455) (hr : wro I W n r) : C1 (D + 3) 261 [.ref 53, .int (nI s), .int (nI n), .ref 51, .ref 24] I J (.int (tf (saA I J W s r))) I J := by
  have e : saA I J W s r ↔ lbit (J 24 5) x ∨ lbit (J 24 5) y ∨ rwo I W r x ≤ rwo I W r y := by
    unfold saA
    rw [hx, hy, nI_clamp (by omega), nI_clamp (by omega)]
  rw [tf_iff e]
  refine mj_mk (e261 _ _ ?_)
  rw [nI_clamp (by omega), hx, hy, ix4m, ix4m]
  have hv : vp_in (nI s) 12 := vp_in_nI hs (by decide)
  refine ⟨hv, hv, trivial, _, _, _, c_judged (n := Rn) w1 w2, if_tf (fun c => ?_) (fun c => mzT (Or.inl (Classical.byContradiction fun q => c ((c_jud hx2).mpr q))))⟩
  refine ⟨trivial, _, _, _, c_judged (n := Rn) w1 w2, if_tf (fun d => ?_) (fun d => mzT (Or.inr (Or.inl (Classical.byContradiction fun q => d ((c_jud hy2).mpr q)))))⟩
  have c := (c_jud hx2).mp c
  have d := (c_jud hy2).mp d
  refine ⟨trivial, _, _, _, c_weigh_a h1 hW hn (by omega) hr, trivial, _, _, _, c_weigh_a h1 hW hn (by omega) hr, if_i (fun f => mzF ?_) (fun f => mzT (Or.inr (Or.inr (Int32.not_lt.mp f))))⟩
  rintro (q | q | q)
  · exact c q
  · exact d q
  · exact absurd q (Int32.not_le.mpr f)
/-- how many sayings, and what they are -/
theorem Rl.S (h : Rl b W Rn Kn Tn Hn Un g I1 J1 I2 J2) : ∃ n, n ≤ 12 ∧ I1 53 0 = nI n ∧ I2 0 68 = nI n ∧ ∀ i, i < n → ∃ x y, x < Rn ∧ y < Rn ∧ I1 54 i = nI x ∧ I1 55 i = nI y ∧ I2 43 i = nI x ∧ I2 44 i = nI y := by
  obtain ⟨n, n1, n2, n3, n4⟩ := h.2.2.2.2.2.2.2.2.1
  refine ⟨n, n1, n2, n3, fun i hi => ?_⟩
  obtain ⟨q1, q2, x, y, q3, q4, q5, q6⟩ := n4 i hi
  exact ⟨x, y, q3, q4, q5, q6, by rw [q1, q5], by rw [q2, q6]⟩
theorem c_isAg (h : Rl b W Rn Kn Tn Hn Un g I1 J1 I2 J2) {n S : Nat} {r : List Nat} (hS : I1 53 0 = nI S) (hS2 : S ≤ 12) (e1 : k1 I = k1 I1) (hr : (wl W g)[n]? = some r) : C1 (D + 4) 260 [.ref 53, .int (nI n), .ref 51, .ref 24] I J1 (.int (tf (sAg I1 J1 W S r))) I J1 := by
  obtain ⟨S', s1, s2, s3, s4⟩ := h.S
  obtain ⟨hG, g1, g2, g3, g4, g5⟩ := h.G
  obtain ⟨w1, w2, w3, w4⟩ := h.W24
  have hn : n < 455 := by
    have := (List.getElem?_eq_some_iff.mp hr).1
    omega
  obtain rfl : S = S' := by rw [hS] at s2; exact (nI_eq (by omega) (by omega)).mp s2
  have hsa : ∀ s, saA I J1 W s r ↔ saA I1 J1 W s r := fun s => by
    unfold saA rwo
    rw [k1_at e1 (q := 54) rfl, k1_at e1 (q := 55) rfl]
    rw [wo_c (f' := fun w => I1 25 (4 * (I1 54 s).toNatClampNeg + w)) fun w _ => k1_at e1 rfl, wo_c (f' := fun w => I1 25 (4 * (I1 55 s).toNatClampNeg + w)) fun w _ => k1_at e1 rfl]
  have hwr : wro I W n r := fun w hw => by rw [k1_at e1 rfl]; exact h.wr hr w hw
  refine mj_mk (e260 _ ?_)
  refine lp_up (n := S) (fun i => (∀ s, s < i → saA I1 J1 W s r) → E1 260 (D + 3) (fun q => q = (.int (tf (sAg I1 J1 W S r)), (I, J1, mj_R1))) 3 [(0, .ref 53), (1, .int (nI n)), (2, .ref 51), (3, .ref 24), (4, .int (nI i))] I J1) (fun i hi ih hp => ?_) 0 (Nat.zero_le _) (fun s hs => absurd hs (Nat.not_lt_zero s))
  refine mj_on (s260_3 _ _ ?_)
  rw [k1_at e1 (q := 53) (j := 0) rfl, s2, nI_1]
  refine if_le (by omega) (by omega) (fun c => mzT fun s hs => hp s (by omega)) (fun c => ?_)
  obtain ⟨x, y, q1, q2, q3, q4, -, -⟩ := s4 i c
  refine ⟨trivial, _, _, _, c_sayAg (by rw [k1_at e1 rfl]; exact w1) w2 (by rw [k1_at e1 rfl]; exact g3) w4 (by omega) (by rw [k1_at e1 rfl]; exact q3) (by rw [k1_at e1 rfl]; exact q4) q1 q2 hn hwr, if_tf (fun d => ?_) (fun d => mzF fun q => d ((hsa i).mpr (q i c)))⟩
  refine ih c fun s hs => ?_
  by_cases e : s = i
  · rw [e]; exact (hsa i).mp d
  · exact hp s (by omega)
-- the reference
theorem r_rowWorth (h : Rl b W Rn Kn Tn Hn Un g I1 J1 I2 J2) {u : Nat} {r : List Nat} (e2 : k2 I = k2 I2) (hu : u < Rn) (hr : wgh I W r) : C2 (D + 3) 110 [.ref 0, .int (nI u)] I J (.int (rwo I1 W r u)) I J := by
  have hB := rB_k h.rB e2
  obtain ⟨b1, b2, b3, b4, b5, b6⟩ := id hB
  have hL : ∀ w, w < W → rL I b u w = I1 25 (4 * u + w) := fun w hw => by
    rw [← h.ls hu hw]
    unfold rL
    rw [k2_at e2 rfl, k2_at e2 rfl]
  refine mj_mk (e110 _ ?_)
  unfold rwo
  refine lp_up (n := W) (fun i => E2 110 (D + 2) (fun q => q = (.int (wo r (fun w => I1 25 (4 * u + w)) W), (I, J, mj_R2))) 4 [(0, .ref 0), (1, .int (nI u)), (2, .int (wo r (fun w => I1 25 (4 * u + w)) i)), (3, .int (nI i))] I J) (fun i hi ih => ?_) 0 (Nat.zero_le _)
  refine mj_on (s110_4 _ _ _ ?_)
  rw [b1, nI_clamp (by omega), b3, nI_1, nI_clamp (by omega)]
  refine ⟨vp_in_nI b2 (by decide), if_le (by omega) (by omega) (fun c => ?_) (fun c => ⟨vp_in_nI (by omega) (by decide), trivial, _, _, _, r_rowLoss hB (by omega) c, ?_⟩)⟩
  · obtain rfl : i = W := by omega
    rfl
  · rw [hr i c, hL i c]
    exact ih c
theorem r_agreed (h : Rl b W Rn Kn Tn Hn Un g I1 J1 I2 J2) {S : Nat} {r : List Nat} (e2 : k2 I = k2 I2) (hS : I1 53 0 = nI S) (hS2 : S ≤ 12) (hr : wgh I W r) : C2 (D + 4) 109 [.ref 0] I J (.int (nI (nb S (fun s => saA I1 J1 W s r)))) I J := by
  have hB := rB_k h.rB e2
  obtain ⟨S', s1, s2, s3, s4⟩ := h.S
  obtain rfl : S = S' := by rw [hS] at s2; exact (nI_eq (by omega) (by omega)).mp s2
  refine mj_mk (e109 ?_)
  refine lp_up (n := S) (fun i => E2 109 (D + 3) (fun q => q = (.int (nI (nb S (fun s => saA I1 J1 W s r))), (I, J, mj_R2))) 4 [(0, .ref 0), (1, .int (nI (nb i (fun s => saA I1 J1 W s r)))), (2, .int (nI i))] I J) (fun i hi ih => ?_) 0 (Nat.zero_le _)
  refine mj_on (s109_4 _ _ ?_)
  rw [k2_at e2 (q := 0) (j := 68) rfl, s3, nI_1, nI_clamp (by omega)]
  refine if_le (by omega) (by omega) (fun c => ?_) (fun c => ?_)
  · obtain rfl : i = S := by omega
    rfl
  obtain ⟨x, y, q1, q2, q3, q4, q5, q6⟩ := s4 i c
  have hB6 := hB.2.2.2.2.2
  have hv : vp_in (nI i) 12 := vp_in_nI (by omega) (by decide)
  have e : saA I1 J1 W i r ↔ lbit (J1 24 5) x ∨ lbit (J1 24 5) y ∨ rwo I1 W r x ≤ rwo I1 W r y := by
    unfold saA
    rw [q3, q4, nI_clamp (by omega), nI_clamp (by omega)]
  have as : ∀ {u}, u < Rn → (rA I b W u ↔ lbit (J1 24 5) u) := fun {u} hu => by
    rw [← h.asd hu]
    unfold rA
    exact exists_congr fun w => by rw [k2_at e2 rfl]
  have yes : saA I1 J1 W i r → E2 109 (D + 3) (fun q => q = (.int (nI (nb S (fun s => saA I1 J1 W s r))), (I, J, mj_R2))) 4 [(0, .ref 0), (1, .int (nI (nb i (fun s => saA I1 J1 W s r)) ||| ((1 : Int32) <<< (nI i &&& 31)))), (2, .int (nI (i + 1)))] I J := fun q => by
    rw [nb_or (by omega) q]
    exact ih c
  have r43 : I 43 i = nI x := by rw [k2_at e2 rfl, q5]
  have r44 : I 44 i = nI y := by rw [k2_at e2 rfl, q6]
  rw [r43]
  refine ⟨hv, trivial, _, _, _, r_isAside hB (by omega), if_tf (fun d => yes (e.mpr (Or.inl ((as q1).mp d)))) (fun d => ?_)⟩
  rw [r44]
  refine ⟨hv, trivial, _, _, _, r_isAside hB (by omega), if_tf (fun f => yes (e.mpr (Or.inr (Or.inl ((as q2).mp f))))) (fun f => ?_)⟩
  rw [r43]
  refine ⟨hv, trivial, _, _, _, r_rowWorth h e2 q1 hr, ?_⟩
  rw [r44]
  refine ⟨hv, trivial, _, _, _, r_rowWorth h e2 q2 hr, if_i (fun z => ?_) (fun z => yes (e.mpr (Or.inr (Or.inr (Int32.not_lt.mp z)))))⟩
  rw [nb_or0]
  · exact ih c
  · intro q
    rcases e.mp q with q | q | q
    · exact d ((as q1).mpr q)
    · exact f ((as q2).mpr q)
    · exact absurd q (Int32.not_le.mpr z)
theorem r_agrees (h : Rl b W Rn Kn Tn Hn Un g I1 J1 I2 J2) {S : Nat} {r : List Nat} (e2 : k2 I = k2 I2) (hS : I1 53 0 = nI S) (hS2 : S ≤ 12) (hr : wgh I W r) : C2 (D + 5) 108 [.ref 0] I J (.int (tf (sAg I1 J1 W S r))) I J := by
  obtain ⟨S', s1, s2, s3, s4⟩ := h.S
  obtain rfl : S = S' := by rw [hS] at s2; exact (nI_eq (by omega) (by omega)).mp s2
  refine mj_mk (e108 ?_)
  refine ⟨trivial, _, _, _, r_agreed h e2 hS hS2 hr, ?_⟩
  have hp := Nat.two_pow_pos S
  have hp2 : 2 ^ S ≤ 2 ^ 12 := Nat.pow_le_pow_right (by decide) hS2
  have hl := nb_lt (n := S) (p := fun s => saA I1 J1 W s r)
  rw [k2_at e2 (q := 0) (j := 68) rfl, s3, sh1 (by omega), show (1 : Int32) = nI 1 from rfl, pk_sub hp]
  refine if_eq (by omega) (by omega) (fun c => mzT (nb_full.mp c)) (fun c => mzF fun q => c (nb_full.mpr q))
end S60
