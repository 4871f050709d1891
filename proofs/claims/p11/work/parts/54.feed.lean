/-! feed, letter -/
theorem byt (x : Int32) (s : Nat) (hs : s + 8 ≤ 32) : ((x.toUInt32 >>> ((nI s).toUInt32 &&& Int32.toUInt32 31)).toInt32 &&& (255 : Int32)) = ((x >>> (nI s &&& 31)) &&& (255 : Int32)) ∧ ∃ y, y < 256 ∧ ((x >>> (nI s &&& 31)) &&& (255 : Int32)) = nI y := by
  refine ⟨b_ext fun i hi => ?_, ?_⟩
  · rw [b_and, b_and, b_255, b_ushr s (by omega), b_sshr s (by omega) x hi]
    by_cases h : i < 8
    · rw [if_pos (by omega)]
    · simp [h]
  · exact ⟨_, Nat.mod_lt _ (by decide), pk_and _ 8 (by decide)⟩
section S54
variable {D b W Rn Kn Tn Hn Un g : Nat} {I I1 I2 : Nat → Nat → Int32} {J J1 J2 : Nat → Nat → Int64}
/-- one byte put -/
def pt1 (I : Nat → Nat → Int32) (t : Nat) (y : Int32) : Nat → Nat → Int32 := mj_up (mj_up I 13 t y) 0 0 (nI (t + 1))
def pt2 (I : Nat → Nat → Int32) (t : Nat) (y : Int32) : Nat → Nat → Int32 := mj_up (mj_up I 1 t y) 0 1 (nI (t + 1))
theorem pt_Rl {t y : Nat} (h : Rl b W Rn Kn Tn Hn Un g I1 J1 I2 J2) (ht : I1 0 0 = nI t) (ht2 : t + 1 ≤ 900) (hy : y < 256) : Rl b W Rn Kn Tn Hn Un g (pt1 I1 t (nI y)) J1 (pt2 I2 t (nI y)) J2 := by
  obtain ⟨g1, g2, ⟨e1, e2, e3⟩, g4, g5, g6, g7, g8, g9, g10, g11, g12, g13⟩ := h
  refine ⟨g1, g2, ⟨?_, fun j => ?_, t + 1, ht2, up_s, up_s⟩, g4, g5, g6, g7, g8, g9, g10, g11, g12, g13⟩
  · show mj_up (mj_up I2 1 t (nI y)) 0 1 _ 1 = mj_up (mj_up I1 13 t (nI y)) 0 0 _ 13
    rw [up_c (k := 1) (q := 0) (by decide), up_c (k := 13) (q := 0) (by decide)]
    funext j
    by_cases e : j = t
    · rw [e, up_s, up_s]
    · rw [up_j e, up_j e, e1]
  · show ∃ x, x < 256 ∧ mj_up (mj_up I1 13 t (nI y)) 0 0 _ 13 j = nI x
    rw [up_c (by decide)]
    by_cases e : j = t
    · rw [e, up_s]; exact ⟨y, hy, rfl⟩
    · rw [up_j e]; exact e2 j
theorem al_put {x : Int32} {t : Nat} (h : Rl b W Rn Kn Tn Hn Un g I1 J1 I2 J2) (ht : I1 0 0 = nI t) (ht4 : t + 4 ≤ 900) : ∃ I1' I2', C1 (D + 1) 134 [.ref 0, .int x] I1 J1 .null I1' J1 ∧ C2 (D + 1) 10 [.ref 0, .int x] I2 J2 .null I2' J2 ∧ Rl b W Rn Kn Tn Hn Un g I1' J1 I2' J2 ∧ I1' 0 0 = nI (t + 4) := by
  have tt : ∀ {I1 I2 : Nat → Nat → Int32} {t}, Rl b W Rn Kn Tn Hn Un g I1 J1 I2 J2 → I1 0 0 = nI t → I2 0 1 = nI t := fun h ht => by
    obtain ⟨-, -, u, -, e3, e4⟩ := h.2.2.1
    rw [e4, ← e3, ht]
  obtain ⟨a, ya, qa1, qa2⟩ := byt x 24 (by decide)
  obtain ⟨b', yb, qb1, qb2⟩ := byt x 16 (by decide)
  obtain ⟨c, yc, qc1, qc2⟩ := byt x 8 (by decide)
  obtain ⟨d, yd, qd1, qd2⟩ := byt x 0 (by decide)
  have r1 := pt_Rl h ht (by omega) qa1
  have s1 : pt1 I1 t (nI ya) 0 0 = nI (t + 1) := up_s
  have r2 := pt_Rl r1 s1 (by omega) qb1
  have s2 : pt1 (pt1 I1 t (nI ya)) (t + 1) (nI yb) 0 0 = nI (t + 1 + 1) := up_s
  have r3 := pt_Rl r2 s2 (by omega) qc1
  have s3 : pt1 (pt1 (pt1 I1 t (nI ya)) (t + 1) (nI yb)) (t + 1 + 1) (nI yc) 0 0 = nI (t + 1 + 1 + 1) := up_s
  have r4 := pt_Rl r3 s3 (by omega) qd1
  have s4 : pt1 (pt1 (pt1 (pt1 I1 t (nI ya)) (t + 1) (nI yb)) (t + 1 + 1) (nI yc)) (t + 1 + 1 + 1) (nI yd) 0 0 = nI (t + 1 + 1 + 1 + 1) := up_s
  refine ⟨_, _, mj_mk (e134 _ ?_), mj_mk (e10 _ ?_), r4, s4⟩
  · have st : ∀ {I : Nat → Nat → Int32} {u s : Nat} {y : Nat} {Q : mj_R → Prop}, I 0 0 = nI u → u < 900 → s < 32 → ((x.toUInt32 >>> ((nI s).toUInt32 &&& Int32.toUInt32 31)).toInt32 &&& (255 : Int32)) = nI y → E1 134 D Q 3 [(0, .ref 0), (1, .int x), (2, .int (nI s + (-8)))] (pt1 I u (nI y)) J1 → E1 134 D Q 3 [(0, .ref 0), (1, .int x), (2, .int (nI s))] I J1 := by
      intro I u s y Q hI hu hs hy k
      refine mj_on (s134_3 _ _ ?_)
      rw [if_neg (nI_pos (by omega)), hI, nI_clamp (by omega), hy, nI_1]
      exact ⟨vp_in_nI hu (by decide), k⟩
    refine st (s := 24) ht (by omega) (by omega) (a.trans qa2) ?_
    refine st (s := 16) s1 (by omega) (by omega) (b'.trans qb2) ?_
    refine st (s := 8) s2 (by omega) (by omega) (c.trans qc2) ?_
    refine st (s := 0) s3 (by omega) (by omega) (d.trans qd2) ?_
    refine mj_on (s134_3 _ _ ?_)
    rw [if_pos (show (nI 0 + (-8) : Int32) < 0 by decide)]
  · have st : ∀ {I : Nat → Nat → Int32} {u s : Nat} {y : Nat} {Q : mj_R → Prop}, I 0 1 = nI u → u < 900 → s < 32 → ((x >>> (nI s &&& 31)) &&& (255 : Int32)) = nI y → E2 10 D Q 3 [(0, .ref 0), (1, .int x), (2, .int (nI s + (-8)))] (pt2 I u (nI y)) J2 → E2 10 D Q 3 [(0, .ref 0), (1, .int x), (2, .int (nI s))] I J2 := by
      intro I u s y Q hI hu hs hy k
      refine mj_on (s10_3 _ _ ?_)
      rw [if_neg (nI_pos (by omega)), hI, nI_clamp (by omega), hy, nI_1]
      exact ⟨vp_in_nI hu (by decide), k⟩
    refine st (s := 24) (tt h ht) (by omega) (by omega) qa2 ?_
    refine st (s := 16) (tt r1 s1) (by omega) (by omega) qb2 ?_
    refine st (s := 8) (tt r2 s2) (by omega) (by omega) qc2 ?_
    refine st (s := 0) (tt r3 s3) (by omega) (by omega) qd2 ?_
    refine mj_on (s10_3 _ _ ?_)
    rw [if_pos (show (nI 0 + (-8) : Int32) < 0 by decide)]
theorem al_feed {x1 x2 x3 x4 x5 : Int32} (h : Rl b W Rn Kn Tn Hn Un g I1 J1 I2 J2) : AI 133 9 [.int x1, .int x2, .int x3, .int x4, .int x5] I1 J1 I2 J2 (Rl b W Rn Kn Tn Hn Un g) := by
  obtain ⟨-, -, t, ht, e3, e4⟩ := id h.2.2.1
  by_cases c : t ≤ 880
  · obtain ⟨I1a, I2a, p1, q1, r1, s1⟩ := al_put (D := 898) (x := x1) h e3 (by omega)
    obtain ⟨I1b, I2b, p2, q2, r2, s2⟩ := al_put (D := 898) (x := x2) r1 s1 (by omega)
    obtain ⟨I1c, I2c, p3, q3, r3, s3⟩ := al_put (D := 898) (x := x3) r2 s2 (by omega)
    obtain ⟨I1d, I2d, p4, q4, r4, s4⟩ := al_put (D := 898) (x := x4) r3 s3 (by omega)
    obtain ⟨I1e, I2e, p5, q5, r5, s5⟩ := al_put (D := 898) (x := x5) r4 s4 (by omega)
    have s5' : I2e 0 1 = I1e 0 0 := by
      obtain ⟨-, -, u, -, e5, e6⟩ := r5.2.2.1
      rw [e5, e6]
    refine ⟨I1e 0 0, I1e, J1, I2e, J2, mj_mk (D := 899) (e133 _ _ _ _ _ ?_), mj_mk (D := 899) (e9 _ _ _ _ _ ?_), r5⟩
    · rw [e3]
      refine if_le (b := 880) (by omega) (by decide) (fun _ => ?_) (fun d => absurd d (by omega))
      exact ⟨trivial, _, _, p1, trivial, _, _, p2, trivial, _, _, p3, trivial, _, _, p4, trivial, _, _, p5, rfl⟩
    · rw [e4, show (20 : Int32) = nI 20 from rfl, nI_add]
      refine if_le (b := 900) (by omega) (by decide) (fun _ => ?_) (fun d => absurd d (by omega))
      refine ⟨trivial, _, _, q1, trivial, _, _, q2, trivial, _, _, q3, trivial, _, _, q4, trivial, _, _, q5, ?_⟩
      rw [s5']
  · refine AI.same (-1) (mj_mk (D := 899) (e133 _ _ _ _ _ ?_)) (mj_mk (D := 899) (e9 _ _ _ _ _ ?_)) h
    · rw [e3]
      exact if_le (b := 880) (by omega) (by decide) (fun d => absurd d c) (fun _ => rfl)
    · rw [e4, show (20 : Int32) = nI 20 from rfl, nI_add]
      exact if_le (b := 900) (by omega) (by decide) (fun d => absurd d (by omega)) (fun _ => rfl)
-- letter
theorem nmC_lt : ∀ {l : List Nat}, (∀ a ∈ l, 1 ≤ a ∧ a ≤ 26) → nmC l < 32 ^ l.length
  | [], _ => by decide
  | x :: r, h => by
    have ih := nmC_lt (l := r) fun a ha => h a (List.mem_cons_of_mem _ ha)
    have hx := h x List.mem_cons_self
    rw [List.length_cons, Nat.pow_succ]
    show nmC r * 32 + x < _
    omega
theorem nmR_lt : ∀ {l : List Nat}, (∀ a ∈ l, 1 ≤ a ∧ a ≤ 26) → nmR l < 256 ^ l.length
  | [], _ => by decide
  | x :: r, h => by
    have ih := nmR_lt (l := r) fun a ha => h a (List.mem_cons_of_mem _ ha)
    have hx := h x List.mem_cons_self
    rw [List.length_cons, Nat.pow_succ]
    show nmR r * 256 + (x + 96) < _
    omega
theorem nmC_drop : ∀ {l : List Nat} {i : Nat}, (∀ a ∈ l, 1 ≤ a ∧ a ≤ 26) → nmC l / 32 ^ i = nmC (l.drop i)
  | l, 0, _ => by simp
  | [], i + 1, _ => by
    show 0 / _ = 0
    exact Nat.zero_div _
  | x :: r, i + 1, h => by
    have hx := h x List.mem_cons_self
    have ih := nmC_drop (l := r) (i := i) fun a ha => h a (List.mem_cons_of_mem _ ha)
    rw [Nat.pow_succ, Nat.mul_comm, ← Nat.div_div_eq_div_mul]
    show (nmC r * 32 + x) / 32 / 32 ^ i = _
    rw [show (nmC r * 32 + x) / 32 = nmC r by omega, ih]
    rfl
theorem nmR_drop : ∀ {l : List Nat} {i : Nat}, (∀ a ∈ l, 1 ≤ a ∧ a ≤ 26) → nmR l / 256 ^ i = nmR (l.drop i)
  | l, 0, _ => by simp
  | [], i + 1, _ => by
    show 0 / _ = 0
    exact Nat.zero_div _
  | x :: r, i + 1, h => by
    have hx := h x List.mem_cons_self
    have ih := nmR_drop (l := r) (i := i) fun a ha => h a (List.mem_cons_of_mem _ ha)
    rw [Nat.pow_succ, Nat.mul_comm, ← Nat.div_div_eq_div_mul]
    show (nmR r * 256 + (x + 96)) / 256 / 256 ^ i = _
    rw [show (nmR r * 256 + (x + 96)) / 256 = nmR r by omega, ih]
    rfl
/-- the letter k of a name -/
noncomputable def lett (l : List Nat) (x : Int32) : Int32 := @ite _ (∃ k, k < l.length ∧ x = nI k) (Classical.propDecidable _) (nI (96 + l.getD (l.length - 1 - x.toNatClampNeg) 0)) (-1)
theorem lett_t {l : List Nat} {k : Nat} (hk : k < l.length) (hl : l.length ≤ 6) : lett l (nI k) = nI (96 + l.getD (l.length - 1 - k) 0) := by
  have e : lett l (nI k) = nI (96 + l.getD (l.length - 1 - (nI k).toNatClampNeg) 0) := @if_pos _ (Classical.propDecidable _) ⟨k, hk, rfl⟩ _ _ _
  rw [e, nI_clamp (by omega)]
theorem lett_f {l : List Nat} {x : Int32} (h : ¬ ∃ k, k < l.length ∧ x = nI k) : lett l x = -1 := @if_neg _ (Classical.propDecidable _) h _ _ _
theorem drop_z {l : List Nat} {i : Nat} (h : l.length ≤ i) : l.drop i = [] := List.drop_eq_nil_of_le h
theorem drop_c {l : List Nat} {i : Nat} (h : i < l.length) : l.drop i = l.getD i 0 :: l.drop (i + 1) := by
  rw [List.getD_eq_getElem?_getD, List.getElem?_eq_getElem h]
  exact List.drop_eq_getElem_cons h
theorem c_letterOf {l : List Nat} {x : Int32} (h1 : l.length ≤ 6) (h2 : ∀ a ∈ l, 1 ≤ a ∧ a ≤ 26) : C1 (D + 1) 193 [.int (nI (nmC l)), .int x] I J (.int (lett l x)) I J := by
  have h32 : (32 : Nat) ^ l.length ≤ 32 ^ 6 := Nat.pow_le_pow_right (by decide) h1
  have hlt := nmC_lt h2
  have hdl : ∀ i, nmC (l.drop i) < 2 ^ 31 := fun i => by
    rw [← nmC_drop h2]
    exact Nat.lt_of_le_of_lt (Nat.div_le_self _ _) (by omega)
  refine mj_mk (e193 _ _ ?_)
  refine lp_up (n := l.length) (fun i => E1 193 D (fun q => q = (.int (lett l x), (I, J, mj_R1))) 4 [(0, .int (nI (nmC l))), (1, .int x), (2, .int (nI i)), (3, .int (nI (nmC (l.drop i))))] I J) (fun i hi ih => ?_) 0 (Nat.zero_le _)
  refine mj_on (s193_4 _ _ _ _ ?_)
  rw [nI_1]
  by_cases c : i < l.length
  · have e := drop_c c
    have hp : 0 < nmC (l.drop i) := by
      rw [e]
      show 0 < nmC (l.drop (i + 1)) * 32 + l.getD i 0
      have : l.getD i 0 ∈ l := by
        rw [List.getD_eq_getElem?_getD, List.getElem?_eq_getElem c]
        exact List.getElem_mem c
      have := h2 _ this
      omega
    rw [if_neg (nI_nle hp (hdl i))]
    have es : nI (nmC (l.drop i)) >>> ((5 : Int32) &&& 31) = nI (nmC (l.drop (i + 1))) := by
      have hlm : l.getD i 0 ∈ l := by
        rw [List.getD_eq_getElem?_getD, List.getElem?_eq_getElem c]
        exact List.getElem_mem c
      have hle := h2 _ hlm
      rw [pk_shrN (hdl i) _ 5 (by decide)]
      congr 1
      rw [e]
      show (nmC (l.drop (i + 1)) * 32 + l.getD i 0) / 32 = _
      omega
    rw [es]
    exact ih c
  · obtain rfl : i = l.length := by omega
    rw [drop_z (Nat.le_refl _), if_pos (show nI (nmC []) ≤ 0 by decide)]
    refine if_i (fun d => ?_) (fun d => if_i (fun f => ?_) (fun f => ?_))
    · rw [lett_f]
      rintro ⟨k, hk, rfl⟩
      exact nI_pos (by omega) d
    · obtain ⟨k, hk, rfl⟩ : ∃ k, k < l.length ∧ x = nI k := by
        rcases pk_ix x (n := l.length) (by omega) with q | q | q
        · exact absurd q d
        · exact absurd f (Int32.not_lt.mpr q)
        · exact q
      rw [lett_t hk h1]
      obtain ⟨m, hm⟩ : ∃ m, l.length = m + 1 := ⟨l.length - 1, by omega⟩
      have e1 : (5 : Int32) * ((nI l.length - 1) - nI k) = nI (5 * (l.length - 1 - k)) := by
        rw [hm, n1_sub, pk_sub (by omega), show (5 : Int32) = nI 5 from rfl, pk_mul]
        simp
      rw [e1, pk_shrN (by omega) _ (5 * (l.length - 1 - k)) (s_l _ (by omega)), show (31 : Int32) = nI (2 ^ 5 - 1) from rfl, nx_and, Nat.and_two_pow_sub_one_eq_mod, show (96 : Int32) = nI 96 from rfl, nI_add]
      have e2 : nmC l / 2 ^ (5 * (l.length - 1 - k)) % 2 ^ 5 = l.getD (l.length - 1 - k) 0 := by
        rw [Nat.pow_mul, show (2 : Nat) ^ 5 = 32 from rfl, nmC_drop h2, drop_c (by omega)]
        show (nmC _ * 32 + l.getD (l.length - 1 - k) 0) % 32 = _
        have : l.getD (l.length - 1 - k) 0 ∈ l := by
          rw [List.getD_eq_getElem?_getD, List.getElem?_eq_getElem (by omega)]
          exact List.getElem_mem _
        have := h2 _ this
        omega
      rw [e2]
    · rw [lett_f]
      rintro ⟨k, hk, rfl⟩
      exact f (nI_lt hk (by omega))
theorem r_letterOf {l : List Nat} {x : Int32} (h1 : l.length ≤ 6) (h2 : ∀ a ∈ l, 1 ≤ a ∧ a ≤ 26) : C2 (D + 1) 50 [.long (lN (nmR l)), .int x] I J (.int (lett l x)) I J := by
  have h32 : (256 : Nat) ^ l.length ≤ 256 ^ 6 := Nat.pow_le_pow_right (by decide) h1
  have hlt := nmR_lt h2
  have hdl : ∀ i, nmR (l.drop i) < 2 ^ 62 := fun i => by
    rw [← nmR_drop h2]
    exact Nat.lt_of_le_of_lt (Nat.div_le_self _ _) (by omega)
  refine mj_mk (e50 _ _ ?_)
  refine lp_up (n := l.length) (fun i => E2 50 D (fun q => q = (.int (lett l x), (I, J, mj_R2))) 5 [(0, .long (lN (nmR l))), (2, .int x), (3, .int (nI i)), (4, .long (lN (nmR (l.drop i))))] I J) (fun i hi ih => ?_) 0 (Nat.zero_le _)
  refine mj_on (s50_5 _ _ _ _ ?_)
  rw [nI_1]
  by_cases c : i < l.length
  · have e := drop_c c
    have hp : 0 < nmR (l.drop i) := by
      rw [e]
      show 0 < nmR (l.drop (i + 1)) * 256 + (l.getD i 0 + 96)
      omega
    rw [if_neg (fun q => by
      have q := cmp0.mp q
      have := (pk_lEQ (b := 0) (Nat.lt_trans (hdl i) (by decide)) (by decide)).mp q
      omega)]
    have es : ((lN (nmR (l.drop i))).toUInt64 >>> ((8 : Int32).toInt64.toUInt64 &&& Int64.toUInt64 63)).toInt64 = lN (nmR (l.drop (i + 1))) := by
      have z : ((lN (nmR (l.drop i))).toUInt64 >>> ((8 : Int32).toInt64.toUInt64 &&& Int64.toUInt64 63)).toInt64 = lN (nmR (l.drop i) / 2 ^ 8) := wb_shr (k := 8) (Nat.lt_trans (hdl i) (by decide)) (by decide)
      have hlm : l.getD i 0 ∈ l := by
        rw [List.getD_eq_getElem?_getD, List.getElem?_eq_getElem c]
        exact List.getElem_mem c
      have hle := h2 _ hlm
      rw [z]
      congr 1
      rw [e]
      show (nmR (l.drop (i + 1)) * 256 + (l.getD i 0 + 96)) / 256 = _
      omega
    rw [es]
    exact ih c
  · obtain rfl : i = l.length := by omega
    rw [drop_z (Nat.le_refl _), if_pos (show lg_cmp (lN (nmR [])) 0 = 0 by decide)]
    refine if_i (fun d => ?_) (fun d => if_i (fun f => ?_) (fun f => ?_))
    · rw [lett_f]
      rintro ⟨k, hk, rfl⟩
      exact nI_pos (by omega) d
    · obtain ⟨k, hk, rfl⟩ : ∃ k, k < l.length ∧ x = nI k := by
        rcases pk_ix x (n := l.length) (by omega) with q | q | q
        · exact absurd q d
        · exact absurd f (Int32.not_lt.mpr q)
        · exact q
      rw [lett_t hk h1]
      obtain ⟨m, hm⟩ : ∃ m, l.length = m + 1 := ⟨l.length - 1, by omega⟩
      have e1 : (8 : Int32) * ((nI l.length - 1) - nI k) = nI (8 * (l.length - 1 - k)) := by
        rw [hm, n1_sub, pk_sub (by omega), show (8 : Int32) = nI 8 from rfl, pk_mul]
        simp
      rw [e1, wb_shr (by omega) (by omega), show (255 : Int64) = lN (2 ^ 8 - 1) from rfl, wb_mask (Nat.lt_of_le_of_lt (Nat.div_le_self _ _) (by omega)) (by decide), lN_i]
      have e2 : nmR l / 2 ^ (8 * (l.length - 1 - k)) % 2 ^ 8 = 96 + l.getD (l.length - 1 - k) 0 := by
        rw [Nat.pow_mul, show (2 : Nat) ^ 8 = 256 from rfl, nmR_drop h2, drop_c (by omega)]
        show (nmR _ * 256 + (l.getD (l.length - 1 - k) 0 + 96)) % 256 = _
        have : l.getD (l.length - 1 - k) 0 ∈ l := by
          rw [List.getD_eq_getElem?_getD, List.getElem?_eq_getElem (by omega)]
          exact List.getElem_mem _
        have := h2 _ this
        omega
      rw [e2]
    · rw [lett_f]
      rintro ⟨k, hk, rfl⟩
      exact f (nI_lt hk (by omega))
end S54
