/-! breaks and place -/
section S70
variable {D b W Rn Kn Tn Hn Un g : Nat} {I I1 I2 : Nat → Nat → Int32} {J J1 J2 : Nat → Nat → Int64}
theorem r_breaks {k o : Nat} (h : Rl b W Rn Kn Tn Hn Un g I1 J1 I2 J2) (hk : k ≤ 3) (hV : 0 < vN I1) (ho : lbit (cnd J1 6) o) (hp : pkC I1 W Rn (cnd J1 6) k = nI o) : C2 (D + 9) 131 [.ref 0, .int (nI k)] I2 J2 (.int (brk I1 W Rn (cnd J1 6) k o)) I2 J2 := by
  obtain ⟨b1, b2, b3, b4, b5, b6⟩ := h.rB
  have cbit : ∀ i, lbit (cnd J1 6) i → i < Rn := fun i q => h.cbit q
  obtain ⟨r, hr, r1, -, -⟩ := r_choose (D := D) (x := nI k) h
  rw [r1 k hk rfl hV, hp] at hr
  have ca := r_cand (D := D + 3) h
  obtain ⟨C, hCe⟩ : ∃ C, C = cnd J1 6 := ⟨_, rfl⟩
  rw [← hCe] at cbit ho ca ⊢
  have cp3 := r_chosen (D := D + 1) (k := 3) h cbit (by decide)
  have cpe := r_chosen (D := D + 1) (k := k) h (fun i q => efC_bit (I := I1) (W := W) (C := C) b6 q) hk
  obtain ⟨q4, q5, q6, q7⟩ := br_5 (B1 := pkC I1 W Rn C 3 ≠ -1 ∧ pkC I1 W Rn C 3 ≠ nI o) (B2 := b2P I1 W Rn C o) (B3 := pkC I1 W Rn (efC I1 W Rn C) k ≠ nI o)
  obtain ⟨ans, hans⟩ : ∃ ans, ans = brk I1 W Rn C k o := ⟨_, rfl⟩
  have hans2 := hans
  unfold brk at hans2
  rw [← hans2] at q4 q5 q6 q7
  rw [← hans]
  clear hans hans2 hp r1
  have hoR := cbit o ho
  generalize pkC I1 W Rn C 3 = s at *
  generalize pkC I1 W Rn (efC I1 W Rn C) k = f' at *
  refine mj_mk (e131 _ ?_)
  refine ⟨trivial, _, _, _, hr, ?_⟩
  rw [if_neg (nI_nm1 (by omega))]
  refine ⟨trivial, _, _, _, ca, trivial, _, _, _, cp3, ?_⟩
  have go : ∀ B : Prop, (B ↔ s ≠ -1 ∧ s ≠ nI o) → E2 131 (D + 8) (fun q => q = (.int ans, (I2, J2, mj_R2))) 45 [(0, .ref 0), (1, .int (nI k)), (2, .int (nI o)), (3, .long C), (6, .int (tf B))] I2 J2 := fun B hB => by
    rw [tf_iff hB]
    obtain ⟨x6, hx6⟩ : ∃ x6, x6 = tf (s ≠ -1 ∧ s ≠ nI o) := ⟨_, rfl⟩
    rw [← hx6] at q4 q5 q6 q7 ⊢
    refine mj_on (s131_45 _ _ _ _ ?_)
    have loop : ∀ B0 : Prop, (B0 ↔ C ≠ (1 : Int64) <<< ((nI o).toInt64 &&& 63)) → E2 131 (D + 8) (fun q => q = (.int ans, (I2, J2, mj_R2))) 60 [(0, .ref 0), (1, .int (nI k)), (2, .int (nI o)), (3, .long C), (6, .int x6), (7, .int (tf B0))] I2 J2 := fun B0 hB0 => by
      refine mj_on (s131_60 _ _ _ _ _ ?_)
      refine lp_up (n := Rn) (fun i => ∀ B : Prop, (B ↔ C ≠ (1 : Int64) <<< ((nI o).toInt64 &&& 63) ∧ ∀ u, u < i → u ≠ o → lbit C u → wn I1 W u o) → E2 131 (D + 8) (fun q => q = (.int ans, (I2, J2, mj_R2))) 66 [(0, .ref 0), (1, .int (nI k)), (2, .int (nI o)), (3, .long C), (6, .int x6), (7, .int (tf B)), (8, .long (bs i (efP I1 W Rn C))), (10, .int (nI i))] I2 J2) (fun i hi ih B hB => ?_) 0 (Nat.zero_le _) B0 ⟨fun q => ⟨hB0.mp q, fun u hu => absurd hu (Nat.not_lt_zero u)⟩, fun q => hB0.mpr q.1⟩
      refine mj_on (s131_66 _ _ _ _ _ _ _ ?_)
      rw [b1, nI_clamp (by omega), b5, nI_1]
      refine ⟨vp_in_nI b2 (by decide), if_le (by omega) (by omega) (fun c => ?_) (fun c => if_i (fun d => ?_) (fun d => ?_))⟩
      · obtain rfl : i = Rn := by omega
        have fin : ∀ y : Int32, (f' = nI o → y ||| 0 = ans) → (f' ≠ nI o → y ||| 4 = ans) → E2 131 (D + 8) (fun q => q = (.int ans, (I2, J2, mj_R2))) 193 [(0, .ref 0), (1, .int (nI k)), (2, .int (nI o)), (6, .int y), (8, .long (bs i (efP I1 W i C)))] I2 J2 := fun y y1 y2 => by
          refine mj_on (s131_193 _ _ _ _ ?_)
          refine ⟨trivial, _, _, _, cpe, if_i (fun z => ?_) (fun z => ?_)⟩
          · rw [y1 z]
          · rw [y2 z]
        have hBb : B ↔ b2P I1 W i C o := hB
        refine if_tf (fun q => fin _ (fun z => q5 (hBb.mp q) (fun w => w z)) (fun z => q4 (hBb.mp q) z)) (fun q => fin _ (fun z => q7 (fun w => q (hBb.mpr w)) (fun w => w z)) (fun z => q6 (fun w => q (hBb.mpr w)) z))
      · have d := (sb_0 (by omega)).mp d
        have z := ih c B (by
          rw [hB]
          refine and_congr Iff.rfl ⟨fun q u h1 h2 h3 => ?_, fun q u h1 h2 h3 => q u (by omega) h2 h3⟩
          by_cases e : u = i
          · subst e; exact absurd h3 d
          · exact q u (by omega) h2 h3)
        rw [bs_f0 (fun q => d q.1)] at z
        exact z
      · have d : lbit C i := Classical.byContradiction fun q => d ((sb_0 (by omega)).mpr q)
        have inner : ∀ B' : Prop, (B' ↔ C ≠ (1 : Int64) <<< ((nI o).toInt64 &&& 63) ∧ ∀ u, u < i + 1 → u ≠ o → lbit C u → wn I1 W u o) → E2 131 (D + 8) (fun q => q = (.int ans, (I2, J2, mj_R2))) 122 [(0, .ref 0), (1, .int (nI k)), (2, .int (nI o)), (3, .long C), (6, .int x6), (7, .int (tf B')), (8, .long (bs i (efP I1 W Rn C))), (10, .int (nI i))] I2 J2 := fun B' hB' => by
          refine mj_on (s131_122 _ _ _ _ _ _ _ ?_)
          refine lp_up (n := 6) (fun p => ∀ x8, ((∃ p', p' < p ∧ fiP I1 W Rn C i p') ∧ x8 = bs i (efP I1 W Rn C) ||| ((1 : Int64) <<< ((nI i).toInt64 &&& 63)) ∨ (¬ ∃ p', p' < p ∧ fiP I1 W Rn C i p') ∧ x8 = bs i (efP I1 W Rn C)) → E2 131 (D + 8) (fun q => q = (.int ans, (I2, J2, mj_R2))) 125 [(0, .ref 0), (1, .int (nI k)), (2, .int (nI o)), (3, .long C), (6, .int x6), (7, .int (tf B')), (8, .long x8), (10, .int (nI i)), (11, .int (nI p))] I2 J2) (fun p hp2 ih2 x8 h8 => ?_) 0 (Nat.zero_le _) _ (Or.inr ⟨fun ⟨p', q, _⟩ => absurd q (Nat.not_lt_zero p'), rfl⟩)
          refine mj_on (s131_125 _ _ _ _ _ _ _ _ ?_)
          rw [show (6 : Int32) = nI 6 from rfl, nI_1, nI_1, Int64.or_zero]
          have skp : p < 6 → ¬ fiP I1 W Rn C i p → E2 131 (D + 8) (fun q => q = (.int ans, (I2, J2, mj_R2))) 125 [(0, .ref 0), (1, .int (nI k)), (2, .int (nI o)), (3, .long C), (6, .int x6), (7, .int (tf B')), (8, .long x8), (10, .int (nI i)), (11, .int (nI (p + 1)))] I2 J2 := fun c2 q => ih2 c2 x8 (by
            rcases h8 with ⟨⟨p', h1, h2⟩, h3⟩ | ⟨h1, h2⟩
            · exact Or.inl ⟨⟨p', by omega, h2⟩, h3⟩
            · refine Or.inr ⟨fun ⟨p', z1, z2⟩ => ?_, h2⟩
              by_cases e : p' = p
              · subst e; exact q z2
              · exact h1 ⟨p', by omega, z2⟩)
          refine if_le (by omega) (by omega) (fun c2 => ?_) (fun c2 => ⟨trivial, _, _, _, r_votes h c2, if_tf (fun v => ?_) (fun v => skp c2 fun q => v q.1)⟩)
          · obtain rfl : p = 6 := by omega
            have z := ih c B' hB'
            rcases h8 with ⟨h1, h2⟩ | ⟨h1, h2⟩
            · rw [bs_t (n := i) (p := efP I1 W Rn C) ⟨d, h1⟩] at z
              rw [h2]
              exact z
            · rw [bs_f0 (n := i) (p := efP I1 W Rn C) (fun q => h1 q.2)] at z
              rw [h2]
              exact z
          · have hrk : rk I1 W Rn C p i ≤ 40 := Nat.le_trans ct_le b6
            refine ⟨trivial, _, _, _, r_place h c2 v c, if_eq (b := 0) (by omega) (by decide) (fun y => ih2 c2 _ (Or.inl ⟨⟨p, by omega, v, y⟩, ?_⟩)) (fun y => skp c2 fun q => y q.2)⟩
            rcases h8 with ⟨h1, h2⟩ | ⟨h1, h2⟩
            · rw [h2, Int64.or_assoc, Int64.or_self]
            · rw [h2]
        have yes : (C ≠ (1 : Int64) <<< ((nI o).toInt64 &&& 63) ∧ ∀ u, u < i → u ≠ o → lbit C u → wn I1 W u o) → (i ≠ o → wn I1 W i o) → E2 131 (D + 8) (fun q => q = (.int ans, (I2, J2, mj_R2))) 122 [(0, .ref 0), (1, .int (nI k)), (2, .int (nI o)), (3, .long C), (6, .int x6), (7, .int 1), (8, .long (bs i (efP I1 W Rn C))), (10, .int (nI i))] I2 J2 := fun w1 w2 => by
          have z := inner True ⟨fun _ => ⟨w1.1, fun u h1 h2 h3 => ?_⟩, fun _ => trivial⟩
          · rw [tf_t trivial] at z
            exact z
          · by_cases e : u = i
            · subst e; exact w2 h2
            · exact w1.2 u (by omega) h2 h3
        have no : ¬ ((C ≠ (1 : Int64) <<< ((nI o).toInt64 &&& 63) ∧ ∀ u, u < i → u ≠ o → lbit C u → wn I1 W u o) ∧ (i ≠ o → wn I1 W i o)) → E2 131 (D + 8) (fun q => q = (.int ans, (I2, J2, mj_R2))) 122 [(0, .ref 0), (1, .int (nI k)), (2, .int (nI o)), (3, .long C), (6, .int x6), (7, .int 0), (8, .long (bs i (efP I1 W Rn C))), (10, .int (nI i))] I2 J2 := fun w => by
          have z := inner False ⟨fun q => q.elim, fun q => w ⟨⟨q.1, fun u h1 h2 h3 => q.2 u (by omega) h2 h3⟩, fun e => q.2 i (by omega) e d⟩⟩
          rw [tf_f id] at z
          exact z
        refine if_tf (fun q => if_eq (by omega) (by omega) (fun e => yes (hB.mp q) fun y => absurd e y) (fun e => ⟨trivial, _, _, _, r_wins h c hoR, if_tf (fun y => yes (hB.mp q) fun _ => y) (fun y => no fun w => y (w.2 e))⟩)) (fun q => no fun w => q (hB.mpr w.1))
    have hp1 := pcL_one (C := C) (o := o) (by omega) ho
    have hp2 : pcL C ≤ 64 := pcn_le 64 _
    have cr : C2 (D + 8) 63 [.long C] I2 J2 (.int (nI (pcL C))) I2 J2 := r_bits
    generalize pcL C = n at *
    refine ⟨trivial, _, _, _, cr, if_le (b := 1) (by omega) (by decide) (fun q => ?_) (fun q => ?_)⟩
    · have z := loop False ⟨fun y => y.elim, fun y => y (hp1.mp q)⟩
      rw [tf_f id] at z
      exact z
    · have z := loop True ⟨fun _ y => absurd (hp1.mpr y) (by omega), fun _ => trivial⟩
      rw [tf_t trivial] at z
      exact z
  refine if_i (fun q => ?_) (fun q => if_i (fun y => ?_) (fun y => ?_))
  · have z := go False ⟨fun z => z.elim, fun z => z.1 q⟩
    rw [tf_f id] at z
    exact z
  · have z := go False ⟨fun z => z.elim, fun z => z.2 y⟩
    rw [tf_f id] at z
    exact z
  · have z := go True ⟨fun _ => ⟨q, y⟩, fun _ => trivial⟩
    rw [tf_t trivial] at z
    exact z
theorem al_breaks {x : Int32} (h : Rl b W Rn Kn Tn Hn Un g I1 J1 I2 J2) : AI 287 131 [.int x] I1 J1 I2 J2 (Rl b W Rn Kn Tn Hn Un g) := by
  obtain ⟨t, I', J', hc, ht, hg⟩ := c_gatherP (D := 897) h
  rw [ht] at hc
  obtain ⟨g1, g2, g3, g4, g5⟩ := id hg
  have hR := h.rB.2.2.2.2.2
  obtain ⟨r, hr, r1, r2, r3⟩ := r_choose (D := 891) (x := x) h
  have m1 : r = -1 → C2 900 131 [.ref 0, .int x] I2 J2 (.int (-1)) I2 J2 := fun e => by
    refine mj_mk (D := 899) (e131 _ ⟨trivial, _, _, _, hr, ?_⟩)
    rw [if_pos e]
  by_cases hV : 0 < vN I1
  · by_cases e : ∃ k, k ≤ 3 ∧ x = nI k
    · obtain ⟨k, hk, rfl⟩ := e
      obtain ⟨a, ha, a1, a2⟩ := c_broken (D := 894) h hg hk
      have cl : C1 900 287 [.ref 0, .int (nI k)] I1 J1 (.int a) I' J' := by
        refine mj_mk (D := 899) (e287 _ ⟨trivial, _, _, _, hc, if_tf (fun q => ?_) (fun q => absurd hV q)⟩)
        exact ⟨trivial, _, _, _, ha, rfl⟩
      rcases pkC_in (I := I1) (W := W) (Rn := Rn) (C := cnd J1 6) (k := k) with e | ⟨o, ho, e⟩
      · rw [a1 e] at cl
        exact ⟨-1, I', J', I2, J2, cl, m1 (by rw [r1 k hk rfl hV, e]), Rl_same h g1 g2 rfl rfl⟩
      · rw [a2 o ho e] at cl
        exact ⟨_, I', J', I2, J2, cl, r_breaks (D := 891) h hk hV ho e, Rl_same h g1 g2 rfl rfl⟩
    · refine ⟨-1, I', J', I2, J2, mj_mk (D := 899) (e287 _ ⟨trivial, _, _, _, hc, if_tf (fun q => ?_) (fun q => rfl)⟩), m1 (r2 e), Rl_same h g1 g2 rfl rfl⟩
      refine ⟨trivial, _, _, _, mj_mk (D := 898) (e288 _ ⟨trivial, _, _, _, c_pickBad (D := 894) e, ?_⟩), rfl⟩
      rw [if_pos rfl]
  · refine ⟨-1, I', J', I2, J2, mj_mk (D := 899) (e287 _ ⟨trivial, _, _, _, hc, if_tf (fun q => absurd q hV) (fun q => rfl)⟩), m1 (r3 hV), Rl_same h g1 g2 rfl rfl⟩
theorem al_place {x y : Int32} (h : Rl b W Rn Kn Tn Hn Un g I1 J1 I2 J2) : AI 291 132 [.int x, .int y] I1 J1 I2 J2 (Rl b W Rn Kn Tn Hn Un g) := by
  obtain ⟨t, I', J', hc, ht, hg⟩ := c_gatherP (D := 897) h
  rw [ht] at hc
  obtain ⟨g1, g2, g3, g4, g5⟩ := id hg
  have hB := h.rB
  have hR := hB.2.2.2.2.2
  obtain ⟨a1, a2, -⟩ := h.N
  have cbit : ∀ i, lbit (cnd J1 6) i → i < Rn := fun i q => h.cbit q
  by_cases e : ∃ p, p < 6 ∧ x = nI p
  · obtain ⟨p, hp, rfl⟩ := e
    have vp6 : vp_in (nI p) 6 := vp_in_nI hp (by decide)
    have e60 : I' 60 (nI p).toNatClampNeg = I1 60 p := by rw [nI_clamp (by omega), k1_at g1 (q := 60) rfl]
    by_cases hv : vot I1 p
    · have hV : 0 < vN I1 := ct_pos.mpr ⟨p, hp, hv⟩
      obtain ⟨ans, hA1, hA2⟩ : ∃ ans : Int32, (∀ r, y = nI r → lbit (cnd J1 6) r → ans = nI (rk I1 W Rn (cnd J1 6) p r)) ∧ ((¬ ∃ r, r < Rn ∧ y = nI r ∧ lbit (cnd J1 6) r) → ans = -1) := by
        by_cases q : ∃ r, r < Rn ∧ y = nI r ∧ lbit (cnd J1 6) r
        · obtain ⟨r, hr, rfl, hb⟩ := q
          refine ⟨nI (rk I1 W Rn (cnd J1 6) p r), fun r' e' hb' => ?_, fun z => absurd ⟨r, hr, rfl, hb⟩ z⟩
          have := cbit r' hb'
          obtain rfl := (nI_eq (by omega) (by omega)).mp e'
          rfl
        · exact ⟨-1, fun r e hb => absurd ⟨r, cbit r hb, e, hb⟩ q, fun _ => rfl⟩
      refine ⟨ans, I', J', I2, J2, mj_mk (D := 899) (e291 _ _ ?_), mj_mk (D := 899) (e132 _ _ ?_), Rl_same h g1 g2 rfl rfl⟩
      · refine ⟨trivial, _, _, _, c_isOne, if_tf (fun _ => ?_) (fun q => absurd ⟨p, hp, rfl⟩ q)⟩
        refine ⟨trivial, _, _, _, hc, if_tf (fun _ => ⟨vp6, ?_⟩) (fun q => absurd hV q)⟩
        rw [e60, if_neg hv]
        have there : C1 899 192 [.ref 1, .int 1, .int y] I' J' (.int (tf (∃ j, j < Rn ∧ y = nI j))) I' J' := c_there (k := 1) (by rw [k1_at g1 rfl]; exact a2) hR (by decide)
        refine ⟨trivial, _, _, _, there, if_tf (fun q => ?_) (fun q => by rw [hA2 (fun ⟨r, z1, z2, _⟩ => q ⟨r, z1, z2⟩)])⟩
        obtain ⟨r, hr, rfl⟩ := q
        rw [g4]
        refine ⟨trivial, _, _, _, c_isIn (by omega), if_tf (fun d => ?_) (fun d => ?_)⟩
        · rw [g4]
          refine ⟨trivial, _, _, _, c_rank h hg cbit hp hv hr, ?_⟩
          rw [hA1 r rfl d]
        · rw [hA2]
          rintro ⟨r', z1, z2, z3⟩
          obtain rfl := (nI_eq (by omega) (by omega)).mp z2
          exact d z3
      · refine ⟨trivial, _, _, _, r_isPerson, if_tf (fun _ => ?_) (fun q => absurd ⟨p, hp, rfl⟩ q)⟩
        refine ⟨trivial, _, _, _, r_votes h hp, if_tf (fun _ => ?_) (fun q => absurd hv q)⟩
        refine ⟨trivial, _, _, _, r_isRow hB, if_tf (fun q => ?_) (fun q => by rw [hA2 (fun ⟨r, z1, z2, _⟩ => q ⟨r, z1, z2⟩)])⟩
        obtain ⟨r, hr, rfl⟩ := q
        refine ⟨trivial, _, _, _, r_cand h, if_i (fun d => ?_) (fun d => ?_)⟩
        · rw [hA2]
          rintro ⟨r', z1, z2, z3⟩
          obtain rfl := (nI_eq (by omega) (by omega)).mp z2
          exact (sb_0 (by omega)).mp d z3
        · have d : lbit (cnd J1 6) r := Classical.byContradiction fun q => d ((sb_0 (by omega)).mpr q)
          refine ⟨trivial, _, _, _, r_cand h, trivial, _, _, _, r_place h hp hv hr, ?_⟩
          rw [hA1 r rfl d]
    · refine ⟨-1, I', J', I2, J2, mj_mk (D := 899) (e291 _ _ ?_), mj_mk (D := 899) (e132 _ _ ?_), Rl_same h g1 g2 rfl rfl⟩
      · refine ⟨trivial, _, _, _, c_isOne, if_tf (fun _ => ?_) (fun q => absurd ⟨p, hp, rfl⟩ q)⟩
        refine ⟨trivial, _, _, _, hc, if_tf (fun _ => ⟨vp6, ?_⟩) (fun q => rfl)⟩
        rw [e60, if_pos (Classical.byContradiction hv)]
      · refine ⟨trivial, _, _, _, r_isPerson, if_tf (fun _ => ?_) (fun q => absurd ⟨p, hp, rfl⟩ q)⟩
        exact ⟨trivial, _, _, _, r_votes h hp, if_tf (fun q => absurd q hv) (fun _ => rfl)⟩
  · refine AI.same (-1) (mj_mk (D := 899) (e291 _ _ ?_)) (mj_mk (D := 899) (e132 _ _ ?_)) h
    · exact ⟨trivial, _, _, _, c_isOne, if_tf (fun q => absurd q e) (fun _ => rfl)⟩
    · exact ⟨trivial, _, _, _, r_isPerson, if_tf (fun q => absurd q e) (fun _ => rfl)⟩
end S70
