/-! front: ways, on both sides -/
section S95
variable {D b W Rn Kn Tn Hn Un g : Nat} {I I1 I2 : Nat → Nat → Int32} {J J1 J2 : Nat → Nat → Int64}
theorem wk_amt {fr tt : Nat → Nat} {am : Nat → Nat → Nat} {dst : Nat} (ha : ∀ t, t < Tn → ∀ w, w < W → am t w ≤ 9999) : ∀ (fuel knot m : Nat) (acc v : Nat → Nat), v ∈ wk Tn fr tt am dst fuel knot m acc → ∀ w, w < W → v w ≤ acc w + 9999 * fuel
  | 0, knot, m, acc, v, hv, w, hw => by
    unfold wk at hv
    split at hv
    · rw [List.mem_singleton.mp hv]; omega
    · exact absurd hv List.not_mem_nil
  | fuel + 1, knot, m, acc, v, hv, w, hw => by
    unfold wk at hv
    split at hv
    · rw [List.mem_singleton.mp hv]; omega
    · obtain ⟨t, ht, hv⟩ := List.mem_flatMap.mp hv
      have ht := List.mem_range.mp ht
      split at hv
      · have ih := wk_amt ha fuel _ _ _ v hv w hw
        have := ha t ht w hw
        have ih : v w ≤ (acc w + am t w) + 9999 * fuel := ih
        omega
      · exact absurd hv List.not_mem_nil
theorem rho_rng {mo : Nat → Int32} {v : Nat → Nat} {w : Nat} (h : v w ≤ 200000) : ∃ x : Int, -1000000 ≤ x ∧ x ≤ 1000000 ∧ rho mo v w = iI x := by
  unfold rho lo
  split
  · exact ⟨(v w : Nat), by omega, by omega, (iI_nI _).symm⟩
  · refine ⟨-(v w : Nat), by omega, by omega, ?_⟩
    rw [← iI_nI]
    exact iI_neg _
/-- the net on both sides -/
theorem Rl.net (h : Rl b W Rn Kn Tn Hn Un g I1 J1 I2 J2) : ∃ (fr tt : Nat → Nat) (am : Nat → Nat → Nat), tlq W Tn fr tt am I1 ∧ rlq b W Rn Kn Tn fr tt am (I1 4) I2 ∧ ∀ t, t < Tn → ∀ w, w < W → am t w ≤ 9999 := by
  obtain ⟨h1, ⟨n, m, -, t, -⟩, -⟩ := id h
  obtain ⟨a1, a2, a3, a4, a5, a6, b1, b2, b3, b4, b5, b6, c1, c2, c3, c4, c5, c6, c7⟩ := n
  have key : ∀ t', t' < Tn → (∃ x y, x < Kn ∧ y < Kn ∧ I1 7 t' = nI x ∧ I1 8 t' = nI y) := fun t' ht => by
    obtain ⟨-, -, ⟨x, y, hx, hy, -, e1, e2⟩, -⟩ := t t' ht
    exact ⟨x, y, hx, hy, e1, e2⟩
  have amk : ∀ t', t' < Tn → ∀ w, w < W → I1 5 (480 + 4 * t' + w) = nI ((I1 5 (480 + 4 * t' + w)).toNatClampNeg) ∧ (I1 5 (480 + 4 * t' + w)).toNatClampNeg ≤ 9999 := fun t' ht w hw => by
    obtain ⟨-, -, -, q⟩ := t t' ht
    obtain ⟨-, x, hx, e⟩ := q w hw
    have e : I1 5 (480 + 4 * t' + w) = nI x := e
    rw [e, nI_clamp (by omega)]
    exact ⟨rfl, hx⟩
  refine ⟨fun t => (I1 7 t).toNatClampNeg, fun t => (I1 8 t).toNatClampNeg, fun t w => (I1 5 (480 + 4 * t + w)).toNatClampNeg, ⟨c2, c5, a1, a4, fun t' ht => ?_⟩, ⟨h.rB, b3, c4, b4, c5, fun w hw => (m w hw).1, fun t' ht => ?_⟩, fun t' ht w hw => (amk t' ht w hw).2⟩
  · obtain ⟨x, y, hx, hy, e1, e2⟩ := key t' ht
    show I1 7 t' = nI (I1 7 t').toNatClampNeg ∧ I1 8 t' = nI (I1 8 t').toNatClampNeg ∧ (I1 7 t').toNatClampNeg < 10 ∧ (I1 8 t').toNatClampNeg < 10 ∧ _
    rw [e1, e2, nI_clamp (by omega), nI_clamp (by omega)]
    exact ⟨rfl, rfl, by omega, by omega, fun w hw => (amk t' ht w hw).1⟩
  · obtain ⟨x, y, hx, hy, e1, e2⟩ := key t' ht
    obtain ⟨q1, q2, -, q3⟩ := t t' ht
    have q1 : I2 14 (24 * b + t') = I1 7 t' := q1
    have q2 : I2 15 (24 * b + t') = I1 8 t' := q2
    show I2 14 (24 * b + t') = nI (I1 7 t').toNatClampNeg ∧ I2 15 (24 * b + t') = nI (I1 8 t').toNatClampNeg ∧ (I1 7 t').toNatClampNeg < 10 ∧ (I1 8 t').toNatClampNeg < Kn ∧ _
    rw [q1, q2, e1, e2, nI_clamp (by omega), nI_clamp (by omega)]
    refine ⟨rfl, rfl, by omega, hy, fun w hw => ?_⟩
    rw [(q3 w hw).1]
    exact (amk t' ht w hw).1
/-- the pool out of a list of rows -/
theorem plL_plP {L : List (Nat → Nat)} (h : plL W L I J) (hW : W ≤ 4) : ∃ K : Nat → Nat, plP W L.length (fun x => rho (I 4) (L.getD x (fun _ => 0))) K I J ∧ odP L.length (fun i => i) I := by
  obtain ⟨h1, h2, h3, h4⟩ := h
  have at' : ∀ x, x < L.length → L[x]? = some (L.getD x (fun _ => 0)) := fun x hx => by rw [List.getD_eq_getElem?_getD, List.getElem?_eq_getElem hx]; rfl
  have hk : ∀ x, ∃ k, x < L.length → k < 2 ^ 62 ∧ J 31 x = lN k := fun x => by
    by_cases c : x < L.length
    · obtain ⟨k, k1, k2⟩ := (h4 x _ (at' x c)).2.2
      exact ⟨k, fun _ => ⟨k1, k2⟩⟩
    · exact ⟨0, fun q => absurd q c⟩
  obtain ⟨K, hK⟩ := Classical.axiomOfChoice hk
  exact ⟨K, ⟨h1, h2, h3, hW, fun x hx w hw => (h4 x _ (at' x hx)).1 w hw, fun x hx => ⟨(hK x hx).2, (hK x hx).1⟩⟩, fun i hi => ⟨(h4 i _ (at' i hi)).2.1, hi⟩⟩
theorem al_front1 {x2 x3 : Int32} (h : Rl b W Rn Kn Tn Hn Un g I1 J1 I2 J2) (hW : W ≠ 0) : AI 203 70 [.int (nI 1), .int x2, .int x3] I1 J1 I2 J2 (Rl b W Rn Kn Tn Hn Un g) := by
  obtain ⟨a1, a2, a3, a4, a5, a6, b1, b2, b3, b4, b5, b6, c1, c2, c3, c4, c5, c6, c7⟩ := id h.N
  have a1 : I1 2 0 = nI W := a1
  have a3 : I1 2 2 = nI Kn := a3
  have hB := h.rB
  obtain ⟨d1, d2, d3, d4, d5, d6⟩ := id hB
  have v0 : vp_in 0 6 := vp_in_nI (n := 0) (by decide) (by decide)
  have vb : vp_in (nI b) 2 := vp_in_nI d2 (by decide)
  have hW0 : ¬ nI W = 0 := nI_ne0 (by omega) (by omega)
  have cl : ∀ {P : mj_R → Prop}, (∃ r, mj_Cl mj_S1 mj_CD 899 206 [.ref 0, .int x2, .int x3] (I1, J1, mj_R1) r ∧ P r) → ∃ r, mj_Cl mj_S1 mj_CD 899 206 [.ref 0, .int x2, .int x3] (I1, J1, mj_R1) r ∧ P r := fun h => h
  have top : ∀ (r : Int32) (I' : Nat → Nat → Int32) (J' : Nat → Nat → Int64), C1 899 206 [.ref 0, .int x2, .int x3] I1 J1 (.int r) I' J' → C1 900 203 [.ref 0, .int (nI 1), .int x2, .int x3] I1 J1 (.int r) I' J' := fun r I' J' hc => by
    refine mj_mk (D := 899) (e203 _ _ _ ?_)
    rw [if_neg (show ¬ nI 1 < 0 by decide), if_neg (show ¬ 2 < nI 1 by decide), show ((0 : Int32)).toNatClampNeg = 0 from rfl, a1, if_neg hW0, if_neg (show ¬ nI 1 = 0 by decide), if_pos (show nI 1 = 1 from rfl)]
    exact ⟨v0, trivial, _, _, _, hc, rfl⟩
  have rtop : ∀ {Q : mj_R → Prop} {K : Nat → mj_K}, True := trivial
  -- the two knots
  rcases Classical.em ((∃ j, j < Kn ∧ x2 = nI j) ∧ (∃ j, j < Kn ∧ x3 = nI j) ∧ x2 ≠ x3) with ok | ok
  · obtain ⟨⟨src, hs, rfl⟩, ⟨dst, hd, rfl⟩, hne⟩ := ok
    have hne : src ≠ dst := fun e => hne (by rw [e])
    obtain ⟨fr, tt, am, q1, q2, q3⟩ := h.net
    -- the class' pool
    obtain ⟨Ia, Ja, ca, pa, fa, ga⟩ := c_gatherWays (J := J1) q1 (src := src) (dst := dst) (by omega) (by omega)
    obtain ⟨L, hL⟩ : ∃ L, L = wk Tn fr tt am dst 9 src (2 ^ src) (fun _ => 0) := ⟨_, rfl⟩
    rw [← hL] at pa
    obtain ⟨K, pP, pO⟩ := plL_plP pa c2
    have e4 : Ia 4 = I1 4 := fa 4 (by decide) (by decide) (by decide) (by decide) (by decide)
    rw [e4] at pP
    obtain ⟨f, hf, hsrt, r, Ib, Jb, cb, fb, gb, kb, sb, tb⟩ := c_putF_b (D := 893) (kd := 1) pP pO
    have frc := fr_cla (T := fun v => v ∈ L) (mo := I1 4) (cho_FR hf hsrt) (fun f' k hk => by
      obtain ⟨x, hx, e, -⟩ := hk
      exact ⟨L.getD x (fun _ => 0), List.mem_of_getElem? (by rw [List.getD_eq_getElem?_getD, List.getElem?_eq_getElem hx]; rfl), e⟩) (fun v hv => by
      obtain ⟨x, hx⟩ := List.getElem?_of_mem hv
      have hxl := (List.getElem?_eq_some_iff.mp hx).1
      refine ⟨rho (I1 4) v, K x, ⟨x, hxl, fun w hw => ?_, rfl⟩, fun _ _ => rfl⟩
      show rho (I1 4) v w = rho (I1 4) (L.getD x (fun _ => 0)) w
      rw [List.getD_eq_getElem?_getD, hx]; rfl)
    obtain ⟨n, hn⟩ : ∃ n, n = (cho W (fun x => rho (I1 4) (L.getD x (fun _ => 0))) f L.length).length := ⟨_, rfl⟩
    rw [← hn] at frc sb tb
    -- the reference's
    obtain ⟨I2a, J2a, c2a, rfl, R, g1, m1, w1⟩ := r_ways (D := 894) (J := J2) (I := mj_up I2 0 48 (nI 0)) (src := src) (dst := dst) (rlq_cg q2 (fun q j q1 q2 q3 q4 q5 q6 q7 q8 => by rw [up_n (by omega)])) (by omega) (by omega) hne up_s
    rw [← hL] at m1
    have hu := unl_of m1
    obtain ⟨σ, hσ⟩ := rkk_at hu
    obtain ⟨e1, e2⟩ := FR_one frc (fr_ref m1 hσ)
    have c206 : ∀ (r' : Int32) (I' : Nat → Nat → Int32) (J' : Nat → Nat → Int64), (if r = -2 then ((Value.int r, (Ib, Jb, mj_R1)) = (Value.int r', (I', J', mj_R1))) else (True ∧ ∃ (I5 : Nat → Nat → Int32) (J5 : Nat → Nat → Int64), mj_Cl mj_S1 mj_CD 898 219 [.ref 38, .ref 41] (Ib, Jb, mj_R1) (.null, (I5, J5, mj_R1)) ∧ (Value.int r, (I5, J5, mj_R1)) = (Value.int r', (I', J', mj_R1)))) → C1 899 206 [.ref 0, .int (nI src), .int (nI dst)] I1 J1 (.int r') I' J' := fun r' I' J' hh => by
      refine mj_mk (D := 898) (e206 _ _ ?_)
      refine ⟨trivial, _, _, _, c_there (k := 2) a3 (by omega) (by decide), if_tf (fun _ => ?_) (fun z => absurd ⟨src, hs, rfl⟩ z)⟩
      refine ⟨trivial, _, _, _, c_there (k := 2) a3 (by omega) (by decide), if_tf (fun _ => ?_) (fun z => absurd ⟨dst, hd, rfl⟩ z)⟩
      rw [if_neg (show ¬ nI src = nI dst from fun z => hne ((nI_eq (by omega) (by omega)).mp z))]
      exact ⟨trivial, _, _, mj_Cl_le (by decide) ca, trivial, _, _, _, mj_Cl_le (by decide) cb, hh⟩
    have rf : ∀ {Q : mj_R → Prop}, mj_Ev mj_S2 (mj_CD 70) (mj_Cl mj_S2 mj_CD 899) Q 212 [(0, .ref 0), (1, .int (nI 1))] [] (I2a, J2a, mj_R2) → mj_if (Nat.ble (mj_sz [.ref 0, .int (nI 1), .int (nI src), .int (nI dst)]) (mj_CD 70).2.2) (mj_sg mj_S2 (mj_CD 70) (mj_Cl mj_S2 mj_CD 899) Q (mj_Ev mj_S2 (mj_CD 70) (mj_Cl mj_S2 mj_CD 899) Q) 100 0 (mj_a0 0 [.ref 0, .int (nI 1), .int (nI src), .int (nI dst)]) [] (I2, J2a, mj_R2)) := fun {Q} hh => by
      refine e70 _ _ _ ?_
      refine ⟨trivial, _, _, _, r_is, if_tf (fun _ => ?_) (fun z => absurd ⟨by decide, by decide⟩ z)⟩
      rw [d1, nI_clamp (by omega), d3, if_neg hW0, if_pos (show nI 1 = 1 from rfl), b3]
      refine ⟨vb, vb, trivial, _, _, _, r_is, if_tf (fun _ => ?_) (fun z => absurd ((r_rg (by omega)).mpr ⟨src, hs, rfl⟩) z)⟩
      rw [d1, nI_clamp (by omega), b3]
      refine ⟨vb, trivial, _, _, _, r_is, if_tf (fun _ => ?_) (fun z => absurd ((r_rg (by omega)).mpr ⟨dst, hd, rfl⟩) z)⟩
      rw [if_neg (show ¬ nI src = nI dst from fun z => hne ((nI_eq (by omega) (by omega)).mp z))]
      refine mj_on (s70_73 _ _ _ ?_)
      rw [if_neg (show ¬ nI 1 = 0 by decide)]
      refine mj_on (s70_192 _ _ _ ?_)
      rw [if_pos (show nI 1 = 1 from rfl)]
      refine ⟨trivial, _, _, mj_Cl_le (by decide) c2a, ?_⟩
      rw [if_neg (show ¬ nI 1 = 2 by decide)]
      exact hh
    have wf2 : wfr I2 I2a := wfr_tr (fun q j q1 q2 q3 q4 q5 q6 q7 q8 => by rw [up_n (by omega)]) w1
    have hB2 : rB I2a b W Rn := (rlq_cg q2 wf2).1
    have mI1 : ∀ (D : List Nat) (E : List (Nat × Nat)), D.elem 29 = true → D.elem 30 = true → D.elem 32 = true → D.elem 36 = true → D.elem 37 = true → D.elem 41 = true → D.elem 42 = true → mkI D E Ib = mkI D E I1 := fun D E z1 z2 z3 z4 z5 z6 z7 => mkI_of fun q j y1 y2 => by
      have ne : ∀ p, D.elem p = true → q ≠ p := fun p hp e => by rw [e, hp] at y1; cases y1
      rw [fb q (ne 32 z3) (ne 41 z6) (ne 42 z7), fa q (ne 29 z1) (ne 30 z2) (ne 32 z3) (ne 36 z4) (ne 37 z5)]
    have mJ1 : ∀ (D : List Nat) (E : List (Nat × Nat)), D.elem 31 = true → D.elem 43 = true → mkJ D E Jb = mkJ D E J1 := fun D E z1 z2 => mkJ_of fun q j y1 y2 => by
      have ne : ∀ p, D.elem p = true → q ≠ p := fun p hp e => by rw [e, hp] at y1; cases y1
      rw [gb q (ne 43 z2), ga q (ne 31 z1)]
    have mI2 : ∀ (D : List Nat) (E : List (Nat × Nat)), D.elem 29 = true → D.elem 30 = true → D.elem 31 = true → D.elem 32 = true → D.elem 33 = true → D.elem 34 = true → D.elem 35 = true → E.elem (0, 48) = true → mkI D E I2a = mkI D E I2 := fun D E z1 z2 z3 z4 z5 z6 z7 z8 => mkI_of fun q j y1 y2 => by
      have ne : ∀ p, D.elem p = true → q ≠ p := fun p hp e => by rw [e, hp] at y1; cases y1
      refine wf2 q j (ne 29 z1) (ne 30 z2) (ne 31 z3) (ne 32 z4) (ne 33 z5) (ne 34 z6) (ne 35 z7) ?_
      by_cases e : q = 0
      · right
        intro e3
        rw [e, e3, z8] at y2
        cases y2
      · exact Or.inl e
    by_cases hc : n ≤ 100
    · obtain ⟨er, s1, s2⟩ := sb hc
      subst er
      have hr2 : ¬ nI n = -2 := fun z => by
        have := congrArg Int32.toInt z
        rw [nI_toInt (by omega)] at this
        have h2 : (-2 : Int32).toInt = -2 := by decide
        omega
      obtain ⟨Ic, Jc, cc, o1, o2, o3, o4, o5, o6⟩ := c_copy_b (D := 896) (n := n) (I := Ib) (J := Jb) (by rw [s1, hn]) hc
      have k1 := c206 (nI n) Ic Jc (by rw [if_neg hr2]; exact ⟨trivial, _, _, cc, rfl⟩)
      have hRl : R.length ≤ 100 := by omega
      obtain ⟨r2, I2b, J2b, c2b, rr, p1, p2, p3⟩ := mj_cI (S := mj_S2) (CD := mj_CD) (R := mj_R2) (P := fun r I' J' => r = nI n ∧ J' = J2a ∧ (∀ k, k < n → (∀ w, w < W → I' 37 (4 * k + w) = rwR R (σ k) w) ∧ ∃ y, y ≤ 10 ∧ I' 38 k = nI y) ∧ ∀ q, q ≠ 37 → q ≠ 38 → q ≠ 39 → I' q = mj_up (mj_up I2a 0 59 (nI 1)) 0 58 (nI n) q) (rf (by
        refine mj_on (s70_212 _ ?_)
        rw [g1.1, show (100 : Int32) = nI 100 from rfl, ← e1]
        refine if_le (by omega) (by decide) (fun _ => ?_) (fun z => absurd z (by omega))
        refine r_placeF (Wb := (· ≤ 10)) (W := W) (b := b) (Rn := Rn) (D := 898) (R := R) (σ := σ) (kd := 1) ?_ ?_ hu hRl (by decide) (by decide) hσ (fun I' i1 i2 => ⟨_, _, _, rfl, by rw [e1], rfl, fun k hk => i1 k (by omega), i2⟩)
        · unfold rB at hB2 ⊢
          rw [up_j (by decide), up_j (by decide), up_c (by decide), up_c (by decide), up_c (by decide), up_c (by decide)]
          exact hB2
        · exact gaL_cg g1 (by rw [up_j (by decide), up_j (by decide)]) (by rw [up_c (by decide), up_c (by decide)]) (by rw [up_c (by decide), up_c (by decide)])))
      subst rr
      subst p1
      obtain ⟨p2, p3⟩ := (⟨p2, p3⟩ : _ ∧ _)
      have lrow : ∀ k, k < n → ∀ w, w < W → Ic 39 (4 * k + w) = rwR R (σ k) w := fun k hk w hw => by
        rw [o5 k w hk (by omega)]
        have hk2 : k < (cho W (fun x => rho (I1 4) (L.getD x (fun _ => 0))) f L.length).length := by omega
        obtain ⟨x, hx1, hx2, -⟩ := gt_of hk2
        have := (s2 k x hx1).1 w hw
        rw [this]
        have e3 := (e2 k hk).1 w hw
        have ex : (cho W (fun x => rho (I1 4) (L.getD x (fun _ => 0))) f L.length).getD k 0 = x := by rw [List.getD_eq_getElem?_getD, hx1]; rfl
        have e3 : rho (I1 4) (L.getD ((cho W (fun x => rho (I1 4) (L.getD x (fun _ => 0))) f L.length).getD k 0) (fun _ => 0)) w = rwR R (σ k) w := e3
        rw [ex] at e3
        exact e3
      have mIc : ∀ (D : List Nat) (E : List (Nat × Nat)), D.elem 39 = true → E.elem (38, 0) = true → E.elem (38, 1) = true → mkI D E Ic = mkI D E Ib := fun D E z1 z2 z3 => mkI_of fun q j y1 y2 => by
        refine o1 q j (fun z => by rw [z, z1] at y1; cases y1) fun z => ⟨fun y => ?_, fun y => ?_⟩
        · rw [z, y, z2] at y2; cases y2
        · rw [z, y, z3] at y2; cases y2
      have mJc : ∀ (D : List Nat) (E : List (Nat × Nat)), D.elem 40 = true → mkJ D E Jc = mkJ D E Jb := fun D E z1 => mkJ_of fun q j y1 _ => by
        rw [o2 q (fun z => by rw [z, z1] at y1; cases y1)]
      refine ⟨_, Ic, Jc, I2b, J2b, top _ _ _ k1, c2b, Rl_H h ((mIc _ _ rfl rfl rfl).trans (mI1 _ _ rfl rfl rfl rfl rfl rfl rfl)) ((mJc _ _ rfl).trans (mJ1 _ _ rfl rfl)) ((mkI_of fun q j y1 y2 => ?_ : mkI ([37, 38, 39] ++ sc2) ([(0, 58), (0, 59)] ++ sl2) I2b = mkI ([37, 38, 39] ++ sc2) ([(0, 58), (0, 59)] ++ sl2) I2a).trans (mI2 _ _ rfl rfl rfl rfl rfl rfl rfl rfl)) rfl ?_ ?_⟩
      · have ne : ∀ p, ([37, 38, 39] ++ sc2).elem p = true → q ≠ p := fun p hp e => by rw [e, hp] at y1; cases y1
        rw [p3 q (ne 37 rfl) (ne 38 rfl) (ne 39 rfl)]
        have n58 : q ≠ 0 ∨ j ≠ 58 := by
          by_cases e : q = 0
          · right; intro e3; rw [e, e3] at y2; exact absurd y2 (by decide)
          · exact Or.inl e
        have n59 : q ≠ 0 ∨ j ≠ 59 := by
          by_cases e : q = 0
          · right; intro e3; rw [e, e3] at y2; exact absurd y2 (by decide)
          · exact Or.inl e
        rw [up_n n58, up_n n59]
      · refine Or.inr ⟨1, n, by decide, hc, by rw [o3, kb], o4, ?_, ?_, by omega, fun k hk w hw => ⟨?_, ?_⟩, fun _ k hk => (p2 k hk).2⟩
        · rw [p3 0 (by decide) (by decide) (by decide), up_s]
        · rw [p3 0 (by decide) (by decide) (by decide), up_j (by decide), up_s]
        · rw [(p2 k hk).1 w hw, lrow k hk w hw]
        · rw [lrow k hk w hw]
          obtain ⟨v, hv, ev⟩ := m1.1 _ (List.mem_of_getElem? (rwR_of (hσ k (by omega)).1))
          rw [ev]
          refine rho_rng ?_
          rw [hL] at hv
          have := wk_amt q3 9 _ _ _ v hv w hw
          have this : v w ≤ 0 + 9999 * 9 := this
          omega
      · rw [← rlZ_m, mIc _ _ rfl rfl rfl, mJc _ _ rfl, mI1 _ _ rfl rfl rfl rfl rfl rfl rfl, mJ1 _ _ rfl rfl, rlZ_m]
        exact h.2.2.2.2.2.2.2.2.2.2.2.2
    · have er := tb (by omega)
      subst er
      have k1 := c206 (-2) Ib Jb (by rw [if_pos rfl])
      obtain ⟨r2, I2b, J2b, c2b, rr, p1, p2⟩ := mj_cI (S := mj_S2) (CD := mj_CD) (R := mj_R2) (P := fun r I' J' => r = -2 ∧ I' = I2a ∧ J' = J2a) (rf (by
        refine mj_on (s70_212 _ ?_)
        rw [g1.1, show (100 : Int32) = nI 100 from rfl, ← e1]
        exact if_le (by have := pa.2.2.1; have : R.length ≤ 8192 := by
                                                                      have := mnR_len (L := L.map (rho (I1 4))) m1 (fun f ⟨v, hv, e⟩ => by rw [e]; exact List.mem_map.mpr ⟨v, hv, rfl⟩)
                                                                      rw [List.length_map] at this
                                                                      omega
                        omega) (by decide) (fun z => absurd z hc) (fun _ => ⟨_, _, _, rfl, rfl, rfl, rfl⟩)))
      subst rr
      subst p1
      subst p2
      refine ⟨_, Ib, Jb, I2b, J2b, top _ _ _ k1, c2b, Rl_H h (mI1 _ _ rfl rfl rfl rfl rfl rfl rfl) (mJ1 _ _ rfl rfl) (mI2 _ _ rfl rfl rfl rfl rfl rfl rfl rfl) rfl ?_ ?_⟩
      · have q := h.2.2.2.2.2.1
        unfold rlH at q ⊢
        rw [fb 38 (by decide) (by decide) (by decide), fa 38 (by decide) (by decide) (by decide) (by decide) (by decide), fb 39 (by decide) (by decide) (by decide), fa 39 (by decide) (by decide) (by decide) (by decide) (by decide), wf2 0 58 (by decide) (by decide) (by decide) (by decide) (by decide) (by decide) (by decide) (by decide), wf2 0 59 (by decide) (by decide) (by decide) (by decide) (by decide) (by decide) (by decide) (by decide)]
        have e37 : I2b 37 = I2 37 := by funext j; exact wf2 37 j (by decide) (by decide) (by decide) (by decide) (by decide) (by decide) (by decide) (Or.inl (by decide))
        have e38 : I2b 38 = I2 38 := by funext j; exact wf2 38 j (by decide) (by decide) (by decide) (by decide) (by decide) (by decide) (by decide) (Or.inl (by decide))
        rw [e37, e38]
        exact q
      · rw [← rlZ_m, mI1 _ _ rfl rfl rfl rfl rfl rfl rfl, mJ1 _ _ rfl rfl, rlZ_m]
        exact h.2.2.2.2.2.2.2.2.2.2.2.2
  · -- no such way
    have kno : ∀ {P1 : Prop}, True := trivial
    refine AI.same (-1) (top _ _ _ (mj_mk (D := 898) (e206 _ _ ?_))) (mj_mk (D := 899) (e70 _ _ _ ?_)) h
    · refine ⟨trivial, _, _, _, c_there (k := 2) a3 (by omega) (by decide), if_tf (fun y1 => ?_) (fun _ => rfl)⟩
      refine ⟨trivial, _, _, _, c_there (k := 2) a3 (by omega) (by decide), if_tf (fun y2 => ?_) (fun _ => rfl)⟩
      rw [if_pos (Classical.byContradiction fun z => ok ⟨y1, y2, z⟩)]
    · refine ⟨trivial, _, _, _, r_is, if_tf (fun _ => ?_) (fun z => absurd ⟨by decide, by decide⟩ z)⟩
      rw [d1, nI_clamp (by omega), d3, if_neg hW0, if_pos (show nI 1 = 1 from rfl), b3]
      refine ⟨vb, vb, trivial, _, _, _, r_is, if_tf (fun y1 => ?_) (fun _ => rfl)⟩
      rw [d1, nI_clamp (by omega), b3]
      refine ⟨vb, trivial, _, _, _, r_is, if_tf (fun y2 => ?_) (fun _ => rfl)⟩
      rw [if_pos (Classical.byContradiction fun z => ok ⟨(r_rg (by omega)).mp y1, (r_rg (by omega)).mp y2, z⟩)]
end S95
