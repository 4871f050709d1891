section
/-! names: looked up, given and asked for, on both sides -/
def isn (W Rn Kn Hn : Nat) (f : Nat → Int32) (y : Int32) : Prop := (∃ j, j < W ∧ f j = y) ∨ (∃ j, j < Rn ∧ f (40 + j) = y) ∨ (∃ j, j < Kn ∧ f (80 + j) = y) ∨ ∃ j, j < Hn ∧ f (160 + j) = y
section Sa9b
variable {n d W Rn Kn Tn Hn Un S F mc : Nat} {x : Nat → Nat} {B1 B2 : Nat → Nat → Int32} {BJ : Nat → Nat → Int64}
variable {D D' E p a t v : Nat} {l : List Nat} {o : Int} {I1 I2 : Nat → Nat → Int32} {J1 J2 : Nat → Nat → Int64}
theorem c_find0 {i : Nat} {y : Int32} (hi : i = 3 ∨ i = 5) : C1 (D + 1) 150 [.ref 14, .int (nI i), .int y] I1 J1 (.int (-1)) I1 J1 := by
  refine mj_mk (e150 _ _ ?_)
  rcases hi with rfl | rfl
  · exact if_i (fun _ => rfl) (fun z => absurd rfl z)
  · exact if_i (fun z => absurd z (by decide)) (fun _ => if_i (fun _ => rfl) (fun z => absurd rfl z))
theorem c_given {y : Nat} (h0 : I1 15 0 = nI W) (h1 : I1 15 1 = nI Rn) (h2 : I1 15 2 = nI Kn) (h4 : I1 15 4 = nI Hn) (b0 : W ≤ 40) (b1 : Rn ≤ 40) (b2 : Kn ≤ 40) (b4 : Hn ≤ 40) : C1 (D + 2) 149 [.ref 14, .int (nI y)] I1 J1 (.int (tf (isn W Rn Kn Hn (I1 16) (nI y)))) I1 J1 := by
  refine mj_mk (e149 _ ?_)
  obtain ⟨P, hP⟩ : ∃ P : Prop, P = isn W Rn Kn Hn (I1 16) (nI y) := ⟨_, rfl⟩
  rw [← hP]
  obtain ⟨Q, hQ⟩ : ∃ Q : mj_R → Prop, Q = fun r => r = (.int (tf P), (I1, J1, mj_R1)) := ⟨_, rfl⟩
  have stp : ∀ (i N c : Nat), i < 6 → i ≠ 3 → i ≠ 5 → 40 * i = c → I1 15 i = nI N → N ≤ 40 → ((∃ j, j < N ∧ I1 16 (c + j) = nI y) → P) → ((∀ j, j < N → I1 16 (c + j) ≠ nI y) → E1 149 (D + 1) Q 2 [(0, .ref 14), (1, .int (nI y)), (2, .int (nI (i + 1)))] I1 J1) → E1 149 (D + 1) Q 2 [(0, .ref 14), (1, .int (nI y)), (2, .int (nI i))] I1 J1 := fun i N c hi h3 h5 hc hN hN2 yes no => by
    obtain ⟨r, Ia, Ja, ca, hr, hI, hJ⟩ := c_find (D := D) (I := I1) (J := J1) (y := y) hi h3 h5 hN hN2
    rw [hI, hJ] at ca
    refine mj_on (s149_2 _ _ ?_)
    rw [show (6 : Int32) = nI 6 from rfl, nI_1]
    refine if_le (by decide) (by omega) (fun z => absurd z (by omega)) (fun _ => ⟨trivial, _, _, _, ca, ?_⟩)
    rcases hr with ⟨e, hn⟩ | ⟨j, hj, e, e2, -⟩
    · rw [if_pos e]
      exact no fun j hj => by rw [← hc]; exact hn j hj
    · rw [if_neg (by rw [e]; exact nI_nm1 (by omega)), hQ]
      exact mzT (yes ⟨j, hj, by rw [← hc]; exact e2⟩)
  have skp : ∀ (i : Nat), i = 3 ∨ i = 5 → E1 149 (D + 1) Q 2 [(0, .ref 14), (1, .int (nI y)), (2, .int (nI (i + 1)))] I1 J1 → E1 149 (D + 1) Q 2 [(0, .ref 14), (1, .int (nI y)), (2, .int (nI i))] I1 J1 := fun i hi no => by
    refine mj_on (s149_2 _ _ ?_)
    rw [show (6 : Int32) = nI 6 from rfl, nI_1]
    refine if_le (by decide) (by omega) (fun z => absurd z (by omega)) (fun _ => ⟨trivial, _, _, _, c_find0 hi, ?_⟩)
    rw [if_pos rfl]
    exact no
  have fin : ¬ P → E1 149 (D + 1) Q 2 [(0, .ref 14), (1, .int (nI y)), (2, .int (nI 6))] I1 J1 := fun hn => by
    refine mj_on (s149_2 _ _ ?_)
    rw [show (6 : Int32) = nI 6 from rfl]
    refine if_le (by decide) (by decide) (fun _ => ?_) (fun z => absurd z (by decide))
    rw [hQ]
    exact mzF hn
  have key : E1 149 (D + 1) Q 2 [(0, .ref 14), (1, .int (nI y)), (2, .int (nI 0))] I1 J1 := by
    refine stp 0 W 0 (by decide) (by decide) (by decide) rfl h0 b0 (fun ⟨j, hj, e⟩ => ?_) (fun n0 => ?_)
    · rw [hP]; rw [Nat.zero_add] at e; exact Or.inl ⟨j, hj, e⟩
    refine stp 1 Rn 40 (by decide) (by decide) (by decide) rfl h1 b1 (fun q => ?_) (fun n1 => ?_)
    · rw [hP]; exact Or.inr (Or.inl q)
    refine stp 2 Kn 80 (by decide) (by decide) (by decide) rfl h2 b2 (fun q => ?_) (fun n2 => ?_)
    · rw [hP]; exact Or.inr (Or.inr (Or.inl q))
    refine skp 3 (Or.inl rfl) ?_
    refine stp 4 Hn 160 (by decide) (by decide) (by decide) rfl h4 b4 (fun q => ?_) (fun n4 => ?_)
    · rw [hP]; exact Or.inr (Or.inr (Or.inr q))
    refine skp 5 (Or.inr rfl) (fin ?_)
    rw [hP]
    rintro (⟨j, hj, e⟩ | ⟨j, hj, e⟩ | ⟨j, hj, e⟩ | ⟨j, hj, e⟩)
    · exact n0 j hj (by rw [Nat.zero_add]; exact e)
    · exact n1 j hj e
    · exact n2 j hj e
    · exact n4 j hj e
  rw [hQ] at key
  exact key
theorem r_isName (hd : d < 2) (h35 : I2 0 35 = nI d) (h2 : I2 2 d = nI W) (h3 : I2 3 d = nI Rn) (h4 : I2 4 d = nI Kn) (h6 : I2 6 d = nI Hn) (b0 : W ≤ 4) (b1 : Rn ≤ 40) (b2 : Kn ≤ 10) (b4 : Hn ≤ 12) (hA : tlA 14 d W Rn Kn Hn I1 J2) (hl : lxl l) : C2 (D + 2) 23 [.ref 0, .long (lN (nmR l))] I2 J2 (.int (tf (isn W Rn Kn Hn (I1 16) (nI (nmC l))))) I2 J2 := by
  obtain ⟨hA1, hA2, hA3, hA4⟩ := hA
  refine mj_mk (e23 _ ?_)
  obtain ⟨P, hP⟩ : ∃ P : Prop, P = isn W Rn Kn Hn (I1 16) (nI (nmC l)) := ⟨_, rfl⟩
  rw [← hP]
  obtain ⟨Q, hQ⟩ : ∃ Q : mj_R → Prop, Q = fun r => r = (.int (tf P), (I2, J2, mj_R2)) := ⟨_, rfl⟩
  obtain ⟨ra, Ia, Ja, ca, fa, hIa, hJa⟩ := r_fnd24 (D := D) (I := I2) (J := J2) (y := lN (nmR l)) hd h2 b0
  obtain ⟨rb', Ib, Jb, cb, fb, hIb, hJb⟩ := r_fnd25 (D := D) (I := I2) (J := J2) (y := lN (nmR l)) hd h4 b2
  obtain ⟨rc, Ic, Jc, cc, fc, hIc, hJc⟩ := r_fnd26 (D := D) (I := I2) (J := J2) (y := lN (nmR l)) hd h6 b4
  rw [hIa, hJa] at ca
  rw [hIb, hJb] at cb
  rw [hIc, hJc] at cc
  have yes : P → ((1 : Int32) = 0 ∨ (1 : Int32) = 1) ∧ (Value.int 1, (I2, J2, mj_R2)) = (Value.int (tf P), (I2, J2, mj_R2)) := fun p => mzT p
  rw [h35]
  refine ⟨trivial, _, _, _, ca, ?_⟩
  rcases fa with ⟨ea, na⟩ | ⟨j, hj, ea, e, -⟩
  rotate_left
  · rw [if_neg (by rw [ea]; exact nI_nm1 (by omega))]
    refine yes ?_
    rw [hP]
    exact Or.inl ⟨j, hj, (nmq_eq (hA1 j hj) hl).mpr e⟩
  rw [if_pos ea, h35]
  refine ⟨trivial, _, _, _, cb, ?_⟩
  rcases fb with ⟨eb, nb⟩ | ⟨j, hj, eb, e, -⟩
  rotate_left
  · rw [if_neg (by rw [eb]; exact nI_nm1 (by omega))]
    refine yes ?_
    rw [hP]
    exact Or.inr (Or.inr (Or.inl ⟨j, hj, (nmq_eq (hA3 j hj) hl).mpr e⟩))
  rw [if_pos eb, h35]
  refine ⟨trivial, _, _, _, cc, ?_⟩
  rcases fc with ⟨ec, nc⟩ | ⟨j, hj, ec, e, -⟩
  rotate_left
  · rw [if_neg (by rw [ec]; exact nI_nm1 (by omega))]
    refine yes ?_
    rw [hP]
    exact Or.inr (Or.inr (Or.inr ⟨j, hj, (nmq_eq (hA4 j hj) hl).mpr e⟩))
  rw [if_pos ec]
  have lp := lp_up (n := Rn) (fun j => (∀ m, m < j → J2 10 (40 * d + m) ≠ lN (nmR l)) → E2 23 (D + 1) Q 43 [(0, .ref 0), (1, .long (lN (nmR l))), (3, .int (nI j))] I2 J2) (fun j hj ih hm => ?_) 0 (Nat.zero_le _) (fun m hm => absurd hm (Nat.not_lt_zero m))
  · rw [hQ] at lp
    exact lp
  refine mj_on (s23_43 _ _ ?_)
  rw [h35, nI_clamp (by omega), h3]
  refine ⟨vp_in_nI hd (by decide), if_le (by omega) (by omega) (fun q => ?_) (fun q => ?_)⟩
  · obtain rfl : j = Rn := by omega
    rw [hQ]
    refine mzF ?_
    rw [hP]
    rintro (⟨k, hk, e⟩ | ⟨k, hk, e⟩ | ⟨k, hk, e⟩ | ⟨k, hk, e⟩)
    · exact na k hk ((nmq_eq (hA1 k hk) hl).mp e)
    · exact hm k hk ((nmq_eq (hA2 k hk) hl).mp e)
    · exact nb k hk ((nmq_eq (hA3 k hk) hl).mp e)
    · exact nc k hk ((nmq_eq (hA4 k hk) hl).mp e)
  rw [show (40 : Int32) = nI 40 from rfl, pk_mul, nI_add, nI_clamp (by omega), nI_1]
  refine ⟨vp_in_nI (by omega) (by decide), if_i (fun e => ?_) (fun e => ih q fun m hm2 => ?_)⟩
  · rw [hQ]
    refine mzT ?_
    rw [hP]
    exact Or.inr (Or.inl ⟨j, q, (nmq_eq (hA2 j q) hl).mpr (cmp0.mp e)⟩)
  · by_cases z : m = j
    · rw [z]; exact fun w => e (cmp0.mpr w)
    · exact hm m (by omega)
theorem c_give {i N : Nat} {y : Int32} (hN : I1 15 i = nI N) (hi : i < 6) (h2 : 40 * i + N < 240) : C1 (D + 1) 151 [.ref 14, .int (nI i), .int y] I1 J1 .null (mj_up (mj_up I1 16 (40 * i + N) y) 15 i (nI (N + 1))) J1 := by
  refine mj_mk (e151 _ _ ?_)
  have vi : vp_in (nI i) 6 := vp_in_nI hi (by decide)
  rw [nI_clamp (by omega), hN, show nI i * (40 : Int32) = nI (40 * i) from (pk_mul i 40).trans (by rw [Nat.mul_comm]), nI_add, nI_clamp (by omega), nI_1]
  exact ⟨vi, vp_in_nI h2 (by decide), vi, vi, rfl⟩
theorem tk_3 (h : tkR n x p a t v l o I1 I2 J2) (h3 : t = 3) : lxl l ∧ I1 11 6 = nI (nmC l) ∧ J2 0 7 = lN (nmR l) := by
  rcases h.2.2.2.2.2.2.2.2.2.2.2.2.2.2.2.2 with ⟨q, -⟩ | ⟨q, -⟩ | ⟨q, -⟩ | ⟨-, -, -, -, q1, q2, q3, -⟩
  · omega
  · omega
  · omega
  · exact ⟨q1, q2, q3⟩
theorem r_8 (h : tkR n x p a t v l o I1 I2 J2) : I2 0 8 = 0 := h.2.2.2.2.2.2.2.2.2.2.2.2.2.1
theorem RS_S (h : RS n x d B1 B2 BJ W Rn Kn Tn Hn Un S F mc p a t v l o I1 I2 J2) : S ≤ 900 := by
  have h1 := h.2.2.2.1
  have h2 := tk_n h.1
  omega
/-- the class' own word, or none -/
theorem DS_8 (h : DS d B1 B2 BJ I1 I2 J2) : ¬ I2 0 8 = 0 ∧ ¬ I2 0 8 ≤ 0 := by
  obtain ⟨⟨k, p, h1, h2, -, -, -, -, h7, -⟩, -⟩ := h
  rw [h7]
  have e1 : ¬ nI k = 0 := nI_ne0 (by omega) (by omega)
  refine ⟨e1, fun z => ?_⟩
  have z := (nI_leI (a := k) (b := 0) (by omega) (by decide)).mp z
  omega
theorem name_both {i N : Nat} (h : RS n x d B1 B2 BJ W Rn Kn Tn Hn Un S F mc p a t v l o I1 I2 J2) (hi : i = 0 ∧ N = W ∧ W < 4 ∨ i = 1 ∧ N = Rn ∧ Rn < 40 ∨ i = 2 ∧ N = Kn ∧ Kn < 10 ∨ i = 4 ∧ N = Hn ∧ Hn < 12) : ∃ r I1' I2' J2', C1 (D + 4) 147 [.ref 11, .int (nI i)] I1 J1 .null I1' J1 ∧ C2 (D' + 3) 21 [.ref 0] I2 J2 (.long r) I2' J2' ∧ lxg I2 I2' ∧ lxgJ J2 J2' ∧ ((lxl l ∧ r = lN (nmR l) ∧ lxf (mj_up (mj_up I1 16 (40 * i + N) (nI (nmC l))) 15 i (nI (N + 1))) I1' ∧ ∃ p' a' t' v' l' o', tkR n x p' a' t' v' l' o' I1' I2' J2' ∧ p < p') ∨ DS d B1 B2 BJ I1' I2' J2') := by
  have hS9 := RS_S h
  obtain ⟨hk, hA, hD, hS, hF, hm⟩ := h
  have hB := TD_DSB hD hS9
  obtain ⟨⟨n0, n1, n2, n3, n4, n5⟩, ⟨m0, m1, m2, m3, m4, m5⟩, hd, b0, b1, b2, b3, b4, b5⟩ := TD_N hD
  have h35 := hD.1
  have r8 := r_8 hk
  have r8' : I2 0 8 ≤ 0 := by rw [r8]; decide
  by_cases e : t = 3 ∧ o = -1
  · obtain ⟨t3, o1⟩ := e
    obtain ⟨hl, w6, w7⟩ := tk_3 hk t3
    have hT := hD.2.2.2.2.2.2.2.2.2.1
    have cg := c_given (D := D + 1) (J1 := J1) (y := nmC l) n0 n1 n2 n4 (by omega) b1 (by omega) (by omega)
    have rg := r_isName (D := D') hd h35 m0 m1 m2 m4 b0 b1 b2 b4 hT hl
    have r22 := wd_own (D := D' + 1) hk t3
    rw [tf_f (show ¬ o ≠ -1 from fun z => z o1)] at r22
    by_cases g : isn W Rn Kn Hn (I1 16) (nI (nmC l))
    · obtain ⟨I1', I2', k1, k2, k3, k4, k5⟩ := bl_both (D := D + 2) (D' := D' + 1) (J1 := J1) (k := 2) hk (by decide) (by decide)
      rw [tf_t g] at cg rg
      refine ⟨J2 0 7, I1', I2', J2, mj_mk (e147 _ ?_), mj_mk (e21 ?_), fun q j z => k4 q j (by omega), lxgJ_rf, Or.inr (DS_mk hA hB (lxh_F k3) (fun q j z => k4 q j (by omega)) lxgJ_rf ⟨_, _, k5⟩)⟩
      · refine ⟨trivial, _, _, _, nm_c hk, if_tf (fun _ => ?_) (fun z => absurd ⟨t3, o1⟩ z)⟩
        rw [w6]
        refine ⟨trivial, _, _, _, cg, ?_⟩
        rw [if_neg (by decide)]
        exact ⟨trivial, _, _, k1, rfl⟩
      · rw [if_pos r8', if_pos ((rtk_eq hk (k := 3) (y := 1) (by decide) (by decide) rfl).mpr t3)]
        refine ⟨trivial, _, _, _, r22, ?_⟩
        rw [if_pos rfl]
        refine mj_on (s21_37 ?_)
        rw [if_pos r8, w7]
        refine ⟨trivial, _, _, _, rg, ?_⟩
        rw [if_neg (by decide)]
        refine ⟨trivial, _, _, k2, ?_⟩
        refine mj_on (s21_64 ?_)
        rw [k5.2.2.2.2.2.2.1, if_neg (by decide), w7]
    · rw [tf_f g] at cg rg
      obtain ⟨Ia, hIa⟩ : ∃ Ia, Ia = mj_up (mj_up I1 16 (40 * i + N) (nI (nmC l))) 15 i (nI (N + 1)) := ⟨_, rfl⟩
      have giv := c_give (D := D + 2) (I1 := I1) (J1 := J1) (i := i) (N := N) (y := nI (nmC l)) (by rcases hi with ⟨rfl, rfl, -⟩ | ⟨rfl, rfl, -⟩ | ⟨rfl, rfl, -⟩ | ⟨rfl, rfl, -⟩ <;> assumption) (by omega) (by omega)
      rw [← hIa] at giv ⊢
      have ka : tkR n x p a t v l o Ia I2 J2 := tkR_cg hk (fun q j z => by rw [hIa, up_n (by omega), up_n (by omega)]) (fun _ _ _ => rfl) rfl
      have hAa : tfA d B1 B2 BJ Ia I2 J2 := ⟨fun q j z1 z2 => by rw [hIa, up_n (by omega), up_n (by omega)]; exact hA.1 q j z1 z2, hA.2⟩
      have hBa : DSB Ia := by
        obtain ⟨⟨c, c1, c2⟩, ⟨w, w1, w2⟩, ⟨u, u1, u2⟩⟩ := hB
        refine ⟨⟨c, c1, by rw [hIa, up_n (by omega), up_n (by omega)]; exact c2⟩, ?_, ⟨u, u1, by rw [hIa, up_n (by omega), up_n (by omega)]; exact u2⟩⟩
        by_cases i0 : i = 0
        · refine ⟨N + 1, by omega, ?_⟩
          rw [hIa, i0, up_s]
        · refine ⟨w, w1, ?_⟩
          rw [hIa, up_n (by omega), up_n (by omega)]; exact w2
      obtain ⟨I1', I2', J2', k1, k2, k3, k4, k5, k6⟩ := adv_ta (D := D) (D' := D') (J1 := J1) ka (by omega)
      refine ⟨J2 0 7, I1', I2', J2', mj_mk (e147 _ ?_), mj_mk (e21 ?_), k4, k5, ?_⟩
      · refine ⟨trivial, _, _, _, nm_c hk, if_tf (fun _ => ?_) (fun z => absurd ⟨t3, o1⟩ z)⟩
        rw [w6]
        refine ⟨trivial, _, _, _, cg, ?_⟩
        rw [if_pos rfl, w6]
        exact ⟨trivial, _, _, giv, trivial, _, _, k1, rfl⟩
      · rw [if_pos r8', if_pos ((rtk_eq hk (k := 3) (y := 1) (by decide) (by decide) rfl).mpr t3)]
        refine ⟨trivial, _, _, _, r22, ?_⟩
        rw [if_pos rfl]
        refine mj_on (s21_37 ?_)
        rw [if_pos r8, w7]
        refine ⟨trivial, _, _, _, rg, ?_⟩
        rw [if_pos rfl]
        refine mj_on (s21_64 ?_)
        rw [if_pos r8, w7]
        exact ⟨trivial, _, _, k2, rfl⟩
      · rcases k6 with ⟨p', a', t', v', l', o', q1, q2, -⟩ | ⟨p', q1⟩
        · exact Or.inl ⟨hl, w7, k3, p', a', t', v', l', o', q1, q2⟩
        · exact Or.inr (DS_mk hAa hBa (lxf_F k3) k4 k5 ⟨_, _, q1⟩)
  · obtain ⟨I1', I2', k1, k2, k3, k4, k5⟩ := bl_both (D := D + 2) (D' := D' + 1) (J1 := J1) (k := 1) hk (by decide) (by decide)
    refine ⟨J2 0 7, I1', I2', J2, mj_mk (e147 _ ?_), mj_mk (e21 ?_), fun q j z => k4 q j (by omega), lxgJ_rf, Or.inr (DS_mk hA hB (lxh_F k3) (fun q j z => k4 q j (by omega)) lxgJ_rf ⟨_, _, k5⟩)⟩
    · exact ⟨trivial, _, _, _, nm_c hk, if_tf (fun z => absurd z e) (fun _ => ⟨trivial, _, _, k1, rfl⟩)⟩
    · have beh : E2 21 (D' + 2) (fun y => y = (.long (J2 0 7), (I2', J2, mj_R2))) 37 [(0, .ref 0)] I2' J2 := by
        refine mj_on (s21_37 ?_)
        rw [k5.2.2.2.2.2.2.1, if_neg (by decide)]
        refine mj_on (s21_64 ?_)
        rw [k5.2.2.2.2.2.2.1, if_neg (by decide)]
      rw [if_pos r8']
      by_cases t3 : t = 3
      · rw [if_pos ((rtk_eq hk (k := 3) (y := 1) (by decide) (by decide) rfl).mpr t3)]
        exact ⟨trivial, _, _, _, wd_own hk t3, if_tf (fun _ => ⟨trivial, _, _, k2, beh⟩) (fun z => absurd (show o ≠ -1 from fun q => e ⟨t3, q⟩) z)⟩
      · rw [if_neg (fun z => t3 ((rtk_eq hk (k := 3) (y := 1) (by decide) (by decide) rfl).mp z))]
        exact ⟨trivial, _, _, k2, beh⟩
/-- a knot that is asked for -/
theorem knot_both {y : Int32} (h : RS n x d B1 B2 BJ W Rn Kn Tn Hn Un S F mc p a t v l o I1 I2 J2) : ∃ r1 r2 I1' I2' J2', C1 (D + 4) 153 [.ref 11, .int (nI 2), .int y] I1 J1 (.int r1) I1' J1 ∧ C2 (D' + 3) 31 [.ref 0, .int y] I2 J2 (.int r2) I2' J2' ∧ lxF I1 I1' ∧ lxg I2 I2' ∧ lxgJ J2 J2' ∧ ((∃ k, k < Kn ∧ r1 = nI k ∧ r2 = nI k ∧ nI k ≠ y ∧ ∃ p' a' t' v' l' o', tkR n x p' a' t' v' l' o' I1' I2' J2' ∧ p < p') ∨ ∃ k p, tkD k p I1' I2') := by
  have hS9 := RS_S h
  obtain ⟨hk, hA, hD, hS, hF, hm⟩ := h
  obtain ⟨⟨n0, n1, n2, n3, n4, n5⟩, ⟨m0, m1, m2, m3, m4, m5⟩, hd, b0, b1, b2, b3, b4, b5⟩ := TD_N hD
  have h35 := hD.1
  have r8 := r_8 hk
  have r8' : I2 0 8 ≤ 0 := by rw [r8]; decide
  by_cases e : t = 3 ∧ o = -1
  · obtain ⟨t3, o1⟩ := e
    obtain ⟨hl, w6, w7⟩ := tk_3 hk t3
    have hT := hD.2.2.2.2.2.2.2.2.2.1
    have r22 := wd_own (D := D' + 1) hk t3
    rw [tf_f (show ¬ o ≠ -1 from fun z => z o1)] at r22
    obtain ⟨rc, Ic, Jc, cc, fc, hIc, hJc⟩ := c_find (D := D + 2) (I := I1) (J := J1) (i := 2) (y := nmC l) (by decide) (by decide) (by decide) n2 (by omega)
    rw [hIc, hJc] at cc
    obtain ⟨rr, Ir, Jr, cr, fr, hIr, hJr⟩ := r_fnd25 (D := D' + 1) (I := I2) (J := J2) (y := lN (nmR l)) hd m2 b2
    rw [hIr, hJr] at cr
    have er : rc = rr := find_eq hl (by omega) hT.2.2.1 fc fr
    by_cases g : rr = -1 ∨ rr = y
    · obtain ⟨I1', I2', k1, k2, k3, k4, k5⟩ := bl_both (D := D + 2) (D' := D' + 1) (J1 := J1) (k := 3) hk (by decide) (by decide)
      refine ⟨-1, rr, I1', I2', J2, mj_mk (e153 _ _ ?_), mj_mk (e31 _ ?_), lxh_F k3, fun q j z => k4 q j (by omega), lxgJ_rf, Or.inr ⟨_, _, k5⟩⟩
      · refine ⟨trivial, _, _, _, nm_c hk, if_tf (fun _ => ?_) (fun z => absurd ⟨t3, o1⟩ z)⟩
        rw [w6]
        refine ⟨trivial, _, _, _, cc, ?_⟩
        rw [er]
        exact if_i (fun _ => ⟨trivial, _, _, k1, rfl⟩) (fun z => if_i (fun _ => ⟨trivial, _, _, k1, rfl⟩) (fun z2 => (g.elim z z2).elim))
      · have beh : E2 31 (D' + 2) (fun z => z = (.int rr, (I2', J2, mj_R2))) 87 [(0, .ref 0), (2, .int rr)] I2' J2 := by
          refine mj_on (s31_87 _ ?_)
          rw [k5.2.2.2.2.2.2.1, if_neg (by decide)]
        rw [if_pos r8', if_pos ((rtk_eq hk (k := 3) (y := 1) (by decide) (by decide) rfl).mpr t3)]
        refine ⟨trivial, _, _, _, r22, ?_⟩
        rw [if_pos rfl]
        refine mj_on (s31_37 _ ?_)
        rw [if_pos r8', w7, h35]
        refine ⟨trivial, _, _, _, cr, ?_⟩
        refine mj_on (s31_61 _ _ ?_)
        rw [if_pos r8]
        exact if_i (fun _ => ⟨trivial, _, _, k2, beh⟩) (fun z => if_i (fun _ => ⟨trivial, _, _, k2, beh⟩) (fun z2 => (g.elim z z2).elim))
    · have g1 : ¬ rr = -1 := fun z => g (Or.inl z)
      have g2 : ¬ rr = y := fun z => g (Or.inr z)
      obtain ⟨I1', I2', J2', k1, k2, k3, k4, k5, k6⟩ := adv_ta (D := D) (D' := D') (J1 := J1) hk (by omega)
      refine ⟨rr, rr, I1', I2', J2', mj_mk (e153 _ _ ?_), mj_mk (e31 _ ?_), lxf_F k3, k4, k5, ?_⟩
      · refine ⟨trivial, _, _, _, nm_c hk, if_tf (fun _ => ?_) (fun z => absurd ⟨t3, o1⟩ z)⟩
        rw [w6]
        refine ⟨trivial, _, _, _, cc, ?_⟩
        rw [er, if_neg g1, if_neg g2]
        exact ⟨trivial, _, _, k1, rfl⟩
      · rw [if_pos r8', if_pos ((rtk_eq hk (k := 3) (y := 1) (by decide) (by decide) rfl).mpr t3)]
        refine ⟨trivial, _, _, _, r22, ?_⟩
        rw [if_pos rfl]
        refine mj_on (s31_37 _ ?_)
        rw [if_pos r8', w7, h35]
        refine ⟨trivial, _, _, _, cr, ?_⟩
        refine mj_on (s31_61 _ _ ?_)
        rw [if_pos r8, if_neg g1, if_neg g2]
        refine mj_on (s31_87 _ ?_)
        rw [if_pos r8]
        exact ⟨trivial, _, _, k2, rfl⟩
      · rcases fr with ⟨z, -⟩ | ⟨j, hj, ej, -⟩
        · exact absurd z g1
        rcases k6 with ⟨p', a', t', v', l', o', q1, q2, -⟩ | ⟨p', q1⟩
        · exact Or.inl ⟨j, hj, ej, ej, by rw [← ej]; exact g2, p', a', t', v', l', o', q1, q2⟩
        · exact Or.inr ⟨_, _, q1⟩
  · obtain ⟨I1', I2', k1, k2, k3, k4, k5⟩ := bl_both (D := D + 2) (D' := D' + 1) (J1 := J1) (k := 1) hk (by decide) (by decide)
    refine ⟨-1, 0, I1', I2', J2, mj_mk (e153 _ _ ?_), mj_mk (e31 _ ?_), lxh_F k3, fun q j z => k4 q j (by omega), lxgJ_rf, Or.inr ⟨_, _, k5⟩⟩
    · exact ⟨trivial, _, _, _, nm_c hk, if_tf (fun z => absurd z e) (fun _ => ⟨trivial, _, _, k1, rfl⟩)⟩
    · have beh : E2 31 (D' + 2) (fun z => z = (.int 0, (I2', J2, mj_R2))) 37 [(0, .ref 0), (1, .int y)] I2' J2 := by
        have f8 : ¬ I2' 0 8 ≤ 0 := by rw [k5.2.2.2.2.2.2.1]; decide
        have f8' : ¬ I2' 0 8 = 0 := by rw [k5.2.2.2.2.2.2.1]; decide
        refine mj_on (s31_37 _ ?_)
        rw [if_neg f8]
        refine mj_on (s31_61 _ _ ?_)
        rw [if_neg f8']
        refine mj_on (s31_87 _ ?_)
        rw [if_neg f8']
      rw [if_pos r8']
      by_cases t3 : t = 3
      · rw [if_pos ((rtk_eq hk (k := 3) (y := 1) (by decide) (by decide) rfl).mpr t3)]
        exact ⟨trivial, _, _, _, wd_own hk t3, if_tf (fun _ => ⟨trivial, _, _, k2, beh⟩) (fun z => absurd (show o ≠ -1 from fun q => e ⟨t3, q⟩) z)⟩
      · rw [if_neg (fun z => t3 ((rtk_eq hk (k := 3) (y := 1) (by decide) (by decide) rfl).mp z))]
        exact ⟨trivial, _, _, k2, beh⟩
end Sa9b
end
section
/-! the class behind a fault: names, amounts, rows, ties, things, rules -/
section Sa9c
variable {n d W Rn Kn Tn Hn Un S F mc : Nat} {x : Nat → Nat} {B1 B2 : Nat → Nat → Int32} {BJ : Nat → Nat → Int64}
variable {D D' E p a t v : Nat} {l : List Nat} {o : Int} {I1 I2 : Nat → Nat → Int32} {J1 J2 : Nat → Nat → Int64}
theorem z_c : ((0 : Int32)).toNatClampNeg = 0 := rfl
theorem DS_own (h : DS d B1 B2 BJ I1 I2 J2) : I1 11 5 = nI 4 ∧ I1 11 7 = -1 := by
  obtain ⟨⟨k, p, -, -, -, h4, h5, -⟩, -⟩ := h
  exact ⟨h4, h5⟩
theorem DS_up {q0 j0 : Nat} {y : Int32} (h : DS d B1 B2 BJ I1 I2 J2) (hq : 14 ≤ q0 ∧ q0 ≤ 23) (h1 : q0 ≠ 14 ∨ j0 ≠ 9) (h2 : q0 ≠ 15 ∨ (j0 ≠ 0 ∧ j0 ≠ 5)) : DS d B1 B2 BJ (mj_up I1 q0 j0 y) I2 J2 := by
  obtain ⟨⟨k, p, b1, b2, b3, b4, b5, b6, b7⟩, ⟨a1, a2⟩, ⟨c, c1, c2⟩, ⟨w, w1, w2⟩, ⟨u, u1, u2⟩⟩ := h
  refine ⟨⟨k, p, b1, b2, b3, ?_, ?_, ?_, b7⟩, ⟨fun q j z1 z2 => ?_, a2⟩, ⟨c, c1, ?_⟩, ⟨w, w1, ?_⟩, ⟨u, u1, ?_⟩⟩
  · rw [up_n (by omega)]; exact b4
  · rw [up_n (by omega)]; exact b5
  · rw [up_n (by omega), up_n (by omega), up_n (by omega)]; exact b6
  · rw [up_n (by omega)]; exact a1 q j z1 z2
  · rw [up_n (by omega)]; exact c2
  · rw [up_n (by omega)]; exact w2
  · rw [up_n (by omega)]; exact u2
theorem e_bl (h : DS d B1 B2 BJ I1 I2 J2) : ∃ I1', C1 (D + 1) 144 [.ref 11, .int 1] I1 J1 .null I1' J1 ∧ DS d B1 B2 BJ I1' I2 J2 ∧ lxF I1 I1' := by
  obtain ⟨k, p, hk⟩ := h.1
  obtain ⟨I1', J1', c, hJ, a1, a2, -⟩ := dd_blame (D := D) (J1 := J1) hk
  rw [hJ] at c
  exact ⟨I1', c, DS_lx h (lxh_F a1) ⟨k, p, a2⟩, lxh_F a1⟩
theorem e_take {c : Int32} (h : DS d B1 B2 BJ I1 I2 J2) : ∃ I1', C1 (D + 2) 162 [.ref 11, .int c] I1 J1 .null I1' J1 ∧ DS d B1 B2 BJ I1' I2 J2 ∧ lxF I1 I1' ∧ ∃ k p, tkD k p I1' I2 ∧ tkT k p I1' := by
  obtain ⟨k, p, hk⟩ := h.1
  obtain ⟨I1', J1', cc, hJ, a1, a2, a3⟩ := dd_take (D := D) (J1 := J1) (c := c) hk
  rw [hJ] at cc
  exact ⟨I1', cc, DS_lx h (lxh_F a1) ⟨k, p, a2⟩, lxh_F a1, k, p, a2, a3⟩
theorem e_name {c : Int32} (h : DS d B1 B2 BJ I1 I2 J2) : ∃ I1', C1 (D + 2) 147 [.ref 11, .int c] I1 J1 .null I1' J1 ∧ DS d B1 B2 BJ I1' I2 J2 ∧ lxF I1 I1' := by
  obtain ⟨k, p, hk⟩ := h.1
  obtain ⟨I1', J1', cc, hJ, a1, a2, -⟩ := dd_name (D := D) (J1 := J1) (c := c) hk
  rw [hJ] at cc
  exact ⟨I1', cc, DS_lx h (lxh_F a1) ⟨k, p, a2⟩, lxh_F a1⟩
theorem e_ask {c e : Int32} (h : DS d B1 B2 BJ I1 I2 J2) : ∃ I1', C1 (D + 2) 153 [.ref 11, .int c, .int e] I1 J1 (.int (-1)) I1' J1 ∧ DS d B1 B2 BJ I1' I2 J2 ∧ lxF I1 I1' := by
  obtain ⟨k, p, hk⟩ := h.1
  obtain ⟨I1', J1', cc, hJ, a1, a2, -⟩ := dd_ask (D := D) (J1 := J1) (c := c) (e := e) hk
  rw [hJ] at cc
  exact ⟨I1', cc, DS_lx h (lxh_F a1) ⟨k, p, a2⟩, lxh_F a1⟩
theorem e_num (h : DS d B1 B2 BJ I1 I2 J2) : ∃ I1', C1 (D + 2) 156 [.ref 11] I1 J1 (.int 0) I1' J1 ∧ DS d B1 B2 BJ I1' I2 J2 ∧ lxF I1 I1' := by
  obtain ⟨k, p, hk⟩ := h.1
  obtain ⟨I1', J1', cc, hJ, a1, a2, -⟩ := dd_num (D := D) (J1 := J1) hk
  rw [hJ] at cc
  exact ⟨I1', cc, DS_lx h (lxh_F a1) ⟨k, p, a2⟩, lxh_F a1⟩
theorem e_sg {c : Int32} (h : DS d B1 B2 BJ I1 I2 J2) : C1 (D + 1) 160 [.ref 11, .int c] I1 J1 (.int 0) I1 J1 := by
  have q := sg_d (D := D) (J1 := J1) (c := c) (DS_own h).1
  rw [tf_f id] at q
  exact q
/-- amounts behind a fault, from wish w on -/
theorem e_amt0 {i j w N : Nat} {Q : mj_R → Prop} (hb : 160 * i + 4 * j + 4 ≤ 960) (h : DS d B1 B2 BJ I1 I2 J2) (hN : I1 15 0 = nI N) (hN4 : N ≤ 4) (hw : w ≤ N) (hQ : ∀ I1', DS d B1 B2 BJ I1' I2 J2 → (∀ q z, q ≠ 11 → q ≠ 18 → I1' q z = I1 q z) → Q (.null, (I1', J1, mj_R1))) : E1 154 (D + 2) Q 2 [(0, .ref 11), (1, .int (nI i)), (2, .int (nI j)), (3, .int (nI w))] I1 J1 := by
  have lp := lp_up (n := N) (fun w => ∀ I0, DS d B1 B2 BJ I0 I2 J2 → (∀ q z, q ≠ 11 → q ≠ 18 → I0 q z = I1 q z) → E1 154 (D + 2) Q 2 [(0, .ref 11), (1, .int (nI i)), (2, .int (nI j)), (3, .int (nI w))] I0 J1) (fun w hw ih I0 h0 f0 => ?_) w hw I1 h (fun _ _ _ _ => rfl)
  · exact lp
  refine mj_on (s154_2 _ _ _ ?_)
  rw [z_c, f0 15 0 (by decide) (by decide), hN, nI_1]
  refine ⟨vp_in_nI (n := 0) (by decide) (by decide), if_le (by omega) (by omega) (fun c => ?_) (fun c => ?_)⟩
  · exact hQ I0 h0 f0
  · obtain ⟨Ia, ca, da, fa⟩ := e_num (D := D) (J1 := J1) h0
    refine ⟨trivial, _, _, _, c_slot, trivial, _, _, _, ca, vp_in_nI (by omega) (by decide), ?_⟩
    exact ih c _ (DS_up da (by decide) (Or.inl (by decide)) (Or.inl (by decide))) (fun q z z1 z2 => by rw [up_n (Or.inl z2), fa q z (Or.inl z1)]; exact f0 q z z1 z2)
theorem e_amt {i j : Nat} (hb : 160 * i + 4 * j + 4 ≤ 960) (h : DS d B1 B2 BJ I1 I2 J2) : ∃ I1', C1 (D + 3) 154 [.ref 11, .int (nI i), .int (nI j)] I1 J1 .null I1' J1 ∧ DS d B1 B2 BJ I1' I2 J2 ∧ ∀ q z, q ≠ 11 → q ≠ 18 → I1' q z = I1 q z := by
  obtain ⟨N, hN4, hN⟩ := h.2.2.2.1
  obtain ⟨I', J', hc, hJ, h1, h2⟩ := mj_cN (S := mj_S1) (CD := mj_CD) (D := D + 2) (z := 154) (as := [.ref 11, .int (nI i), .int (nI j)]) (h := (I1, J1, mj_R1)) (R := mj_R1) (P := fun I' J' => J' = J1 ∧ DS d B1 B2 BJ I' I2 J2 ∧ ∀ q z, q ≠ 11 → q ≠ 18 → I' q z = I1 q z) (e154 _ _ (e_amt0 (w := 0) hb h hN hN4 (Nat.zero_le _) (fun I3 q1 q2 => ⟨_, _, rfl, rfl, q1, q2⟩)))
  rw [hJ] at hc
  exact ⟨I', hc, h1, h2⟩
theorem e_wish (h : DS d B1 B2 BJ I1 I2 J2) : ∃ I1', C1 (D + 3) 146 [.ref 11] I1 J1 .null I1' J1 ∧ DS d B1 B2 BJ I1' I2 J2 := by
  obtain ⟨Ia, ca, da, -⟩ := e_name (D := D) (J1 := J1) (c := 0) h
  obtain ⟨Ib, cb, db, -⟩ := e_bl (D := D + 1) (J1 := J1) da
  refine ⟨Ib, mj_mk (e146 ?_), db⟩
  refine ⟨vp_in_nI (n := 0) (by decide) (by decide), trivial, _, _, ca, ?_⟩
  rw [(DS_own da).2, if_neg (by decide), if_neg (by decide)]
  exact ⟨trivial, _, _, cb, rfl⟩
theorem e_tie {N : Nat} (h : DS d B1 B2 BJ I1 I2 J2) (hN : I1 15 3 = nI N) (hN2 : N < 24) : ∃ I1', C1 (D + 4) 152 [.ref 11] I1 J1 .null I1' J1 ∧ DS d B1 B2 BJ I1' I2 J2 := by
  obtain ⟨Ia, ca, da, fa⟩ := e_ask (D := D + 1) (J1 := J1) (c := nI 2) (e := -1) h
  have d2 := DS_up (q0 := 20) (j0 := N) (y := -1) da (by decide) (Or.inl (by decide)) (Or.inl (by decide))
  obtain ⟨Ib, cb, db, fb⟩ := e_ask (D := D + 1) (J1 := J1) (c := nI 2) (e := -1) d2
  have d3 := DS_up (q0 := 21) (j0 := N) (y := -1) db (by decide) (Or.inl (by decide)) (Or.inl (by decide))
  obtain ⟨Ic, cc, dc, fc⟩ := e_amt (D := D) (J1 := J1) (i := 3) (j := N) (by omega) d3
  refine ⟨mj_up Ic 15 3 (Ic 15 3 + 1), mj_mk (e152 ?_), DS_up dc (by decide) (Or.inl (by decide)) (Or.inr (by decide))⟩
  have v3 : vp_in (3 : Int32) 6 := vp_in_nI (n := 3) (by decide) (by decide)
  have vN : vp_in (nI N) 24 := vp_in_nI hN2 (by decide)
  rw [show ((3 : Int32)).toNatClampNeg = 3 from rfl, hN, nI_clamp (by omega)]
  refine ⟨v3, trivial, _, _, _, ca, vN, vN, trivial, _, _, _, ?_, vN, trivial, _, _, cc, v3, v3, rfl⟩
  rw [up_s]
  exact cb
theorem e_thing {N : Nat} (h : DS d B1 B2 BJ I1 I2 J2) (hN : I1 15 4 = nI N) (hN2 : N < 12) : ∃ I1', C1 (D + 4) 171 [.ref 11] I1 J1 .null I1' J1 ∧ DS d B1 B2 BJ I1' I2 J2 := by
  obtain ⟨Ia, ca, da, fa⟩ := e_name (D := D + 1) (J1 := J1) (c := nI 4) h
  obtain ⟨Ib, cb, db, fb⟩ := e_amt (D := D) (J1 := J1) (i := 4) (j := N) (by omega) da
  refine ⟨Ib, mj_mk (e171 ?_), db⟩
  have v4 : vp_in (4 : Int32) 6 := vp_in_nI (n := 4) (by decide) (by decide)
  rw [show ((4 : Int32)).toNatClampNeg = 4 from rfl, hN]
  exact ⟨v4, trivial, _, _, ca, trivial, _, _, cb, rfl⟩
theorem c75 {j w : Nat} {Q : mj_R → Prop} {y z : Int32} (hj : j < 40) (hw : w < 4) (h : E1 170 (D + 1) Q 17 [(0, .ref 11), (1, .int (nI j)), (2, .int (nI (w + 1)))] (mj_up (mj_up I1 18 (160 + 4 * j + w) y) 19 (4 * j + w) z) J1) : E1 170 (D + 1) Q 75 [(0, .ref 11), (1, .int (nI j)), (2, .int (nI w)), (3, .int y), (4, .int z)] I1 J1 := by
  refine mj_on (s170_75 _ _ _ _ ?_)
  refine ⟨trivial, _, _, _, c_slot (k := 1), vp_in_nI (by omega) (by decide), ?_⟩
  rw [ix4, nI_clamp (by omega), nI_clamp (by omega), nI_1, Nat.mul_one]
  exact ⟨vp_in_nI (by omega) (by decide), h⟩
/-- a row behind a fault, from wish w on -/
theorem e_row0 {j w N : Nat} {Q : mj_R → Prop} (hj : j < 40) (h : DS d B1 B2 BJ I1 I2 J2) (hN : I1 15 0 = nI N) (hN4 : N ≤ 4) (hw : w ≤ N) (hQ : ∀ I1', DS d B1 B2 BJ I1' I2 J2 → Q (.null, (I1', J1, mj_R1))) : E1 170 (D + 2) Q 17 [(0, .ref 11), (1, .int (nI j)), (2, .int (nI w))] I1 J1 := by
  have lp := lp_up (n := N) (fun w => ∀ I0, DS d B1 B2 BJ I0 I2 J2 → I0 15 0 = nI N → E1 170 (D + 2) Q 17 [(0, .ref 11), (1, .int (nI j)), (2, .int (nI w))] I0 J1) (fun w hw ih I0 h0 f0 => ?_) w hw I1 h hN
  · exact lp
  refine mj_on (s170_17 _ _ ?_)
  rw [z_c, f0]
  refine ⟨vp_in_nI (n := 0) (by decide) (by decide), if_le (by omega) (by omega) (fun c => ?_) (fun c => ?_)⟩
  · exact hQ I0 h0
  · obtain ⟨Ia, ca, da, fa⟩ := e_num (D := D) (J1 := J1) h0
    refine ⟨trivial, _, _, _, e_sg h0, ?_⟩
    rw [if_pos rfl]
    refine ⟨trivial, _, _, _, ca, trivial, _, _, _, e_sg da, ?_⟩
    rw [if_pos rfl]
    refine c75 hj (by omega) (ih c _ (DS_up (DS_up da (by decide) (Or.inl (by decide)) (Or.inl (by decide))) (by decide) (Or.inl (by decide)) (Or.inl (by decide))) ?_)
    rw [up_n (Or.inl (by decide)), up_n (Or.inl (by decide)), fa 15 0 (Or.inl (by decide))]
    exact f0
theorem e_row {N : Nat} (h : DS d B1 B2 BJ I1 I2 J2) (hN : I1 15 1 = nI N) (hN2 : N < 40) : ∃ I1', C1 (D + 3) 170 [.ref 11] I1 J1 .null I1' J1 ∧ DS d B1 B2 BJ I1' I2 J2 := by
  obtain ⟨Ia, ca, da, fa⟩ := e_name (D := D) (J1 := J1) (c := 1) h
  obtain ⟨w, hw4, hw⟩ := da.2.2.2.1
  obtain ⟨I', J', hc, hJ, h1⟩ := mj_cN (S := mj_S1) (CD := mj_CD) (D := D + 2) (z := 170) (as := [.ref 11]) (h := (I1, J1, mj_R1)) (R := mj_R1) (P := fun I' J' => J' = J1 ∧ DS d B1 B2 BJ I' I2 J2) (e170 (by
    rw [show ((1 : Int32)).toNatClampNeg = 1 from rfl, hN]
    exact ⟨vp_in_nI (n := 1) (by decide) (by decide), trivial, _, _, ca, e_row0 (w := 0) hN2 da hw hw4 (Nat.zero_le _) (fun I3 q => ⟨_, _, rfl, rfl, q⟩)⟩))
  rw [hJ] at hc
  exact ⟨I', hc, h1⟩
theorem e_test (h : DS d B1 B2 BJ I1 I2 J2) : ∃ I1', C1 (D + 8) 157 [.ref 11] I1 J1 .null I1' J1 ∧ DS d B1 B2 BJ I1' I2 J2 := by
  obtain ⟨hk, ⟨a1, a2⟩, ⟨c, c1, c2⟩, ⟨w, w1, w2⟩, ⟨u, u1, u2⟩⟩ := h
  have h0 : DD d c 0 I1 I2 J2 I1 I2 J2 := ⟨hk, fun _ _ _ _ _ => rfl, fun _ _ _ _ _ => rfl, fun _ _ _ => rfl, c, Nat.le_refl _, c1, c2⟩
  obtain ⟨Ia, ca, ⟨b1, b2, -, -, c', c3, c4, c5⟩⟩ := d_test (D := D) (J1 := J1) h0
  refine ⟨Ia, ca, b1, ⟨fun q j z1 z2 => ?_, a2⟩, ⟨c', c4, c5⟩, ⟨w, w1, ?_⟩, ⟨u, u1, ?_⟩⟩
  · rw [b2 q j (Or.inl z1) (Or.inl (by omega)) (Or.inl (by omega))]; exact a1 q j z1 z2
  · rw [b2 15 0 (Or.inl (by decide)) (Or.inl (by decide)) (Or.inl (by decide))]; exact w2
  · rw [b2 15 5 (Or.inl (by decide)) (Or.inl (by decide)) (Or.inl (by decide))]; exact u2
theorem e_end (h : DS d B1 B2 BJ I1 I2 J2) : ∃ I1', C1 (D + 1) 169 [.ref 14] I1 J1 .null I1' J1 ∧ DS d B1 B2 BJ I1' I2 J2 := by
  obtain ⟨u, u1, u2⟩ := h.2.2.2.2
  have v5 : vp_in (5 : Int32) 6 := vp_in_nI (n := 5) (by decide) (by decide)
  by_cases e : u = 12
  · refine ⟨I1, mj_mk (e169 ⟨v5, ?_⟩), h⟩
    rw [show ((5 : Int32)).toNatClampNeg = 5 from rfl, u2, e]
    exact if_i (fun _ => rfl) (fun z => absurd (by decide) z)
  · refine ⟨mj_up (mj_up I1 23 u (I1 14 9)) 15 5 (nI (u + 1)), mj_mk (e169 ⟨v5, ?_⟩), ?_⟩
    · rw [show ((5 : Int32)).toNatClampNeg = 5 from rfl, u2, show (12 : Int32) = nI 12 from rfl, nI_clamp (by omega), nI_1]
      refine if_le (by decide) (by omega) (fun z => absurd z (by omega)) (fun _ => ?_)
      exact ⟨v5, vp_in_nI (by omega) (by decide), v5, v5, rfl⟩
    · have h2 := DS_up (q0 := 23) (j0 := u) (y := I1 14 9) h (by decide) (Or.inl (by decide)) (Or.inl (by decide))
      obtain ⟨⟨k, p, b1, b2, b3, b4, b5, b6, b7⟩, ⟨a1, a2⟩, ⟨c, c1, c2⟩, ⟨w, w1, w2⟩, -⟩ := h2
      refine ⟨⟨k, p, b1, b2, b3, ?_, ?_, ?_, b7⟩, ⟨fun q j z1 z2 => ?_, a2⟩, ⟨c, c1, ?_⟩, ⟨w, w1, ?_⟩, ⟨u + 1, by omega, up_s⟩⟩
      · rw [up_n (by omega)]; exact b4
      · rw [up_n (by omega)]; exact b5
      · rw [up_n (by omega), up_n (by omega), up_n (by omega)]; exact b6
      · rw [up_n (by omega)]; exact a1 q j z1 z2
      · rw [up_n (by omega)]; exact c2
      · rw [up_n (by omega)]; exact w2
end Sa9c
end
section
/-! amounts on both sides -/
/-- from place z0 to place z1 the class' cell q may change, and its lexer -/
def amC (q0 z0 z1 : Nat) (I I' : (Nat → Nat → Int32)) : Prop := ∀ q z, (q ≠ 11 ∨ z < 4 ∨ z = 9) → (q ≠ q0 ∨ z < z0 ∨ z1 ≤ z) → I' q z = I q z
def amR (q0 z0 z1 : Nat) (I I' : (Nat → Nat → Int32)) : Prop := ∀ q j, (q ≠ 0 ∨ (j ≠ 3 ∧ j ≠ 4 ∧ j ≠ 5 ∧ j ≠ 6 ∧ j ≠ 8 ∧ j ≠ 9)) → (q ≠ q0 ∨ j < z0 ∨ z1 ≤ j) → I' q j = I q j
section Sa9d
variable {n d W Rn Kn Tn Hn Un S F mc : Nat} {x : Nat → Nat} {B1 B2 : Nat → Nat → Int32} {BJ : Nat → Nat → Int64}
variable {D D' E p a t v : Nat} {l : List Nat} {o : Int} {I1 I2 : Nat → Nat → Int32} {J1 J2 : Nat → Nat → Int64}
theorem tkD_up {k p q0 j0 q1 j1 : Nat} {y z : Int32} (h : tkD k p I1 I2) (hq : q0 ≠ 11) (hr : q1 ≠ 0) : tkD k p (mj_up I1 q0 j0 y) (mj_up I2 q1 j1 z) := by
  obtain ⟨b1, b2, b3, b4, b5, b6, b7, b8⟩ := h
  refine ⟨b1, b2, b3, ?_, ?_, ?_, ?_, ?_⟩
  · rw [up_n (by omega)]; exact b4
  · rw [up_n (by omega)]; exact b5
  · rw [up_n (by omega), up_n (by omega), up_n (by omega)]; exact b6
  · rw [up_n (by omega)]; exact b7
  · rw [up_n (by omega)]; exact b8
theorem tkD_u1 {k p q0 j0 : Nat} {y : Int32} (h : tkD k p I1 I2) (hq : q0 ≠ 11) : tkD k p (mj_up I1 q0 j0 y) I2 := by
  obtain ⟨b1, b2, b3, b4, b5, b6, b7, b8⟩ := h
  refine ⟨b1, b2, b3, ?_, ?_, ?_, b7, b8⟩
  · rw [up_n (by omega)]; exact b4
  · rw [up_n (by omega)]; exact b5
  · rw [up_n (by omega), up_n (by omega), up_n (by omega)]; exact b6
theorem tkD_8 {k p : Nat} (h : tkD k p I1 I2) : ¬ I2 0 8 = 0 ∧ ¬ I2 0 8 ≤ 0 := by
  obtain ⟨h1, h2, -, -, -, -, h7, -⟩ := h
  rw [h7]
  have e1 : ¬ nI k = 0 := nI_ne0 (by omega) (by omega)
  refine ⟨e1, fun z => ?_⟩
  have z := (nI_leI (a := k) (b := 0) (by omega) (by decide)).mp z
  omega
/-- the class behind a fault -/
theorem dd_amt {i j w k' p' : Nat} (hb : 160 * i + 4 * j + 4 ≤ 960) (hW : W ≤ 4) (h : tkD k' p' I1 I2) (hN : I1 15 0 = nI W) (hw : w ≤ W) : ∃ I1', (∀ Q : mj_R → Prop, Q (.null, (I1', J1, mj_R1)) → E1 154 (D + 2) Q 2 [(0, .ref 11), (1, .int (nI i)), (2, .int (nI j)), (3, .int (nI w))] I1 J1) ∧ tkD k' p' I1' I2 ∧ amC 18 (160 * i + 4 * j + w) (160 * i + 4 * j + W) I1 I1' := by
  have lp := lp_up (n := W) (fun w => ∀ I0, tkD k' p' I0 I2 → I0 15 0 = nI W → ∃ I1', (∀ Q : mj_R → Prop, Q (.null, (I1', J1, mj_R1)) → E1 154 (D + 2) Q 2 [(0, .ref 11), (1, .int (nI i)), (2, .int (nI j)), (3, .int (nI w))] I0 J1) ∧ tkD k' p' I1' I2 ∧ amC 18 (160 * i + 4 * j + w) (160 * i + 4 * j + W) I0 I1') (fun w hw ih I0 h0 f0 => ?_) w hw I1 h hN
  · exact lp
  by_cases c : w < W
  · obtain ⟨Ia, Ja, ca, hJ, a1, a2, -⟩ := dd_num (D := D) (J1 := J1) h0
    rw [hJ] at ca
    obtain ⟨Ib, b1, b2, b3⟩ := ih c (mj_up Ia 18 (160 * i + 4 * j + w) 0) (tkD_u1 a2 (by decide)) (by rw [up_n (Or.inl (by decide)), a1 15 0 (Or.inl (by decide))]; exact f0)
    refine ⟨Ib, fun Q hQ => ?_, b2, fun q z z1 z2 => ?_⟩
    · refine mj_on (s154_2 _ _ _ ?_)
      rw [z_c, f0, nI_1]
      refine ⟨vp_in_nI (n := 0) (by decide) (by decide), if_le (by omega) (by omega) (fun c => absurd c (by omega)) (fun _ => ?_)⟩
      refine ⟨trivial, _, _, _, c_slot, trivial, _, _, _, ca, vp_in_nI (by omega) (by decide), ?_⟩
      rw [nI_clamp (by omega)]
      exact b1 Q hQ
    · rw [b3 q z z1 (by omega), up_n (by omega), a1 q z (by omega)]
  · obtain rfl : w = W := by omega
    refine ⟨I0, fun Q hQ => ?_, h0, fun _ _ _ _ => rfl⟩
    refine mj_on (s154_2 _ _ _ ?_)
    rw [z_c, f0]
    exact ⟨vp_in_nI (n := 0) (by decide) (by decide), if_le (by omega) (by omega) (fun _ => hQ) (fun z => absurd z (by omega))⟩
/-- amounts from wish w on; the reference's loop is told by what its head does -/
theorem amts_both {i j c0 cq : Nat} (G : Nat → (Nat → Nat → Int32) → (Nat → Nat → Int64) → (mj_R → Prop) → Prop) (G' : (Nat → Nat → Int32) → (Nat → Nat → Int64) → (mj_R → Prop) → Prop) (hq : cq = 16 ∨ cq = 18) (hb : 160 * i + 4 * j + 4 ≤ 960) (hW : W ≤ 4)
    (g1 : ∀ w (I2 : (Nat → Nat → Int32)) (J2 : (Nat → Nat → Int64)) r (I2' : (Nat → Nat → Int32)) (J2' : (Nat → Nat → Int64)) Q, w < W → I2 0 35 = nI d → I2 2 d = nI W → I2 0 8 = 0 → C2 (D' + 3) 29 [.ref 0] I2 J2 (.int r) I2' J2' → G (w + 1) (mj_up I2' cq (c0 + w) r) J2' Q → G w I2 J2 Q)
    (g2 : ∀ w (I2 : (Nat → Nat → Int32)) (J2 : (Nat → Nat → Int64)) Q, w ≤ W → I2 0 35 = nI d → I2 2 d = nI W → (w = W ∨ ¬ I2 0 8 = 0) → G' I2 J2 Q → G w I2 J2 Q) :
    ∀ k w p a t v l o I1 I2 J2, w + k = W → tkR n x p a t v l o I1 I2 J2 → I1 15 0 = nI W → I2 2 d = nI W → I2 0 35 = nI d → ∃ I1' I2' J2', (∀ Q : mj_R → Prop, Q (.null, (I1', J1, mj_R1)) → E1 154 (D + 4) Q 2 [(0, .ref 11), (1, .int (nI i)), (2, .int (nI j)), (3, .int (nI w))] I1 J1) ∧ (∀ Q, G' I2' J2' Q → G w I2 J2 Q) ∧ amC 18 (160 * i + 4 * j + w) (160 * i + 4 * j + W) I1 I1' ∧ amR cq (c0 + w) (c0 + W) I2 I2' ∧ lxgJ J2 J2' ∧ ((∃ p' a' t' v' l' o', tkR n x p' a' t' v' l' o' I1' I2' J2' ∧ p ≤ p' ∧ ∀ u, w ≤ u → u < W → I2' cq (c0 + u) = I1' 18 (160 * i + 4 * j + u) ∧ amt (I1' 18 (160 * i + 4 * j + u))) ∨ ∃ k p, tkD k p I1' I2')
  | 0, w, p, a, t, v, l, o, I1, I2, J2, hwk, hk, hN, hN2, h35 => by
    obtain rfl : w = W := by omega
    refine ⟨I1, I2, J2, fun Q hQ => ?_, fun Q hQ => g2 w I2 J2 Q (Nat.le_refl _) h35 hN2 (Or.inl rfl) hQ, fun _ _ _ _ => rfl, fun _ _ _ _ => rfl, fun _ _ _ => rfl, Or.inl ⟨p, a, t, v, l, o, hk, Nat.le_refl _, fun u h1 h2 => absurd h2 (by omega)⟩⟩
    refine mj_on (s154_2 _ _ _ ?_)
    rw [z_c, hN]
    exact ⟨vp_in_nI (n := 0) (by decide) (by decide), if_le (by omega) (by omega) (fun _ => hQ) (fun z => absurd z (by omega))⟩
  | k + 1, w, p, a, t, v, l, o, I1, I2, J2, hwk, hk, hN, hN2, h35 => by
    have hwW : w < W := by omega
    obtain ⟨r1, r2, Ia, Ja, Ra, Sa, c1, c2, hJ, f1, f2, f3, hr⟩ := num_both (D := D) (D' := D') (J1 := J1) hk
    rw [hJ] at c1
    have step : ∀ (Q : mj_R → Prop), E1 154 (D + 4) Q 2 [(0, .ref 11), (1, .int (nI i)), (2, .int (nI j)), (3, .int (nI (w + 1)))] (mj_up Ia 18 (160 * i + 4 * j + w) r1) J1 → E1 154 (D + 4) Q 2 [(0, .ref 11), (1, .int (nI i)), (2, .int (nI j)), (3, .int (nI w))] I1 J1 := fun Q hQ => by
      refine mj_on (s154_2 _ _ _ ?_)
      rw [z_c, hN, nI_1]
      refine ⟨vp_in_nI (n := 0) (by decide) (by decide), if_le (by omega) (by omega) (fun c => absurd c (by omega)) (fun _ => ?_)⟩
      refine ⟨trivial, _, _, _, c_slot, trivial, _, _, _, c1, vp_in_nI (by omega) (by decide), ?_⟩
      rw [nI_clamp (by omega)]
      exact hQ
    have hNa : mj_up Ia 18 (160 * i + 4 * j + w) r1 15 0 = nI W := by rw [up_n (Or.inl (by decide)), f1 15 0 (Or.inl (by decide))]; exact hN
    have h2a : mj_up Ra cq (c0 + w) r2 2 d = nI W := by rw [up_n (Or.inl (by omega)), f2 2 d (Or.inl (by decide))]; exact hN2
    have h35a : mj_up Ra cq (c0 + w) r2 0 35 = nI d := by rw [up_n (Or.inl (by omega)), f2 0 35 (by decide)]; exact h35
    rcases hr with ⟨t2, e1, e2, hv, p1, a1, t1, v1, l1, o1, k1, hp⟩ | ⟨k1, p1, k2⟩
    · have kb : tkR n x p1 a1 t1 v1 l1 o1 (mj_up Ia 18 (160 * i + 4 * j + w) r1) (mj_up Ra cq (c0 + w) r2) Sa := tkR_cg k1 (fun q z hz => by rw [up_n (by omega)]) (fun q z hz => by rw [up_n (by omega)]) rfl
      obtain ⟨Ib, Rb, Sb, q1, q2, q3, q4, q5, q6⟩ := amts_both G G' hq hb hW g1 g2 k (w + 1) p1 a1 t1 v1 l1 o1 _ _ Sa (by omega) kb hNa h2a h35a
      refine ⟨Ib, Rb, Sb, fun Q hQ => step Q (q1 Q hQ), fun Q hQ => g1 w I2 J2 r2 Ra Sa Q hwW h35 hN2 (r_8 hk) c2 (q2 Q hQ), fun q z z1 z2 => ?_, fun q z z1 z2 => ?_, fun q z z1 => ?_, ?_⟩
      · rw [q3 q z z1 (by omega), up_n (by omega), f1 q z (by omega)]
      · rw [q4 q z z1 (by omega), up_n (by omega), f2 q z z1]
      · rw [q5 q z z1, f3 q z z1]
      · rcases q6 with ⟨p', a', t', v', l', o', m1, m2, m3⟩ | m1
        · refine Or.inl ⟨p', a', t', v', l', o', m1, by omega, fun u h1 h2 => ?_⟩
          by_cases e : u = w
          · rw [e, q3 18 _ (Or.inl (by decide)) (by omega), q4 cq _ (Or.inl (by omega)) (by omega), up_s, up_s, e1, e2]
            exact ⟨rfl, v, hv, rfl⟩
          · exact m3 u (by omega) h2
        · exact Or.inr m1
    · obtain ⟨Ib, q1, q2, q3⟩ := dd_amt (D := D + 2) (J1 := J1) (i := i) (j := j) (w := w + 1) hb hW (tkD_u1 (q0 := 18) (j0 := 160 * i + 4 * j + w) (y := r1) k2 (by decide)) hNa (by omega)
      have k3 : tkD k1 p1 Ib (mj_up Ra cq (c0 + w) r2) := by
        obtain ⟨b1, b2, b3, b4, b5, b6, b7, b8⟩ := q2
        exact ⟨b1, b2, b3, b4, b5, b6, by rw [up_n (Or.inl (by omega))]; exact b7, by rw [up_n (Or.inl (by omega))]; exact b8⟩
      refine ⟨Ib, mj_up Ra cq (c0 + w) r2, Sa, fun Q hQ => step Q (q1 Q hQ), fun Q hQ => g1 w I2 J2 r2 Ra Sa Q hwW h35 hN2 (r_8 hk) c2 (g2 (w + 1) _ Sa Q (by omega) h35a h2a (Or.inr (tkD_8 k3).1) hQ), fun q z z1 z2 => ?_, fun q z z1 z2 => ?_, f3, Or.inr ⟨k1, p1, k3⟩⟩
      · rw [q3 q z z1 (by omega), up_n (by omega), f1 q z (by omega)]
      · rw [up_n (by omega), f2 q z z1]
end Sa9d
end
section
/-! rows of amounts on both sides -/
def rwC (j z0 z1 : Nat) (I I' : (Nat → Nat → Int32)) : Prop := ∀ q z, (q ≠ 11 ∨ z < 4 ∨ z = 9) → (q ≠ 18 ∨ z < 160 + 4 * j + z0 ∨ 160 + 4 * j + z1 ≤ z) → (q ≠ 19 ∨ z < 4 * j + z0 ∨ 4 * j + z1 ≤ z) → I' q z = I q z
def rwQ (c z0 z1 : Nat) (I I' : (Nat → Nat → Int32)) : Prop := ∀ q j, (q ≠ 0 ∨ (j ≠ 3 ∧ j ≠ 4 ∧ j ≠ 5 ∧ j ≠ 6 ∧ j ≠ 8 ∧ j ≠ 9)) → ((q ≠ 11 ∧ q ≠ 12) ∨ j < c + z0 ∨ c + z1 ≤ j) → I' q j = I q j
section Sa9e
variable {n d W Rn Kn Tn Hn Un S F mc : Nat} {x : Nat → Nat} {B1 B2 : Nat → Nat → Int32} {BJ : Nat → Nat → Int64}
variable {D D' E p a t v : Nat} {l : List Nat} {o : Int} {I1 I2 : Nat → Nat → Int32} {J1 J2 : Nat → Nat → Int64}
theorem dd_row {j w k' p' : Nat} (hj : j < 40) (hW : W ≤ 4) (h : tkD k' p' I1 I2) (hN : I1 15 0 = nI W) (hw : w ≤ W) : ∃ I1', (∀ Q : mj_R → Prop, Q (.null, (I1', J1, mj_R1)) → E1 170 (D + 2) Q 17 [(0, .ref 11), (1, .int (nI j)), (2, .int (nI w))] I1 J1) ∧ tkD k' p' I1' I2 ∧ rwC j w W I1 I1' := by
  have lp := lp_up (n := W) (fun w => ∀ I0, tkD k' p' I0 I2 → I0 15 0 = nI W → ∃ I1', (∀ Q : mj_R → Prop, Q (.null, (I1', J1, mj_R1)) → E1 170 (D + 2) Q 17 [(0, .ref 11), (1, .int (nI j)), (2, .int (nI w))] I0 J1) ∧ tkD k' p' I1' I2 ∧ rwC j w W I0 I1') (fun w hw ih I0 h0 f0 => ?_) w hw I1 h hN
  · exact lp
  by_cases c : w < W
  · obtain ⟨Ia, Ja, ca, hJ, a1, a2, -⟩ := dd_num (D := D) (J1 := J1) h0
    rw [hJ] at ca
    obtain ⟨Ib, b1, b2, b3⟩ := ih c (mj_up (mj_up Ia 18 (160 + 4 * j + w) 0) 19 (4 * j + w) 0) (tkD_u1 (tkD_u1 a2 (by decide)) (by decide)) (by rw [up_n (Or.inl (by decide)), up_n (Or.inl (by decide)), a1 15 0 (Or.inl (by decide))]; exact f0)
    have s0 := sg_d (D := D + 1) (J1 := J1) (c := 63) h0.2.2.2.1
    have s1 := sg_d (D := D + 1) (J1 := J1) (c := 126) a2.2.2.2.1
    rw [tf_f id] at s0 s1
    refine ⟨Ib, fun Q hQ => ?_, b2, fun q z z1 z2 z3 => ?_⟩
    · refine mj_on (s170_17 _ _ ?_)
      rw [z_c, f0]
      refine ⟨vp_in_nI (n := 0) (by decide) (by decide), if_le (by omega) (by omega) (fun c => absurd c (by omega)) (fun _ => ?_)⟩
      refine ⟨trivial, _, _, _, s0, ?_⟩
      rw [if_pos rfl]
      refine ⟨trivial, _, _, _, ca, trivial, _, _, _, s1, ?_⟩
      rw [if_pos rfl]
      exact c75 hj (by omega) (b1 Q hQ)
    · rw [b3 q z z1 (by omega) (by omega), up_n (by omega), up_n (by omega), a1 q z (by omega)]
  · obtain rfl : w = W := by omega
    refine ⟨I0, fun Q hQ => ?_, h0, fun _ _ _ _ _ => rfl⟩
    refine mj_on (s170_17 _ _ ?_)
    rw [z_c, f0]
    exact ⟨vp_in_nI (n := 0) (by decide) (by decide), if_le (by omega) (by omega) (fun _ => hQ) (fun z => absurd z (by omega))⟩
theorem tkD_u2 {k p q0 j0 : Nat} {y : Int32} (h : tkD k p I1 I2) (hq : q0 ≠ 0) : tkD k p I1 (mj_up I2 q0 j0 y) := by
  obtain ⟨b1, b2, b3, b4, b5, b6, b7, b8⟩ := h
  refine ⟨b1, b2, b3, b4, b5, b6, ?_, ?_⟩
  · rw [up_n (by omega)]; exact b7
  · rw [up_n (by omega)]; exact b8
theorem tkR_u2 {q0 j0 : Nat} {y : Int32} (h : tkR n x p a t v l o I1 I2 J2) (hq : 2 ≤ q0) : tkR n x p a t v l o I1 (mj_up I2 q0 j0 y) J2 := tkR_cg h (fun _ _ _ => rfl) (fun q j z => by rw [up_n (by omega)]) rfl
theorem r29_D (h : ¬ I2 0 8 ≤ 0) : C2 (D + 1) 29 [.ref 0] I2 J2 (.int 0) I2 J2 := by
  refine mj_mk (e29 ?_)
  rw [if_neg h]
/-- one amount of a row -/
theorem cell_both {j w : Nat} (hj : j < 40) (hd : d < 2) (hW : W ≤ 4) (hw : w < W) (hk : tkR n x p a t v l o I1 I2 J2) (hN : I1 15 0 = nI W) (hN2 : I2 2 d = nI W) (h35 : I2 0 35 = nI d) : ∃ y1 y2 Ia Ra Sa, (∀ Q : mj_R → Prop, E1 170 (D + 5) Q 75 [(0, .ref 11), (1, .int (nI j)), (2, .int (nI w)), (3, .int y1), (4, .int y2)] Ia J1 → E1 170 (D + 5) Q 17 [(0, .ref 11), (1, .int (nI j)), (2, .int (nI w))] I1 J1) ∧ (∀ Q : mj_R → Prop, E2 27 (D' + 4) Q 78 [(0, .ref 0), (1, .int (nI (40 * d + j))), (2, .int (nI (w + 1)))] Ra Sa → E2 27 (D' + 4) Q 78 [(0, .ref 0), (1, .int (nI (40 * d + j))), (2, .int (nI w))] I2 J2) ∧ lxF I1 Ia ∧ rwQ (4 * (40 * d + j)) w (w + 1) I2 Ra ∧ lxgJ J2 Sa ∧ ((∃ p' a' t' v' l' o', tkR n x p' a' t' v' l' o' Ia Ra Sa ∧ p < p' ∧ (y1 = -1 ∨ amt y1) ∧ amt y2 ∧ Ra 11 (4 * (40 * d + j) + w) = y1 ∧ Ra 12 (4 * (40 * d + j) + w) = y2) ∨ ∃ k p, tkD k p Ia Ra) := by
  obtain ⟨c, hc⟩ : ∃ c, c = 4 * (40 * d + j) + w := ⟨_, rfl⟩
  have hc3 : c < 320 := by omega
  have vc : vp_in (nI c) 320 := vp_in_nI hc3 (by decide)
  have vd : vp_in (nI d) 2 := vp_in_nI hd (by decide)
  have r8 := r_8 hk
  rw [← hc]
  obtain ⟨Iz, hIz⟩ : ∃ Iz, Iz = mj_up I2 12 c 0 := ⟨_, rfl⟩
  have hz : tkR n x p a t v l o I1 Iz J2 := by rw [hIz]; exact tkR_u2 hk (by decide)
  -- heads
  have hcl : ∀ Q : mj_R → Prop, (∃ r1 : Int32, C1 (D + 5) 160 [.ref 11, .int 63] I1 J1 (.int r1) I1 J1 ∧ (if r1 = 0 then (True ∧ ∃ (r2 : Int32) (I2 : (Nat → Nat → Int32)) (J2 : (Nat → Nat → Int64)), mj_Cl mj_S1 mj_CD (D + 5) 156 [.ref 11] (I1, J1, mj_R1) (.int r2, (I2, J2, mj_R1)) ∧ (True ∧ ∃ (r3 : Int32) (I3 : (Nat → Nat → Int32)) (J3 : (Nat → Nat → Int64)), mj_Cl mj_S1 mj_CD (D + 5) 160 [.ref 11, .int 126] (I2, J2, mj_R1) (.int r3, (I3, J3, mj_R1)) ∧ (if r3 = 0 then E1 170 (D + 5) Q 75 [(0, .ref 11), (1, .int (nI j)), (2, .int (nI w)), (3, .int r2), (4, .int 0)] I3 J3 else (True ∧ ∃ (I4 : (Nat → Nat → Int32)) (J4 : (Nat → Nat → Int64)), mj_Cl mj_S1 mj_CD (D + 5) 139 [.ref 11] (I3, J3, mj_R1) (.null, (I4, J4, mj_R1)) ∧ (True ∧ ∃ (r5 : Int32) (I5 : (Nat → Nat → Int32)) (J5 : (Nat → Nat → Int64)), mj_Cl mj_S1 mj_CD (D + 5) 156 [.ref 11] (I4, J4, mj_R1) (.int r5, (I5, J5, mj_R1)) ∧ E1 170 (D + 5) Q 75 [(0, .ref 11), (1, .int (nI j)), (2, .int (nI w)), (3, .int r2), (4, .int r5)] I5 J5))))) else (True ∧ ∃ (I6 : (Nat → Nat → Int32)) (J6 : (Nat → Nat → Int64)), mj_Cl mj_S1 mj_CD (D + 5) 139 [.ref 11] (I1, J1, mj_R1) (.null, (I6, J6, mj_R1)) ∧ E1 170 (D + 5) Q 75 [(0, .ref 11), (1, .int (nI j)), (2, .int (nI w)), (3, .int (-1)), (4, .int 0)] I6 J6))) → E1 170 (D + 5) Q 17 [(0, .ref 11), (1, .int (nI j)), (2, .int (nI w))] I1 J1 := fun Q ⟨r1, q1, q2⟩ => by
    refine mj_on (s170_17 _ _ ?_)
    rw [z_c, hN]
    refine ⟨vp_in_nI (n := 0) (by decide) (by decide), if_le (by omega) (by omega) (fun c => absurd c (by omega)) (fun _ => ?_)⟩
    exact ⟨trivial, _, _, _, q1, q2⟩
  by_cases e : t = 1 ∧ v = 63
  · -- ?
    obtain ⟨Iy, hIy⟩ : ∃ Iy, Iy = mj_up Iz 11 c (-1) := ⟨_, rfl⟩
    have hy : tkR n x p a t v l o I1 Iy J2 := by rw [hIy]; exact tkR_u2 hz (by decide)
    obtain ⟨Ia, Ra, Sa, k1, k2, k3, k4, k5, k6⟩ := adv_ta (D := D + 2) (D' := D' + 2) (J1 := J1) hy (by omega)
    refine ⟨-1, 0, Ia, Ra, Sa, fun Q hQ => ?_, fun Q hQ => ?_, lxf_F k3, fun q z z1 z2 => ?_, k5, ?_⟩
    · have s := sg_c (D := D + 4) (J1 := J1) hk (c := 63) (by decide)
      rw [tf_t e] at s
      refine hcl Q ⟨1, s, ?_⟩
      rw [if_neg (by decide)]
      exact ⟨trivial, _, _, k1, hQ⟩
    · refine mj_on (s27_78 _ _ ?_)
      rw [h35, nI_clamp (by omega), hN2, show (4 : Int32) = nI 4 from rfl, pk_mul, nI_add, ← hc, nI_clamp (by omega), if_pos r8, ← hIz, nI_1]
      refine ⟨vd, if_le (by omega) (by omega) (fun z => absurd z (by omega)) (fun _ => ⟨vc, trivial, _, _, _, sg_r hz (c := 63) (by decide), if_tf (fun _ => ?_) (fun z => absurd e z)⟩)⟩
      rw [← hIy]
      exact ⟨vc, trivial, _, _, k2, hQ⟩
    · rw [k4 q z z1, hIy, hIz, up_n (by omega), up_n (by omega)]
    · rcases k6 with ⟨p', a', t', v', l', o', q1, q2, -⟩ | ⟨p', q1⟩
      · refine Or.inl ⟨p', a', t', v', l', o', q1, q2, Or.inl rfl, ⟨0, by decide, rfl⟩, ?_, ?_⟩
        · rw [k4 11 c (Or.inl (by decide)), hIy, up_s]
        · rw [k4 12 c (Or.inl (by decide)), hIy, up_n (Or.inl (by decide)), hIz, up_s]
      · exact Or.inr ⟨_, _, q1⟩
  -- a number
  obtain ⟨r1, r2, Ib, Jb, Rb, Sb, c1, c2, hJ, f1, f2, f3, hr⟩ := num_both (D := D + 1) (D' := D' + 1) (J1 := J1) hz
  rw [hJ] at c1
  obtain ⟨Rc, hRc⟩ : ∃ Rc, Rc = mj_up Rb 11 c r2 := ⟨_, rfl⟩
  have s0 := sg_c (D := D + 4) (J1 := J1) hk (c := 63) (by decide)
  rw [tf_f e] at s0
  have rhd : ∀ Q : mj_R → Prop, (if Rb 0 8 ≤ 0 then (True ∧ ∃ (r3 : Int32) (I3 : (Nat → Nat → Int32)) (J3 : (Nat → Nat → Int64)), mj_Cl mj_S2 mj_CD (D' + 4) 28 [.ref 0, .int 126] (Rc, Sb, mj_R2) (.int r3, (I3, J3, mj_R2)) ∧ (if r3 = 0 then E2 27 (D' + 4) Q 78 [(0, .ref 0), (1, .int (nI (40 * d + j))), (2, .int (nI (w + 1)))] I3 J3 else (True ∧ ∃ (I4 : (Nat → Nat → Int32)) (J4 : (Nat → Nat → Int64)), mj_Cl mj_S2 mj_CD (D' + 4) 13 [.ref 0] (I3, J3, mj_R2) (.null, (I4, J4, mj_R2)) ∧ (True ∧ ∃ (r5 : Int32) (I5 : (Nat → Nat → Int32)) (J5 : (Nat → Nat → Int64)), mj_Cl mj_S2 mj_CD (D' + 4) 29 [.ref 0] (I4, J4, mj_R2) (.int r5, (I5, J5, mj_R2)) ∧ (vp_in (nI c) 320 ∧ E2 27 (D' + 4) Q 78 [(0, .ref 0), (1, .int (nI (40 * d + j))), (2, .int (nI (w + 1)))] (mj_up I5 12 c r5) J5))))) else E2 27 (D' + 4) Q 78 [(0, .ref 0), (1, .int (nI (40 * d + j))), (2, .int (nI (w + 1)))] Rc Sb) → E2 27 (D' + 4) Q 78 [(0, .ref 0), (1, .int (nI (40 * d + j))), (2, .int (nI w))] I2 J2 := fun Q hQ => by
    refine mj_on (s27_78 _ _ ?_)
    rw [h35, nI_clamp (by omega), hN2, show (4 : Int32) = nI 4 from rfl, pk_mul, nI_add, ← hc, nI_clamp (by omega), if_pos r8, ← hIz, nI_1]
    refine ⟨vd, if_le (by omega) (by omega) (fun z => absurd z (by omega)) (fun _ => ⟨vc, trivial, _, _, _, sg_r hz (c := 63) (by decide), if_tf (fun z => absurd z e) (fun _ => ?_)⟩)⟩
    refine ⟨trivial, _, _, _, c2, vc, ?_⟩
    rw [← hRc]
    exact hQ
  have fz : ∀ q z, (q ≠ 0 ∨ (z ≠ 3 ∧ z ≠ 4 ∧ z ≠ 5 ∧ z ≠ 6 ∧ z ≠ 8 ∧ z ≠ 9)) → ((q ≠ 11 ∧ q ≠ 12) ∨ z < 4 * (40 * d + j) + w ∨ 4 * (40 * d + j) + (w + 1) ≤ z) → Rc q z = I2 q z := fun q z z1 z2 => by
    rw [hRc, up_n (by omega), f2 q z z1, hIz, up_n (by omega)]
  rcases hr with ⟨t2, e1, e2, hv, p1, a1, t1, v1, l1, o1, k1, hp⟩ | ⟨k1, p1, k2⟩
  rotate_left
  · -- a fault
    have s1 := sg_d (D := D + 4) (J1 := J1) (c := 126) k2.2.2.2.1
    rw [tf_f id] at s1
    refine ⟨r1, 0, Ib, Rc, Sb, fun Q hQ => hcl Q ⟨0, s0, ?_⟩, fun Q hQ => rhd Q ?_, f1, fz, f3, Or.inr ⟨k1, p1, by rw [hRc]; exact tkD_u2 k2 (by decide)⟩⟩
    · rw [if_pos rfl]
      refine ⟨trivial, _, _, _, c1, trivial, _, _, _, s1, ?_⟩
      rw [if_pos rfl]
      exact hQ
    · rw [if_neg (tkD_8 k2).2]
      exact hQ
  have kc : tkR n x p1 a1 t1 v1 l1 o1 Ib Rc Sb := by rw [hRc]; exact tkR_u2 k1 (by decide)
  have b8 : Rb 0 8 ≤ 0 := by rw [r_8 k1]; decide
  by_cases e3 : t1 = 1 ∧ v1 = 126
  rotate_left
  · have s1 := sg_c (D := D + 4) (J1 := J1) k1 (c := 126) (by decide)
    rw [tf_f e3] at s1
    refine ⟨r1, 0, Ib, Rc, Sb, fun Q hQ => hcl Q ⟨0, s0, ?_⟩, fun Q hQ => rhd Q ?_, f1, fz, f3, Or.inl ⟨p1, a1, t1, v1, l1, o1, kc, hp, Or.inr ⟨v, hv, e1⟩, ⟨0, by decide, rfl⟩, ?_, ?_⟩⟩
    · rw [if_pos rfl]
      refine ⟨trivial, _, _, _, c1, trivial, _, _, _, s1, ?_⟩
      rw [if_pos rfl]
      exact hQ
    · rw [if_pos b8]
      exact ⟨trivial, _, _, _, sg_r kc (c := 126) (by decide), if_tf (fun z => absurd z e3) (fun _ => hQ)⟩
    · rw [hRc, up_s, e1, e2]
    · rw [hRc, up_n (Or.inl (by decide)), f2 12 c (Or.inl (by decide)), hIz, up_s]
  -- a spread
  have s1 := sg_c (D := D + 4) (J1 := J1) k1 (c := 126) (by decide)
  rw [tf_t e3] at s1
  obtain ⟨Ic, Rd, Sd, k2, k3, k4, k5, k6, k7⟩ := adv_ta (D := D + 2) (D' := D' + 2) (J1 := J1) kc (by omega)
  have fin : ∀ {r5 r6 : Int32} {Ie : (Nat → Nat → Int32)} {Re : (Nat → Nat → Int32)} {Se : (Nat → Nat → Int64)}, C1 (D + 5) 156 [.ref 11] Ic J1 (.int r5) Ie J1 → C2 (D' + 4) 29 [.ref 0] Rd Sd (.int r6) Re Se → (∀ Q : mj_R → Prop, E1 170 (D + 5) Q 75 [(0, .ref 11), (1, .int (nI j)), (2, .int (nI w)), (3, .int r1), (4, .int r5)] Ie J1 → E1 170 (D + 5) Q 17 [(0, .ref 11), (1, .int (nI j)), (2, .int (nI w))] I1 J1) ∧ (∀ Q : mj_R → Prop, E2 27 (D' + 4) Q 78 [(0, .ref 0), (1, .int (nI (40 * d + j))), (2, .int (nI (w + 1)))] (mj_up Re 12 c r6) Se → E2 27 (D' + 4) Q 78 [(0, .ref 0), (1, .int (nI (40 * d + j))), (2, .int (nI w))] I2 J2) := fun {r5 r6 Ie Re Se} q1 q2 => by
    refine ⟨fun Q hQ => hcl Q ⟨0, s0, ?_⟩, fun Q hQ => rhd Q ?_⟩
    · rw [if_pos rfl]
      refine ⟨trivial, _, _, _, c1, trivial, _, _, _, s1, ?_⟩
      rw [if_neg (by decide)]
      exact ⟨trivial, _, _, k2, trivial, _, _, _, q1, hQ⟩
    · rw [if_pos b8]
      exact ⟨trivial, _, _, _, sg_r kc (c := 126) (by decide), if_tf (fun _ => ⟨trivial, _, _, k3, trivial, _, _, _, q2, vc, hQ⟩) (fun z => absurd e3 z)⟩
  have f11 : Rd 11 c = r1 := by rw [k5 11 c (Or.inl (by decide)), hRc, up_s, e1, e2]
  rcases k7 with ⟨p2, a2, t2', v2, l2, o2, k8, hp2, -⟩ | ⟨p2, k8⟩
  · obtain ⟨r5, r6, Ie, Je, Re, Se, c5, c6, hJe, f5, f6, f7, hr5⟩ := num_both (D := D + 1) (D' := D' + 1) (J1 := J1) k8
    rw [hJe] at c5
    obtain ⟨q1, q2⟩ := fin c5 c6
    refine ⟨r1, r5, Ie, mj_up Re 12 c r6, Se, q1, q2, fun q z z1 => ?_, fun q z z1 z2 => ?_, fun q z z1 => ?_, ?_⟩
    · rw [f5 q z z1, k4 q z (by omega), f1 q z z1]
    · rw [up_n (by omega), f6 q z z1, k5 q z z1]; exact fz q z z1 z2
    · rw [f7 q z z1, k6 q z z1, f3 q z z1]
    · rcases hr5 with ⟨-, g1, g2, hv2, p3, a3, t3, v3, l3, o3, m1, m2⟩ | ⟨k9, p3, m1⟩
      · refine Or.inl ⟨p3, a3, t3, v3, l3, o3, tkR_u2 m1 (by decide), by omega, Or.inr ⟨v, hv, e1⟩, ⟨v2, hv2, g1⟩, ?_, ?_⟩
        · rw [up_n (Or.inl (by decide)), f6 11 c (Or.inl (by decide))]; exact f11
        · rw [up_s, g1, g2]
      · exact Or.inr ⟨k9, p3, tkD_u2 m1 (by decide)⟩
  · obtain ⟨Ie, Je, c5, hJe, f5, m1, -⟩ := dd_num (D := D + 3) (J1 := J1) k8
    rw [hJe] at c5
    obtain ⟨q1, q2⟩ := fin c5 (r29_D (D := D' + 3) (tkD_8 k8).2)
    refine ⟨r1, 0, Ie, mj_up Rd 12 c 0, Sd, q1, q2, fun q z z1 => ?_, fun q z z1 z2 => ?_, fun q z z1 => ?_, Or.inr ⟨1, p2, tkD_u2 m1 (by decide)⟩⟩
    · rw [f5 q z (by omega), k4 q z (by omega), f1 q z z1]
    · rw [up_n (by omega), k5 q z z1]; exact fz q z z1 z2
    · rw [k6 q z z1, f3 q z z1]
theorem row_both {j : Nat} (hj : j < 40) (hd : d < 2) (hW : W ≤ 4) :
    ∀ k w p a t v l o I1 I2 J2, w + k = W → tkR n x p a t v l o I1 I2 J2 → I1 15 0 = nI W → I2 2 d = nI W → I2 0 35 = nI d → ∃ I1' I2' J2', (∀ Q : mj_R → Prop, Q (.null, (I1', J1, mj_R1)) → E1 170 (D + 5) Q 17 [(0, .ref 11), (1, .int (nI j)), (2, .int (nI w))] I1 J1) ∧ (∀ Q : mj_R → Prop, E2 27 (D' + 4) Q 193 [(0, .ref 0)] I2' J2' → E2 27 (D' + 4) Q 78 [(0, .ref 0), (1, .int (nI (40 * d + j))), (2, .int (nI w))] I2 J2) ∧ rwC j w W I1 I1' ∧ rwQ (4 * (40 * d + j)) w W I2 I2' ∧ lxgJ J2 J2' ∧ ((∃ p' a' t' v' l' o', tkR n x p' a' t' v' l' o' I1' I2' J2' ∧ p ≤ p' ∧ ∀ u, w ≤ u → u < W → I2' 11 (4 * (40 * d + j) + u) = I1' 18 (160 + 4 * j + u) ∧ (I1' 18 (160 + 4 * j + u) = -1 ∨ amt (I1' 18 (160 + 4 * j + u))) ∧ I2' 12 (4 * (40 * d + j) + u) = I1' 19 (4 * j + u) ∧ amt (I1' 19 (4 * j + u))) ∨ ∃ k p, tkD k p I1' I2')
  | 0, w, p, a, t, v, l, o, I1, I2, J2, hwk, hk, hN, hN2, h35 => by
    obtain rfl : w = W := by omega
    refine ⟨I1, I2, J2, fun Q hQ => ?_, fun Q hQ => ?_, fun _ _ _ _ _ => rfl, fun _ _ _ _ => rfl, fun _ _ _ => rfl, Or.inl ⟨p, a, t, v, l, o, hk, Nat.le_refl _, fun u h1 h2 => absurd h2 (by omega)⟩⟩
    · refine mj_on (s170_17 _ _ ?_)
      rw [z_c, hN]
      exact ⟨vp_in_nI (n := 0) (by decide) (by decide), if_le (by omega) (by omega) (fun _ => hQ) (fun z => absurd z (by omega))⟩
    · refine mj_on (s27_78 _ _ ?_)
      rw [h35, nI_clamp (by omega), hN2]
      exact ⟨vp_in_nI hd (by decide), if_le (by omega) (by omega) (fun _ => hQ) (fun z => absurd z (by omega))⟩
  | k + 1, w, p, a, t, v, l, o, I1, I2, J2, hwk, hk, hN, hN2, h35 => by
    obtain ⟨y1, y2, Ia, Ra, Sa, c1, c2, f1, f2, f3, hr⟩ := cell_both (D := D) (D' := D') (J1 := J1) (w := w) hj hd hW (by omega) hk hN hN2 h35
    obtain ⟨Ib, hIb⟩ : ∃ Ib, Ib = mj_up (mj_up Ia 18 (160 + 4 * j + w) y1) 19 (4 * j + w) y2 := ⟨_, rfl⟩
    have hNa : Ib 15 0 = nI W := by rw [hIb, up_n (Or.inl (by decide)), up_n (Or.inl (by decide)), f1 15 0 (Or.inl (by decide))]; exact hN
    have h2a : Ra 2 d = nI W := by rw [f2 2 d (Or.inl (by decide)) (Or.inl (by decide))]; exact hN2
    have h35a : Ra 0 35 = nI d := by rw [f2 0 35 (by omega) (by omega)]; exact h35
    rcases hr with ⟨p1, a1, t1, v1, l1, o1, k1, hp, g1, g2, g3, g4⟩ | ⟨k1, p1, k2⟩
    · have kb : tkR n x p1 a1 t1 v1 l1 o1 Ib Ra Sa := tkR_cg k1 (fun q z hz => by rw [hIb, up_n (by omega), up_n (by omega)]) (fun _ _ _ => rfl) rfl
      obtain ⟨Ic, Rc, Sc, q1, q2, q3, q4, q5, q6⟩ := row_both hj hd hW k (w + 1) p1 a1 t1 v1 l1 o1 Ib Ra Sa (by omega) kb hNa h2a h35a
      refine ⟨Ic, Rc, Sc, fun Q hQ => c1 Q (c75 hj (by omega) (by rw [← hIb]; exact q1 Q hQ)), fun Q hQ => c2 Q (q2 Q hQ), fun q z z1 z2 z3 => ?_, fun q z z1 z2 => ?_, fun q z z1 => ?_, ?_⟩
      · rw [q3 q z z1 (by omega) (by omega), hIb, up_n (by omega), up_n (by omega), f1 q z (by omega)]
      · rw [q4 q z z1 (by omega), f2 q z z1 (by omega)]
      · rw [q5 q z z1, f3 q z z1]
      · rcases q6 with ⟨p', a', t', v', l', o', m1, m2, m3⟩ | m1
        · refine Or.inl ⟨p', a', t', v', l', o', m1, by omega, fun u h1 h2 => ?_⟩
          by_cases e : u = w
          · rw [e, q3 18 _ (Or.inl (by decide)) (by omega) (by omega), q3 19 _ (Or.inl (by decide)) (by omega) (by omega), q4 11 _ (Or.inl (by decide)) (by omega), q4 12 _ (Or.inl (by decide)) (by omega), hIb, up_s, up_n (Or.inl (by decide)), up_s]
            exact ⟨g3, g1, g4, g2⟩
          · exact m3 u (by omega) h2
        · exact Or.inr m1
    · obtain ⟨Ic, q1, q2, q3⟩ := dd_row (D := D + 3) (J1 := J1) (I1 := Ib) (w := w + 1) hj hW (by rw [hIb]; exact tkD_u1 (tkD_u1 k2 (by decide)) (by decide)) hNa (by omega)
      refine ⟨Ic, Ra, Sa, fun Q hQ => c1 Q (c75 hj (by omega) (by rw [← hIb]; exact q1 Q hQ)), fun Q hQ => c2 Q ?_, fun q z z1 z2 z3 => ?_, fun q z z1 z2 => f2 q z z1 (by omega), f3, Or.inr ⟨k1, p1, q2⟩⟩
      · refine mj_on (s27_78 _ _ ?_)
        rw [h35a, nI_clamp (by omega), h2a, if_neg (tkD_8 k2).1]
        refine ⟨vp_in_nI hd (by decide), if_i (fun _ => hQ) (fun _ => hQ)⟩
      · rw [q3 q z z1 (by omega) (by omega), hIb, up_n (by omega), up_n (by omega), f1 q z (by omega)]
end Sa9e
end
section
/-! the head of a statement, on both sides -/
/-- a statement is read alike -/
def STO (n : Nat) (x : Nat → Nat) (d : Nat) (B1 B2 : (Nat → Nat → Int32)) (BJ : (Nat → Nat → Int64)) (D D' mc p : Nat) (J1 : (Nat → Nat → Int64)) (I1 I2 : (Nat → Nat → Int32)) (J2 : (Nat → Nat → Int64)) : Prop := ∃ I1' I2' J2', C1 (D + 9) 143 [.ref 11] I1 J1 .null I1' J1 ∧ (∀ r, E2 17 (D' + 6) (fun y => y = r) 296 [(0, .ref 0)] I2' J2' → mj_Cl mj_S2 mj_CD (D' + 7) 17 [.ref 0] (I2, J2, mj_R2) r) ∧ ((∃ W Rn Kn Tn Hn Un S F p' a' t' v' l' o', RS n x d B1 B2 BJ W Rn Kn Tn Hn Un S F mc p' a' t' v' l' o' I1' I2' J2' ∧ p < p') ∨ DS d B1 B2 BJ I1' I2' J2')
section Sa9f
variable {n d W Rn Kn Tn Hn Un S F mc : Nat} {x : Nat → Nat} {B1 B2 : Nat → Nat → Int32} {BJ : Nat → Nat → Int64}
variable {D D' E p a t v : Nat} {l : List Nat} {o : Int} {I1 I2 : Nat → Nat → Int32} {J1 J2 : Nat → Nat → Int64}
theorem RS_lx {I1' I2' : (Nat → Nat → Int32)} {J2' : (Nat → Nat → Int64)} {p' a' t' v' : Nat} {l' : List Nat} {o' : Int} (h : RS n x d B1 B2 BJ W Rn Kn Tn Hn Un S F mc p a t v l o I1 I2 J2) (e1 : lxF I1 I1') (e2 : lxg I2 I2') (e3 : lxgJ J2 J2') (hk : tkR n x p' a' t' v' l' o' I1' I2' J2') (hp : p ≤ p') : RS n x d B1 B2 BJ W Rn Kn Tn Hn Un S F mc p' a' t' v' l' o' I1' I2' J2' := by
  obtain ⟨-, hA, hD, hS, hF, hm⟩ := h
  exact ⟨hk, tfA_lx hA e1 e2 e3, TD_lx hD e1 e2 e3, by omega, by omega, by rw [e1 14 0 (by decide)]; exact hm.1, by rw [e1 11 9 (by decide)]; exact hm.2⟩
theorem RS_DS {I1' I2' : (Nat → Nat → Int32)} {J2' : (Nat → Nat → Int64)} (h : RS n x d B1 B2 BJ W Rn Kn Tn Hn Un S F mc p a t v l o I1 I2 J2) (e1 : lxF I1 I1') (e2 : lxg I2 I2') (e3 : lxgJ J2 J2') (hd : ∃ k p, tkD k p I1' I2') : DS d B1 B2 BJ I1' I2' J2' := DS_mk h.2.1 (TD_DSB h.2.2.1 (RS_S h)) e1 e2 e3 hd
theorem bl_st {k : Nat} (h : RS n x d B1 B2 BJ W Rn Kn Tn Hn Un S F mc p a t v l o I1 I2 J2) (hk : 1 ≤ k) (hk6 : k ≤ 6) : ∃ I1' I2', C1 (D + 1) 144 [.ref 11, .int (nI k)] I1 J1 .null I1' J1 ∧ C2 (D' + 1) 16 [.ref 0, .int (nI k), .int (I2 0 4)] I2 J2 .null I2' J2 ∧ DS d B1 B2 BJ I1' I2' J2 ∧ I2' 0 8 = nI k := by
  obtain ⟨I1', I2', k1, k2, k3, k4, k5⟩ := bl_both (D := D) (D' := D') (J1 := J1) (k := k) h.1 hk hk6
  exact ⟨I1', I2', k1, k2, RS_DS h (lxh_F k3) (fun q j z => k4 q j (by omega)) lxgJ_rf ⟨_, _, k5⟩, k5.2.2.2.2.2.2.1⟩
theorem adv_st (h : RS n x d B1 B2 BJ W Rn Kn Tn Hn Un S F mc p a t v l o I1 I2 J2) (h0 : t ≠ 0) : ∃ I1' I2' J2', C1 (D + 3) 139 [.ref 11] I1 J1 .null I1' J1 ∧ C2 (D' + 2) 13 [.ref 0] I2 J2 .null I2' J2' ∧ lxF I1 I1' ∧ ((∃ p' a' t' v' l' o', RS n x d B1 B2 BJ W Rn Kn Tn Hn Un S F mc p' a' t' v' l' o' I1' I2' J2' ∧ p < p') ∨ DS d B1 B2 BJ I1' I2' J2') := by
  obtain ⟨I1', I2', J2', k1, k2, k3, k4, k5, k6⟩ := adv_ta (D := D) (D' := D') (J1 := J1) h.1 h0
  refine ⟨I1', I2', J2', k1, k2, lxf_F k3, ?_⟩
  rcases k6 with ⟨p', a', t', v', l', o', q1, q2, -⟩ | ⟨p', q1⟩
  · exact Or.inl ⟨p', a', t', v', l', o', RS_lx h (lxf_F k3) k4 k5 q1 (by omega), q2⟩
  · exact Or.inr (RS_DS h (lxf_F k3) k4 k5 ⟨_, _, q1⟩)
theorem cnt_both {y1 y2 : Int32} {f e : Prop} (h : RS n x d B1 B2 BJ W Rn Kn Tn Hn Un S F mc p a t v l o I1 I2 J2) (t3 : t = 3) (h1 : y1 = tf f) (h2 : y2 = tf e) : ∃ I1' I2' J2', C2 (D' + 3) 20 [.ref 0, .int y1, .int y2] I2 J2 .null I2' J2' ∧ ((f ∧ C1 (D + 3) 144 [.ref 11, .int 5] I1 J1 .null I1' J1 ∧ DS d B1 B2 BJ I1' I2' J2') ∨ (¬ f ∧ e ∧ C1 (D + 3) 144 [.ref 11, .int 6] I1 J1 .null I1' J1 ∧ DS d B1 B2 BJ I1' I2' J2') ∨ (¬ f ∧ ¬ e ∧ C1 (D + 3) 139 [.ref 11] I1 J1 .null I1' J1 ∧ lxF I1 I1' ∧ ((∃ p' a' t' v' l' o', RS n x d B1 B2 BJ W Rn Kn Tn Hn Un S F mc p' a' t' v' l' o' I1' I2' J2' ∧ p < p') ∨ DS d B1 B2 BJ I1' I2' J2'))) := by
  have r8 := r_8 h.1
  rw [h1, h2]
  by_cases hf : f
  · obtain ⟨I1', I2', k1, k2, k3, k4⟩ := bl_st (D := D + 2) (D' := D' + 1) (J1 := J1) (k := 5) h (by decide) (by decide)
    have beh : E2 20 (D' + 2) (fun y => y = (.null, (I2', J2, mj_R2))) 27 [(0, .ref 0)] I2' J2 := by
      refine mj_on (s20_27 ?_)
      rw [if_neg (DS_8 k3).1]
    refine ⟨I1', I2', J2, mj_mk (e20 _ _ ?_), Or.inl ⟨hf, k1, k3⟩⟩
    rw [tf_t hf, if_neg (by decide)]
    refine ⟨trivial, _, _, k2, ?_⟩
    refine mj_on (s20_13 _ ?_)
    exact if_tf (fun _ => ⟨trivial, _, _, r_blD k4 (by decide) (by decide), beh⟩) (fun _ => beh)
  · by_cases he : e
    · obtain ⟨I1', I2', k1, k2, k3, k4⟩ := bl_st (D := D + 2) (D' := D' + 1) (J1 := J1) (k := 6) h (by decide) (by decide)
      refine ⟨I1', I2', J2, mj_mk (e20 _ _ ?_), Or.inr (Or.inl ⟨hf, he, k1, k3⟩)⟩
      rw [tf_f hf, tf_t he, if_pos rfl]
      refine mj_on (s20_13 _ ?_)
      rw [if_neg (by decide)]
      refine ⟨trivial, _, _, k2, ?_⟩
      refine mj_on (s20_27 ?_)
      rw [if_neg (DS_8 k3).1]
    · obtain ⟨I1', I2', J2', k1, k2, k3, k4⟩ := adv_st (D := D) (D' := D') (J1 := J1) h (by omega)
      refine ⟨I1', I2', J2', mj_mk (e20 _ _ ?_), Or.inr (Or.inr ⟨hf, he, k1, k3, k4⟩)⟩
      rw [tf_f hf, tf_f he, if_pos rfl]
      refine mj_on (s20_13 _ ?_)
      rw [if_pos rfl]
      refine mj_on (s20_27 ?_)
      rw [if_pos r8]
      exact ⟨trivial, _, _, k2, rfl⟩
-- the class' head
def erl (k W Rn Tn Hn : Nat) : Prop := k = 0 ∧ 0 < Rn + Tn + Hn ∨ (k = 1 ∨ k = 3 ∨ k = 4) ∧ W = 0
theorem c145 {k : Nat} (hD : TD d W Rn Kn Tn Hn Un S F I1 I2 J2) (hk : k ≤ 5) : C1 (D + 1) 145 [.ref 11, .int (nI k)] I1 J1 (.int (tf (erl k W Rn Tn Hn))) I1 J1 := by
  obtain ⟨⟨n0, n1, n2, n3, n4, n5⟩, -, hd, b0, b1, b2, b3, b4, b5⟩ := TD_N hD
  refine mj_mk (e145 _ ?_)
  obtain ⟨P, hP⟩ : ∃ P : Prop, P = erl k W Rn Tn Hn := ⟨_, rfl⟩
  rw [← hP]
  have e57 : (k = 1 ∨ k = 3 ∨ k = 4) → E1 145 D (fun y => y = (.int (tf P), (I1, J1, mj_R1))) 57 [(0, .ref 11)] I1 J1 := fun hk3 => by
    refine mj_on (s145_57 ?_)
    rw [z_c, n0]
    refine ⟨vp_in_nI (n := 0) (by decide) (by decide), if_i (fun z => mzT ?_) (fun z => mzF ?_)⟩
    · rw [hP]
      exact Or.inr ⟨hk3, (nI_eq (b := 0) (by omega) (by decide)).mp z⟩
    · rw [hP]
      rintro (⟨q, -⟩ | ⟨-, q⟩)
      · omega
      · exact z (by rw [q]; rfl)
  have v1 : vp_in (1 : Int32) 6 := vp_in_nI (n := 1) (by decide) (by decide)
  have v3 : vp_in (3 : Int32) 6 := vp_in_nI (n := 3) (by decide) (by decide)
  have v4 : vp_in (4 : Int32) 6 := vp_in_nI (n := 4) (by decide) (by decide)
  refine if_i (fun z => ⟨v1, v3, v4, ?_⟩) (fun z0 => if_i (fun z => e57 (Or.inl ((nI_eq (b := 1) (by omega) (by decide)).mp z))) (fun z1 => if_i (fun z => e57 (Or.inr (Or.inl ((nI_eq (b := 3) (by omega) (by decide)).mp z)))) (fun z3 => if_i (fun z => e57 (Or.inr (Or.inr ((nI_eq (b := 4) (by omega) (by decide)).mp z)))) (fun z4 => mzF ?_))))
  · have k0 := (nI_eq (b := 0) (by omega) (by decide)).mp z
    rw [show ((1 : Int32)).toNatClampNeg = 1 from rfl, show ((3 : Int32)).toNatClampNeg = 3 from rfl, show ((4 : Int32)).toNatClampNeg = 4 from rfl, n1, n3, n4, nI_add, nI_add]
    refine if_i (fun q => mzF ?_) (fun q => mzT ?_)
    · have q := (nI_leI (b := 0) (by omega) (by decide)).mp q
      rw [hP]
      rintro (⟨-, w⟩ | ⟨w, -⟩) <;> omega
    · rw [hP]
      refine Or.inl ⟨k0, Classical.byContradiction fun w => q ((nI_leI (b := 0) (by omega) (by decide)).mpr (by omega))⟩
  · rw [hP]
    rintro (⟨q, -⟩ | ⟨q, -⟩)
    · exact z0 (by rw [q]; rfl)
    · rcases q with rfl | rfl | rfl
      · exact z1 rfl
      · exact z3 rfl
      · exact z4 rfl
theorem own_n {k : Nat} (h : tkR n x p a t v l o I1 I2 J2) (hk : k < 17) (ho : o = (k : Nat)) : I1 11 7 = nI k := (own_eq h hk rfl).mpr ho
theorem c143_full {k N M : Nat} {Ia : (Nat → Nat → Int32)} {Ja : (Nat → Nat → Int64)} (h7 : I1 11 7 = nI k) (hk : k ≤ 5) (hN : I1 15 k = nI N) (hM : mj_most k = nI M) (hM2 : M < 100) (e : N = M) (c : C1 D 144 [.ref 11, .int 5] I1 J1 .null Ia Ja) : C1 (D + 1) 143 [.ref 11] I1 J1 .null Ia Ja := by
  refine mj_mk (e143 ?_)
  have vk : vp_in (nI k) 6 := vp_in_nI (by omega) (by decide)
  rw [h7, if_neg (nI_pos (by omega)), if_pos (show nI k ≤ (5 : Int32) from (nI_leI (b := 5) (by omega) (by decide)).mpr hk), nI_clamp (by omega), hN, hM]
  exact ⟨vk, vk, if_lt (by omega) (by omega) (fun z => absurd z (by omega)) (fun _ => ⟨trivial, _, _, c, rfl⟩)⟩
theorem c143_early {k N M : Nat} {Ia : (Nat → Nat → Int32)} {Ja : (Nat → Nat → Int64)} (h7 : I1 11 7 = nI k) (hk : k ≤ 5) (hN : I1 15 k = nI N) (hM : mj_most k = nI M) (hM2 : M < 100) (e : N < M) (c1 : C1 D 145 [.ref 11, .int (nI k)] I1 J1 (.int 1) I1 J1) (c : C1 D 144 [.ref 11, .int 6] I1 J1 .null Ia Ja) : C1 (D + 1) 143 [.ref 11] I1 J1 .null Ia Ja := by
  refine mj_mk (e143 ?_)
  have vk : vp_in (nI k) 6 := vp_in_nI (by omega) (by decide)
  rw [h7, if_neg (nI_pos (by omega)), if_pos (show nI k ≤ (5 : Int32) from (nI_leI (b := 5) (by omega) (by decide)).mpr hk), nI_clamp (by omega), hN, hM]
  refine ⟨vk, vk, if_lt (by omega) (by omega) (fun _ => ⟨trivial, _, _, _, c1, ?_⟩) (fun z => absurd z (by omega))⟩
  rw [if_neg (by decide)]
  exact ⟨trivial, _, _, c, rfl⟩
def cgo (D k : Nat) (I : (Nat → Nat → Int32)) (J : (Nat → Nat → Int64)) (I' : (Nat → Nat → Int32)) (J' : (Nat → Nat → Int64)) : Prop := (k = 0 ∧ C1 D 146 [.ref 11] I J .null I' J') ∨ (k = 1 ∧ C1 D 170 [.ref 11] I J .null I' J') ∨ (k = 2 ∧ C1 D 147 [.ref 11, .int 2] I J .null I' J') ∨ (k = 3 ∧ C1 D 152 [.ref 11] I J .null I' J') ∨ (k = 4 ∧ C1 D 171 [.ref 11] I J .null I' J') ∨ (k = 5 ∧ ∃ Ia Ja, C1 D 157 [.ref 11] I J .null Ia Ja ∧ C1 D 169 [.ref 14] Ia Ja .null I' J')
theorem c143_go {k N M : Nat} {Ia Ib : (Nat → Nat → Int32)} {Ja Jb : (Nat → Nat → Int64)} (h7 : I1 11 7 = nI k) (hk : k ≤ 5) (hN : I1 15 k = nI N) (hM : mj_most k = nI M) (hM2 : M < 100) (e : N < M) (c1 : C1 D 145 [.ref 11, .int (nI k)] I1 J1 (.int 0) I1 J1) (c2 : C1 D 139 [.ref 11] I1 J1 .null Ia Ja) (c3 : cgo D k Ia Ja Ib Jb) : C1 (D + 1) 143 [.ref 11] I1 J1 .null Ib Jb := by
  refine mj_mk (e143 ?_)
  have vk : vp_in (nI k) 6 := vp_in_nI (by omega) (by decide)
  rw [h7, if_neg (nI_pos (by omega)), if_pos (show nI k ≤ (5 : Int32) from (nI_leI (b := 5) (by omega) (by decide)).mpr hk), nI_clamp (by omega), hN, hM]
  refine ⟨vk, vk, if_lt (by omega) (by omega) (fun _ => ⟨trivial, _, _, _, c1, ?_⟩) (fun z => absurd z (by omega))⟩
  rw [if_pos rfl]
  refine ⟨trivial, _, _, c2, ?_⟩
  rcases c3 with ⟨rfl, c⟩ | ⟨rfl, c⟩ | ⟨rfl, c⟩ | ⟨rfl, c⟩ | ⟨rfl, c⟩ | ⟨rfl, Ic, Jc, c, c'⟩
  · rw [if_pos (by decide)]
    exact ⟨trivial, _, _, c, rfl⟩
  · rw [if_neg (by decide), if_pos (by decide)]
    exact ⟨trivial, _, _, c, rfl⟩
  · rw [if_neg (by decide), if_neg (by decide), if_pos (by decide)]
    exact ⟨trivial, _, _, c, rfl⟩
  · rw [if_neg (by decide), if_neg (by decide), if_neg (by decide), if_pos (by decide)]
    exact ⟨trivial, _, _, c, rfl⟩
  · rw [if_neg (by decide), if_neg (by decide), if_neg (by decide), if_neg (by decide), if_pos (by decide)]
    exact ⟨trivial, _, _, c, rfl⟩
  · rw [if_neg (by decide), if_neg (by decide), if_neg (by decide), if_neg (by decide), if_neg (by decide), if_pos (by decide)]
    exact ⟨trivial, _, _, c, trivial, _, _, c', rfl⟩
-- the reference's heads
theorem r19_in {r : mj_R} {Ia : (Nat → Nat → Int32)} {Ja : (Nat → Nat → Int64)} (hD : TD d W Rn Kn Tn Hn Un S F I1 I2 J2) (c20 : C2 D 20 [.ref 0, .int (tf (W = 4)), .int (tf (0 < Rn + Tn + Hn))] I2 J2 .null Ia Ja) (k : E2 19 D (fun y => y = r) 59 [(0, .ref 0)] Ia Ja) : mj_Cl mj_S2 mj_CD (D + 1) 19 [.ref 0] (I2, J2, mj_R2) r := by
  obtain ⟨-, ⟨m0, m1, m2, m3, m4, m5⟩, hd, b0, b1, b2, b3, b4, b5⟩ := TD_N hD
  have h35 := hD.1
  have vd : vp_in (nI d) 2 := vp_in_nI hd (by decide)
  refine mj_mk (e19 ?_)
  rw [h35, nI_clamp (by omega), m0, m1, m3, m4, nI_add, nI_add]
  refine ⟨vd, if_i (fun z => ?_) (fun z => ?_)⟩
  · rw [tf_t ((nI_eq (b := 4) (by omega) (by decide)).mp z)] at c20
    refine ⟨vd, vd, vd, if_i (fun q => ?_) (fun q => ?_)⟩
    · have q := (nI_leI (b := 0) (by omega) (by decide)).mp q
      rw [tf_f (by omega)] at c20
      exact ⟨trivial, _, _, c20, k⟩
    · rw [tf_t (Classical.byContradiction fun w => q ((nI_leI (b := 0) (by omega) (by decide)).mpr (by omega)))] at c20
      exact ⟨trivial, _, _, c20, k⟩
  · rw [tf_f (show ¬ W = 4 from fun w => z (by rw [w]; rfl))] at c20
    refine ⟨vd, vd, vd, if_i (fun q => ?_) (fun q => ?_)⟩
    · have q := (nI_leI (b := 0) (by omega) (by decide)).mp q
      rw [tf_f (by omega)] at c20
      exact ⟨trivial, _, _, c20, k⟩
    · rw [tf_t (Classical.byContradiction fun w => q ((nI_leI (b := 0) (by omega) (by decide)).mpr (by omega)))] at c20
      exact ⟨trivial, _, _, c20, k⟩
theorem r27_in {r : mj_R} {Ia : (Nat → Nat → Int32)} {Ja : (Nat → Nat → Int64)} (hD : TD d W Rn Kn Tn Hn Un S F I1 I2 J2) (c20 : C2 D 20 [.ref 0, .int (tf (Rn = 40)), .int (tf (W = 0))] I2 J2 .null Ia Ja) (k : E2 27 D (fun y => y = r) 40 [(0, .ref 0)] Ia Ja) : mj_Cl mj_S2 mj_CD (D + 1) 27 [.ref 0] (I2, J2, mj_R2) r := by
  obtain ⟨-, ⟨m0, m1, m2, m3, m4, m5⟩, hd, b0, b1, b2, b3, b4, b5⟩ := TD_N hD
  have h35 := hD.1
  have vd : vp_in (nI d) 2 := vp_in_nI hd (by decide)
  refine mj_mk (e27 ?_)
  rw [h35, nI_clamp (by omega), m0, m1]
  refine ⟨vd, if_i (fun z => ?_) (fun z => ?_)⟩
  · rw [tf_t ((nI_eq (b := 40) (by omega) (by decide)).mp z)] at c20
    refine ⟨vd, if_i (fun q => ?_) (fun q => ?_)⟩
    · rw [tf_t ((nI_eq (b := 0) (by omega) (by decide)).mp q)] at c20
      exact ⟨trivial, _, _, c20, k⟩
    · rw [tf_f (show ¬ W = 0 from fun w => q (by rw [w]; rfl))] at c20
      exact ⟨trivial, _, _, c20, k⟩
  · rw [tf_f (show ¬ Rn = 40 from fun w => z (by rw [w]; rfl))] at c20
    refine ⟨vd, if_i (fun q => ?_) (fun q => ?_)⟩
    · rw [tf_t ((nI_eq (b := 0) (by omega) (by decide)).mp q)] at c20
      exact ⟨trivial, _, _, c20, k⟩
    · rw [tf_f (show ¬ W = 0 from fun w => q (by rw [w]; rfl))] at c20
      exact ⟨trivial, _, _, c20, k⟩
theorem r30_in {r : mj_R} {Ia : (Nat → Nat → Int32)} {Ja : (Nat → Nat → Int64)} (hD : TD d W Rn Kn Tn Hn Un S F I1 I2 J2) (c20 : C2 D 20 [.ref 0, .int (tf (Tn = 24)), .int (tf (W = 0))] I2 J2 .null Ia Ja) (k : E2 30 D (fun y => y = r) 40 [(0, .ref 0)] Ia Ja) : mj_Cl mj_S2 mj_CD (D + 1) 30 [.ref 0] (I2, J2, mj_R2) r := by
  obtain ⟨-, ⟨m0, m1, m2, m3, m4, m5⟩, hd, b0, b1, b2, b3, b4, b5⟩ := TD_N hD
  have h35 := hD.1
  have vd : vp_in (nI d) 2 := vp_in_nI hd (by decide)
  refine mj_mk (e30 ?_)
  rw [h35, nI_clamp (by omega), m0, m3]
  refine ⟨vd, if_i (fun z => ?_) (fun z => ?_)⟩
  · rw [tf_t ((nI_eq (b := 24) (by omega) (by decide)).mp z)] at c20
    refine ⟨vd, if_i (fun q => ?_) (fun q => ?_)⟩
    · rw [tf_t ((nI_eq (b := 0) (by omega) (by decide)).mp q)] at c20
      exact ⟨trivial, _, _, c20, k⟩
    · rw [tf_f (show ¬ W = 0 from fun w => q (by rw [w]; rfl))] at c20
      exact ⟨trivial, _, _, c20, k⟩
  · rw [tf_f (show ¬ Tn = 24 from fun w => z (by rw [w]; rfl))] at c20
    refine ⟨vd, if_i (fun q => ?_) (fun q => ?_)⟩
    · rw [tf_t ((nI_eq (b := 0) (by omega) (by decide)).mp q)] at c20
      exact ⟨trivial, _, _, c20, k⟩
    · rw [tf_f (show ¬ W = 0 from fun w => q (by rw [w]; rfl))] at c20
      exact ⟨trivial, _, _, c20, k⟩
theorem r32_in {r : mj_R} {Ia : (Nat → Nat → Int32)} {Ja : (Nat → Nat → Int64)} (hD : TD d W Rn Kn Tn Hn Un S F I1 I2 J2) (c20 : C2 D 20 [.ref 0, .int (tf (Hn = 12)), .int (tf (W = 0))] I2 J2 .null Ia Ja) (k : E2 32 D (fun y => y = r) 40 [(0, .ref 0)] Ia Ja) : mj_Cl mj_S2 mj_CD (D + 1) 32 [.ref 0] (I2, J2, mj_R2) r := by
  obtain ⟨-, ⟨m0, m1, m2, m3, m4, m5⟩, hd, b0, b1, b2, b3, b4, b5⟩ := TD_N hD
  have h35 := hD.1
  have vd : vp_in (nI d) 2 := vp_in_nI hd (by decide)
  refine mj_mk (e32 ?_)
  rw [h35, nI_clamp (by omega), m0, m4]
  refine ⟨vd, if_i (fun z => ?_) (fun z => ?_)⟩
  · rw [tf_t ((nI_eq (b := 12) (by omega) (by decide)).mp z)] at c20
    refine ⟨vd, if_i (fun q => ?_) (fun q => ?_)⟩
    · rw [tf_t ((nI_eq (b := 0) (by omega) (by decide)).mp q)] at c20
      exact ⟨trivial, _, _, c20, k⟩
    · rw [tf_f (show ¬ W = 0 from fun w => q (by rw [w]; rfl))] at c20
      exact ⟨trivial, _, _, c20, k⟩
  · rw [tf_f (show ¬ Hn = 12 from fun w => z (by rw [w]; rfl))] at c20
    refine ⟨vd, if_i (fun q => ?_) (fun q => ?_)⟩
    · rw [tf_t ((nI_eq (b := 0) (by omega) (by decide)).mp q)] at c20
      exact ⟨trivial, _, _, c20, k⟩
    · rw [tf_f (show ¬ W = 0 from fun w => q (by rw [w]; rfl))] at c20
      exact ⟨trivial, _, _, c20, k⟩
-- which statement it is
theorem r17_0 {r : mj_R} {Ia : (Nat → Nat → Int32)} {Ja : (Nat → Nat → Int64)} (h : tkR n x p a t v l o I1 I2 J2) (ho : o = (0 : Nat)) (c : C2 (D + 1) 19 [.ref 0] I2 J2 .null Ia Ja) (k : E2 17 (D + 1) (fun y => y = r) 296 [(0, .ref 0)] Ia Ja) : mj_Cl mj_S2 mj_CD (D + 2) 17 [.ref 0] (I2, J2, mj_R2) r :=
  mj_mk (e17 ⟨trivial, _, _, _, wd_r (w := 0) h (by decide), if_tf (fun _ => ⟨trivial, _, _, c, k⟩) (fun z => absurd ho z)⟩)
theorem r17_1 {r : mj_R} {Ia : (Nat → Nat → Int32)} {Ja : (Nat → Nat → Int64)} (h : tkR n x p a t v l o I1 I2 J2) (ho : o = (1 : Nat)) (c : C2 (D + 1) 27 [.ref 0] I2 J2 .null Ia Ja) (k : E2 17 (D + 1) (fun y => y = r) 296 [(0, .ref 0)] Ia Ja) : mj_Cl mj_S2 mj_CD (D + 2) 17 [.ref 0] (I2, J2, mj_R2) r :=
  mj_mk (e17 ⟨trivial, _, _, _, wd_r (w := 0) h (by decide), if_tf (fun z => absurd z (by omega)) (fun _ => ⟨trivial, _, _, _, wd_r (w := 1) h (by decide), if_tf (fun _ => ⟨trivial, _, _, c, k⟩) (fun z => absurd ho z)⟩)⟩)
theorem r17_2 {r : mj_R} {Ia : (Nat → Nat → Int32)} {Ja : (Nat → Nat → Int64)} (hD : TD d W Rn Kn Tn Hn Un S F I1 I2 J2) (h : tkR n x p a t v l o I1 I2 J2) (ho : o = (2 : Nat)) (c20 : C2 (D + 1) 20 [.ref 0, .int (tf (Kn = 10)), .int (tf False)] I2 J2 .null Ia Ja) (k : E2 17 (D + 1) (fun y => y = r) 68 [(0, .ref 0)] Ia Ja) : mj_Cl mj_S2 mj_CD (D + 2) 17 [.ref 0] (I2, J2, mj_R2) r := by
  obtain ⟨-, ⟨m0, m1, m2, m3, m4, m5⟩, hd, b0, b1, b2, b3, b4, b5⟩ := TD_N hD
  have h35 := hD.1
  have vd : vp_in (nI d) 2 := vp_in_nI hd (by decide)
  rw [tf_f id] at c20
  refine mj_mk (e17 ⟨trivial, _, _, _, wd_r (w := 0) h (by decide), if_tf (fun z => absurd z (by omega)) (fun _ => ⟨trivial, _, _, _, wd_r (w := 1) h (by decide), if_tf (fun z => absurd z (by omega)) (fun _ => ⟨trivial, _, _, _, wd_r (w := 2) h (by decide), if_tf (fun _ => ?_) (fun z => absurd ho z)⟩)⟩)⟩)
  rw [h35, nI_clamp (by omega), m2]
  refine ⟨vd, if_i (fun z => ?_) (fun z => ?_)⟩
  · rw [tf_t ((nI_eq (b := 10) (by omega) (by decide)).mp z)] at c20
    exact ⟨trivial, _, _, c20, k⟩
  · rw [tf_f (show ¬ Kn = 10 from fun w => z (by rw [w]; rfl))] at c20
    exact ⟨trivial, _, _, c20, k⟩
theorem r17_3 {r : mj_R} {Ia : (Nat → Nat → Int32)} {Ja : (Nat → Nat → Int64)} (h : tkR n x p a t v l o I1 I2 J2) (ho : o = (3 : Nat)) (c : C2 (D + 1) 30 [.ref 0] I2 J2 .null Ia Ja) (k : E2 17 (D + 1) (fun y => y = r) 296 [(0, .ref 0)] Ia Ja) : mj_Cl mj_S2 mj_CD (D + 2) 17 [.ref 0] (I2, J2, mj_R2) r :=
  mj_mk (e17 ⟨trivial, _, _, _, wd_r (w := 0) h (by decide), if_tf (fun z => absurd z (by omega)) (fun _ => ⟨trivial, _, _, _, wd_r (w := 1) h (by decide), if_tf (fun z => absurd z (by omega)) (fun _ => ⟨trivial, _, _, _, wd_r (w := 2) h (by decide), if_tf (fun z => absurd z (by omega)) (fun _ => ⟨trivial, _, _, _, wd_r (w := 3) h (by decide), if_tf (fun _ => ⟨trivial, _, _, c, k⟩) (fun z => absurd ho z)⟩)⟩)⟩)⟩)
theorem r17_4 {r : mj_R} {Ia : (Nat → Nat → Int32)} {Ja : (Nat → Nat → Int64)} (h : tkR n x p a t v l o I1 I2 J2) (ho : o = (4 : Nat)) (c : C2 (D + 1) 32 [.ref 0] I2 J2 .null Ia Ja) (k : E2 17 (D + 1) (fun y => y = r) 296 [(0, .ref 0)] Ia Ja) : mj_Cl mj_S2 mj_CD (D + 2) 17 [.ref 0] (I2, J2, mj_R2) r :=
  mj_mk (e17 ⟨trivial, _, _, _, wd_r (w := 0) h (by decide), if_tf (fun z => absurd z (by omega)) (fun _ => ⟨trivial, _, _, _, wd_r (w := 1) h (by decide), if_tf (fun z => absurd z (by omega)) (fun _ => ⟨trivial, _, _, _, wd_r (w := 2) h (by decide), if_tf (fun z => absurd z (by omega)) (fun _ => ⟨trivial, _, _, _, wd_r (w := 3) h (by decide), if_tf (fun z => absurd z (by omega)) (fun _ => ⟨trivial, _, _, _, wd_r (w := 4) h (by decide), if_tf (fun _ => ⟨trivial, _, _, c, k⟩) (fun z => absurd ho z)⟩)⟩)⟩)⟩)⟩)
theorem r17_5 {r : mj_R} {Ia : (Nat → Nat → Int32)} {Ja : (Nat → Nat → Int64)} (hD : TD d W Rn Kn Tn Hn Un S F I1 I2 J2) (h : tkR n x p a t v l o I1 I2 J2) (ho : o = (5 : Nat)) (c20 : C2 (D + 1) 20 [.ref 0, .int (tf (Un = 12)), .int (tf False)] I2 J2 .null Ia Ja) (k : E2 17 (D + 1) (fun y => y = r) 194 [(0, .ref 0)] Ia Ja) : mj_Cl mj_S2 mj_CD (D + 2) 17 [.ref 0] (I2, J2, mj_R2) r := by
  obtain ⟨-, ⟨m0, m1, m2, m3, m4, m5⟩, hd, b0, b1, b2, b3, b4, b5⟩ := TD_N hD
  have h35 := hD.1
  have vd : vp_in (nI d) 2 := vp_in_nI hd (by decide)
  rw [tf_f id] at c20
  refine mj_mk (e17 ⟨trivial, _, _, _, wd_r (w := 0) h (by decide), if_tf (fun z => absurd z (by omega)) (fun _ => ⟨trivial, _, _, _, wd_r (w := 1) h (by decide), if_tf (fun z => absurd z (by omega)) (fun _ => ⟨trivial, _, _, _, wd_r (w := 2) h (by decide), if_tf (fun z => absurd z (by omega)) (fun _ => ⟨trivial, _, _, _, wd_r (w := 3) h (by decide), if_tf (fun z => absurd z (by omega)) (fun _ => ⟨trivial, _, _, _, wd_r (w := 4) h (by decide), if_tf (fun z => absurd z (by omega)) (fun _ => ⟨trivial, _, _, _, wd_r (w := 5) h (by decide), if_tf (fun _ => ?_) (fun z => absurd ho z)⟩)⟩)⟩)⟩)⟩)⟩)
  rw [h35, nI_clamp (by omega), m5]
  refine ⟨vd, if_i (fun z => ?_) (fun z => ?_)⟩
  · rw [tf_t ((nI_eq (b := 12) (by omega) (by decide)).mp z)] at c20
    exact ⟨trivial, _, _, c20, k⟩
  · rw [tf_f (show ¬ Un = 12 from fun w => z (by rw [w]; rfl))] at c20
    exact ⟨trivial, _, _, c20, k⟩
theorem r17_n {r : mj_R} {Ia : (Nat → Nat → Int32)} {Ja : (Nat → Nat → Int64)} (h : tkR n x p a t v l o I1 I2 J2) (ho : ∀ w : Nat, w ≤ 5 → o ≠ (w : Nat)) (c : C2 (D + 1) 16 [.ref 0, .int 1, .int (I2 0 4)] I2 J2 .null Ia Ja) (k : E2 17 (D + 1) (fun y => y = r) 296 [(0, .ref 0)] Ia Ja) : mj_Cl mj_S2 mj_CD (D + 2) 17 [.ref 0] (I2, J2, mj_R2) r :=
  mj_mk (e17 ⟨trivial, _, _, _, wd_r (w := 0) h (by decide), if_tf (fun z => absurd z (ho 0 (by decide))) (fun _ => ⟨trivial, _, _, _, wd_r (w := 1) h (by decide), if_tf (fun z => absurd z (ho 1 (by decide))) (fun _ => ⟨trivial, _, _, _, wd_r (w := 2) h (by decide), if_tf (fun z => absurd z (ho 2 (by decide))) (fun _ => ⟨trivial, _, _, _, wd_r (w := 3) h (by decide), if_tf (fun z => absurd z (ho 3 (by decide))) (fun _ => ⟨trivial, _, _, _, wd_r (w := 4) h (by decide), if_tf (fun z => absurd z (ho 4 (by decide))) (fun _ => ⟨trivial, _, _, _, wd_r (w := 5) h (by decide), if_tf (fun z => absurd z (ho 5 (by decide))) (fun _ => ⟨trivial, _, _, c, k⟩)⟩)⟩)⟩)⟩)⟩)⟩)
theorem r21_D (h : ¬ I2 0 8 ≤ 0) : C2 (D + 1) 21 [.ref 0] I2 J2 (.long 0) I2 J2 := by
  refine mj_mk (e21 ?_)
  rw [if_neg h]
end Sa9f
end
section
/-! wishes and knots, on both sides -/
section Sa9g
variable {n d W Rn Kn Tn Hn Un S F mc : Nat} {x : Nat → Nat} {B1 B2 : Nat → Nat → Int32} {BJ : Nat → Nat → Int64}
variable {D D' E p a t v : Nat} {l : List Nat} {o : Int} {I1 I2 : Nat → Nat → Int32} {J1 J2 : Nat → Nat → Int64}
theorem nmq_l (h : lxl l) : nmq (nI (nmC l)) (lN (nmR l)) := ⟨l, h.1, h.2.1, h.2.2, rfl, rfl⟩
theorem TD_new {W' Rn' Kn' Tn' Hn' : Nat} {I1' I2' : (Nat → Nat → Int32)} {J2' : (Nat → Nat → Int64)} (h : TD d W Rn Kn Tn Hn Un S F I1 I2 J2) (a9 : I1' 14 9 = I1 14 9) (e35 : I2' 0 35 = I2 0 35) (e34 : I2' 0 34 = I2 0 34) (er : ∀ j, I1' 23 j = I1 23 j) (hN : tlN 14 d W' Rn' Kn' Tn' Hn' Un I1' I2') (ho : TDo d W' Rn' Kn' Tn' Hn' Un S F I1' I2' J2') : TD d W' Rn' Kn' Tn' Hn' Un S F I1' I2' J2' :=
  ⟨by rw [e35]; exact h.1, by rw [a9]; exact h.2.1, by rw [rb_cg fun j _ => er j]; exact h.2.2.1, by rw [e34]; exact h.2.2.2.1, hN, ho⟩
theorem mst_0 : mj_most 0 = nI 4 := rfl
theorem mst_1 : mj_most 1 = nI 40 := rfl
theorem mst_2 : mj_most 2 = nI 10 := rfl
theorem mst_3 : mj_most 3 = nI 24 := rfl
theorem mst_4 : mj_most 4 = nI 12 := rfl
theorem mst_5 : mj_most 5 = nI 12 := rfl
/-- a knot -/
theorem st_knot (h : RS n x d B1 B2 BJ W Rn Kn Tn Hn Un S F mc p a t v l o I1 I2 J2) (ho : o = (2 : Nat)) : STO n x d B1 B2 BJ D D' mc p J1 I1 I2 J2 := by
  have hk := h.1
  have hD := h.2.2.1
  obtain ⟨⟨n0, n1, n2, n3, n4, n5⟩, ⟨m0, m1, m2, m3, m4, m5⟩, hd, b0, b1, b2, b3, b4, b5⟩ := TD_N hD
  have t3 := (tk_w hk (w := 2) (by decide) ho).1
  have h7 := own_n hk (by decide) ho
  obtain ⟨Ia, Ra, Sa, k1, k2⟩ := cnt_both (D := D + 5) (D' := D' + 3) (J1 := J1) (y1 := tf (Kn = 10)) (y2 := tf False) h t3 rfl rfl
  have c145' := c145 (D := D + 7) (J1 := J1) hD (k := 2) (by decide)
  have ne : ¬ erl 2 W Rn Tn Hn := by
    rintro (⟨q, -⟩ | ⟨q, -⟩) <;> omega
  rw [tf_f ne] at c145'
  have dead : ∀ {R : (Nat → Nat → Int32)} {S' : (Nat → Nat → Int64)} {Q : mj_R → Prop}, ¬ R 0 8 = 0 → ¬ R 0 8 ≤ 0 → E2 17 (D' + 6) Q 296 [(0, .ref 0)] R S' → E2 17 (D' + 6) Q 68 [(0, .ref 0)] R S' := fun {R S' Q} q1 q2 hQ => by
    refine mj_on (s17_68 ?_)
    refine ⟨trivial, _, _, _, r21_D (D := D' + 5) q2, ?_⟩
    rw [if_neg q1]
    refine mj_on (s17_103 ?_)
    rw [if_neg q1]
    exact hQ
  rcases k2 with ⟨f, c, q⟩ | ⟨f, e, -⟩ | ⟨f, -, c, -, q⟩
  · exact ⟨Ia, Ra, Sa, c143_full (k := 2) h7 (by decide) n2 mst_2 (by decide) f c, fun r hr => r17_2 hD hk ho k1 (dead (DS_8 q).1 (DS_8 q).2 hr), Or.inr q⟩
  · exact e.elim
  have hlt : Kn < 10 := by omega
  rcases q with ⟨p1, a1, t1, v1, l1, o1, q, hp⟩ | q
  rotate_left
  · obtain ⟨Ib, c2, q2, -⟩ := e_name (D := D + 6) (J1 := J1) (c := 2) q
    exact ⟨Ib, Ra, Sa, c143_go (k := 2) h7 (by decide) n2 mst_2 (by decide) hlt c145' c (Or.inr (Or.inr (Or.inl ⟨rfl, c2⟩))), fun r hr => r17_2 hD hk ho k1 (dead (DS_8 q).1 (DS_8 q).2 hr), Or.inr q2⟩
  obtain ⟨r, Ib, Rb, Sb, c2, c3, f1, f2, q2⟩ := name_both (D := D + 4) (D' := D' + 3) (J1 := J1) (i := 2) (N := Kn) q (Or.inr (Or.inr (Or.inl ⟨rfl, rfl, hlt⟩)))
  have cc := c143_go (k := 2) h7 (by decide) n2 mst_2 (by decide) hlt c145' c (Or.inr (Or.inr (Or.inl ⟨rfl, c2⟩)))
  rcases q2 with ⟨hl, hr, f3, p2, a2, t2, v2, l2, o2, q3, hp2⟩ | q2
  rotate_left
  · refine ⟨Ib, Rb, Sb, cc, fun r' hr' => r17_2 hD hk ho k1 (mj_on (s17_68 ?_)), Or.inr q2⟩
    refine ⟨trivial, _, _, _, c3, ?_⟩
    rw [if_neg (DS_8 q2).1]
    refine mj_on (s17_103 ?_)
    rw [if_neg (DS_8 q2).1]
    exact hr'
  rw [show 40 * 2 + Kn = 80 + Kn from rfl] at f3
  obtain ⟨-, ⟨fA1, fA2, fA3⟩, hD1, hS1, hF1, hm1⟩ := q
  obtain ⟨⟨n0, n1, n2, n3, n4, n5⟩, ⟨m0, m1, m2, m3, m4, m5⟩, -⟩ := TD_N hD1
  have h35 := hD1.1
  have hb8 := r_8 q3
  have g35 : Rb 0 35 = nI d := by rw [f1 0 35 (by first | decide | exact Or.inl (by decide) | omega)]; exact h35
  have g4 : Rb 4 d = nI Kn := by rw [f1 4 d (by first | decide | exact Or.inl (by decide) | omega)]; exact m2
  have vd : vp_in (nI d) 2 := vp_in_nI hd (by decide)
  have fC : ∀ q j, (q ≠ 11 ∨ j = 9) → (q ≠ 16 ∨ j ≠ 80 + Kn) → (q ≠ 15 ∨ j ≠ 2) → Ib q j = Ia q j := fun q j z1 z2 z3 => by
    rw [f3 q j (by first | decide | exact Or.inl (by decide) | omega), up_n (by first | decide | exact Or.inl (by decide) | omega), up_n (by first | decide | exact Or.inl (by decide) | omega)]
  obtain ⟨Rc, hRc⟩ : ∃ Rc, Rc = mj_up Rb 4 d (nI (Kn + 1)) := ⟨_, rfl⟩
  obtain ⟨Sc, hSc⟩ : ∃ Sc, Sc = mj_up Sb 13 (10 * d + Kn) r := ⟨_, rfl⟩
  have fR : ∀ q j, (q ≠ 0 ∨ (j ≠ 3 ∧ j ≠ 4 ∧ j ≠ 5 ∧ j ≠ 6 ∧ j ≠ 8 ∧ j ≠ 9)) → (q ≠ 4 ∨ j ≠ d) → Rc q j = Ra q j := fun q j z1 z2 => by
    rw [hRc, up_n (by first | decide | exact Or.inl (by decide) | omega)]; exact f1 q j z1
  have fJ : ∀ q j, (q ≠ 0 ∨ j ≠ 7) → (q ≠ 13 ∨ j ≠ 10 * d + Kn) → Sc q j = Sa q j := fun q j z1 z2 => by
    rw [hSc, up_n (by first | decide | exact Or.inl (by decide) | omega)]; exact f2 q j z1
  refine ⟨Ib, Rc, Sc, cc, fun r' hr' => r17_2 hD hk ho k1 (mj_on (s17_68 ?_)), Or.inl ⟨W, Rn, Kn + 1, Tn, Hn, Un, S, F, p2, a2, t2, v2, l2, o2, ⟨tkR_cg q3 (fun _ _ _ => rfl) (fun q j z => by rw [hRc, up_n (by first | decide | exact Or.inl (by decide) | omega)]) (by rw [hSc, up_n (by first | decide | exact Or.inl (by decide) | omega)]), ⟨fun q j z1 z2 => ?_, fun q j z1 z2 z3 => ?_, fun q j z1 z2 => ?_⟩, ?_, by omega, by omega, ?_⟩, by omega⟩⟩
  · refine ⟨trivial, _, _, _, c3, ?_⟩
    rw [if_pos hb8, g35, nI_clamp (by first | decide | exact Or.inl (by decide) | omega), g4, show (10 : Int32) = nI 10 from rfl, pk_mul, nI_add, nI_clamp (by first | decide | exact Or.inl (by decide) | omega), ← hSc]
    refine ⟨vd, vp_in_nI (by first | decide | exact Or.inl (by decide) | omega) (by decide), ?_⟩
    refine mj_on (s17_103 ?_)
    rw [if_pos hb8, g35, nI_clamp (by first | decide | exact Or.inl (by decide) | omega), g4, nI_1, ← hRc]
    exact ⟨vd, vd, hr'⟩
  · rw [fC q j (Or.inl z1) (by first | decide | exact Or.inl (by decide) | omega) (by first | decide | exact Or.inl (by decide) | omega)]; exact fA1 q j z1 z2
  · rw [fR q j (by unfold tsz at z1; omega) (by unfold oub at z3; omega)]; exact fA2 q j z1 z2 z3
  · rw [fJ q j z1 (by unfold oub at z2; omega)]; exact fA3 q j z1 z2
  · have hO := TDo_up (I1' := Ib) (I2' := Rc) (J2' := Sc) hD1.2.2.2.2.2 b0 (fun q j z => fC q j (by unfold inC at z; omega) (by unfold inC at z; omega) (by unfold inC at z; omega)) (fun q j z => fR q j (by unfold inR at z; omega) (by unfold inR at z; omega)) (fun q j z => fJ q j (by unfold inJ at z; omega) (by unfold inJ at z; omega))
    refine TD_new hD1 (fC 14 9 (by first | decide | exact Or.inl (by decide) | omega) (by first | decide | exact Or.inl (by decide) | omega) (by first | decide | exact Or.inl (by decide) | omega)) (fR 0 35 (by first | decide | exact Or.inl (by decide) | omega) (by first | decide | exact Or.inl (by decide) | omega)) (fR 0 34 (by first | decide | exact Or.inl (by decide) | omega) (by first | decide | exact Or.inl (by decide) | omega)) (fun j => fC 23 j (by first | decide | exact Or.inl (by decide) | omega) (by first | decide | exact Or.inl (by decide) | omega) (by first | decide | exact Or.inl (by decide) | omega)) ⟨?_, ?_, ?_, ?_, ?_, ?_, ?_, ?_, ?_, ?_, ?_, ?_, hd, b0, b1, by omega, b3, b4, b5⟩ ?_
    · exact (fC 15 0 (by first | decide | exact Or.inl (by decide) | omega) (by first | decide | exact Or.inl (by decide) | omega) (by first | decide | exact Or.inl (by decide) | omega)).trans n0
    · exact (fC 15 1 (by first | decide | exact Or.inl (by decide) | omega) (by first | decide | exact Or.inl (by decide) | omega) (by first | decide | exact Or.inl (by decide) | omega)).trans n1
    · show Ib 15 2 = _
      rw [f3 15 2 (by first | decide | exact Or.inl (by decide) | omega), up_s]
    · exact (fC 15 3 (by first | decide | exact Or.inl (by decide) | omega) (by first | decide | exact Or.inl (by decide) | omega) (by first | decide | exact Or.inl (by decide) | omega)).trans n3
    · exact (fC 15 4 (by first | decide | exact Or.inl (by decide) | omega) (by first | decide | exact Or.inl (by decide) | omega) (by first | decide | exact Or.inl (by decide) | omega)).trans n4
    · exact (fC 15 5 (by first | decide | exact Or.inl (by decide) | omega) (by first | decide | exact Or.inl (by decide) | omega) (by first | decide | exact Or.inl (by decide) | omega)).trans n5
    · exact (fR 2 d (by first | decide | exact Or.inl (by decide) | omega) (by first | decide | exact Or.inl (by decide) | omega)).trans m0
    · exact (fR 3 d (by first | decide | exact Or.inl (by decide) | omega) (by first | decide | exact Or.inl (by decide) | omega)).trans m1
    · rw [hRc, up_s]
    · exact (fR 5 d (by first | decide | exact Or.inl (by decide) | omega) (by first | decide | exact Or.inl (by decide) | omega)).trans m3
    · exact (fR 6 d (by first | decide | exact Or.inl (by decide) | omega) (by first | decide | exact Or.inl (by decide) | omega)).trans m4
    · exact (fR 7 d (by first | decide | exact Or.inl (by decide) | omega) (by first | decide | exact Or.inl (by decide) | omega)).trans m5
    · obtain ⟨g1, g2, g3, g4, ⟨g5, g6, g7, g8⟩, g9⟩ := hO
      refine ⟨g1, g2, fun t ht => ?_, g4, ⟨g5, g6, fun k hk' => ?_, g8⟩, g9⟩
      · obtain ⟨w1, w2, ⟨x', y', w3, w4, w5⟩, w6⟩ := g3 t ht
        exact ⟨w1, w2, ⟨x', y', by omega, by omega, w5⟩, w6⟩
      · by_cases e : k = Kn
        · rw [e]
          show nmq (Ib 16 (80 + Kn)) _
          rw [f3 16 _ (by first | decide | exact Or.inl (by decide) | omega), up_n (by first | decide | exact Or.inl (by decide) | omega), hSc, up_s, up_s, hr]
          exact nmq_l hl
        · exact g7 k (by first | decide | exact Or.inl (by decide) | omega)
  · exact ⟨(fC 14 0 (by first | decide | exact Or.inl (by decide) | omega) (by first | decide | exact Or.inl (by decide) | omega) (by first | decide | exact Or.inl (by decide) | omega)).trans hm1.1, (fC 11 9 (by first | decide | exact Or.inl (by decide) | omega) (by first | decide | exact Or.inl (by decide) | omega) (by first | decide | exact Or.inl (by decide) | omega)).trans hm1.2⟩
theorem r19_D {Q : mj_R → Prop} (h8 : ¬ I2 0 8 = 0) (h8' : ¬ I2 0 8 ≤ 0) (hQ : Q (.null, (I2, J2, mj_R2))) : E2 19 (D + 1) Q 59 [(0, .ref 0)] I2 J2 := by
  refine mj_on (s19_59 ?_)
  refine ⟨trivial, _, _, _, r21_D h8', ?_⟩
  rw [if_neg h8]
  refine mj_on (s19_100 _ ?_)
  rw [if_neg h8']
  exact hQ
/-- a wish -/
theorem st_wish (h : RS n x d B1 B2 BJ W Rn Kn Tn Hn Un S F mc p a t v l o I1 I2 J2) (ho : o = (0 : Nat)) : STO n x d B1 B2 BJ D D' mc p J1 I1 I2 J2 := by
  have hk := h.1
  have hD := h.2.2.1
  obtain ⟨⟨n0, n1, n2, n3, n4, n5⟩, ⟨m0, m1, m2, m3, m4, m5⟩, hd, b0, b1, b2, b3, b4, b5⟩ := TD_N hD
  have t3 := (tk_w hk (w := 0) (by decide) ho).1
  have h7 := own_n hk (by decide) ho
  obtain ⟨Ia, Ra, Sa, k1, k2⟩ := cnt_both (D := D + 5) (D' := D' + 2) (J1 := J1) (y1 := tf (W = 4)) (y2 := tf (0 < Rn + Tn + Hn)) h t3 rfl rfl
  have c145' := c145 (D := D + 7) (J1 := J1) hD (k := 0) (by decide)
  have ee : erl 0 W Rn Tn Hn ↔ 0 < Rn + Tn + Hn := ⟨fun q => by rcases q with ⟨-, q⟩ | ⟨q, -⟩ <;> omega, fun q => Or.inl ⟨rfl, q⟩⟩
  rw [tf_iff ee] at c145'
  have v0 : vp_in (0 : Int32) 6 := vp_in_nI (n := 0) (by decide) (by decide)
  have rin : ∀ {R : (Nat → Nat → Int32)} {S' : (Nat → Nat → Int64)} {r : mj_R}, E2 19 (D' + 5) (fun y => y = (.null, (R, S', mj_R2))) 59 [(0, .ref 0)] Ra Sa → E2 17 (D' + 6) (fun y => y = r) 296 [(0, .ref 0)] R S' → mj_Cl mj_S2 mj_CD (D' + 7) 17 [.ref 0] (I2, J2, mj_R2) r := fun {R S' r} q1 q2 => r17_0 (D := D' + 5) hk ho (r19_in hD k1 q1) q2
  rcases k2 with ⟨f, c, q⟩ | ⟨f, e, c, q⟩ | ⟨f, e, c, -, q⟩
  · exact ⟨Ia, Ra, Sa, c143_full (k := 0) h7 (by decide) n0 mst_0 (by decide) f c, fun r hr => rin (r19_D (D := D' + 4) (DS_8 q).1 (DS_8 q).2 rfl) hr, Or.inr q⟩
  · rw [tf_t e] at c145'
    exact ⟨Ia, Ra, Sa, c143_early (k := 0) h7 (by decide) n0 mst_0 (by decide) (by first | decide | exact Or.inl (by decide) | omega) c145' c, fun r hr => rin (r19_D (D := D' + 4) (DS_8 q).1 (DS_8 q).2 rfl) hr, Or.inr q⟩
  rw [tf_f e] at c145'
  have hlt : W < 4 := by omega
  rcases q with ⟨p1, a1, t1, v1, l1, o1, q, hp⟩ | q
  rotate_left
  · obtain ⟨Ib, c2, q2⟩ := e_wish (D := D + 5) (J1 := J1) q
    exact ⟨Ib, Ra, Sa, c143_go (k := 0) h7 (by decide) n0 mst_0 (by decide) hlt c145' c (Or.inl ⟨rfl, c2⟩), fun r hr => rin (r19_D (D := D' + 4) (DS_8 q).1 (DS_8 q).2 rfl) hr, Or.inr q2⟩
  have n0a : Ia 15 0 = nI W := (TD_N q.2.2.1).1.1
  obtain ⟨r, Ib, Rb, Sb, c2, c3, f1, f2, q2⟩ := name_both (D := D + 3) (D' := D' + 2) (J1 := J1) (i := 0) (N := W) q (Or.inl ⟨rfl, rfl, hlt⟩)
  rcases q2 with ⟨hl, hr, f3, p2, a2, t2, v2, l2, o2, q3, hp2⟩ | q2
  rotate_left
  · obtain ⟨Ic, c4, q4, -⟩ := e_bl (D := D + 6) (J1 := J1) q2
    refine ⟨Ic, Rb, Sb, c143_go (k := 0) h7 (by decide) n0 mst_0 (by decide) hlt c145' c (Or.inl ⟨rfl, mj_mk (e146 ⟨v0, trivial, _, _, c2, ?_⟩)⟩), fun r hr => rin (mj_on (s19_59 ?_)) hr, Or.inr q4⟩
    · rw [(DS_own q2).2, if_neg (by decide), if_neg (by decide)]
      exact ⟨trivial, _, _, c4, rfl⟩
    · refine ⟨trivial, _, _, _, c3, ?_⟩
      rw [if_neg (DS_8 q2).1]
      refine mj_on (s19_100 _ ?_)
      rw [if_neg (DS_8 q2).2]
  rw [show 40 * 0 + W = W by omega] at f3
  obtain ⟨-, ⟨fA1, fA2, fA3⟩, hD1, hS1, hF1, hm1⟩ := q
  obtain ⟨⟨n0, n1, n2, n3, n4, n5⟩, ⟨m0, m1, m2, m3, m4, m5⟩, -⟩ := TD_N hD1
  have h35 := hD1.1
  have hb8 := r_8 q3
  have hb8' : Rb 0 8 ≤ 0 := by rw [hb8]; decide
  have g35 : Rb 0 35 = nI d := by rw [f1 0 35 (by first | decide | exact Or.inl (by decide) | omega)]; exact h35
  have g2 : Rb 2 d = nI W := by rw [f1 2 d (by first | decide | exact Or.inl (by decide) | omega)]; exact m0
  have vd : vp_in (nI d) 2 := vp_in_nI hd (by decide)
  have own : ∀ {w : Nat} {y : Int32}, w < 17 → y = nI w → (Ib 11 7 = y ↔ o2 = w) := fun hw hy => own_eq q3 hw hy
  by_cases lm : o2 = (6 : Nat) ∨ o2 = (7 : Nat)
  rotate_left
  · -- no less, no more
    have l6 : ¬ o2 = (6 : Nat) := fun z => lm (Or.inl z)
    have l7 : ¬ o2 = (7 : Nat) := fun z => lm (Or.inr z)
    obtain ⟨Ic, Rc, c4, c5, c6, c7, c8⟩ := bl_both (D := D + 6) (D' := D' + 4) (J1 := J1) (k := 1) q3 (by decide) (by decide)
    have hw8 := c8.2.2.2.2.2.2.1
    have n8 : ¬ Rc 0 8 = 0 := by rw [hw8]; decide
    have n8' : ¬ Rc 0 8 ≤ 0 := by rw [hw8]; decide
    refine ⟨Ic, Rc, Sb, c143_go (k := 0) h7 (by decide) (TD_N hD).1.1 mst_0 (by decide) hlt c145' c (Or.inl ⟨rfl, mj_mk (e146 ⟨v0, trivial, _, _, c2, ?_⟩)⟩), fun r hr => rin (mj_on (s19_59 ?_)) hr, Or.inr ⟨⟨_, _, c8⟩, ⟨fun q j z1 z2 => ?_, fun q j z1 z2 z3 => ?_, fun q j z1 z2 => ?_⟩, ⟨S, RS_S h, ?_⟩, ⟨W + 1, by omega, ?_⟩, ⟨Un, b5, ?_⟩⟩⟩
    · rw [if_neg (show ¬ Ib 11 7 = (6 : Int32) from fun z => l6 ((own (w := 6) (by decide) rfl).mp z)), if_neg (show ¬ Ib 11 7 = (7 : Int32) from fun z => l7 ((own (w := 7) (by decide) rfl).mp z))]
      exact ⟨trivial, _, _, c4, rfl⟩
    · refine ⟨trivial, _, _, _, c3, ?_⟩
      rw [if_pos hb8]
      refine ⟨trivial, _, _, _, wd_r (w := 6) q3 (by decide), if_tf (fun z => absurd z l6) (fun _ => ⟨trivial, _, _, _, wd_r (w := 7) q3 (by decide), if_tf (fun z => absurd z l7) (fun _ => ⟨trivial, _, _, c5, mj_on (s19_100 _ ?_)⟩)⟩)⟩
      rw [if_neg n8']
    · rw [c6 q j (Or.inl z1), f3 q j (Or.inl z1), up_n (by first | decide | exact Or.inl (by decide) | omega), up_n (by first | decide | exact Or.inl (by decide) | omega)]; exact fA1 q j z1 z2
    · rw [c7 q j (by unfold tsz at z1; omega), f1 q j (by unfold tsz at z1; omega)]; exact fA2 q j z1 z2 z3
    · rw [f2 q j z1]; exact fA3 q j z1 z2
    · rw [c6 14 9 (by first | decide | exact Or.inl (by decide) | omega), f3 14 9 (by first | decide | exact Or.inl (by decide) | omega), up_n (by first | decide | exact Or.inl (by decide) | omega), up_n (by first | decide | exact Or.inl (by decide) | omega)]; exact hD1.2.1
    · rw [c6 15 0 (by first | decide | exact Or.inl (by decide) | omega), f3 15 0 (by first | decide | exact Or.inl (by decide) | omega), up_s]
    · rw [c6 15 5 (by first | decide | exact Or.inl (by decide) | omega), f3 15 5 (by first | decide | exact Or.inl (by decide) | omega), up_n (by first | decide | exact Or.inl (by decide) | omega), up_n (by first | decide | exact Or.inl (by decide) | omega)]; exact n5
  · obtain ⟨mo, hmo⟩ : ∃ mo : Prop, mo = (o2 = (7 : Nat)) := ⟨_, rfl⟩
    obtain ⟨Ic, hIc⟩ : ∃ Ic, Ic = mj_up Ib 17 W (tf mo) := ⟨_, rfl⟩
    obtain ⟨Rc, hRc⟩ : ∃ Rc, Rc = mj_up (mj_up Rb 9 (4 * d + W) (tf mo)) 2 d (nI (W + 1)) := ⟨_, rfl⟩
    obtain ⟨Sc, hSc⟩ : ∃ Sc, Sc = mj_up Sb 8 (4 * d + W) r := ⟨_, rfl⟩
    have q4 : tkR n x p2 a2 t2 v2 l2 o2 Ib Rb Sc := tkR_cg q3 (fun _ _ _ => rfl) (fun _ _ _ => rfl) (by rw [hSc, up_n (by first | decide | exact Or.inl (by decide) | omega)])
    have q5 : tkR n x p2 a2 t2 v2 l2 o2 Ic Rc Sc := tkR_cg q4 (fun q j z => by rw [hIc, up_n (by first | decide | exact Or.inl (by decide) | omega)]) (fun q j z => by rw [hRc, up_n (by first | decide | exact Or.inl (by decide) | omega), up_n (by first | decide | exact Or.inl (by decide) | omega)]) rfl
    have t3' : t2 = 3 := by
      rcases lm with z | z
      · exact (tk_w q3 (w := 6) (by decide) z).1
      · exact (tk_w q3 (w := 7) (by decide) z).1
    obtain ⟨Id, Rd, Sd, c4, c5, c6, c7, c8, c9⟩ := adv_ta (D := D + 4) (D' := D' + 3) (J1 := J1) q5 (by first | decide | exact Or.inl (by decide) | omega)
    have e7 : Ib 11 7 = (7 : Int32) ↔ mo := by rw [hmo]; exact own (w := 7) (by decide) rfl
    have k33 : E1 146 (D + 7) (fun y => y = (.null, (Id, J1, mj_R1))) 33 [(0, .ref 11), (1, .int (nI W))] Ib J1 := by
      refine mj_on (s146_33 _ ?_)
      rw [nI_clamp (by first | decide | exact Or.inl (by decide) | omega), nar_1, nar_0]
      refine if_i (fun z => ⟨vp_in_nI hlt (by decide), mj_on (s146_56 ?_)⟩) (fun z => ⟨vp_in_nI hlt (by decide), mj_on (s146_56 ?_)⟩)
      · rw [tf_t (e7.mp z)] at hIc
        rw [← hIc]
        exact ⟨trivial, _, _, c4, rfl⟩
      · rw [tf_f (fun w => z (e7.mpr w))] at hIc
        rw [← hIc]
        exact ⟨trivial, _, _, c4, rfl⟩
    have k146 : C1 (D + 8) 146 [.ref 11] Ia J1 .null Id J1 := by
      refine mj_mk (e146 ⟨v0, trivial, _, _, c2, ?_⟩)
      rw [z_c, n0a]
      exact if_i (fun _ => k33) (fun z6 => if_i (fun _ => k33) (fun z7 => absurd lm (fun w => w.elim (fun w => z6 ((own (w := 6) (by decide) rfl).mpr w)) (fun w => z7 ((own (w := 7) (by decide) rfl).mpr w)))))
    have k100 : E2 19 (D' + 5) (fun y => y = (.null, (Rd, Sd, mj_R2))) 100 [(0, .ref 0), (1, .long r)] Rb Sb := by
      refine mj_on (s19_100 _ ?_)
      rw [if_pos hb8', g35, nI_clamp (by first | decide | exact Or.inl (by decide) | omega), g2, show (4 : Int32) = nI 4 from rfl, pk_mul, nI_add, nI_clamp (by first | decide | exact Or.inl (by decide) | omega), ← hSc]
      have wr := wd_r (D := D' + 4) (w := 7) q4 (by decide)
      rw [← hmo] at wr
      refine ⟨vd, vp_in_nI (by first | decide | exact Or.inl (by decide) | omega) (by decide), vd, trivial, _, _, _, wr, vp_in_nI (by first | decide | exact Or.inl (by decide) | omega) (by decide), ?_⟩
      have nar : vp_nar .boolean (tf mo) = tf mo := by
        rcases tf_01 mo with z | z
        · rw [z, nar_0]
        · rw [z, nar_1]
      rw [g35, nI_clamp (by first | decide | exact Or.inl (by decide) | omega), g2, nI_1, nar, ← hRc]
      exact ⟨vd, vd, trivial, _, _, c5, rfl⟩
    have k59 : E2 19 (D' + 5) (fun y => y = (.null, (Rd, Sd, mj_R2))) 59 [(0, .ref 0)] Ra Sa := by
      refine mj_on (s19_59 ?_)
      refine ⟨trivial, _, _, _, c3, ?_⟩
      rw [if_pos hb8]
      exact ⟨trivial, _, _, _, wd_r (w := 6) q3 (by decide), if_tf (fun _ => k100) (fun z6 => ⟨trivial, _, _, _, wd_r (w := 7) q3 (by decide), if_tf (fun _ => k100) (fun z7 => absurd lm (fun w => w.elim z6 z7))⟩)⟩
    have fC : ∀ q j, (q ≠ 11 ∨ j = 9) → (q ≠ 16 ∨ j ≠ W) → (q ≠ 15 ∨ j ≠ 0) → (q ≠ 17 ∨ j ≠ W) → Id q j = Ia q j := fun q j z1 z2 z3 z4 => by
      rw [c6 q j (by first | decide | exact Or.inl (by decide) | omega), hIc, up_n (by first | decide | exact Or.inl (by decide) | omega), f3 q j (by first | decide | exact Or.inl (by decide) | omega), up_n (by first | decide | exact Or.inl (by decide) | omega), up_n (by first | decide | exact Or.inl (by decide) | omega)]
    have fR : ∀ q j, (q ≠ 0 ∨ (j ≠ 3 ∧ j ≠ 4 ∧ j ≠ 5 ∧ j ≠ 6 ∧ j ≠ 8 ∧ j ≠ 9)) → (q ≠ 2 ∨ j ≠ d) → (q ≠ 9 ∨ j ≠ 4 * d + W) → Rd q j = Ra q j := fun q j z1 z2 z3 => by
      rw [c7 q j z1, hRc, up_n (by first | decide | exact Or.inl (by decide) | omega), up_n (by first | decide | exact Or.inl (by decide) | omega)]; exact f1 q j z1
    have fJ : ∀ q j, (q ≠ 0 ∨ j ≠ 7) → (q ≠ 8 ∨ j ≠ 4 * d + W) → Sd q j = Sa q j := fun q j z1 z2 => by
      rw [c8 q j z1, hSc, up_n (by first | decide | exact Or.inl (by decide) | omega)]; exact f2 q j z1
    have gA : tfA d B1 B2 BJ Id Rd Sd := by
      refine ⟨fun q j z1 z2 => ?_, fun q j z1 z2 z3 => ?_, fun q j z1 z2 => ?_⟩
      · rw [fC q j (Or.inl z1) (by first | decide | exact Or.inl (by decide) | omega) (by first | decide | exact Or.inl (by decide) | omega) (by first | decide | exact Or.inl (by decide) | omega)]; exact fA1 q j z1 z2
      · rw [fR q j (by unfold tsz at z1; omega) (by unfold oub at z3; omega) (by unfold oub at z3; omega)]; exact fA2 q j z1 z2 z3
      · rw [fJ q j z1 (by unfold oub at z2; omega)]; exact fA3 q j z1 z2
    have g0 : Id 15 0 = nI (W + 1) := by rw [c6 15 0 (by first | decide | exact Or.inl (by decide) | omega), hIc, up_n (by first | decide | exact Or.inl (by decide) | omega), f3 15 0 (by first | decide | exact Or.inl (by decide) | omega), up_s]
    refine ⟨Id, Rd, Sd, c143_go (k := 0) h7 (by decide) (TD_N hD).1.1 mst_0 (by decide) hlt c145' c (Or.inl ⟨rfl, k146⟩), fun r hr => rin k59 hr, ?_⟩
    rcases c9 with ⟨p3, a3, t3, v3, l3, o3, w1, w2, -⟩ | ⟨p3, w1⟩
    rotate_left
    · refine Or.inr ⟨⟨_, _, w1⟩, gA, ⟨S, RS_S h, ?_⟩, ⟨W + 1, by omega, g0⟩, ⟨Un, b5, ?_⟩⟩
      · rw [fC 14 9 (by first | decide | exact Or.inl (by decide) | omega) (by first | decide | exact Or.inl (by decide) | omega) (by first | decide | exact Or.inl (by decide) | omega) (by first | decide | exact Or.inl (by decide) | omega)]; exact hD1.2.1
      · rw [fC 15 5 (by first | decide | exact Or.inl (by decide) | omega) (by first | decide | exact Or.inl (by decide) | omega) (by first | decide | exact Or.inl (by decide) | omega) (by first | decide | exact Or.inl (by decide) | omega)]; exact n5
    refine Or.inl ⟨W + 1, Rn, Kn, Tn, Hn, Un, S, F, p3, a3, t3, v3, l3, o3, ⟨w1, gA, ?_, by omega, by omega, ?_⟩, by omega⟩
    · have hO := TDo_up (I1' := Id) (I2' := Rd) (J2' := Sd) hD1.2.2.2.2.2 b0 (fun q j z => fC q j (by unfold inC at z; omega) (by unfold inC at z; omega) (by unfold inC at z; omega) (by unfold inC at z; omega)) (fun q j z => fR q j (by unfold inR at z; omega) (by unfold inR at z; omega) (by unfold inR at z; omega)) (fun q j z => fJ q j (by unfold inJ at z; omega) (by unfold inJ at z; omega))
      refine TD_new hD1 (fC 14 9 (by first | decide | exact Or.inl (by decide) | omega) (by first | decide | exact Or.inl (by decide) | omega) (by first | decide | exact Or.inl (by decide) | omega) (by first | decide | exact Or.inl (by decide) | omega)) (fR 0 35 (by first | decide | exact Or.inl (by decide) | omega) (by first | decide | exact Or.inl (by decide) | omega) (by first | decide | exact Or.inl (by decide) | omega)) (fR 0 34 (by first | decide | exact Or.inl (by decide) | omega) (by first | decide | exact Or.inl (by decide) | omega) (by first | decide | exact Or.inl (by decide) | omega)) (fun j => fC 23 j (by first | decide | exact Or.inl (by decide) | omega) (by first | decide | exact Or.inl (by decide) | omega) (by first | decide | exact Or.inl (by decide) | omega) (by first | decide | exact Or.inl (by decide) | omega)) ⟨?_, ?_, ?_, ?_, ?_, ?_, ?_, ?_, ?_, ?_, ?_, ?_, hd, by omega, b1, b2, b3, b4, b5⟩ ?_
      · exact g0
      · exact (fC 15 1 (by first | decide | exact Or.inl (by decide) | omega) (by first | decide | exact Or.inl (by decide) | omega) (by first | decide | exact Or.inl (by decide) | omega) (by first | decide | exact Or.inl (by decide) | omega)).trans n1
      · exact (fC 15 2 (by first | decide | exact Or.inl (by decide) | omega) (by first | decide | exact Or.inl (by decide) | omega) (by first | decide | exact Or.inl (by decide) | omega) (by first | decide | exact Or.inl (by decide) | omega)).trans n2
      · exact (fC 15 3 (by first | decide | exact Or.inl (by decide) | omega) (by first | decide | exact Or.inl (by decide) | omega) (by first | decide | exact Or.inl (by decide) | omega) (by first | decide | exact Or.inl (by decide) | omega)).trans n3
      · exact (fC 15 4 (by first | decide | exact Or.inl (by decide) | omega) (by first | decide | exact Or.inl (by decide) | omega) (by first | decide | exact Or.inl (by decide) | omega) (by first | decide | exact Or.inl (by decide) | omega)).trans n4
      · exact (fC 15 5 (by first | decide | exact Or.inl (by decide) | omega) (by first | decide | exact Or.inl (by decide) | omega) (by first | decide | exact Or.inl (by decide) | omega) (by first | decide | exact Or.inl (by decide) | omega)).trans n5
      · rw [c7 2 d (by first | decide | exact Or.inl (by decide) | omega), hRc, up_s]
      · exact (fR 3 d (by first | decide | exact Or.inl (by decide) | omega) (by first | decide | exact Or.inl (by decide) | omega) (by first | decide | exact Or.inl (by decide) | omega)).trans m1
      · exact (fR 4 d (by first | decide | exact Or.inl (by decide) | omega) (by first | decide | exact Or.inl (by decide) | omega) (by first | decide | exact Or.inl (by decide) | omega)).trans m2
      · exact (fR 5 d (by first | decide | exact Or.inl (by decide) | omega) (by first | decide | exact Or.inl (by decide) | omega) (by first | decide | exact Or.inl (by decide) | omega)).trans m3
      · exact (fR 6 d (by first | decide | exact Or.inl (by decide) | omega) (by first | decide | exact Or.inl (by decide) | omega) (by first | decide | exact Or.inl (by decide) | omega)).trans m4
      · exact (fR 7 d (by first | decide | exact Or.inl (by decide) | omega) (by first | decide | exact Or.inl (by decide) | omega) (by first | decide | exact Or.inl (by decide) | omega)).trans m5
      · obtain ⟨g1, g2, g3, g4, ⟨g5, g6, g7, g8⟩, g9⟩ := hO
        refine ⟨fun w hw => ?_, fun r hr => absurd hr (by first | decide | exact Or.inl (by decide) | omega), fun t ht => absurd ht (by first | decide | exact Or.inl (by decide) | omega), fun k hk => absurd hk (by first | decide | exact Or.inl (by decide) | omega), ⟨fun k hk' => ?_, g6, g7, g8⟩, tlV_up g9 (by first | decide | exact Or.inl (by decide) | omega) (Nat.le_refl _) (Nat.le_refl _) (Nat.le_refl _) (fun _ _ _ => rfl) (fun _ _ _ => rfl)⟩
        · by_cases e : w = W
          · rw [e]
            show Rd 9 (4 * d + W) = Id 17 W ∧ (Id 17 W = 0 ∨ Id 17 W = 1)
            rw [c6 17 W (by first | decide | exact Or.inl (by decide) | omega), c7 9 _ (by first | decide | exact Or.inl (by decide) | omega), hIc, hRc, up_s, up_n (by first | decide | exact Or.inl (by decide) | omega), up_s]
            exact ⟨rfl, tf_01 mo⟩
          · exact g1 w (by first | decide | exact Or.inl (by decide) | omega)
        · by_cases e : k = W
          · rw [e]
            show nmq (Id 16 W) _
            rw [c6 16 W (by first | decide | exact Or.inl (by decide) | omega), hIc, up_n (by first | decide | exact Or.inl (by decide) | omega), f3 16 _ (by first | decide | exact Or.inl (by decide) | omega), up_n (by first | decide | exact Or.inl (by decide) | omega), c8 8 _ (by first | decide | exact Or.inl (by decide) | omega), hSc, up_s, up_s, hr]
            exact nmq_l hl
          · exact g5 k (by first | decide | exact Or.inl (by decide) | omega)
    · exact ⟨(fC 14 0 (by first | decide | exact Or.inl (by decide) | omega) (by first | decide | exact Or.inl (by decide) | omega) (by first | decide | exact Or.inl (by decide) | omega) (by first | decide | exact Or.inl (by decide) | omega)).trans hm1.1, (fC 11 9 (by first | decide | exact Or.inl (by decide) | omega) (by first | decide | exact Or.inl (by decide) | omega) (by first | decide | exact Or.inl (by decide) | omega) (by first | decide | exact Or.inl (by decide) | omega)).trans hm1.2⟩
end Sa9g
end
