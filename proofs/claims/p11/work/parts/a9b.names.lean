/-! names: looked up, given and asked for, on both sides -/
def isn (W Rn Kn Hn : Nat) (f : Nat → Int32) (y : Int32) : Prop := (∃ j, j < W ∧ f j = y) ∨ (∃ j, j < Rn ∧ f (40 + j) = y) ∨ (∃ j, j < Kn ∧ f (80 + j) = y) ∨ ∃ j, j < Hn ∧ f (160 + j) = y
section Sa9b
variable {n d W Rn Kn Tn Hn Un S F mc : Nat} {x : Nat → Nat} {B1 B2 : Nat → Nat → Int32} {BJ : Nat → Nat → Int64}
variable {D D' E p a t v : Nat} {l : List Nat} {o : Int} {I1 I2 : Nat → Nat → Int32} {J1 J2 : Nat → Nat → Int64}
theorem c_find0 {i : Nat} {y : Int32} (hi : i = 3 ∨ i = 5) : C1 (D + 1) 150 [.ref 14, .int (nI i), .int y] I1 J1 (.int (-1)) I1 J1 := by
  refine mj_mk (e150 _ _ ?_)
  rcases hi with rfl | rfl
  · exact if_i (fun _ => rfl) (fun z => absurd rfl z)
  · exact if_i (fun z => absurd z (by decide)) (fun _ => if_i (fun _ => rfl) (fun z => absurd rfl z))
theorem c_given {y : Nat} (h0 : I1 15 0 = nI W) (h1 : I1 15 1 = nI Rn) (h2 : I1 15 2 = nI Kn) (h4 : I1 15 4 = nI Hn) (b0 : W ≤ 40) (b1 : Rn ≤ 40) (b2 : Kn ≤ 40) (b4 : Hn ≤ 40) : C1 (D + 2) 149 [.ref 14, .int (nI y)] I1 J1 (.int (tf (isn W Rn Kn Hn (I1 16) (nI y)))) I1 J1 := by
  refine mj_mk (e149 _ ?_)
  obtain ⟨P, hP⟩ : ∃ P : Prop, P = isn W Rn Kn Hn (I1 16) (nI y) := ⟨_, rfl⟩
  rw [← hP]
  obtain ⟨Q, hQ⟩ : ∃ Q : mj_R → Prop, Q = fun r => r = (.int (tf P), (I1, J1, mj_R1)) := ⟨_, rfl⟩
  have stp : ∀ (i N c : Nat), i < 6 → i ≠ 3 → i ≠ 5 → 40 * i = c → I1 15 i = nI N → N ≤ 40 → ((∃ j, j < N ∧ I1 16 (c + j) = nI y) → P) → ((∀ j, j < N → I1 16 (c + j) ≠ nI y) → E1 149 (D + 1) Q 2 [(0, .ref 14), (1, .int (nI y)), (2, .int (nI (i + 1)))] I1 J1) → E1 149 (D + 1) Q 2 [(0, .ref 14), (1, .int (nI y)), (2, .int (nI i))] I1 J1 := fun i N c hi h3 h5 hc hN hN2 yes no => by
    obtain ⟨r, Ia, Ja, ca, hr, hI, hJ⟩ := c_find (D := D) (I := I1) (J := J1) (y := y) hi h3 h5 hN hN2
    rw [hI, hJ] at ca
    refine mj_on (s149_2 _ _ ?_)
    rw [show (6 : Int32) = nI 6 from rfl, nI_1]
    refine if_le (by decide) (by omega) (fun z => absurd z (by omega)) (fun _ => ⟨trivial, _, _, _, ca, ?_⟩)
    rcases hr with ⟨e, hn⟩ | ⟨j, hj, e, e2, -⟩
    · rw [if_pos e]
      exact no fun j hj => by rw [← hc]; exact hn j hj
    · rw [if_neg (by rw [e]; exact nI_nm1 (by omega)), hQ]
      exact mzT (yes ⟨j, hj, by rw [← hc]; exact e2⟩)
  have skp : ∀ (i : Nat), i = 3 ∨ i = 5 → E1 149 (D + 1) Q 2 [(0, .ref 14), (1, .int (nI y)), (2, .int (nI (i + 1)))] I1 J1 → E1 149 (D + 1) Q 2 [(0, .ref 14), (1, .int (nI y)), (2, .int (nI i))] I1 J1 := fun i hi no => by
    refine mj_on (s149_2 _ _ ?_)
    rw [show (6 : Int32) = nI 6 from rfl, nI_1]
    refine if_le (by decide) (by omega) (fun z => absurd z (by omega)) (fun _ => ⟨trivial, _, _, _, c_find0 hi, ?_⟩)
    rw [if_pos rfl]
    exact no
  have fin : ¬ P → E1 149 (D + 1) Q 2 [(0, .ref 14), (1, .int (nI y)), (2, .int (nI 6))] I1 J1 := fun hn => by
    refine mj_on (s149_2 _ _ ?_)
    rw [show (6 : Int32) = nI 6 from rfl]
    refine if_le (by decide) (by decide) (fun _ => ?_) (fun z => absurd z (by decide))
    rw [hQ]
    exact mzF hn
  have key : E1 149 (D + 1) Q 2 [(0, .ref 14), (1, .int (nI y)), (2, .int (nI 0))] I1 J1 := by
    refine stp 0 W 0 (by decide) (by decide) (by decide) rfl h0 b0 (fun ⟨j, hj, e⟩ => ?_) (fun n0 => ?_)
    · rw [hP]; rw [Nat.zero_add] at e; exact Or.inl ⟨j, hj, e⟩
    refine stp 1 Rn 40 (by decide) (by decide) (by decide) rfl h1 b1 (fun q => ?_) (fun n1 => ?_)
    · rw [hP]; exact Or.inr (Or.inl q)
    refine stp 2 Kn 80 (by decide) (by decide) (by decide) rfl h2 b2 (fun q => ?_) (fun n2 => ?_)
    · rw [hP]; exact Or.inr (Or.inr (Or.inl q))
    refine skp 3 (Or.inl rfl) ?_
    refine stp 4 Hn 160 (by decide) (by decide) (by decide) rfl h4 b4 (fun q => ?_) (fun n4 => ?_)
    · rw [hP]; exact Or.inr (Or.inr (Or.inr q))
    refine skp 5 (Or.inr rfl) (fin ?_)
    rw [hP]
    rintro (⟨j, hj, e⟩ | ⟨j, hj, e⟩ | ⟨j, hj, e⟩ | ⟨j, hj, e⟩)
    · exact n0 j hj (by rw [Nat.zero_add]; exact e)
    · exact n1 j hj e
    · exact n2 j hj e
    · exact n4 j hj e
  rw [hQ] at key
  exact key
theorem r_isName (hd : d < 2) (h35 : I2 0 35 = nI d) (h2 : I2 2 d = nI W) (h3 : I2 3 d = nI Rn) (h4 : I2 4 d = nI Kn) (h6 : I2 6 d = nI Hn) (b0 : W ≤ 4) (b1 : Rn ≤ 40) (b2 : Kn ≤ 10) (b4 : Hn ≤ 12) (hA : tlA 14 d W Rn Kn Hn I1 J2) (hl : lxl l) : C2 (D + 2) 23 [.ref 0, .long (lN (nmR l))] I2 J2 (.int (tf (isn W Rn Kn Hn (I1 16) (nI (nmC l))))) I2 J2 := by
  obtain ⟨hA1, hA2, hA3, hA4⟩ := hA
  refine mj_mk (e23 _ ?_)
  obtain ⟨P, hP⟩ : ∃ P : Prop, P = isn W Rn Kn Hn (I1 16) (nI (nmC l)) := ⟨_, rfl⟩
  rw [← hP]
  obtain ⟨Q, hQ⟩ : ∃ Q : mj_R → Prop, Q = fun r => r = (.int (tf P), (I2, J2, mj_R2)) := ⟨_, rfl⟩
  obtain ⟨ra, Ia, Ja, ca, fa, hIa, hJa⟩ := r_fnd24 (D := D) (I := I2) (J := J2) (y := lN (nmR l)) hd h2 b0
  obtain ⟨rb', Ib, Jb, cb, fb, hIb, hJb⟩ := r_fnd25 (D := D) (I := I2) (J := J2) (y := lN (nmR l)) hd h4 b2
  obtain ⟨rc, Ic, Jc, cc, fc, hIc, hJc⟩ := r_fnd26 (D := D) (I := I2) (J := J2) (y := lN (nmR l)) hd h6 b4
  rw [hIa, hJa] at ca
  rw [hIb, hJb] at cb
  rw [hIc, hJc] at cc
  have yes : P → ((1 : Int32) = 0 ∨ (1 : Int32) = 1) ∧ (Value.int 1, (I2, J2, mj_R2)) = (Value.int (tf P), (I2, J2, mj_R2)) := fun p => mzT p
  rw [h35]
  refine ⟨trivial, _, _, _, ca, ?_⟩
  rcases fa with ⟨ea, na⟩ | ⟨j, hj, ea, e, -⟩
  rotate_left
  · rw [if_neg (by rw [ea]; exact nI_nm1 (by omega))]
    refine yes ?_
    rw [hP]
    exact Or.inl ⟨j, hj, (nmq_eq (hA1 j hj) hl).mpr e⟩
  rw [if_pos ea, h35]
  refine ⟨trivial, _, _, _, cb, ?_⟩
  rcases fb with ⟨eb, nb⟩ | ⟨j, hj, eb, e, -⟩
  rotate_left
  · rw [if_neg (by rw [eb]; exact nI_nm1 (by omega))]
    refine yes ?_
    rw [hP]
    exact Or.inr (Or.inr (Or.inl ⟨j, hj, (nmq_eq (hA3 j hj) hl).mpr e⟩))
  rw [if_pos eb, h35]
  refine ⟨trivial, _, _, _, cc, ?_⟩
  rcases fc with ⟨ec, nc⟩ | ⟨j, hj, ec, e, -⟩
  rotate_left
  · rw [if_neg (by rw [ec]; exact nI_nm1 (by omega))]
    refine yes ?_
    rw [hP]
    exact Or.inr (Or.inr (Or.inr ⟨j, hj, (nmq_eq (hA4 j hj) hl).mpr e⟩))
  rw [if_pos ec]
  have lp := lp_up (n := Rn) (fun j => (∀ m, m < j → J2 10 (40 * d + m) ≠ lN (nmR l)) → E2 23 (D + 1) Q 43 [(0, .ref 0), (1, .long (lN (nmR l))), (3, .int (nI j))] I2 J2) (fun j hj ih hm => ?_) 0 (Nat.zero_le _) (fun m hm => absurd hm (Nat.not_lt_zero m))
  · rw [hQ] at lp
    exact lp
  refine mj_on (s23_43 _ _ ?_)
  rw [h35, nI_clamp (by omega), h3]
  refine ⟨vp_in_nI hd (by decide), if_le (by omega) (by omega) (fun q => ?_) (fun q => ?_)⟩
  · obtain rfl : j = Rn := by omega
    rw [hQ]
    refine mzF ?_
    rw [hP]
    rintro (⟨k, hk, e⟩ | ⟨k, hk, e⟩ | ⟨k, hk, e⟩ | ⟨k, hk, e⟩)
    · exact na k hk ((nmq_eq (hA1 k hk) hl).mp e)
    · exact hm k hk ((nmq_eq (hA2 k hk) hl).mp e)
    · exact nb k hk ((nmq_eq (hA3 k hk) hl).mp e)
    · exact nc k hk ((nmq_eq (hA4 k hk) hl).mp e)
  rw [show (40 : Int32) = nI 40 from rfl, pk_mul, nI_add, nI_clamp (by omega), nI_1]
  refine ⟨vp_in_nI (by omega) (by decide), if_i (fun e => ?_) (fun e => ih q fun m hm2 => ?_)⟩
  · rw [hQ]
    refine mzT ?_
    rw [hP]
    exact Or.inr (Or.inl ⟨j, q, (nmq_eq (hA2 j q) hl).mpr (cmp0.mp e)⟩)
  · by_cases z : m = j
    · rw [z]; exact fun w => e (cmp0.mpr w)
    · exact hm m (by omega)
theorem c_give {i N : Nat} {y : Int32} (hN : I1 15 i = nI N) (hi : i < 6) (h2 : 40 * i + N < 240) : C1 (D + 1) 151 [.ref 14, .int (nI i), .int y] I1 J1 .null (mj_up (mj_up I1 16 (40 * i + N) y) 15 i (nI (N + 1))) J1 := by
  refine mj_mk (e151 _ _ ?_)
  have vi : vp_in (nI i) 6 := vp_in_nI hi (by decide)
  rw [nI_clamp (by omega), hN, show nI i * (40 : Int32) = nI (40 * i) from (pk_mul i 40).trans (by rw [Nat.mul_comm]), nI_add, nI_clamp (by omega), nI_1]
  exact ⟨vi, vp_in_nI h2 (by decide), vi, vi, rfl⟩
theorem tk_3 (h : tkR n x p a t v l o I1 I2 J2) (h3 : t = 3) : lxl l ∧ I1 11 6 = nI (nmC l) ∧ J2 0 7 = lN (nmR l) := by
  rcases h.2.2.2.2.2.2.2.2.2.2.2.2.2.2.2.2 with ⟨q, -⟩ | ⟨q, -⟩ | ⟨q, -⟩ | ⟨-, -, -, -, q1, q2, q3, -⟩
  · omega
  · omega
  · omega
  · exact ⟨q1, q2, q3⟩
theorem r_8 (h : tkR n x p a t v l o I1 I2 J2) : I2 0 8 = 0 := h.2.2.2.2.2.2.2.2.2.2.2.2.2.1
theorem RS_S (h : RS n x d B1 B2 BJ W Rn Kn Tn Hn Un S F mc p a t v l o I1 I2 J2) : S ≤ 900 := by
  have h1 := h.2.2.2.1
  have h2 := tk_n h.1
  omega
/-- the class' own word, or none -/
theorem DS_8 (h : DS d B1 B2 BJ I1 I2 J2) : ¬ I2 0 8 = 0 ∧ ¬ I2 0 8 ≤ 0 := by
  obtain ⟨⟨k, p, h1, h2, -, -, -, -, h7, -⟩, -⟩ := h
  rw [h7]
  have e1 : ¬ nI k = 0 := nI_ne0 (by omega) (by omega)
  refine ⟨e1, fun z => ?_⟩
  have z := (nI_leI (a := k) (b := 0) (by omega) (by decide)).mp z
  omega
theorem name_both {i N : Nat} (h : RS n x d B1 B2 BJ W Rn Kn Tn Hn Un S F mc p a t v l o I1 I2 J2) (hi : i = 0 ∧ N = W ∧ W < 4 ∨ i = 1 ∧ N = Rn ∧ Rn < 40 ∨ i = 2 ∧ N = Kn ∧ Kn < 10 ∨ i = 4 ∧ N = Hn ∧ Hn < 12) : ∃ r I1' I2' J2', C1 (D + 4) 147 [.ref 11, .int (nI i)] I1 J1 .null I1' J1 ∧ C2 (D' + 3) 21 [.ref 0] I2 J2 (.long r) I2' J2' ∧ lxg I2 I2' ∧ lxgJ J2 J2' ∧ ((lxl l ∧ r = lN (nmR l) ∧ lxf (mj_up (mj_up I1 16 (40 * i + N) (nI (nmC l))) 15 i (nI (N + 1))) I1' ∧ ∃ p' a' t' v' l' o', tkR n x p' a' t' v' l' o' I1' I2' J2' ∧ p < p') ∨ DS d B1 B2 BJ I1' I2' J2') := by
  have hS9 := RS_S h
  obtain ⟨hk, hA, hD, hS, hF, hm⟩ := h
  have hB := TD_DSB hD hS9
  obtain ⟨⟨n0, n1, n2, n3, n4, n5⟩, ⟨m0, m1, m2, m3, m4, m5⟩, hd, b0, b1, b2, b3, b4, b5⟩ := TD_N hD
  have h35 := hD.1
  have r8 := r_8 hk
  have r8' : I2 0 8 ≤ 0 := by rw [r8]; decide
  by_cases e : t = 3 ∧ o = -1
  · obtain ⟨t3, o1⟩ := e
    obtain ⟨hl, w6, w7⟩ := tk_3 hk t3
    have hT := hD.2.2.2.2.2.2.2.2.2.1
    have cg := c_given (D := D + 1) (J1 := J1) (y := nmC l) n0 n1 n2 n4 (by omega) b1 (by omega) (by omega)
    have rg := r_isName (D := D') hd h35 m0 m1 m2 m4 b0 b1 b2 b4 hT hl
    have r22 := wd_own (D := D' + 1) hk t3
    rw [tf_f (show ¬ o ≠ -1 from fun z => z o1)] at r22
    by_cases g : isn W Rn Kn Hn (I1 16) (nI (nmC l))
    · obtain ⟨I1', I2', k1, k2, k3, k4, k5⟩ := bl_both (D := D + 2) (D' := D' + 1) (J1 := J1) (k := 2) hk (by decide) (by decide)
      rw [tf_t g] at cg rg
      refine ⟨J2 0 7, I1', I2', J2, mj_mk (e147 _ ?_), mj_mk (e21 ?_), fun q j z => k4 q j (by omega), lxgJ_rf, Or.inr (DS_mk hA hB (lxh_F k3) (fun q j z => k4 q j (by omega)) lxgJ_rf ⟨_, _, k5⟩)⟩
      · refine ⟨trivial, _, _, _, nm_c hk, if_tf (fun _ => ?_) (fun z => absurd ⟨t3, o1⟩ z)⟩
        rw [w6]
        refine ⟨trivial, _, _, _, cg, ?_⟩
        rw [if_neg (by decide)]
        exact ⟨trivial, _, _, k1, rfl⟩
      · rw [if_pos r8', if_pos ((rtk_eq hk (k := 3) (y := 1) (by decide) (by decide) rfl).mpr t3)]
        refine ⟨trivial, _, _, _, r22, ?_⟩
        rw [if_pos rfl]
        refine mj_on (s21_37 ?_)
        rw [if_pos r8, w7]
        refine ⟨trivial, _, _, _, rg, ?_⟩
        rw [if_neg (by decide)]
        refine ⟨trivial, _, _, k2, ?_⟩
        refine mj_on (s21_64 ?_)
        rw [k5.2.2.2.2.2.2.1, if_neg (by decide), w7]
    · rw [tf_f g] at cg rg
      obtain ⟨Ia, hIa⟩ : ∃ Ia, Ia = mj_up (mj_up I1 16 (40 * i + N) (nI (nmC l))) 15 i (nI (N + 1)) := ⟨_, rfl⟩
      have giv := c_give (D := D + 2) (I1 := I1) (J1 := J1) (i := i) (N := N) (y := nI (nmC l)) (by rcases hi with ⟨rfl, rfl, -⟩ | ⟨rfl, rfl, -⟩ | ⟨rfl, rfl, -⟩ | ⟨rfl, rfl, -⟩ <;> assumption) (by omega) (by omega)
      rw [← hIa] at giv ⊢
      have ka : tkR n x p a t v l o Ia I2 J2 := tkR_cg hk (fun q j z => by rw [hIa, up_n (by omega), up_n (by omega)]) (fun _ _ _ => rfl) rfl
      have hAa : tfA d B1 B2 BJ Ia I2 J2 := ⟨fun q j z1 z2 => by rw [hIa, up_n (by omega), up_n (by omega)]; exact hA.1 q j z1 z2, hA.2⟩
      have hBa : DSB Ia := by
        obtain ⟨⟨c, c1, c2⟩, ⟨w, w1, w2⟩, ⟨u, u1, u2⟩⟩ := hB
        refine ⟨⟨c, c1, by rw [hIa, up_n (by omega), up_n (by omega)]; exact c2⟩, ?_, ⟨u, u1, by rw [hIa, up_n (by omega), up_n (by omega)]; exact u2⟩⟩
        by_cases i0 : i = 0
        · refine ⟨N + 1, by omega, ?_⟩
          rw [hIa, i0, up_s]
        · refine ⟨w, w1, ?_⟩
          rw [hIa, up_n (by omega), up_n (by omega)]; exact w2
      obtain ⟨I1', I2', J2', k1, k2, k3, k4, k5, k6⟩ := adv_ta (D := D) (D' := D') (J1 := J1) ka (by omega)
      refine ⟨J2 0 7, I1', I2', J2', mj_mk (e147 _ ?_), mj_mk (e21 ?_), k4, k5, ?_⟩
      · refine ⟨trivial, _, _, _, nm_c hk, if_tf (fun _ => ?_) (fun z => absurd ⟨t3, o1⟩ z)⟩
        rw [w6]
        refine ⟨trivial, _, _, _, cg, ?_⟩
        rw [if_pos rfl, w6]
        exact ⟨trivial, _, _, giv, trivial, _, _, k1, rfl⟩
      · rw [if_pos r8', if_pos ((rtk_eq hk (k := 3) (y := 1) (by decide) (by decide) rfl).mpr t3)]
        refine ⟨trivial, _, _, _, r22, ?_⟩
        rw [if_pos rfl]
        refine mj_on (s21_37 ?_)
        rw [if_pos r8, w7]
        refine ⟨trivial, _, _, _, rg, ?_⟩
        rw [if_pos rfl]
        refine mj_on (s21_64 ?_)
        rw [if_pos r8, w7]
        exact ⟨trivial, _, _, k2, rfl⟩
      · rcases k6 with ⟨p', a', t', v', l', o', q1, q2, -⟩ | ⟨p', q1⟩
        · exact Or.inl ⟨hl, w7, k3, p', a', t', v', l', o', q1, q2⟩
        · exact Or.inr (DS_mk hAa hBa (lxf_F k3) k4 k5 ⟨_, _, q1⟩)
  · obtain ⟨I1', I2', k1, k2, k3, k4, k5⟩ := bl_both (D := D + 2) (D' := D' + 1) (J1 := J1) (k := 1) hk (by decide) (by decide)
    refine ⟨J2 0 7, I1', I2', J2, mj_mk (e147 _ ?_), mj_mk (e21 ?_), fun q j z => k4 q j (by omega), lxgJ_rf, Or.inr (DS_mk hA hB (lxh_F k3) (fun q j z => k4 q j (by omega)) lxgJ_rf ⟨_, _, k5⟩)⟩
    · exact ⟨trivial, _, _, _, nm_c hk, if_tf (fun z => absurd z e) (fun _ => ⟨trivial, _, _, k1, rfl⟩)⟩
    · have beh : E2 21 (D' + 2) (fun y => y = (.long (J2 0 7), (I2', J2, mj_R2))) 37 [(0, .ref 0)] I2' J2 := by
        refine mj_on (s21_37 ?_)
        rw [k5.2.2.2.2.2.2.1, if_neg (by decide)]
        refine mj_on (s21_64 ?_)
        rw [k5.2.2.2.2.2.2.1, if_neg (by decide)]
      rw [if_pos r8']
      by_cases t3 : t = 3
      · rw [if_pos ((rtk_eq hk (k := 3) (y := 1) (by decide) (by decide) rfl).mpr t3)]
        exact ⟨trivial, _, _, _, wd_own hk t3, if_tf (fun _ => ⟨trivial, _, _, k2, beh⟩) (fun z => absurd (show o ≠ -1 from fun q => e ⟨t3, q⟩) z)⟩
      · rw [if_neg (fun z => t3 ((rtk_eq hk (k := 3) (y := 1) (by decide) (by decide) rfl).mp z))]
        exact ⟨trivial, _, _, k2, beh⟩
/-- a knot that is asked for -/
theorem knot_both {y : Int32} (h : RS n x d B1 B2 BJ W Rn Kn Tn Hn Un S F mc p a t v l o I1 I2 J2) : ∃ r1 r2 I1' I2' J2', C1 (D + 4) 153 [.ref 11, .int (nI 2), .int y] I1 J1 (.int r1) I1' J1 ∧ C2 (D' + 3) 31 [.ref 0, .int y] I2 J2 (.int r2) I2' J2' ∧ lxF I1 I1' ∧ lxg I2 I2' ∧ lxgJ J2 J2' ∧ ((∃ k, k < Kn ∧ r1 = nI k ∧ r2 = nI k ∧ nI k ≠ y ∧ ∃ p' a' t' v' l' o', tkR n x p' a' t' v' l' o' I1' I2' J2' ∧ p < p') ∨ ∃ k p, tkD k p I1' I2') := by
  have hS9 := RS_S h
  obtain ⟨hk, hA, hD, hS, hF, hm⟩ := h
  obtain ⟨⟨n0, n1, n2, n3, n4, n5⟩, ⟨m0, m1, m2, m3, m4, m5⟩, hd, b0, b1, b2, b3, b4, b5⟩ := TD_N hD
  have h35 := hD.1
  have r8 := r_8 hk
  have r8' : I2 0 8 ≤ 0 := by rw [r8]; decide
  by_cases e : t = 3 ∧ o = -1
  · obtain ⟨t3, o1⟩ := e
    obtain ⟨hl, w6, w7⟩ := tk_3 hk t3
    have hT := hD.2.2.2.2.2.2.2.2.2.1
    have r22 := wd_own (D := D' + 1) hk t3
    rw [tf_f (show ¬ o ≠ -1 from fun z => z o1)] at r22
    obtain ⟨rc, Ic, Jc, cc, fc, hIc, hJc⟩ := c_find (D := D + 2) (I := I1) (J := J1) (i := 2) (y := nmC l) (by decide) (by decide) (by decide) n2 (by omega)
    rw [hIc, hJc] at cc
    obtain ⟨rr, Ir, Jr, cr, fr, hIr, hJr⟩ := r_fnd25 (D := D' + 1) (I := I2) (J := J2) (y := lN (nmR l)) hd m2 b2
    rw [hIr, hJr] at cr
    have er : rc = rr := find_eq hl (by omega) hT.2.2.1 fc fr
    by_cases g : rr = -1 ∨ rr = y
    · obtain ⟨I1', I2', k1, k2, k3, k4, k5⟩ := bl_both (D := D + 2) (D' := D' + 1) (J1 := J1) (k := 3) hk (by decide) (by decide)
      refine ⟨-1, rr, I1', I2', J2, mj_mk (e153 _ _ ?_), mj_mk (e31 _ ?_), lxh_F k3, fun q j z => k4 q j (by omega), lxgJ_rf, Or.inr ⟨_, _, k5⟩⟩
      · refine ⟨trivial, _, _, _, nm_c hk, if_tf (fun _ => ?_) (fun z => absurd ⟨t3, o1⟩ z)⟩
        rw [w6]
        refine ⟨trivial, _, _, _, cc, ?_⟩
        rw [er]
        exact if_i (fun _ => ⟨trivial, _, _, k1, rfl⟩) (fun z => if_i (fun _ => ⟨trivial, _, _, k1, rfl⟩) (fun z2 => (g.elim z z2).elim))
      · have beh : E2 31 (D' + 2) (fun z => z = (.int rr, (I2', J2, mj_R2))) 87 [(0, .ref 0), (2, .int rr)] I2' J2 := by
          refine mj_on (s31_87 _ ?_)
          rw [k5.2.2.2.2.2.2.1, if_neg (by decide)]
        rw [if_pos r8', if_pos ((rtk_eq hk (k := 3) (y := 1) (by decide) (by decide) rfl).mpr t3)]
        refine ⟨trivial, _, _, _, r22, ?_⟩
        rw [if_pos rfl]
        refine mj_on (s31_37 _ ?_)
        rw [if_pos r8', w7, h35]
        refine ⟨trivial, _, _, _, cr, ?_⟩
        refine mj_on (s31_61 _ _ ?_)
        rw [if_pos r8]
        exact if_i (fun _ => ⟨trivial, _, _, k2, beh⟩) (fun z => if_i (fun _ => ⟨trivial, _, _, k2, beh⟩) (fun z2 => (g.elim z z2).elim))
    · have g1 : ¬ rr = -1 := fun z => g (Or.inl z)
      have g2 : ¬ rr = y := fun z => g (Or.inr z)
      obtain ⟨I1', I2', J2', k1, k2, k3, k4, k5, k6⟩ := adv_ta (D := D) (D' := D') (J1 := J1) hk (by omega)
      refine ⟨rr, rr, I1', I2', J2', mj_mk (e153 _ _ ?_), mj_mk (e31 _ ?_), lxf_F k3, k4, k5, ?_⟩
      · refine ⟨trivial, _, _, _, nm_c hk, if_tf (fun _ => ?_) (fun z => absurd ⟨t3, o1⟩ z)⟩
        rw [w6]
        refine ⟨trivial, _, _, _, cc, ?_⟩
        rw [er, if_neg g1, if_neg g2]
        exact ⟨trivial, _, _, k1, rfl⟩
      · rw [if_pos r8', if_pos ((rtk_eq hk (k := 3) (y := 1) (by decide) (by decide) rfl).mpr t3)]
        refine ⟨trivial, _, _, _, r22, ?_⟩
        rw [if_pos rfl]
        refine mj_on (s31_37 _ ?_)
        rw [if_pos r8', w7, h35]
        refine ⟨trivial, _, _, _, cr, ?_⟩
        refine mj_on (s31_61 _ _ ?_)
        rw [if_pos r8, if_neg g1, if_neg g2]
        refine mj_on (s31_87 _ ?_)
        rw [if_pos r8]
        exact ⟨trivial, _, _, k2, rfl⟩
      · rcases fr with ⟨z, -⟩ | ⟨j, hj, ej, -⟩
        · exact absurd z g1
        rcases k6 with ⟨p', a', t', v', l', o', q1, q2, -⟩ | ⟨p', q1⟩
        · exact Or.inl ⟨j, hj, ej, ej, by rw [← ej]; exact g2, p', a', t', v', l', o', q1, q2⟩
        · exact Or.inr ⟨_, _, q1⟩
  · obtain ⟨I1', I2', k1, k2, k3, k4, k5⟩ := bl_both (D := D + 2) (D' := D' + 1) (J1 := J1) (k := 1) hk (by decide) (by decide)
    refine ⟨-1, 0, I1', I2', J2, mj_mk (e153 _ _ ?_), mj_mk (e31 _ ?_), lxh_F k3, fun q j z => k4 q j (by omega), lxgJ_rf, Or.inr ⟨_, _, k5⟩⟩
    · exact ⟨trivial, _, _, _, nm_c hk, if_tf (fun z => absurd z e) (fun _ => ⟨trivial, _, _, k1, rfl⟩)⟩
    · have beh : E2 31 (D' + 2) (fun z => z = (.int 0, (I2', J2, mj_R2))) 37 [(0, .ref 0), (1, .int y)] I2' J2 := by
        have f8 : ¬ I2' 0 8 ≤ 0 := by rw [k5.2.2.2.2.2.2.1]; decide
        have f8' : ¬ I2' 0 8 = 0 := by rw [k5.2.2.2.2.2.2.1]; decide
        refine mj_on (s31_37 _ ?_)
        rw [if_neg f8]
        refine mj_on (s31_61 _ _ ?_)
        rw [if_neg f8']
        refine mj_on (s31_87 _ ?_)
        rw [if_neg f8']
      rw [if_pos r8']
      by_cases t3 : t = 3
      · rw [if_pos ((rtk_eq hk (k := 3) (y := 1) (by decide) (by decide) rfl).mpr t3)]
        exact ⟨trivial, _, _, _, wd_own hk t3, if_tf (fun _ => ⟨trivial, _, _, k2, beh⟩) (fun z => absurd (show o ≠ -1 from fun q => e ⟨t3, q⟩) z)⟩
      · rw [if_neg (fun z => t3 ((rtk_eq hk (k := 3) (y := 1) (by decide) (by decide) rfl).mp z))]
        exact ⟨trivial, _, _, k2, beh⟩
end Sa9b
