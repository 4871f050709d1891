section
/-! ties, on both sides -/
section Sa9j
variable {n d W Rn Kn Tn Hn Un S F mc : Nat} {x : Nat → Nat} {B1 B2 : Nat → Nat → Int32} {BJ : Nat → Nat → Int64}
variable {D D' E p a t v : Nat} {l : List Nat} {o : Int} {I1 I2 : Nat → Nat → Int32} {J1 J2 : Nat → Nat → Int64}
theorem DS_u2 {q0 j0 : Nat} {y : Int32} (h : DS d B1 B2 BJ I1 I2 J2) (hq : q0 ≠ 0) (hb : ¬ oub d q0 j0) : DS d B1 B2 BJ I1 (mj_up I2 q0 j0 y) J2 := by
  obtain ⟨⟨k, p, hk⟩, ⟨fA1, fA2, fA3⟩, hB⟩ := h
  refine ⟨⟨k, p, tkD_u2 hk hq⟩, ⟨fA1, fun q j z1 z2 z3 => ?_, fA3⟩, hB⟩
  have e : q ≠ q0 ∨ j ≠ j0 := by
    refine Classical.byContradiction fun w => hb ?_
    have e1 : q = q0 := by omega
    have e2 : j = j0 := by omega
    rw [← e1, ← e2]
    exact z3
  rw [up_n e]; exact fA2 q j z1 z2 z3
theorem c152 {N : Nat} {r1 r2 : Int32} {Ib Ic Id : (Nat → Nat → Int32)} (hN : I1 15 3 = nI N) (hN2 : N < 24) (c1 : C1 D 153 [.ref 11, .int (nI 2), .int (-1)] I1 J1 (.int r1) Ib J1) (c2 : C1 D 153 [.ref 11, .int (nI 2), .int r1] (mj_up Ib 20 N r1) J1 (.int r2) Ic J1) (c3 : C1 D 154 [.ref 11, .int (nI 3), .int (nI N)] (mj_up Ic 21 N r2) J1 .null Id J1) : C1 (D + 1) 152 [.ref 11] I1 J1 .null (mj_up Id 15 3 (Id 15 3 + 1)) J1 := by
  refine mj_mk (e152 ?_)
  have v3 : vp_in (3 : Int32) 6 := vp_in_nI (n := 3) (by decide) (by decide)
  have vN : vp_in (nI N) 24 := vp_in_nI hN2 (by decide)
  rw [show ((3 : Int32)).toNatClampNeg = 3 from rfl, hN, nI_clamp (by first | decide | exact Or.inl (by decide) | omega)]
  refine ⟨v3, trivial, _, _, _, c1, vN, vN, trivial, _, _, _, ?_, vN, trivial, _, _, c3, v3, v3, rfl⟩
  rw [up_s]
  exact c2
theorem r31_D {y : Int32} (h : ¬ I2 0 8 ≤ 0) : C2 (D + 1) 31 [.ref 0, .int y] I2 J2 (.int 0) I2 J2 := by
  refine mj_mk (e31 _ ?_)
  rw [if_neg h]
theorem r30_go {Q : mj_R → Prop} {r1 r2 : Int32} {Rb Rc : (Nat → Nat → Int32)} {Sb Sc : (Nat → Nat → Int64)} (h8 : I2 0 8 ≤ 0) (hd : d < 2) (hT : Tn < 24) (h35 : I2 0 35 = nI d) (h5 : I2 5 d = nI Tn) (c1 : C2 D 31 [.ref 0, .int (-1)] I2 J2 (.int r1) Rb Sb) (c2 : C2 D 31 [.ref 0, .int r1] (mj_up Rb 14 (24 * d + Tn) r1) Sb (.int r2) Rc Sc) (k : E2 30 D Q 95 [(0, .ref 0), (1, .int (nI (24 * d + Tn))), (2, .int (nI 0))] (mj_up Rc 15 (24 * d + Tn) r2) Sc) : E2 30 D Q 40 [(0, .ref 0)] I2 J2 := by
  have vd : vp_in (nI d) 2 := vp_in_nI hd (by decide)
  have v48 : vp_in (nI (24 * d + Tn)) 48 := vp_in_nI (by first | decide | exact Or.inl (by decide) | omega) (by decide)
  refine mj_on (s30_40 ?_)
  rw [if_pos h8, h35, nI_clamp (by first | decide | exact Or.inl (by decide) | omega), h5, show (24 : Int32) = nI 24 from rfl, pk_mul, nI_add, nI_clamp (by first | decide | exact Or.inl (by decide) | omega)]
  refine ⟨vd, trivial, _, _, _, c1, v48, v48, trivial, _, _, _, ?_, v48, k⟩
  rw [up_s]
  exact c2
theorem r30_D {Q : mj_R → Prop} {y z : Int32} (h8 : ¬ I2 0 8 = 0) (hd : d < 2) (h35 : I2 0 35 = nI d) (hQ : Q (.null, (I2, J2, mj_R2))) : E2 30 (D + 1) Q 95 [(0, .ref 0), (1, .int y), (2, .int z)] I2 J2 := by
  have e135 : E2 30 (D + 1) Q 135 [(0, .ref 0)] I2 J2 := by
    refine mj_on (s30_135 ?_)
    rw [if_neg h8]
    exact hQ
  refine mj_on (s30_95 _ _ ?_)
  rw [h35, if_neg h8]
  exact ⟨vp_in_nI hd (by decide), if_i (fun _ => e135) (fun _ => e135)⟩
/-- a tie -/
theorem st_tie (h : RS n x d B1 B2 BJ W Rn Kn Tn Hn Un S F mc p a t v l o I1 I2 J2) (ho : o = (3 : Nat)) : STO n x d B1 B2 BJ D D' mc p J1 I1 I2 J2 := by
  have hk := h.1
  have hD := h.2.2.1
  obtain ⟨⟨n0, n1, n2, n3, n4, n5⟩, ⟨m0, m1, m2, m3, m4, m5⟩, hd, b0, b1, b2, b3, b4, b5⟩ := TD_N hD
  have t3 := (tk_w hk (w := 3) (by decide) ho).1
  have h7 := own_n hk (by decide) ho
  obtain ⟨Ia, Ra, Sa, k1, k2⟩ := cnt_both (D := D + 5) (D' := D' + 2) (J1 := J1) (y1 := tf (Tn = 24)) (y2 := tf (W = 0)) h t3 rfl rfl
  have c145' := c145 (D := D + 7) (J1 := J1) hD (k := 3) (by decide)
  have ee : erl 3 W Rn Tn Hn ↔ W = 0 := ⟨fun q => by rcases q with ⟨q, -⟩ | ⟨-, q⟩ <;> omega, fun q => Or.inr ⟨Or.inr (Or.inl rfl), q⟩⟩
  rw [tf_iff ee] at c145'
  have rin : ∀ {R : (Nat → Nat → Int32)} {S' : (Nat → Nat → Int64)} {r : mj_R}, E2 30 (D' + 5) (fun y => y = (.null, (R, S', mj_R2))) 40 [(0, .ref 0)] Ra Sa → E2 17 (D' + 6) (fun y => y = r) 296 [(0, .ref 0)] R S' → mj_Cl mj_S2 mj_CD (D' + 7) 17 [.ref 0] (I2, J2, mj_R2) r := fun {R S' r} q1 q2 => r17_3 (D := D' + 5) hk ho (r30_in hD k1 q1) q2
  have dd : ¬ Ra 0 8 ≤ 0 → E2 30 (D' + 5) (fun y => y = (.null, (Ra, Sa, mj_R2))) 40 [(0, .ref 0)] Ra Sa := fun q => by
    refine mj_on (s30_40 ?_)
    rw [if_neg q]
  rcases k2 with ⟨f, c, q⟩ | ⟨f, e, c, q⟩ | ⟨f, e, c, fL, q⟩
  · exact ⟨Ia, Ra, Sa, c143_full (k := 3) h7 (by decide) n3 mst_3 (by decide) f c, fun r hr => rin (dd (DS_8 q).2) hr, Or.inr q⟩
  · rw [tf_t e] at c145'
    exact ⟨Ia, Ra, Sa, c143_early (k := 3) h7 (by decide) n3 mst_3 (by decide) (by first | decide | exact Or.inl (by decide) | omega) c145' c, fun r hr => rin (dd (DS_8 q).2) hr, Or.inr q⟩
  rw [tf_f e] at c145'
  have hlt : Tn < 24 := by omega
  have cgo1 : ∀ {Ib : (Nat → Nat → Int32)}, C1 (D + 8) 152 [.ref 11] Ia J1 .null Ib J1 → C1 (D + 9) 143 [.ref 11] I1 J1 .null Ib J1 := fun c2 => c143_go (k := 3) h7 (by decide) n3 mst_3 (by decide) hlt c145' c (Or.inr (Or.inr (Or.inr (Or.inl ⟨rfl, c2⟩))))
  have n3a : Ia 15 3 = nI Tn := (fL 15 3 (Or.inl (by decide))).trans n3
  rcases q with ⟨p1, a1, t1, v1', l1, o1, q, hp⟩ | q
  rotate_left
  · obtain ⟨Ib, c2, q2⟩ := e_tie (D := D + 4) (J1 := J1) q n3a hlt
    exact ⟨Ib, Ra, Sa, cgo1 c2, fun r hr => rin (dd (DS_8 q).2) hr, Or.inr q2⟩
  have hD1 := q.2.2.1
  obtain ⟨-, ⟨m0, m1, m2, m3, m4, m5⟩, -⟩ := TD_N hD1
  have h35 := hD1.1
  have h8a : Ra 0 8 ≤ 0 := by rw [r_8 q.1]; decide
  have b14 : ¬ oub d 14 (24 * d + Tn) := by unfold oub; omega
  have b15 : ¬ oub d 15 (24 * d + Tn) := by unfold oub; omega
  obtain ⟨r1, r2, Ib, Rb, Sb, c1, c2, f1, f2, f3, q1⟩ := knot_both (D := D + 3) (D' := D' + 2) (J1 := J1) (y := -1) q
  have g35 : Rb 0 35 = nI d := by rw [f2 0 35 (by first | decide | exact Or.inl (by decide) | omega)]; exact h35
  rcases q1 with ⟨kk, hk1, e1, e2, -, p2, a2, t2, v2, l2, o2, q2, hp2⟩ | q1
  rotate_left
  · have w1 := DS_up (q0 := 20) (j0 := Tn) (y := r1) (DS_u2 (q0 := 14) (j0 := 24 * d + Tn) (y := r2) (RS_DS q f1 f2 f3 q1) (by decide) b14) (by decide) (Or.inl (by decide)) (Or.inl (by decide))
    obtain ⟨Id, c4, w2, -⟩ := e_ask (D := D + 5) (J1 := J1) (c := nI 2) (e := r1) w1
    have w3 := DS_up (q0 := 21) (j0 := Tn) (y := -1) (DS_u2 (q0 := 15) (j0 := 24 * d + Tn) (y := 0) w2 (by decide) b15) (by decide) (Or.inl (by decide)) (Or.inl (by decide))
    obtain ⟨Ie, c5, w4, -⟩ := e_amt (D := D + 4) (J1 := J1) (i := 3) (j := Tn) (by first | decide | exact Or.inl (by decide) | omega) w3
    refine ⟨_, _, Sb, cgo1 (c152 n3a hlt c1 c4 c5), fun r' hr' => rin (r30_go h8a hd hlt h35 m3 c2 (r31_D (D := D' + 4) (DS_8 w1).2) (r30_D (D := D' + 4) (DS_8 w4).1 hd ?_ rfl)) hr', Or.inr (DS_up w4 (by decide) (Or.inl (by decide)) (Or.inr (by decide)))⟩
    rw [up_n (by first | decide | exact Or.inl (by decide) | omega), up_n (by first | decide | exact Or.inl (by decide) | omega)]; exact g35
  rw [e1] at c1
  rw [e2] at c2
  have qb := RS_wr2 (q0 := 14) (j0 := 24 * d + Tn) (y := nI kk) (RS_wr (q0 := 20) (j0 := Tn) (y := nI kk) (RS_lx q f1 f2 f3 q2 (by first | decide | exact Or.inl (by decide) | omega)) (by decide) (by unfold inC; omega) (by decide)) (by decide) (by unfold inR; omega) b14
  obtain ⟨r3, r4, Id, Rd, Sd, c3, c4, f4, f5, f6, q3⟩ := knot_both (D := D + 3) (D' := D' + 2) (J1 := J1) (y := nI kk) qb
  have g35d : Rd 0 35 = nI d := by rw [f5 0 35 (by first | decide | exact Or.inl (by decide) | omega), up_n (by first | decide | exact Or.inl (by decide) | omega)]; exact g35
  rcases q3 with ⟨k3, hk3, e3, e4, ne, p3, a3, t3', v3, l3, o3, q4, hp3⟩ | q3
  rotate_left
  · have w1 := DS_up (q0 := 21) (j0 := Tn) (y := r3) (DS_u2 (q0 := 15) (j0 := 24 * d + Tn) (y := r4) (RS_DS qb f4 f5 f6 q3) (by decide) b15) (by decide) (Or.inl (by decide)) (Or.inl (by decide))
    obtain ⟨Ie, c5, w4, -⟩ := e_amt (D := D + 4) (J1 := J1) (i := 3) (j := Tn) (by first | decide | exact Or.inl (by decide) | omega) w1
    refine ⟨_, _, Sd, cgo1 (c152 n3a hlt c1 c3 c5), fun r' hr' => rin (r30_go h8a hd hlt h35 m3 c2 c4 (r30_D (D := D' + 4) (DS_8 w4).1 hd ?_ rfl)) hr', Or.inr (DS_up w4 (by decide) (Or.inl (by decide)) (Or.inr (by decide)))⟩
    rw [up_n (by first | decide | exact Or.inl (by decide) | omega)]; exact g35d
  rw [e3] at c3
  rw [e4] at c4
  have qd := RS_wr2 (q0 := 15) (j0 := 24 * d + Tn) (y := nI k3) (RS_wr (q0 := 21) (j0 := Tn) (y := nI k3) (RS_lx qb f4 f5 f6 q4 (by first | decide | exact Or.inl (by decide) | omega)) (by decide) (by unfold inC; omega) (by decide)) (by decide) (by unfold inR; omega) b15
  obtain ⟨If, hIf⟩ : ∃ If, If = mj_up Id 21 Tn (nI k3) := ⟨_, rfl⟩
  obtain ⟨Rf, hRf⟩ : ∃ Rf, Rf = mj_up Rd 15 (24 * d + Tn) (nI k3) := ⟨_, rfl⟩
  have x20 : If 20 Tn = nI kk := by rw [hIf, up_n (by first | decide | exact Or.inl (by decide) | omega), f4 20 Tn (by first | decide | exact Or.inl (by decide) | omega), up_s]
  have x21 : If 21 Tn = nI k3 := by rw [hIf, up_s]
  have x14 : Rf 14 (24 * d + Tn) = nI kk := by rw [hRf, up_n (by first | decide | exact Or.inl (by decide) | omega), f5 14 _ (by first | decide | exact Or.inl (by decide) | omega), up_s]
  have x15 : Rf 15 (24 * d + Tn) = nI k3 := by rw [hRf, up_s]
  rw [← hIf, ← hRf] at qd
  have kne : kk ≠ k3 := fun z => ne (by rw [z])
  obtain ⟨kf, ⟨fA1, fA2, fA3⟩, hD2, hS2, hF2, hm2⟩ := qd
  obtain ⟨⟨n0, n1, n2, n3, n4, n5⟩, ⟨m0', m1', m2', m3', m4', m5'⟩, -⟩ := TD_N hD2
  have h35f := hD2.1
  have vd : vp_in (nI d) 2 := vp_in_nI hd (by decide)
  obtain ⟨Ig, Rg, Sg, w1, w2, w3, w4, w5, w6⟩ := amts_both (D := D + 2) (D' := D' + 2) (J1 := J1) (W := W) (d := d) (x := x) (n := n) (i := 3) (j := Tn) (c0 := 4 * (24 * d + Tn)) (cq := 16)
    (fun w R S' Q => E2 30 (D' + 5) Q 95 [(0, .ref 0), (1, .int (nI (24 * d + Tn))), (2, .int (nI w))] R S') (fun R S' Q => E2 30 (D' + 5) Q 135 [(0, .ref 0)] R S') (Or.inl rfl) (by first | decide | exact Or.inl (by decide) | omega) b0
    (fun w R S' r2 R' S'' Q hw z1 z2 z3 z4 z5 => by
      refine mj_on (s30_95 _ _ ?_)
      rw [z1, nI_clamp (by first | decide | exact Or.inl (by decide) | omega), z2, if_pos z3, show (4 : Int32) = nI 4 from rfl, pk_mul, nI_add, nI_clamp (by first | decide | exact Or.inl (by decide) | omega), nI_1]
      exact ⟨vd, if_le (by first | decide | exact Or.inl (by decide) | omega) (by first | decide | exact Or.inl (by decide) | omega) (fun y => absurd y (by first | decide | exact Or.inl (by decide) | omega)) (fun _ => ⟨trivial, _, _, _, z4, vp_in_nI (by first | decide | exact Or.inl (by decide) | omega) (by decide), z5⟩)⟩)
    (fun w R S' Q hw z1 z2 z3 z4 => by
      refine mj_on (s30_95 _ _ ?_)
      rw [z1, nI_clamp (by first | decide | exact Or.inl (by decide) | omega), z2]
      refine ⟨vd, if_le (by first | decide | exact Or.inl (by decide) | omega) (by first | decide | exact Or.inl (by decide) | omega) (fun _ => z4) (fun y => ?_)⟩
      rcases z3 with z3 | z3
      · exact absurd y (by first | decide | exact Or.inl (by decide) | omega)
      · rw [if_neg z3]; exact z4) W 0 p3 a3 t3' v3 l3 o3 If Rf Sd (by first | decide | exact Or.inl (by decide) | omega) kf n0 m0' h35f
  have c154 : C1 (D + 7) 154 [.ref 11, .int (nI 3), .int (nI Tn)] If J1 .null Ig J1 := mj_mk (e154 _ _ (w1 _ rfl))
  rw [hIf] at c154
  have cc := cgo1 (c152 n3a hlt c1 c3 c154)
  have g3 : Ig 15 3 = nI Tn := by rw [w3 15 3 (by first | decide | exact Or.inl (by decide) | omega) (by first | decide | exact Or.inl (by decide) | omega)]; exact n3
  rw [g3, nI_1] at cc
  obtain ⟨Ih, hIh⟩ : ∃ Ih, Ih = mj_up Ig 15 3 (nI (Tn + 1)) := ⟨_, rfl⟩
  rw [← hIh] at cc
  have fC : ∀ q j, (q ≠ 11 ∨ j = 9) → (q ≠ 15 ∨ j ≠ 3) → (q ≠ 18 ∨ j < 480 + 4 * Tn ∨ 480 + 4 * Tn + W ≤ j) → Ih q j = If q j := fun q j z1 z2 z3 => by
    rw [hIh, up_n (by first | decide | exact Or.inl (by decide) | omega), w3 q j (by first | decide | exact Or.inl (by decide) | omega) (by first | decide | exact Or.inl (by decide) | omega)]
  have r40 : ∀ {R : (Nat → Nat → Int32)} {S' : (Nat → Nat → Int64)}, E2 30 (D' + 5) (fun y => y = (.null, (R, S', mj_R2))) 135 [(0, .ref 0)] Rg Sg → E2 30 (D' + 5) (fun y => y = (.null, (R, S', mj_R2))) 40 [(0, .ref 0)] Ra Sa := fun {R S'} w => r30_go h8a hd hlt h35 m3 c2 c4 (by rw [← hRf]; exact w2 _ w)
  have g35g : Rg 0 35 = nI d := by rw [w4 0 35 (by first | decide | exact Or.inl (by decide) | omega) (by first | decide | exact Or.inl (by decide) | omega)]; exact h35f
  rcases w6 with ⟨p4, a4, t4, v4, l4, o4, q5, hp4, hv⟩ | ⟨k4, p4, q5⟩
  rotate_left
  · refine ⟨Ih, Rg, Sg, cc, fun r' hr' => rin (r40 (mj_on (s30_135 ?_))) hr', Or.inr ⟨⟨_, _, by rw [hIh]; exact tkD_u1 q5 (by decide)⟩, ⟨fun q j z1 z2 => ?_, fun q j z1 z2 z3 => ?_, fun q j z1 z2 => ?_⟩, ⟨S, RS_S h, ?_⟩, ⟨W, b0, ?_⟩, ⟨Un, b5, ?_⟩⟩⟩
    · rw [if_neg (tkD_8 q5).1]
    · rw [fC q j (Or.inl z1) (by first | decide | exact Or.inl (by decide) | omega) (by first | decide | exact Or.inl (by decide) | omega)]; exact fA1 q j z1 z2
    · rw [w4 q j (by unfold tsz at z1; omega) (by unfold oub at z3; omega)]; exact fA2 q j z1 z2 z3
    · rw [w5 q j z1]; exact fA3 q j z1 z2
    · rw [fC 14 9 (by first | decide | exact Or.inl (by decide) | omega) (by first | decide | exact Or.inl (by decide) | omega) (by first | decide | exact Or.inl (by decide) | omega)]; exact hD2.2.1
    · rw [fC 15 0 (by first | decide | exact Or.inl (by decide) | omega) (by first | decide | exact Or.inl (by decide) | omega) (by first | decide | exact Or.inl (by decide) | omega)]; exact n0
    · rw [fC 15 5 (by first | decide | exact Or.inl (by decide) | omega) (by first | decide | exact Or.inl (by decide) | omega) (by first | decide | exact Or.inl (by decide) | omega)]; exact n5
  obtain ⟨Rh, hRh⟩ : ∃ Rh, Rh = mj_up Rg 5 d (nI (Tn + 1)) := ⟨_, rfl⟩
  have fR : ∀ q j, (q ≠ 0 ∨ (j ≠ 3 ∧ j ≠ 4 ∧ j ≠ 5 ∧ j ≠ 6 ∧ j ≠ 8 ∧ j ≠ 9)) → (q ≠ 5 ∨ j ≠ d) → (q ≠ 16 ∨ j < 4 * (24 * d + Tn) ∨ 4 * (24 * d + Tn) + W ≤ j) → Rh q j = Rf q j := fun q j z1 z2 z3 => by
    rw [hRh, up_n (by first | decide | exact Or.inl (by decide) | omega), w4 q j z1 (by first | decide | exact Or.inl (by decide) | omega)]
  have g5g : Rg 5 d = nI Tn := by rw [w4 5 d (by first | decide | exact Or.inl (by decide) | omega) (by first | decide | exact Or.inl (by decide) | omega)]; exact m3'
  refine ⟨Ih, Rh, Sg, cc, fun r' hr' => rin (r40 (mj_on (s30_135 ?_))) hr', Or.inl ⟨W, Rn, Kn, Tn + 1, Hn, Un, S, F, p4, a4, t4, v4, l4, o4, ⟨tkR_cg q5 (fun q j z => by rw [hIh, up_n (by first | decide | exact Or.inl (by decide) | omega)]) (fun q j z => by rw [hRh, up_n (by first | decide | exact Or.inl (by decide) | omega)]) rfl, ⟨fun q j z1 z2 => ?_, fun q j z1 z2 z3 => ?_, fun q j z1 z2 => ?_⟩, ?_, by omega, by omega, ?_⟩, by omega⟩⟩
  · rw [if_pos (r_8 q5), g35g, nI_clamp (by first | decide | exact Or.inl (by decide) | omega), g5g, nI_1, ← hRh]
    exact ⟨vd, vd, rfl⟩
  · rw [fC q j (Or.inl z1) (by first | decide | exact Or.inl (by decide) | omega) (by first | decide | exact Or.inl (by decide) | omega)]; exact fA1 q j z1 z2
  · rw [fR q j (by unfold tsz at z1; omega) (by unfold oub at z3; omega) (by unfold oub at z3; omega)]; exact fA2 q j z1 z2 z3
  · rw [w5 q j z1]; exact fA3 q j z1 z2
  · have hO := TDo_up (I1' := Ih) (I2' := Rh) (J2' := Sg) hD2.2.2.2.2.2 b0 (fun q j z => fC q j (by unfold inC at z; omega) (by unfold inC at z; omega) (by unfold inC at z; omega)) (fun q j z => fR q j (by unfold inR at z; omega) (by unfold inR at z; omega) (by unfold inR at z; omega)) (fun q j z => w5 q j (by unfold inJ at z; omega))
    refine TD_new hD2 (fC 14 9 (by first | decide | exact Or.inl (by decide) | omega) (by first | decide | exact Or.inl (by decide) | omega) (by first | decide | exact Or.inl (by decide) | omega)) (fR 0 35 (by first | decide | exact Or.inl (by decide) | omega) (by first | decide | exact Or.inl (by decide) | omega) (by first | decide | exact Or.inl (by decide) | omega)) (fR 0 34 (by first | decide | exact Or.inl (by decide) | omega) (by first | decide | exact Or.inl (by decide) | omega) (by first | decide | exact Or.inl (by decide) | omega)) (fun j => fC 23 j (by first | decide | exact Or.inl (by decide) | omega) (by first | decide | exact Or.inl (by decide) | omega) (by first | decide | exact Or.inl (by decide) | omega)) ⟨?_, ?_, ?_, ?_, ?_, ?_, ?_, ?_, ?_, ?_, ?_, ?_, hd, b0, b1, b2, by omega, b4, b5⟩ ?_
    · exact (fC 15 0 (by first | decide | exact Or.inl (by decide) | omega) (by first | decide | exact Or.inl (by decide) | omega) (by first | decide | exact Or.inl (by decide) | omega)).trans n0
    · exact (fC 15 1 (by first | decide | exact Or.inl (by decide) | omega) (by first | decide | exact Or.inl (by decide) | omega) (by first | decide | exact Or.inl (by decide) | omega)).trans n1
    · exact (fC 15 2 (by first | decide | exact Or.inl (by decide) | omega) (by first | decide | exact Or.inl (by decide) | omega) (by first | decide | exact Or.inl (by decide) | omega)).trans n2
    · show Ih 15 3 = _
      rw [hIh, up_s]
    · exact (fC 15 4 (by first | decide | exact Or.inl (by decide) | omega) (by first | decide | exact Or.inl (by decide) | omega) (by first | decide | exact Or.inl (by decide) | omega)).trans n4
    · exact (fC 15 5 (by first | decide | exact Or.inl (by decide) | omega) (by first | decide | exact Or.inl (by decide) | omega) (by first | decide | exact Or.inl (by decide) | omega)).trans n5
    · exact (fR 2 d (by first | decide | exact Or.inl (by decide) | omega) (by first | decide | exact Or.inl (by decide) | omega) (by first | decide | exact Or.inl (by decide) | omega)).trans m0'
    · exact (fR 3 d (by first | decide | exact Or.inl (by decide) | omega) (by first | decide | exact Or.inl (by decide) | omega) (by first | decide | exact Or.inl (by decide) | omega)).trans m1'
    · exact (fR 4 d (by first | decide | exact Or.inl (by decide) | omega) (by first | decide | exact Or.inl (by decide) | omega) (by first | decide | exact Or.inl (by decide) | omega)).trans m2'
    · rw [hRh, up_s]
    · exact (fR 6 d (by first | decide | exact Or.inl (by decide) | omega) (by first | decide | exact Or.inl (by decide) | omega) (by first | decide | exact Or.inl (by decide) | omega)).trans m4'
    · exact (fR 7 d (by first | decide | exact Or.inl (by decide) | omega) (by first | decide | exact Or.inl (by decide) | omega) (by first | decide | exact Or.inl (by decide) | omega)).trans m5'
    · obtain ⟨g1, g2, g3, g4, g5, g9⟩ := hO
      refine ⟨g1, g2, fun t ht => ?_, g4, g5, g9⟩
      by_cases e : t = Tn
      · rw [e]
        have y20 : Ih (14 + 6) Tn = nI kk := (fC 20 Tn (by first | decide | exact Or.inl (by decide) | omega) (by first | decide | exact Or.inl (by decide) | omega) (by first | decide | exact Or.inl (by decide) | omega)).trans x20
        have y21 : Ih (14 + 7) Tn = nI k3 := (fC 21 Tn (by first | decide | exact Or.inl (by decide) | omega) (by first | decide | exact Or.inl (by decide) | omega) (by first | decide | exact Or.inl (by decide) | omega)).trans x21
        rw [y20, y21, fR 14 _ (by first | decide | exact Or.inl (by decide) | omega) (by first | decide | exact Or.inl (by decide) | omega) (by first | decide | exact Or.inl (by decide) | omega), fR 15 _ (by first | decide | exact Or.inl (by decide) | omega) (by first | decide | exact Or.inl (by decide) | omega) (by first | decide | exact Or.inl (by decide) | omega), x14, x15]
        refine ⟨rfl, rfl, ⟨kk, k3, hk1, hk3, kne, rfl, rfl⟩, fun w hw => ?_⟩
        have q := hv w (Nat.zero_le _) hw
        rw [hRh, up_n (by first | decide | exact Or.inl (by decide) | omega)]
        have y18 : Ih (14 + 4) (480 + 4 * Tn + w) = Ig 18 (160 * 3 + 4 * Tn + w) := by rw [hIh]; exact up_n (by first | decide | exact Or.inl (by decide) | omega)
        rw [y18]
        exact q
      · exact g3 t (by first | decide | exact Or.inl (by decide) | omega)
  · exact ⟨(fC 14 0 (by first | decide | exact Or.inl (by decide) | omega) (by first | decide | exact Or.inl (by decide) | omega) (by first | decide | exact Or.inl (by decide) | omega)).trans hm2.1, (fC 11 9 (by first | decide | exact Or.inl (by decide) | omega) (by first | decide | exact Or.inl (by decide) | omega) (by first | decide | exact Or.inl (by decide) | omega)).trans hm2.2⟩
end Sa9j
end
section
/-! rules, on both sides -/
section Sa9k
variable {n d W Rn Kn Tn Hn Un S F mc : Nat} {x : Nat → Nat} {B1 B2 : Nat → Nat → Int32} {BJ : Nat → Nat → Int64}
variable {D D' E p a t v : Nat} {l : List Nat} {o : Int} {I1 I2 : Nat → Nat → Int32} {J1 J2 : Nat → Nat → Int64}
theorem r33_D (h : ¬ I2 0 8 ≤ 0) : C2 (D + 1) 33 [.ref 0] I2 J2 .null I2 J2 := by
  refine mj_mk (e33 ?_)
  rw [if_neg h]
theorem r264_D {Q : mj_R → Prop} (h : ¬ I2 0 8 = 0) (hQ : E2 17 D Q 296 [(0, .ref 0)] I2 J2) : E2 17 D Q 264 [(0, .ref 0)] I2 J2 := by
  refine mj_on (s17_264 ?_)
  rw [if_neg h]
  exact hQ
theorem st_rule (h : RS n x d B1 B2 BJ W Rn Kn Tn Hn Un S F mc p a t v l o I1 I2 J2) (ho : o = (5 : Nat)) (hDD : 39 ≤ D) : STO n x d B1 B2 BJ D D' mc p J1 I1 I2 J2 := by
  have hk := h.1
  have hD := h.2.2.1
  obtain ⟨⟨n0, n1, n2, n3, n4, n5⟩, ⟨m0, m1, m2, m3, m4, m5⟩, hd, b0, b1, b2, b3, b4, b5⟩ := TD_N hD
  have t3 := (tk_w hk (w := 5) (by decide) ho).1
  have h7 := own_n hk (by decide) ho
  obtain ⟨Ia, Ra, Sa, k1, k2⟩ := cnt_both (D := D + 5) (D' := D' + 3) (J1 := J1) (y1 := tf (Un = 12)) (y2 := tf False) h t3 rfl rfl
  have c145' := c145 (D := D + 7) (J1 := J1) hD (k := 5) (by decide)
  have ne : ¬ erl 5 W Rn Tn Hn := by
    rintro (⟨q, -⟩ | ⟨q, -⟩) <;> omega
  rw [tf_f ne] at c145'
  have dead : ∀ {Q : mj_R → Prop}, ¬ Ra 0 8 = 0 → ¬ Ra 0 8 ≤ 0 → E2 17 (D' + 6) Q 296 [(0, .ref 0)] Ra Sa → E2 17 (D' + 6) Q 194 [(0, .ref 0)] Ra Sa := fun {Q} q1 q2 hQ => by
    refine mj_on (s17_194 ?_)
    rw [if_neg q1]
    refine mj_on (s17_227 ?_)
    refine ⟨trivial, _, _, r33_D (D := D' + 5) q2, ?_⟩
    rw [if_neg q1]
    exact r264_D q1 hQ
  rcases k2 with ⟨f, c, q⟩ | ⟨f, e, -⟩ | ⟨f, -, c, -, q⟩
  · exact ⟨Ia, Ra, Sa, c143_full (k := 5) h7 (by decide) n5 mst_5 (by decide) f c, fun r hr => r17_5 hD hk ho k1 (dead (DS_8 q).1 (DS_8 q).2 hr), Or.inr q⟩
  · exact e.elim
  have hlt : Un < 12 := by omega
  have cgo1 : ∀ {Ib Ic : (Nat → Nat → Int32)}, C1 (D + 8) 157 [.ref 11] Ia J1 .null Ib J1 → C1 (D + 8) 169 [.ref 14] Ib J1 .null Ic J1 → C1 (D + 9) 143 [.ref 11] I1 J1 .null Ic J1 := fun c2 c3 => c143_go (k := 5) h7 (by decide) n5 mst_5 (by decide) hlt c145' c (Or.inr (Or.inr (Or.inr (Or.inr (Or.inr ⟨rfl, _, _, c2, c3⟩)))))
  rcases q with ⟨p1, a1, t1, v1, l1, o1, q, hp⟩ | q
  rotate_left
  · obtain ⟨Ib, c2, q2⟩ := e_test (D := D) (J1 := J1) q
    obtain ⟨Ic, c3, q3⟩ := e_end (D := D + 7) (J1 := J1) q2
    exact ⟨Ic, Ra, Sa, cgo1 c2 c3, fun r hr => r17_5 hD hk ho k1 (dead (DS_8 q).1 (DS_8 q).2 hr), Or.inr q3⟩
  have b19 : ¬ oub d 19 (12 * d + Un) := by unfold oub; omega
  obtain ⟨Rb, hRb⟩ : ∃ Rb, Rb = mj_up Ra 19 (12 * d + Un) (nI F) := ⟨_, rfl⟩
  have hDa := q.2.2.1
  have qb := RS_wr2 (q0 := 19) (j0 := 12 * d + Un) (y := nI F) q (by decide) (by unfold inR; omega) b19
  rw [← hRb] at qb
  have r8a := r_8 q.1
  obtain ⟨ka, ⟨fA1, fA2, fA3⟩, hD1, hS1, hF1, hm1, h11⟩ := qb
  obtain ⟨⟨n0, n1, n2, n3, n4, n5⟩, ⟨m0, m1, m2, m3, m4, m5⟩, -⟩ := TD_N hD1
  obtain ⟨h35, h149, hSr, h34, -, hT⟩ := id hD1
  obtain ⟨-, ⟨-, ⟨m0a, m1a, m2a, m3a, m4a, m5a⟩, -⟩⟩ : True ∧ _ := ⟨trivial, TD_N hDa⟩
  have h35a := hDa.1
  have h34a := hDa.2.2.2.1
  have hn1 := tk_n ka
  have vd : vp_in (nI d) 2 := vp_in_nI hd (by decide)
  have v24 : vp_in (nI (12 * d + Un)) 24 := vp_in_nI (by first | decide | exact Or.inl (by decide) | omega) (by decide)
  -- the reference's test begins
  obtain ⟨Rc, hRc⟩ : ∃ Rc, Rc = mj_up (mj_up (mj_up (mj_up Rb 0 41 0) 0 42 0) 0 44 0) 0 45 0 := ⟨_, rfl⟩
  have rc41 : Rc 0 41 = nI 0 := by rw [hRc, up_n (by first | decide | exact Or.inl (by decide) | omega), up_n (by first | decide | exact Or.inl (by decide) | omega), up_n (by first | decide | exact Or.inl (by decide) | omega), up_s]; rfl
  have rc42 : Rc 0 42 = nI 0 := by rw [hRc, up_n (by first | decide | exact Or.inl (by decide) | omega), up_n (by first | decide | exact Or.inl (by decide) | omega), up_s]; rfl
  have rc44 : Rc 0 44 = nI 0 := by rw [hRc, up_n (by first | decide | exact Or.inl (by decide) | omega), up_s]; rfl
  have rc45 : Rc 0 45 = 0 := by rw [hRc, up_s]
  have c34 := r_push (D := D' + 4) (J2 := Sa) (k := 1) rc41 rc44 (by decide)
  obtain ⟨Rd, hRd⟩ : ∃ Rd, Rd = mj_up (mj_up (mj_up (mj_up (mj_up Rc 23 0 (nI 1)) 24 0 0) 25 0 1) 27 0 (nI 0)) 0 41 (nI (0 + 1)) := ⟨_, rfl⟩
  rw [← hRd] at c34
  have fRc : ∀ q j, (q ≠ 0 ∨ (j ≠ 41 ∧ j ≠ 42 ∧ j ≠ 44 ∧ j ≠ 45)) → Rc q j = Rb q j := fun q j z => by
    rw [hRc, up_n (by first | decide | exact Or.inl (by decide) | omega), up_n (by first | decide | exact Or.inl (by decide) | omega), up_n (by first | decide | exact Or.inl (by decide) | omega), up_n (by first | decide | exact Or.inl (by decide) | omega)]
  have fRd : ∀ q j, (q ≠ 0 ∨ j ≠ 41) → (q < 23 ∨ 28 ≤ q) → Rd q j = Rc q j := fun q j z1 z2 => by
    rw [hRd, up_n (by first | decide | exact Or.inl (by decide) | omega), up_n (by first | decide | exact Or.inl (by decide) | omega), up_n (by first | decide | exact Or.inl (by decide) | omega), up_n (by first | decide | exact Or.inl (by decide) | omega), up_n (by first | decide | exact Or.inl (by decide) | omega)]
  have fRb : ∀ q j, (q ≠ 0 ∨ (j ≠ 41 ∧ j ≠ 42 ∧ j ≠ 44 ∧ j ≠ 45)) → (q < 23 ∨ 28 ≤ q) → Rd q j = Rb q j := fun q j z1 z2 => by
    rw [fRd q j (by first | decide | exact Or.inl (by decide) | omega) z2, fRc q j z1]
  have kd : tkR n x p1 a1 t1 v1 l1 o1 Ia Rd Sa := tkR_cg ka (fun _ _ _ => rfl) (fun q j z => fRb q j (by first | decide | exact Or.inl (by decide) | omega) (by first | decide | exact Or.inl (by decide) | omega)) rfl
  have hts : TS n x d S F Ia Rd Sa 0 1 0 0 1 [] Rd [] [] p1 a1 t1 v1 l1 o1 Ia Rd Sa := by
    refine ⟨kd, fun _ _ _ _ _ => rfl, fun _ _ _ _ _ => rfl, fun _ _ _ => rfl, ⟨h149, fun k y z => by simp at z, ?_, fun k y z => by simp at z, by decide, ?_, ?_⟩, ?_, ?_, ?_, ?_, ?_, fun i y z => by simp at z, fun _ _ _ _ _ => rfl, rfl, fun _ _ => rfl, by decide, by decide, Or.inr rfl, fun c hc => by cases hc⟩
    · rw [fRb 0 34 (by first | decide | exact Or.inl (by decide) | omega) (by first | decide | exact Or.inl (by decide) | omega)]; exact h34
    · rw [fRd 0 42 (by first | decide | exact Or.inl (by decide) | omega) (by first | decide | exact Or.inl (by decide) | omega)]; exact rc42
    · rw [fRd 0 44 (by first | decide | exact Or.inl (by decide) | omega) (by first | decide | exact Or.inl (by decide) | omega)]; exact rc44
    · rw [hRd, up_s]
    · rw [hRd, up_n (by first | decide | exact Or.inl (by decide) | omega), up_n (by first | decide | exact Or.inl (by decide) | omega), up_n (by first | decide | exact Or.inl (by decide) | omega), up_n (by first | decide | exact Or.inl (by decide) | omega), up_s]
    · rw [hRd, up_n (by first | decide | exact Or.inl (by decide) | omega), up_n (by first | decide | exact Or.inl (by decide) | omega), up_n (by first | decide | exact Or.inl (by decide) | omega), up_s]; rfl
    · rw [hRd, up_n (by first | decide | exact Or.inl (by decide) | omega), up_n (by first | decide | exact Or.inl (by decide) | omega), up_s]
    · rw [hRd, up_n (by first | decide | exact Or.inl (by decide) | omega), up_s]
  have hS : stc d W Hn Ia Rd Sa := by
    obtain ⟨a1', a2', a3', a4'⟩ := hT.2.2.2.2.1
    exact ⟨hd, b0, b4, n0, n4, by rw [fRb 2 d (by first | decide | exact Or.inl (by decide) | omega) (by first | decide | exact Or.inl (by decide) | omega)]; exact m0, by rw [fRb 6 d (by first | decide | exact Or.inl (by decide) | omega) (by first | decide | exact Or.inl (by decide) | omega)]; exact m4, by rw [fRb 0 35 (by first | decide | exact Or.inl (by decide) | omega) (by first | decide | exact Or.inl (by decide) | omega)]; exact h35, a1', a4'⟩
  have r45 : Rd 0 45 = 0 := by rw [fRd 0 45 (by first | decide | exact Or.inl (by decide) | omega) (by first | decide | exact Or.inl (by decide) | omega)]; exact rc45
  obtain ⟨Ib, c2, hL⟩ := test_all (n := n) (x := x) (d := d) (s0 := S) (f0 := F) (W := W) (H := Hn) (B1 := Ia) (B2 := Rd) (BJ := Sa) (J1 := J1) (E := D') hS 8 (D + 8) 0 1 0 Rd [] [] p1 a1 t1 v1 l1 o1 Ia Rd Sa (by first | decide | exact Or.inl (by decide) | omega) rfl (Or.inl rfl) hts r45 h11 (by show S + 0 ≤ p1; omega) (by show F + 0 + (0 + 0) ≤ p1; omega) (by first | decide | exact Or.inl (by decide) | omega)
  have c33 : ∀ {R : (Nat → Nat → Int32)} {S' : (Nat → Nat → Int64)}, gD D' Rd Sa R S' → C2 (D' + 6) 33 [.ref 0] Rb Sa .null R S' := fun {R S'} g => by
    refine mj_mk (e33 ?_)
    rw [if_pos (by rw [r_8 ka]; decide)]
    refine ⟨Or.inl rfl, mj_on (s33_28 ?_)⟩
    rw [← hRc]
    exact ⟨trivial, _, _, c34, g _ rfl⟩
  have r194 : ∀ {Q : mj_R → Prop} {R : (Nat → Nat → Int32)} {S' : (Nat → Nat → Int64)}, C2 (D' + 6) 33 [.ref 0] Rb Sa .null R S' → (if R 0 8 = 0 then (vp_in (R 0 35) 2 ∧ vp_in ((12 : Int32) * R 0 35 + R 7 (R 0 35).toNatClampNeg) 24 ∧ E2 17 (D' + 6) Q 264 [(0, .ref 0)] (mj_up R 20 ((12 : Int32) * R 0 35 + R 7 (R 0 35).toNatClampNeg).toNatClampNeg (R 0 34)) S') else E2 17 (D' + 6) Q 264 [(0, .ref 0)] R S') → E2 17 (D' + 6) Q 194 [(0, .ref 0)] Ra Sa := fun {Q R S'} g w => by
    refine mj_on (s17_194 ?_)
    rw [if_pos r8a, h35a, nI_clamp (by first | decide | exact Or.inl (by decide) | omega), m5a, show (12 : Int32) = nI 12 from rfl, pk_mul, nI_add, nI_clamp (by first | decide | exact Or.inl (by decide) | omega), h34a, ← hRb]
    refine ⟨vd, v24, mj_on (s17_227 ?_)⟩
    exact ⟨trivial, _, _, g, w⟩
  rcases hL with ⟨p2, a2, t2, v2, l2, o2, ph2, y1, y2, kk, R2, S2, g1, w1, w2, w3, w4, w5, w6, w7, w8, w9, w10, w11, w12⟩ | ⟨R2, S2, g1, w1⟩
  rotate_left
  · -- a fault
    obtain ⟨z1, z2, z3, z4, c', z5, z6, z7⟩ := w1
    have q2 : DS d B1 B2 BJ Ib R2 S2 := by
      refine ⟨z1, ⟨fun q j y1 y2 => ?_, fun q j y1 y2 y3 => ?_, fun q j y1 y2 => ?_⟩, ⟨c', z6, z7⟩, ⟨W, b0, ?_⟩, ⟨Un, b5, ?_⟩⟩
      · rw [z2 q j (Or.inl y1) (by first | decide | exact Or.inl (by decide) | omega) (by first | decide | exact Or.inl (by decide) | omega)]; exact fA1 q j y1 y2
      · rw [z3 q j (by unfold tsz at y1; unfold tsl; omega) (by unfold oub at y3; omega) y2, fRb q j (by unfold tsz at y1; omega) (by first | decide | exact Or.inl (by decide) | omega)]; exact fA2 q j y1 y2 y3
      · rw [z4 q j y1]; exact fA3 q j y1 y2
      · rw [z2 15 0 (by first | decide | exact Or.inl (by decide) | omega) (by first | decide | exact Or.inl (by decide) | omega) (by first | decide | exact Or.inl (by decide) | omega)]; exact n0
      · rw [z2 15 5 (by first | decide | exact Or.inl (by decide) | omega) (by first | decide | exact Or.inl (by decide) | omega) (by first | decide | exact Or.inl (by decide) | omega)]; exact n5
    obtain ⟨Ic, c3, q3⟩ := e_end (D := D + 7) (J1 := J1) q2
    refine ⟨Ic, R2, S2, cgo1 c2 c3, fun r hr => r17_5 hD hk ho k1 (r194 (c33 g1) ?_), Or.inr q3⟩
    rw [if_neg (DS_8 q2).1]
    exact r264_D (DS_8 q2).1 hr
  have hn2 := tk_n w1.1
  have ek : ([] ++ kk : List Nat).length = kk.length := rfl
  have ec2 : ([] ++ y2 : (List (Nat × Nat))).length = y2.length := rfl
  rw [ek, ec2] at w8
  obtain ⟨Re, d1, d2, d3⟩ := ts_join (D := D' + 2) (r := 1) (kk := kk) (K := []) hS (by decide) (fun c hc => by cases hc) w1 w5 (by rw [ec2]; omega) (by show 0 + 0 + kk.length < 500; omega)
  have d41 : C2 (D' + 5) 41 [.ref 0] R2 S2 (.int 0) Re S2 := by
    refine go_385 (D := D' + 3) w1 w11 (fun _ => ⟨w10, w12.2, w12.1⟩) (mj_on (s41_385 _ _ ?_))
    rw [if_pos (show nI 1 = (1 : Int32) from rfl), if_pos (r_8 w1.1)]
    exact ⟨trivial, _, _, d1, Or.inl rfl, rfl⟩
  have gd : gD D' Rd Sa Re S2 := gA_D g1 (g_goD w2 d41 (Or.inr rfl))
  obtain ⟨x1, x2, x3, x4, ⟨x5, x6, x7, x8, -⟩, -⟩ := d2
  have e1 : ([] ++ y1 : (List (Nat × Nat))) = y1 := rfl
  have e2 : ([] ++ y2 ++ pops kk : (List (Nat × Nat))) = y2 ++ pops kk := rfl
  rw [e1] at x5 x6
  rw [e2] at x7 x8
  have el : (y2 ++ pops kk).length = y2.length + kk.length := by rw [List.length_append, pops_len]
  -- the class ends the rule
  have g5 : Ib 15 5 = nI Un := by rw [x2 15 5 (by first | decide | exact Or.inl (by decide) | omega) (by first | decide | exact Or.inl (by decide) | omega) (by first | decide | exact Or.inl (by decide) | omega)]; exact n5
  obtain ⟨Ic, hIc⟩ : ∃ Ic, Ic = mj_up (mj_up Ib 23 Un (nI (S + y1.length))) 15 5 (nI (Un + 1)) := ⟨_, rfl⟩
  have v5 : vp_in (5 : Int32) 6 := vp_in_nI (n := 5) (by decide) (by decide)
  have c169 : C1 (D + 8) 169 [.ref 14] Ib J1 .null Ic J1 := by
    refine mj_mk (e169 ⟨v5, ?_⟩)
    rw [show ((5 : Int32)).toNatClampNeg = 5 from rfl, g5, x5, show (12 : Int32) = nI 12 from rfl, nI_clamp (by first | decide | exact Or.inl (by decide) | omega), nI_1, ← hIc]
    exact if_le (by decide) (by first | decide | exact Or.inl (by decide) | omega) (fun z => absurd z (by first | decide | exact Or.inl (by decide) | omega)) (fun _ => ⟨v5, vp_in_nI (by first | decide | exact Or.inl (by decide) | omega) (by decide), v5, v5, rfl⟩)
  -- the reference ends it
  have r35 : Re 0 35 = nI d := by rw [x3 0 35 (by unfold tsl; omega) (by first | decide | exact Or.inl (by decide) | omega) (by first | decide | exact Or.inl (by decide) | omega), fRb 0 35 (by first | decide | exact Or.inl (by decide) | omega) (by first | decide | exact Or.inl (by decide) | omega)]; exact h35
  have r7 : Re 7 d = nI Un := by rw [x3 7 d (by first | decide | exact Or.inl (by decide) | omega) (by first | decide | exact Or.inl (by decide) | omega) (by first | decide | exact Or.inl (by decide) | omega), fRb 7 d (by first | decide | exact Or.inl (by decide) | omega) (by first | decide | exact Or.inl (by decide) | omega)]; exact m5
  obtain ⟨Rf, hRf⟩ : ∃ Rf, Rf = mj_up Re 20 (12 * d + Un) (nI (F + (y2 ++ pops kk).length)) := ⟨_, rfl⟩
  obtain ⟨Rg, hRg⟩ : ∃ Rg, Rg = mj_up Rf 7 d (nI (Un + 1)) := ⟨_, rfl⟩
  have fR : ∀ q j, (q ≠ 0 ∨ tsl j) → ((q ≠ 21 ∧ q ≠ 22) ∨ j < 900 * d + F ∨ 900 * d + 900 ≤ j) → (q < 23 ∨ 28 < q) → (q ≠ 20 ∨ j ≠ 12 * d + Un) → (q ≠ 7 ∨ j ≠ d) → (q ≠ 0 ∨ (j ≠ 41 ∧ j ≠ 42 ∧ j ≠ 44 ∧ j ≠ 45)) → Rg q j = Rb q j := fun q j z1 z2 z3 z4 z5 z6 => by
    rw [hRg, up_n (by first | decide | exact Or.inl (by decide) | omega), hRf, up_n (by first | decide | exact Or.inl (by decide) | omega), x3 q j z1 z2 z3, fRb q j z6 (by first | decide | exact Or.inl (by decide) | omega)]
  have fC : ∀ q j, (q ≠ 11 ∨ j < 4) → (q ≠ 14 ∨ j ≠ 9) → (q ≠ 22 ∨ j < S) → (q ≠ 23 ∨ j ≠ Un) → (q ≠ 15 ∨ j ≠ 5) → Ic q j = Ia q j := fun q j z1 z2 z3 z4 z5 => by
    rw [hIc, up_n (by first | decide | exact Or.inl (by decide) | omega), up_n (by first | decide | exact Or.inl (by decide) | omega), x2 q j z1 z2 z3]
  refine ⟨Ic, Rg, S2, cgo1 c2 c169, fun r hr => r17_5 hD hk ho k1 (r194 (c33 gd) ?_), Or.inl ⟨W, Rn, Kn, Tn, Hn, Un + 1, S + y1.length, F + (y2 ++ pops kk).length, p2, a2, t2, v2, l2, o2, ⟨tkR_cg x1 (fun q j z => by rw [hIc, up_n (by first | decide | exact Or.inl (by decide) | omega), up_n (by first | decide | exact Or.inl (by decide) | omega)]) (fun q j z => by rw [hRg, up_n (by first | decide | exact Or.inl (by decide) | omega), hRf, up_n (by first | decide | exact Or.inl (by decide) | omega)]) rfl, ⟨fun q j z1 z2 => ?_, fun q j z1 z2 z3 => ?_, fun q j z1 z2 => ?_⟩, ?_, by omega, by rw [el]; omega, ?_, ?_⟩, by omega⟩⟩
  · have r0 : Re 0 8 = 0 := r_8 x1
    rw [if_pos r0, r35, nI_clamp (by first | decide | exact Or.inl (by decide) | omega), r7, show (12 : Int32) = nI 12 from rfl, pk_mul, nI_add, nI_clamp (by first | decide | exact Or.inl (by decide) | omega), x7, ← hRf]
    refine ⟨vd, v24, mj_on (s17_264 ?_)⟩
    have f0 : Rf 0 8 = 0 := by rw [hRf, up_n (by first | decide | exact Or.inl (by decide) | omega)]; exact r0
    have f35 : Rf 0 35 = nI d := by rw [hRf, up_n (by first | decide | exact Or.inl (by decide) | omega)]; exact r35
    have f7 : Rf 7 d = nI Un := by rw [hRf, up_n (by first | decide | exact Or.inl (by decide) | omega)]; exact r7
    rw [if_pos f0, f35, nI_clamp (by first | decide | exact Or.inl (by decide) | omega), f7, nI_1, ← hRg]
    exact ⟨vd, vd, hr⟩
  · rw [hIc, up_n (by first | decide | exact Or.inl (by decide) | omega), up_n (by first | decide | exact Or.inl (by decide) | omega), x2 q j (by first | decide | exact Or.inl (by decide) | omega) (by first | decide | exact Or.inl (by decide) | omega) (by first | decide | exact Or.inl (by decide) | omega)]; exact fA1 q j z1 z2
  · rw [hRg, up_n (by unfold oub at z3; omega), hRf, up_n (by unfold oub at z3; omega), x3 q j (by unfold tsz at z1; unfold tsl; omega) (by unfold oub at z3; omega) z2, fRb q j (by unfold tsz at z1; omega) (by first | decide | exact Or.inl (by decide) | omega)]; exact fA2 q j z1 z2 z3
  · rw [x4 q j z1]; exact fA3 q j z1 z2
  · have hO := TDo_up (I1' := Ic) (I2' := Rg) (J2' := S2) hT b0 (fun q j z => fC q j (by unfold inC at z; omega) (by unfold inC at z; omega) (by unfold inC at z; omega) (by unfold inC at z; omega) (by unfold inC at z; omega)) (fun q j z => fR q j (by unfold inR at z; omega) (by unfold inR at z; omega) (by unfold inR at z; omega) (by unfold inR at z; omega) (by unfold inR at z; omega) (by unfold inR at z; omega)) (fun q j z => x4 q j (by unfold inJ at z; omega))
    have erb : rb Ic 23 Un = S := by
      rw [hSr]
      exact rb_cg fun j hj => fC 23 j (by first | decide | exact Or.inl (by decide) | omega) (by first | decide | exact Or.inl (by decide) | omega) (by first | decide | exact Or.inl (by decide) | omega) (by first | decide | exact Or.inl (by decide) | omega) (by first | decide | exact Or.inl (by decide) | omega)
    have e23 : Ic 23 Un = nI (S + y1.length) := by rw [hIc, up_n (by first | decide | exact Or.inl (by decide) | omega), up_s]
    have e19 : Rg 19 (12 * d + Un) = nI F := by
      rw [fR 19 _ (by first | decide | exact Or.inl (by decide) | omega) (by first | decide | exact Or.inl (by decide) | omega) (by first | decide | exact Or.inl (by decide) | omega) (by first | decide | exact Or.inl (by decide) | omega) (by first | decide | exact Or.inl (by decide) | omega) (by first | decide | exact Or.inl (by decide) | omega), hRb, up_s]
    have e20 : Rg 20 (12 * d + Un) = nI (F + (y2 ++ pops kk).length) := by rw [hRg, up_n (by first | decide | exact Or.inl (by decide) | omega), hRf, up_s]
    refine ⟨?_, ?_, ?_, ?_, ⟨?_, ?_, ?_, ?_, ?_, ?_, ?_, ?_, ?_, ?_, ?_, ?_, hd, b0, b1, b2, b3, b4, by omega⟩, ?_⟩
    · rw [hRg, up_n (by first | decide | exact Or.inl (by decide) | omega), hRf, up_n (by first | decide | exact Or.inl (by decide) | omega)]; exact r35
    · rw [hIc, up_n (by first | decide | exact Or.inl (by decide) | omega), up_n (by first | decide | exact Or.inl (by decide) | omega)]; exact x5
    · show S + y1.length = (Ic 23 Un).toNatClampNeg
      rw [e23, nI_clamp (by first | decide | exact Or.inl (by decide) | omega)]
    · rw [hRg, up_n (by first | decide | exact Or.inl (by decide) | omega), hRf, up_n (by first | decide | exact Or.inl (by decide) | omega)]; exact x7
    · exact (fC 15 0 (by first | decide | exact Or.inl (by decide) | omega) (by first | decide | exact Or.inl (by decide) | omega) (by first | decide | exact Or.inl (by decide) | omega) (by first | decide | exact Or.inl (by decide) | omega) (by first | decide | exact Or.inl (by decide) | omega)).trans n0
    · exact (fC 15 1 (by first | decide | exact Or.inl (by decide) | omega) (by first | decide | exact Or.inl (by decide) | omega) (by first | decide | exact Or.inl (by decide) | omega) (by first | decide | exact Or.inl (by decide) | omega) (by first | decide | exact Or.inl (by decide) | omega)).trans n1
    · exact (fC 15 2 (by first | decide | exact Or.inl (by decide) | omega) (by first | decide | exact Or.inl (by decide) | omega) (by first | decide | exact Or.inl (by decide) | omega) (by first | decide | exact Or.inl (by decide) | omega) (by first | decide | exact Or.inl (by decide) | omega)).trans n2
    · exact (fC 15 3 (by first | decide | exact Or.inl (by decide) | omega) (by first | decide | exact Or.inl (by decide) | omega) (by first | decide | exact Or.inl (by decide) | omega) (by first | decide | exact Or.inl (by decide) | omega) (by first | decide | exact Or.inl (by decide) | omega)).trans n3
    · exact (fC 15 4 (by first | decide | exact Or.inl (by decide) | omega) (by first | decide | exact Or.inl (by decide) | omega) (by first | decide | exact Or.inl (by decide) | omega) (by first | decide | exact Or.inl (by decide) | omega) (by first | decide | exact Or.inl (by decide) | omega)).trans n4
    · show Ic 15 5 = _
      rw [hIc, up_s]
    · exact (fR 2 d (by first | decide | exact Or.inl (by decide) | omega) (by first | decide | exact Or.inl (by decide) | omega) (by first | decide | exact Or.inl (by decide) | omega) (by first | decide | exact Or.inl (by decide) | omega) (by first | decide | exact Or.inl (by decide) | omega) (by first | decide | exact Or.inl (by decide) | omega)).trans m0
    · exact (fR 3 d (by first | decide | exact Or.inl (by decide) | omega) (by first | decide | exact Or.inl (by decide) | omega) (by first | decide | exact Or.inl (by decide) | omega) (by first | decide | exact Or.inl (by decide) | omega) (by first | decide | exact Or.inl (by decide) | omega) (by first | decide | exact Or.inl (by decide) | omega)).trans m1
    · exact (fR 4 d (by first | decide | exact Or.inl (by decide) | omega) (by first | decide | exact Or.inl (by decide) | omega) (by first | decide | exact Or.inl (by decide) | omega) (by first | decide | exact Or.inl (by decide) | omega) (by first | decide | exact Or.inl (by decide) | omega) (by first | decide | exact Or.inl (by decide) | omega)).trans m2
    · exact (fR 5 d (by first | decide | exact Or.inl (by decide) | omega) (by first | decide | exact Or.inl (by decide) | omega) (by first | decide | exact Or.inl (by decide) | omega) (by first | decide | exact Or.inl (by decide) | omega) (by first | decide | exact Or.inl (by decide) | omega) (by first | decide | exact Or.inl (by decide) | omega)).trans m3
    · exact (fR 6 d (by first | decide | exact Or.inl (by decide) | omega) (by first | decide | exact Or.inl (by decide) | omega) (by first | decide | exact Or.inl (by decide) | omega) (by first | decide | exact Or.inl (by decide) | omega) (by first | decide | exact Or.inl (by decide) | omega) (by first | decide | exact Or.inl (by decide) | omega)).trans m4
    · rw [hRg, up_s]
    · obtain ⟨g1, g2, g3, g4, g6, g9⟩ := hO
      refine ⟨g1, g2, g3, g4, g6, fun u hu => ?_⟩
      by_cases e : u = Un
      · rw [e]
        refine ⟨F, y1, y2 ++ pops kk, fr2_sgB w4 (by decide), by rw [e23, erb], by rw [erb]; exact Nat.le_refl _, ?_, e19, e20, Nat.le_refl _, ?_⟩
        · rw [erb]
          intro k y hk2
          rw [hIc, up_n (by first | decide | exact Or.inl (by decide) | omega), up_n (by first | decide | exact Or.inl (by decide) | omega)]
          exact x6 k y hk2
        · intro k y hk2
          rw [hRg, up_n (by first | decide | exact Or.inl (by decide) | omega), up_n (by first | decide | exact Or.inl (by decide) | omega), hRf, up_n (by first | decide | exact Or.inl (by decide) | omega), up_n (by first | decide | exact Or.inl (by decide) | omega)]
          exact x8 k y hk2
      · exact tlV_up g9 (Nat.le_refl _) (Nat.le_refl _) (by first | decide | exact Or.inl (by decide) | omega) (by first | decide | exact Or.inl (by decide) | omega) (fun _ _ _ => rfl) (fun _ _ _ => rfl) u (by first | decide | exact Or.inl (by decide) | omega)
  · rw [fC 14 0 (by first | decide | exact Or.inl (by decide) | omega) (by first | decide | exact Or.inl (by decide) | omega) (by first | decide | exact Or.inl (by decide) | omega) (by first | decide | exact Or.inl (by decide) | omega) (by first | decide | exact Or.inl (by decide) | omega)]; exact hm1
  · rw [hIc, up_n (by first | decide | exact Or.inl (by decide) | omega), up_n (by first | decide | exact Or.inl (by decide) | omega)]; exact w3
end Sa9k
end
section
/-! statements one behind the other, to the end of the text or to the first fault -/
section Sa9l
variable {n d W Rn Kn Tn Hn Un S F mc : Nat} {x : Nat → Nat} {B1 B2 : Nat → Nat → Int32} {BJ : Nat → Nat → Int64}
variable {D D' E p a t v : Nat} {l : List Nat} {o : Int} {I1 I2 : Nat → Nat → Int32} {J1 J2 : Nat → Nat → Int64}
theorem tk_rng (h : tkR n x p a t v l o I1 I2 J2) : o = -1 ∨ ∃ w : Nat, w < 17 ∧ o = (w : Nat) ∧ t = 3 := by
  rcases h.2.2.2.2.2.2.2.2.2.2.2.2.2.2.2.2 with ⟨-, -, -, q⟩ | ⟨-, -, -, -, -, -, -, -, q⟩ | ⟨-, -, -, -, -, -, -, q⟩ | ⟨t3, -, -, -, -, -, -, q⟩
  · exact Or.inl q
  · exact Or.inl q
  · exact Or.inl q
  · rcases q with ⟨q, -⟩ | ⟨w, hw, q, -⟩
    · exact Or.inl q
    · exact Or.inr ⟨w, hw, q, t3⟩
/-- no statement begins so -/
theorem st_none (h : RS n x d B1 B2 BJ W Rn Kn Tn Hn Un S F mc p a t v l o I1 I2 J2) (ho : ∀ w : Nat, w ≤ 5 → o ≠ (w : Nat)) : ∃ I1' I2', C1 (D + 9) 143 [.ref 11] I1 J1 .null I1' J1 ∧ (∀ r, E2 17 (D' + 6) (fun y => y = r) 296 [(0, .ref 0)] I2' J2 → mj_Cl mj_S2 mj_CD (D' + 7) 17 [.ref 0] (I2, J2, mj_R2) r) ∧ DS d B1 B2 BJ I1' I2' J2 := by
  have hk := h.1
  obtain ⟨Ia, Ra, k1, k2, k3, -⟩ := bl_st (D := D + 7) (D' := D' + 5) (J1 := J1) (k := 1) h (by decide) (by decide)
  refine ⟨Ia, Ra, mj_mk (e143 ?_), fun r hr => r17_n (D := D' + 5) hk ho k2 hr, k3⟩
  rcases tk_rng hk with e | ⟨w, hw, e, -⟩
  · have c7 := hk.2.2.2.2.2.2.2.2.2.2.2.1
    rw [e] at c7
    rw [c7, if_pos (by decide)]
    exact ⟨trivial, _, _, k1, rfl⟩
  · have hw6 : 6 ≤ w := Classical.byContradiction fun z => ho w (by omega) e
    rw [own_n hk hw e, if_neg (nI_pos (by omega)), if_neg (fun z => by
      have z := (nI_leI (a := w) (b := 5) (by omega) (by decide)).mp z
      omega)]
    exact ⟨trivial, _, _, k1, rfl⟩
theorem st_all (h : RS n x d B1 B2 BJ W Rn Kn Tn Hn Un S F mc p a t v l o I1 I2 J2) {w : Nat} (hw : w ≤ 5) (ho : o = (w : Nat)) (hDD : 39 ≤ D) : STO n x d B1 B2 BJ D D' mc p J1 I1 I2 J2 := by
  rcases (by omega : w = 0 ∨ w = 1 ∨ w = 2 ∨ w = 3 ∨ w = 4 ∨ w = 5) with rfl | rfl | rfl | rfl | rfl | rfl
  · exact st_wish h ho
  · exact st_row h ho
  · exact st_knot h ho
  · exact st_tie h ho
  · exact st_thing h ho
  · exact st_rule h ho hDD
theorem owL_3 : ∀ w, w ≤ 5 → 3 ≤ (owL.getD w []).length := by decide
/-- a statement and its ; -/
theorem stt_both (h : RS n x d B1 B2 BJ W Rn Kn Tn Hn Un S F mc p a t v l o I1 I2 J2) (hDD : 39 ≤ D) : ∃ Ia I1' I2' J2', C1 (D + 9) 143 [.ref 11] I1 J1 .null Ia J1 ∧ C1 (D + 9) 162 [.ref 11, .int 59] Ia J1 .null I1' J1 ∧ C2 (D' + 7) 17 [.ref 0] I2 J2 .null I2' J2' ∧ ((∃ W Rn Kn Tn Hn Un S F p' a' t' v' l' o', RS n x d B1 B2 BJ W Rn Kn Tn Hn Un S F mc p' a' t' v' l' o' I1' I2' J2' ∧ p < p') ∨ (DS d B1 B2 BJ I1' I2' J2' ∧ (p + 1 < 900 ∨ ¬ I1' 11 10 = 0))) := by
  have hk := h.1
  have dead : ∀ {Ia : (Nat → Nat → Int32)} {R : (Nat → Nat → Int32)} {S' : (Nat → Nat → Int64)}, C1 (D + 9) 143 [.ref 11] I1 J1 .null Ia J1 → (∀ r, E2 17 (D' + 6) (fun y => y = r) 296 [(0, .ref 0)] R S' → mj_Cl mj_S2 mj_CD (D' + 7) 17 [.ref 0] (I2, J2, mj_R2) r) → DS d B1 B2 BJ Ia R S' → ∃ Ia I1' I2' J2', C1 (D + 9) 143 [.ref 11] I1 J1 .null Ia J1 ∧ C1 (D + 9) 162 [.ref 11, .int 59] Ia J1 .null I1' J1 ∧ C2 (D' + 7) 17 [.ref 0] I2 J2 .null I2' J2' ∧ ((∃ W Rn Kn Tn Hn Un S F p' a' t' v' l' o', RS n x d B1 B2 BJ W Rn Kn Tn Hn Un S F mc p' a' t' v' l' o' I1' I2' J2' ∧ p < p') ∨ (DS d B1 B2 BJ I1' I2' J2' ∧ (p + 1 < 900 ∨ ¬ I1' 11 10 = 0))) := fun {Ia R S'} c1 c2 q => by
    obtain ⟨Ib, c3, q3, -, k, pp, q4, q5⟩ := e_take (D := D + 7) (J1 := J1) (c := 59) q
    refine ⟨Ia, Ib, R, S', c1, c3, c2 _ (mj_on (s17_296 ?_)), Or.inr ⟨q3, Or.inr ?_⟩⟩
    · rw [if_neg (DS_8 q).1]
    · rw [q5.1]
      exact nI_ne0 (by have := q4.1; omega) (by have := q4.2.1; omega)
  by_cases ob : ∃ w : Nat, w ≤ 5 ∧ o = (w : Nat)
  · obtain ⟨w, hw, ho⟩ := ob
    obtain ⟨Ia, Ra, Sa, c1, c2, q⟩ := st_all (D := D) (D' := D') (J1 := J1) h hw ho hDD
    rcases q with ⟨W', Rn', Kn', Tn', Hn', Un', S', F', p1, a1, t1, v1, l1, o1, q, hp⟩ | q
    rotate_left
    · exact dead c1 c2 q
    have h9 : p + 1 < 900 := by
      obtain ⟨t3, hl⟩ := tk_w hk (w := w) (by omega) ho
      have h3 := owL_3 w hw
      rw [hl.symm] at h3
      have hn := hk.1.1
      rcases hk.2.2.2.2.2.2.2.2.2.2.2.2.2.2.2.2 with ⟨z, -⟩ | ⟨z, -⟩ | ⟨z, -⟩ | ⟨-, z1, z2, -⟩ <;> omega
    obtain ⟨Ib, Jb, Rb, Sb, c3, c4, hJ, f1, f2, f3, q1⟩ := take_both (D := D + 5) (D' := D' + 3) (J1 := J1) (c := 59) q.1 (by decide)
    rw [hJ] at c3
    refine ⟨Ia, Ib, Rb, Sb, c1, c3, c2 _ (mj_on (s17_296 ?_)), ?_⟩
    · rw [if_pos (r_8 q.1)]
      exact ⟨trivial, _, _, c4, rfl⟩
    · rcases q1 with ⟨-, -, p2, a2, t2, v2, l2, o2, q2, hp2⟩ | q2
      · exact Or.inl ⟨W', Rn', Kn', Tn', Hn', Un', S', F', p2, a2, t2, v2, l2, o2, RS_lx q f1 f2 f3 q2 (by omega), by omega⟩
      · exact Or.inr ⟨RS_DS q f1 f2 f3 q2, Or.inl h9⟩
  · obtain ⟨Ia, Ra, c1, c2, q⟩ := st_none (D := D) (D' := D') (J1 := J1) h (fun w hw e => ob ⟨w, hw, e⟩)
    exact dead c1 c2 q
theorem e137D {i : Nat} {Q : mj_R → Prop} (h : ¬ I1 11 10 = 0) (h5 : ¬ I1 11 5 = 0) (hi : i ≤ 900) (hQ : Q (.int 0, (I1, J1, mj_R1))) : E1 137 D Q 43 [(0, .ref 11), (2, .int (nI i))] I1 J1 := by
  have e93 : E1 137 D Q 93 [(0, .ref 11)] I1 J1 := by
    refine mj_on (s137_93 ?_)
    rw [if_neg h]
    exact ⟨Or.inl rfl, hQ⟩
  refine mj_on (s137_43 _ ?_)
  rw [if_neg h5, if_neg h]
  exact if_i (fun _ => e93) (fun _ => e93)
/-- the class' loop behind a fault -/
theorem dd_loop {i : Nat} (h : DS d B1 B2 BJ I1 I2 J2) (hi : i ≤ 900) (hi2 : i < 900 ∨ ¬ I1 11 10 = 0) : ∃ I1', (∀ Q : mj_R → Prop, Q (.int 0, (I1', J1, mj_R1)) → E1 137 (D + 3) Q 43 [(0, .ref 11), (2, .int (nI i))] I1 J1) ∧ DS d B1 B2 BJ I1' I2 J2 ∧ ∃ k p, tkD k p I1' I2 ∧ tkT k p I1' := by
  have n5 : ∀ {I : (Nat → Nat → Int32)}, I 11 5 = nI 4 → ¬ I 11 5 = 0 := fun z => by rw [z]; decide
  by_cases e : I1 11 10 = 0
  · have hi9 : i < 900 := hi2.elim id (fun z => absurd e z)
    obtain ⟨Ia, c1, q1, -⟩ := e_bl (D := D + 1) (J1 := J1) h
    have c143 : C1 (D + 3) 143 [.ref 11] I1 J1 .null Ia J1 := by
      refine mj_mk (e143 ?_)
      rw [(DS_own h).2, if_pos (by decide)]
      exact ⟨trivial, _, _, c1, rfl⟩
    obtain ⟨Ib, c2, q2, -, k, p, q3, q4⟩ := e_take (D := D + 1) (J1 := J1) (c := 59) q1
    have q5 := DS_up (q0 := 14) (j0 := 0) (y := Ib 14 0 + 1) q2 (by decide) (Or.inr (by decide)) (Or.inl (by decide))
    have q6 := tkD_u1 (q0 := 14) (j0 := 0) (y := Ib 14 0 + 1) q3 (by decide)
    have q7 : tkT k p (mj_up Ib 14 0 (Ib 14 0 + 1)) := ⟨by rw [up_n (by omega)]; exact q4.1, by rw [up_n (by omega)]; exact q4.2⟩
    have ne : ¬ mj_up Ib 14 0 (Ib 14 0 + 1) 11 10 = 0 := by rw [q7.1]; exact nI_ne0 (by have := q3.1; omega) (by have := q3.2.1; omega)
    refine ⟨_, fun Q hQ => ?_, q5, k, p, q6, q7⟩
    refine mj_on (s137_43 _ ?_)
    rw [if_neg (n5 (DS_own h).1), if_pos e, show (900 : Int32) = nI 900 from rfl, nI_1]
    refine if_le (by decide) (by omega) (fun z => absurd z (by omega)) (fun _ => ⟨trivial, _, _, c143, trivial, _, _, c2, ?_⟩)
    exact e137D ne (n5 (DS_own q5).1) (by omega) hQ
  · obtain ⟨k, p, hk⟩ := h.1
    refine ⟨I1, fun Q hQ => e137D e (n5 (DS_own h).1) hi hQ, h, k, p, hk, ?_⟩
    rcases hk.2.2.2.2.2.1 with ⟨z, -⟩ | z
    · exact absurd z e
    · exact z
theorem r109_D {i : Nat} {Q : mj_R → Prop} (h : ¬ I2 0 8 = 0) (hQ : E2 12 D' Q 133 [(0, .ref 0), (1, .int (nI i))] I2 J2) : E2 12 D' Q 109 [(0, .ref 0), (1, .int (nI i))] I2 J2 := by
  refine mj_on (s12_109 _ ?_)
  rw [if_neg h]
  exact hQ
theorem RS_mc (h : RS n x d B1 B2 BJ W Rn Kn Tn Hn Un S F mc p a t v l o I1 I2 J2) : RS n x d B1 B2 BJ W Rn Kn Tn Hn Un S F (mc + 1) p a t v l o (mj_up I1 14 0 (nI (mc + 1))) I2 J2 := by
  obtain ⟨hk, ⟨fA1, fA2⟩, hD, hS, hF, hm⟩ := h
  have hW := (TD_N hD).2.2.2.1
  have fC : ∀ q j, (q ≠ 14 ∨ j ≠ 0) → mj_up I1 14 0 (nI (mc + 1)) q j = I1 q j := fun q j z => up_n z
  refine ⟨tkR_cg hk (fun q j z => fC q j (by omega)) (fun _ _ _ => rfl) rfl, ⟨fun q j z1 z2 => ?_, fA2⟩, TD_new hD (fC 14 9 (by omega)) rfl rfl (fun j => fC 23 j (by omega)) ?_ (TDo_up hD.2.2.2.2.2 hW (fun q j z => fC q j (by unfold inC at z; omega)) (fun _ _ _ => rfl) (fun _ _ _ => rfl)), hS, hF, up_s, by rw [fC 11 9 (by omega)]; exact hm.2⟩
  · rw [fC q j (by omega)]; exact fA1 q j z1 z2
  · have hN := hD.2.2.2.2.1
    unfold tlN at hN ⊢
    rw [fC (14 + 1) 0 (by omega), fC (14 + 1) 1 (by omega), fC (14 + 1) 2 (by omega), fC (14 + 1) 3 (by omega), fC (14 + 1) 4 (by omega), fC (14 + 1) 5 (by omega)]
    exact hN
theorem rd_loop (hDD : 39 ≤ D) : ∀ m i W Rn Kn Tn Hn Un S F p a t v l o I1 I2 J2, n - p ≤ m → i ≤ p → RS n x d B1 B2 BJ W Rn Kn Tn Hn Un S F i p a t v l o I1 I2 J2 → ∃ r i' I1' I2' J2', (∀ Q : mj_R → Prop, Q (.int r, (I1', J1, mj_R1)) → E1 137 (D + 9) Q 43 [(0, .ref 11), (2, .int (nI i))] I1 J1) ∧ (∀ Q : mj_R → Prop, E2 12 (D' + 7) Q 133 [(0, .ref 0), (1, .int (nI i'))] I2' J2' → E2 12 (D' + 7) Q 109 [(0, .ref 0), (1, .int (nI i))] I2 J2) ∧ ((r = 1 ∧ ∃ W Rn Kn Tn Hn Un S F p' a' t' v' l' o', RS n x d B1 B2 BJ W Rn Kn Tn Hn Un S F i' p' a' t' v' l' o' I1' I2' J2') ∨ (r = 0 ∧ DS d B1 B2 BJ I1' I2' J2' ∧ ∃ k p, tkD k p I1' I2' ∧ tkT k p I1')) := by
  intro m
  induction m with
  | zero =>
    intro i W Rn Kn Tn Hn Un S F p a t v l o I1 I2 J2 hm hi h
    have hk := h.1
    have hn := tk_n hk
    have t0 : t = 0 := Classical.byContradiction fun z => by have := hn.2.2.1 z; omega
    have c5 := hk.2.2.2.2.2.2.2.2.2.1
    have r3 := hk.2.2.2.2.2.2.2.2.2.2.1
    have w0 := hk.2.2.2.2.2.2.2.2.2.2.2.2.1.1
    rw [t0] at c5 r3
    refine ⟨1, i, I1, I2, J2, fun Q hQ => ?_, fun Q hQ => ?_, Or.inl ⟨rfl, W, Rn, Kn, Tn, Hn, Un, S, F, p, a, t, v, l, o, h⟩⟩
    · have e93 : E1 137 (D + 9) Q 93 [(0, .ref 11)] I1 J1 := by
        refine mj_on (s137_93 ?_)
        rw [if_pos w0]
        exact ⟨Or.inr rfl, hQ⟩
      refine mj_on (s137_43 _ ?_)
      rw [if_pos (show I1 11 5 = 0 from c5)]
      exact if_i (fun _ => e93) (fun _ => e93)
    · refine mj_on (s12_109 _ ?_)
      rw [if_pos (r_8 hk), if_pos (show I2 0 3 = 0 from r3)]
      exact hQ
  | succ m ih =>
    intro i W Rn Kn Tn Hn Un S F p a t v l o I1 I2 J2 hm hi h
    have hk := h.1
    have hn := tk_n hk
    have c5 := hk.2.2.2.2.2.2.2.2.2.1
    have r3 := hk.2.2.2.2.2.2.2.2.2.2.1
    have w0 := hk.2.2.2.2.2.2.2.2.2.2.2.2.1.1
    by_cases t0 : t = 0
    · rw [t0] at c5 r3
      refine ⟨1, i, I1, I2, J2, fun Q hQ => ?_, fun Q hQ => ?_, Or.inl ⟨rfl, W, Rn, Kn, Tn, Hn, Un, S, F, p, a, t, v, l, o, h⟩⟩
      · have e93 : E1 137 (D + 9) Q 93 [(0, .ref 11)] I1 J1 := by
          refine mj_on (s137_93 ?_)
          rw [if_pos w0]
          exact ⟨Or.inr rfl, hQ⟩
        refine mj_on (s137_43 _ ?_)
        rw [if_pos (show I1 11 5 = 0 from c5)]
        exact if_i (fun _ => e93) (fun _ => e93)
      · refine mj_on (s12_109 _ ?_)
        rw [if_pos (r_8 hk), if_pos (show I2 0 3 = 0 from r3)]
        exact hQ
    have hpn := hn.2.2.1 t0
    have ht3 := hn.2.2.2.2
    have n5 : ¬ I1 11 5 = 0 := by rw [c5]; exact nI_ne0 (by omega) (by omega)
    have n3 : ¬ I2 0 3 = 0 := by
      rw [r3]
      have : tkr t = 4 - t := if_neg t0
      rw [this]
      exact nI_ne0 (by omega) (by omega)
    have hmc := h.2.2.2.2.2.1
    obtain ⟨Ia, Ib, Rb, Sb, c1, c2, c3, q⟩ := stt_both (D := D) (D' := D') (J1 := J1) h hDD
    have cs : ∀ Q : mj_R → Prop, E1 137 (D + 9) Q 43 [(0, .ref 11), (2, .int (nI (i + 1)))] (mj_up Ib 14 0 (Ib 14 0 + 1)) J1 → E1 137 (D + 9) Q 43 [(0, .ref 11), (2, .int (nI i))] I1 J1 := fun Q hQ => by
      refine mj_on (s137_43 _ ?_)
      rw [if_neg n5, if_pos w0, show (900 : Int32) = nI 900 from rfl, nI_1]
      exact if_le (by decide) (by omega) (fun z => absurd z (by omega)) (fun _ => ⟨trivial, _, _, c1, trivial, _, _, c2, hQ⟩)
    have rs : ∀ Q : mj_R → Prop, E2 12 (D' + 7) Q 109 [(0, .ref 0), (1, .int (nI (i + 1)))] Rb Sb → E2 12 (D' + 7) Q 109 [(0, .ref 0), (1, .int (nI i))] I2 J2 := fun Q hQ => by
      refine mj_on (s12_109 _ ?_)
      rw [if_pos (r_8 hk), if_neg n3, nI_1]
      exact ⟨trivial, _, _, c3, hQ⟩
    rcases q with ⟨W', Rn', Kn', Tn', Hn', Un', S', F', p1, a1, t1, v1, l1, o1, q, hp⟩ | ⟨q, q9⟩
    · have q2 := RS_mc q
      have e14 : Ib 14 0 + 1 = nI (i + 1) := by rw [q.2.2.2.2.2.1, nI_1]
      obtain ⟨r, i', I1', I2', J2', u1, u2, u3⟩ := ih (i + 1) W' Rn' Kn' Tn' Hn' Un' S' F' p1 a1 t1 v1 l1 o1 _ Rb Sb (by omega) (by omega) q2
      rw [e14] at cs
      exact ⟨r, i', I1', I2', J2', fun Q hQ => cs Q (u1 Q hQ), fun Q hQ => rs Q (u2 Q hQ), u3⟩
    · have q2 := DS_up (q0 := 14) (j0 := 0) (y := Ib 14 0 + 1) q (by decide) (Or.inr (by decide)) (Or.inl (by decide))
      obtain ⟨Ic, u1, u2, u3⟩ := dd_loop (D := D + 6) (J1 := J1) (i := i + 1) q2 (by omega) (q9.imp (fun z => by omega) (fun z => by rw [up_n (by omega)]; exact z))
      exact ⟨0, i + 1, Ic, Rb, Sb, fun Q hQ => cs Q (u1 Q hQ), fun Q hQ => rs Q (r109_D (DS_8 q).1 hQ), Or.inr ⟨rfl, u2, u3⟩⟩
end Sa9l
end
section
/-! the end of text(): what is made anew when a text has no fault -/
section S90
variable {D W Rn g : Nat} {I : Nat → Nat → Int32} {J : Nat → Nat → Int64}
def rt0 (I I' : Nat → Nat → Int32) (J J' : Nat → Nat → Int64) : Prop := I' 0 10 = I 0 8 ∧ I' 0 11 = I 0 9 ∧ I' 0 12 = I 0 35 ∧ I' 0 58 = -1 ∧ I' 0 65 = nI 0 ∧ I' 0 68 = nI 0 ∧ J' 0 46 = 0 ∧ J' 0 47 = 0 ∧
  (∀ q j, q ≠ 48 → (q ≠ 0 ∨ (j ≠ 10 ∧ j ≠ 11 ∧ j ≠ 12 ∧ j ≠ 58 ∧ j ≠ 65 ∧ j ≠ 68)) → I' q j = I q j) ∧ (∀ q j, q ≠ 49 → (q ≠ 0 ∨ (j ≠ 46 ∧ j ≠ 47)) → J' q j = J q j)
def rtP (I I' : Nat → Nat → Int32) (J J' : Nat → Nat → Int64) : Prop := rt0 I I' J J' ∧ ∀ p, p < 6 → J' 49 p = 0 ∧ ∀ w, w < 4 → I' 48 (4 * p + w) = nI 0
theorem r_tail {x1 : Int32} {Q : mj_R → Prop} (hf : I 0 8 = 0) (hQ : ∀ I' J', rtP I I' J J' → Q (.int x1, (I', J', mj_R2))) : E2 12 D Q 133 [(0, .ref 0), (1, .int x1)] I J := by
  refine mj_on (s12_133 _ ?_)
  rw [if_pos (show I 0 8 ≤ 0 by rw [hf]; decide)]
  refine mj_on (s12_181 _ ?_)
  suffices hs : ∀ Ia Ja, rt0 I Ia J Ja → E2 12 D Q 193 [(0, .ref 0), (1, .int x1), (2, .int (nI 0))] Ia Ja from hs _ _ ⟨by simp [mj_up], by simp [mj_up], by simp [mj_up], by simp [mj_up], by simp [mj_up]; rfl, by simp [mj_up]; rfl, by simp [mj_up], by simp [mj_up], fun q j h1 h2 => by rw [up_n (by omega), up_n (by omega), up_n (by omega), up_n (by omega), up_n (by omega), up_n (by omega)], fun q j h1 h2 => by rw [up_n (by omega), up_n (by omega)]⟩
  intro Ia Ja ha
  have outer := lp_up (n := 6) (fun p => ∀ I0 J0, rt0 I I0 J J0 → (∀ q, q < p → J0 49 q = 0 ∧ ∀ w, w < 4 → I0 48 (4 * q + w) = nI 0) → E2 12 D Q 193 [(0, .ref 0), (1, .int x1), (2, .int (nI p))] I0 J0) (fun p hp ih I0 J0 h0 hz => ?_) 0 (by omega) Ia Ja ha (fun q hq => by omega)
  · exact outer
  refine mj_on (s12_193 _ _ ?_)
  rw [show (6 : Int32) = nI 6 from rfl]
  refine if_le (by omega) (by omega) (fun c => ?_) (fun c => ?_)
  · obtain rfl : p = 6 := by omega
    exact hQ _ _ ⟨h0, fun q hq => hz q hq⟩
  · refine ⟨vp_in_nI c (by decide), ?_⟩
    rw [nI_clamp (by omega)]
    have inner := lp_up (n := 4) (fun w => ∀ I1 J1, rt0 I I1 J J1 → (∀ q, q < p → J1 49 q = 0 ∧ ∀ w, w < 4 → I1 48 (4 * q + w) = nI 0) → J1 49 p = 0 → (∀ u, u < w → I1 48 (4 * p + u) = nI 0) → E2 12 D Q 208 [(0, .ref 0), (1, .int x1), (2, .int (nI p)), (3, .int (nI w))] I1 J1) (fun w hw ih2 I1 J1 h1 hz1 hj hu => ?_) 0 (by omega) I0 (mj_up J0 49 p 0)
      (by
        obtain ⟨b1, b2, b3, b4, b5, b6, b7, b8, b9, b10⟩ := h0
        exact ⟨b1, b2, b3, b4, b5, b6, by rw [up_n (by omega)]; exact b7, by rw [up_n (by omega)]; exact b8, b9, fun q j h1 h2 => by rw [up_n (by omega)]; exact b10 q j h1 h2⟩)
      (fun q hq => ⟨by rw [up_n (by omega)]; exact (hz q hq).1, (hz q hq).2⟩) up_s (fun u hu => by omega)
    · exact inner
    refine mj_on (s12_208 _ _ _ ?_)
    rw [show (4 : Int32) = nI 4 from rfl]
    refine if_le (by omega) (by omega) (fun d => ?_) (fun d => ?_)
    · obtain rfl : w = 4 := by omega
      rw [nI_1]
      refine ih c I1 J1 h1 (fun q hq => ?_)
      by_cases e : q = p
      · subst e; exact ⟨hj, hu⟩
      · exact hz1 q (by omega)
    · rw [pk_mul, nI_add, nI_1]
      refine ⟨vp_in_nI (by omega) (by decide), ?_⟩
      rw [nI_clamp (by omega)]
      obtain ⟨b1, b2, b3, b4, b5, b6, b7, b8, b9, b10⟩ := h1
      refine ih2 d _ _ ⟨by rw [up_n (by omega)]; exact b1, by rw [up_n (by omega)]; exact b2, by rw [up_n (by omega)]; exact b3, by rw [up_n (by omega)]; exact b4, by rw [up_n (by omega)]; exact b5, by rw [up_n (by omega)]; exact b6, b7, b8, fun q j h1 h2 => by rw [up_n (by omega)]; exact b9 q j h1 h2, b10⟩ (fun q hq => ⟨(hz1 q hq).1, fun u hu4 => by rw [up_n (by omega)]; exact (hz1 q hq).2 u hu4⟩) hj (fun u hu2 => ?_)
      by_cases e : u = w
      · subst e; exact up_s
      · rw [up_n (by omega)]; exact hu u (by omega)
-- the class
theorem c_drop : C1 (D + 2) 181 [.ref 38] I J .null (mj_up (mj_up I 38 0 (-1)) 38 1 0) J := mj_mk (e181 ⟨trivial, _, _, mj_mk (e182_b _ rfl), rfl⟩)
theorem c_pforget : ∃ I' J', C1 (D + 1) 185 [.ref 58] I J .null I' J' ∧ (∀ p, p < 6 → I' 60 p = 0 ∧ J' 61 p = 0) ∧ (∀ q, q ≠ 60 → I' q = I q) ∧ (∀ q, q ≠ 61 → J' q = J q) := by
  refine mj_cN (e185 ?_)
  have lp := lp_up (n := 6) (fun p => ∀ I0 J0, (∀ q, q < p → I0 60 q = 0 ∧ J0 61 q = 0) → (∀ q, q ≠ 60 → I0 q = I q) → (∀ q, q ≠ 61 → J0 q = J q) → E1 185 D (qN mj_R1 fun I' J' => (∀ p, p < 6 → I' 60 p = 0 ∧ J' 61 p = 0) ∧ (∀ q, q ≠ 60 → I' q = I q) ∧ (∀ q, q ≠ 61 → J' q = J q)) 2 [(0, .ref 58), (1, .int (nI p))] I0 J0) (fun p hp ih I0 J0 h1 h2 h3 => ?_) 0 (by omega) I J (fun q hq => by omega) (fun _ _ => rfl) (fun _ _ => rfl)
  · exact lp
  refine mj_on (s185_2 _ ?_)
  rw [show (6 : Int32) = nI 6 from rfl]
  refine if_le (by omega) (by omega) (fun c => ?_) (fun c => ?_)
  · obtain rfl : p = 6 := by omega
    exact ⟨_, _, rfl, h1, h2, h3⟩
  · refine ⟨vp_in_nI c (by decide), vp_in_nI c (by decide), ?_⟩
    rw [nI_clamp (by omega), nI_1]
    refine ih c _ _ (fun q hq => ?_) (fun q hq => by rw [up_c hq]; exact h2 q hq) (fun q hq => by rw [up_c hq]; exact h3 q hq)
    by_cases e : q = p
    · subst e; exact ⟨by rw [up_s]; rfl, up_s⟩
    · exact ⟨by rw [up_j e]; exact (h1 q (by omega)).1, by rw [up_j e]; exact (h1 q (by omega)).2⟩
theorem rlW_cg {I I' : Nat → Nat → Int32} {J J' : Nat → Nat → Int64} (h : rlW W Rn I J) (e4 : I' 4 = I 4) (e5 : I' 5 = I 5) (e6 : I' 6 = I 6) (e24 : I' 24 = I 24) (e25 : I' 25 = I 25) (e26 : I' 26 = I 26) (e27 : I' 27 = I 27) (f : J' 24 = J 24) : rlW W Rn I' J' := by
  unfold rlW at h ⊢
  rw [e4, e5, e6, e24, e25, e26, e27, f]
  exact h
def ttP (W Rn g : Nat) (I I' : Nat → Nat → Int32) (J' : Nat → Nat → Int64) : Prop := rlW W Rn I' J' ∧ I' 38 0 = -1 ∧ I' 38 1 = nI 0 ∧ I' 0 9 = -3 ∧ I' 47 4 = nI 0 ∧ J' 0 14 = 0 ∧ J' 0 15 = 0 ∧ I' 53 0 = nI 0 ∧ (∀ p, p < 6 → I' 60 p = 0 ∧ J' 61 p = 0) ∧ wAr g W (wl W g) I' ∧
  (∀ q j, q ≠ 24 → q ≠ 25 → q ≠ 26 → q ≠ 27 → q ≠ 38 → q ≠ 47 → q ≠ 51 → q ≠ 52 → q ≠ 53 → q ≠ 60 → (q ≠ 0 ∨ j ≠ 9) → I' q j = I q j)
theorem c_tail {Q : mj_R → Prop} (hW : I 2 0 = nI W) (hW4 : W ≤ 4) (hR : I 2 1 = nI Rn) (hR4 : Rn ≤ 40) (hg : I 51 0 = nI g) (hg2 : g ≤ 12) (hQ : ∀ I' J', ttP W Rn g I I' J' → Q (.int (I 1 0), (I', J', mj_R1))) : E1 136 (D + 4) Q 38 [(0, .ref 0)] I J := by
  refine mj_on (s136_38 ?_)
  obtain ⟨Ia, Ja, ca, wa, fa, ga⟩ := c_take (D := D) (I := I) (J := J) hW hW4 hR hR4
  refine ⟨trivial, _, _, ca, trivial, _, _, c_drop, trivial, _, _, mj_mk (e183 rfl), trivial, _, _, mj_mk (e184 rfl), ?_⟩
  obtain ⟨Ib, hIb⟩ : ∃ Ib, Ib = mj_up (mj_up (mj_up (mj_up (mj_up Ia 38 0 (-1)) 38 1 0) 0 9 (-3)) 47 4 0) 53 0 0 := ⟨_, rfl⟩
  obtain ⟨Jb, hJb⟩ : ∃ Jb, Jb = mj_up (mj_up Ja 0 14 0) 0 15 0 := ⟨_, rfl⟩
  rw [← hIb, ← hJb]
  obtain ⟨Ic, Jc, cc, pc, fc, gc⟩ := c_pforget (D := D + 3) (I := Ib) (J := Jb)
  have eb : ∀ q, q ≠ 38 → q ≠ 0 → q ≠ 47 → q ≠ 53 → Ib q = Ia q := fun q h1 h2 h3 h4 => by rw [hIb, up_c h4, up_c h3, up_c h2, up_c h1, up_c h1]
  have e51 : Ic 51 = I 51 := by rw [fc 51 (by decide), eb 51 (by decide) (by decide) (by decide) (by decide), fa 51 (by decide) (by decide) (by decide) (by decide)]
  have e2 : Ic 2 = I 2 := by rw [fc 2 (by decide), eb 2 (by decide) (by decide) (by decide) (by decide), fa 2 (by decide) (by decide) (by decide) (by decide)]
  refine ⟨trivial, _, _, cc, vp_in_nI (n := 0) (by decide) (by decide), ?_⟩
  rw [e51, e2, show ((0 : Int32)).toNatClampNeg = 0 from rfl, hW, hg]
  obtain ⟨Id, cd, wd, fd⟩ := c_make (D := D + 1) (I := Ic) (J := Jc) hW4 hg2
  refine ⟨trivial, _, _, cd, ?_⟩
  have e1 : Id 1 0 = I 1 0 := by rw [fd 1 (by decide) (by decide), fc 1 (by decide), eb 1 (by decide) (by decide) (by decide) (by decide), fa 1 (by decide) (by decide) (by decide) (by decide)]
  rw [e1]
  have ed : ∀ q, q ≠ 38 → q ≠ 0 → q ≠ 47 → q ≠ 53 → q ≠ 60 → q ≠ 51 → q ≠ 52 → Id q = Ia q := fun q h1 h2 h3 h4 h5 h6 h7 => by rw [fd q h6 h7, fc q h5, eb q h1 h2 h3 h4]
  refine hQ _ _ ⟨rlW_cg wa (ed 4 (by decide) (by decide) (by decide) (by decide) (by decide) (by decide) (by decide)) (ed 5 (by decide) (by decide) (by decide) (by decide) (by decide) (by decide) (by decide)) (ed 6 (by decide) (by decide) (by decide) (by decide) (by decide) (by decide) (by decide)) (ed 24 (by decide) (by decide) (by decide) (by decide) (by decide) (by decide) (by decide)) (ed 25 (by decide) (by decide) (by decide) (by decide) (by decide) (by decide) (by decide)) (ed 26 (by decide) (by decide) (by decide) (by decide) (by decide) (by decide) (by decide)) (ed 27 (by decide) (by decide) (by decide) (by decide) (by decide) (by decide) (by decide)) (by rw [gc 24 (by decide), hJb, up_c (by decide), up_c (by decide)]), ?_, ?_, ?_, ?_, ?_, ?_, ?_, ?_, wd, ?_⟩
  · rw [fd 38 (by decide) (by decide), fc 38 (by decide), hIb]; simp [mj_up]
  · rw [fd 38 (by decide) (by decide), fc 38 (by decide), hIb]; simp [mj_up]; rfl
  · rw [fd 0 (by decide) (by decide), fc 0 (by decide), hIb]; simp [mj_up]
  · rw [fd 47 (by decide) (by decide), fc 47 (by decide), hIb]; simp [mj_up]; rfl
  · rw [gc 0 (by decide), hJb]; simp [mj_up]
  · rw [gc 0 (by decide), hJb]; simp [mj_up]
  · rw [fd 53 (by decide) (by decide), fc 53 (by decide), hIb]; simp [mj_up]; rfl
  · intro p hp
    rw [fd 60 (by decide) (by decide)]
    exact pc p hp
  · intro q j h1 h2 h3 h4 h5 h6 h7 h8 h9 h10 h11
    rw [fd q h7 h8, fc q h10, hIb, up_c h9, up_c h6, up_n (by omega), up_c h5, up_c h5, fa q h1 h2 h3 h4]
end S90
/-- behind the swap of the Tales -/
theorem s136_35 {cal : Nat → List Value → mj_H → mj_R → Prop} {Q : mj_R → Prop} {K : Nat → mj_K} {I0 : Nat → Nat → Int32} {J0 : Nat → Nat → Int64}
  (h : K 38 [(0, .ref 0)] [] (I0, J0, mj_up (mj_up mj_R1 11 3 1) 0 1 14)) :
    mj_go mj_S1 mt_136 cal Q K 35 [(0, .ref 0)] [.ref 14, .ref 0] (I0, J0, mj_up mj_R1 11 3 1) := h
theorem sw_sw (h : mj_H) : mj_swp (mj_swp h) = h := by
  obtain ⟨I, J, R⟩ := h
  unfold mj_swp
  simp only [mj_pm_pm]
theorem R1_row : ∀ q, q < 63 → (mj_RL1.getD q []).length ≤ 16 := by decide +kernel
theorem R1_s0 : ∀ q, q < 63 → ∀ k, k < 16 → mj_pm (mj_up (mj_up mj_R1 11 3 1) 0 1 14 (mj_pm q) k) = mj_R1 q k := by decide +kernel
theorem R1_far {q k : Nat} (h : 63 ≤ q ∨ 16 ≤ k) : mj_R1 q k = 0 := by
  unfold mj_R1 mj_tb
  rw [mj_nth_eq]
  cases e : mj_RL1[q]? with
  | none => rfl
  | some r =>
    have hq : q < 63 := (List.getElem?_eq_some_iff.mp e).1
    have hr : r.length ≤ 16 := by
      have := R1_row q hq
      rw [List.getD_eq_getElem?_getD, e] at this
      exact this
    show (match mj_nth r k with
      | some x => x
      | none => 0) = 0
    rw [mj_nth_eq, List.getElem?_eq_none (by omega)]
theorem R1_swp {I : Nat → Nat → Int32} {J : Nat → Nat → Int64} : mj_swp (I, J, mj_up (mj_up mj_R1 11 3 1) 0 1 14) = (fun q k => I (mj_pm q) k, fun q k => J (mj_pm q) k, mj_R1) := by
  have e : (fun q k => mj_pm (mj_up (mj_up mj_R1 11 3 1) 0 1 14 (mj_pm q) k)) = mj_R1 := by
    funext q k
    by_cases h : q < 63 ∧ k < 16
    · exact R1_s0 q h.1 k h.2
    · have hp : 63 ≤ mj_pm q ∨ 16 ≤ k := by
        by_cases h1 : q < 63
        · omega
        · left
          unfold mj_pm
          rw [if_neg (by omega), if_neg (by omega)]
          omega
      have h2 : 63 ≤ q ∨ 16 ≤ k := by omega
      rw [up_n (by omega), up_n (by omega), R1_far hp, R1_far h2]
      rfl
  unfold mj_swp
  rw [e]
/-- text() behind the swap, told by what it does to the heap with the Tales' numbers exchanged -/
theorem c_swap {D : Nat} {I : Nat → Nat → Int32} {J : Nat → Nat → Int64} {Q Q' : mj_R → Prop} (hQ : ∀ r, Q r → Q' (tv r.1, mj_swp r.2)) (h : E1 136 D Q 38 [(0, .ref 0)] (fun q k => I (mj_pm q) k) (fun q k => J (mj_pm q) k)) : mj_Ev mj_S1 (mj_CD 136) (mj_Cl mj_S1 mj_CD D) Q' 38 [(0, .ref 0)] [] (I, J, mj_up (mj_up mj_R1 11 3 1) 0 1 14) := by
  have h1 : mj_Ev mj_S1 (mj_CD 136) (mj_Cl mj_S1 mj_CD D) Q 38 [(0, .ref 0)] [] (mj_swp (I, J, mj_up (mj_up mj_R1 11 3 1) 0 1 14)) := by
    rw [R1_swp]
    exact h
  have h2 := eq_Ev (Q' := Q') (eq_Cl D) hQ h1
  rw [sw_sw] at h2
  exact h2
/-- a call's answer, an int, whatever it does to the references -/
def qA (P : Int32 → mj_H → Prop) : mj_R → Prop := fun x => ∃ r g, x = (.int r, g) ∧ P r g
theorem mj_cA {S : mj_S} {CD : Nat → mj_C} {D z : Nat} {as : List Value} {h : mj_H} {P : Int32 → mj_H → Prop}
    (hm : mj_if (Nat.ble (mj_sz as) (CD z).2.2) (mj_sg S (CD z) (mj_Cl S CD D) (qA P) (mj_Ev S (CD z) (mj_Cl S CD D) (qA P)) 100 0 (mj_a0 0 as) [] h)) : ∃ r g, mj_Cl S CD (D + 1) z as h (.int r, g) ∧ P r g := by
  obtain ⟨r, ⟨x, g, rfl, hP⟩, hr⟩ := mj_call hm
  exact ⟨x, g, hr, hP⟩
end
section
/-! an object of which nothing has been asked yet -/
section S91
variable {D : Nat} {I : Nat → Nat → Int32} {J : Nat → Nat → Int64}
theorem c_clear : ∃ I' J', C1 (D + 1) 138 [.ref 14] I J .null I' J' ∧ I' 14 0 = nI 0 ∧ I' 14 9 = nI 0 ∧ (∀ j, j < 6 → I' 15 j = nI 0) ∧ (∀ q j, q ≠ 15 → (q ≠ 14 ∨ (j ≠ 0 ∧ j ≠ 9)) → I' q j = I q j) ∧ J' = J := by
  refine mj_cN (e138 ?_)
  have lp := lp_up (n := 6) (fun p => ∀ I0, I0 14 0 = nI 0 → I0 14 9 = nI 0 → (∀ j, j < p → I0 15 j = nI 0) → (∀ q j, q ≠ 15 → (q ≠ 14 ∨ (j ≠ 0 ∧ j ≠ 9)) → I0 q j = I q j) → E1 138 D (qN mj_R1 fun I' J' => I' 14 0 = nI 0 ∧ I' 14 9 = nI 0 ∧ (∀ j, j < 6 → I' 15 j = nI 0) ∧ (∀ q j, q ≠ 15 → (q ≠ 14 ∨ (j ≠ 0 ∧ j ≠ 9)) → I' q j = I q j) ∧ J' = J) 12 [(0, .ref 14), (1, .int (nI p))] I0 J) (fun p hp ih I0 h1 h2 h3 h4 => ?_) 0 (by omega) (mj_up (mj_up I 14 0 0) 14 9 0) (by simp [mj_up]; rfl) (by simp [mj_up]; rfl) (fun j hj => by omega) (fun q j h1 h2 => by rw [up_n (by omega), up_n (by omega)])
  · exact lp
  refine mj_on (s138_12 _ ?_)
  rw [show (6 : Int32) = nI 6 from rfl]
  refine if_le (by omega) (by omega) (fun c => ?_) (fun c => ?_)
  · obtain rfl : p = 6 := by omega
    exact ⟨_, _, rfl, h1, h2, h3, h4, rfl⟩
  · refine ⟨vp_in_nI c (by decide), ?_⟩
    rw [nI_clamp (by omega), nI_1]
    refine ih c _ (by rw [up_n (by omega)]; exact h1) (by rw [up_n (by omega)]; exact h2) (fun j hj => ?_) (fun q j g1 g2 => by rw [up_n (by omega)]; exact h4 q j g1 g2)
    by_cases e : j = p
    · subst e; exact up_s
    · rw [up_j e]; exact h3 j (by omega)
theorem Rl_0 : Rl 0 0 0 0 0 0 0 4 h1_I (fun _ _ => 0) h2_I (fun _ _ => 0) := by
  refine ⟨rfl, ⟨⟨rfl, rfl, rfl, rfl, rfl, rfl, rfl, rfl, rfl, rfl, rfl, rfl, by decide, by decide, by decide, by decide, by decide, by decide, by decide⟩, fun w h => by omega, fun w h => by omega, fun w h => by omega, fun w h => by omega, ⟨fun w h => by omega, fun w h => by omega, fun w h => by omega, fun w h => by omega⟩, fun w h => by omega⟩, ⟨rfl, fun j => ⟨0, by decide, rfl⟩, 0, by decide, rfl, rfl⟩, ⟨rfl, rfl⟩, ⟨rfl, rfl, fun r h => by omega, fun r h => by omega, rfl⟩, Or.inl ⟨rfl, rfl, rfl⟩, ⟨by decide, by decide, rfl, rfl, rfl, rfl, fun n r h => ?_⟩, ⟨0, by decide, rfl, rfl, fun i h => by omega⟩, ⟨0, by decide, rfl, rfl, fun i h => by omega⟩, fun p hp => ⟨rfl, fun w hw => ⟨0, by decide, rfl, fun _ => rfl⟩, Or.inl ⟨rfl, fun w hw => rfl⟩⟩, ⟨rfl, rfl⟩, ?_, Or.inl rfl⟩
  · exact absurd h (by simp [wl])
  · show ∀ n, n < 17 → rd_f 17 0 n = nI (nmC (owL.getD n []))
    decide +kernel
end S91
end
section
/-! text, on both sides -/
section Sb2
variable {n d W Rn Kn Tn Hn Un S F mc : Nat} {x : Nat → Nat} {B1 B2 : Nat → Nat → Int32} {BJ : Nat → Nat → Int64}
variable {D D' E p a t v : Nat} {l : List Nat} {o : Int} {I1 I2 : Nat → Nat → Int32} {J1 J2 : Nat → Nat → Int64}
variable {b g : Nat}
theorem TD_Tl (h : TD d W Rn Kn Tn Hn Un S F I1 I2 J2) (hS : S ≤ 900) (hF : F ≤ 900) : Tl 14 d W Rn Kn Tn Hn Un I1 I2 J2 := by
  obtain ⟨-, -, -, -, hN, hM, hR, hT, hH, hA, hV⟩ := h
  refine ⟨hN, hM, hR, hT, hH, hA, fun u hu => ?_⟩
  obtain ⟨f, a1, a2, g1, g2, g3, g4, g5, g6, g7, g8⟩ := hV u hu
  exact ⟨f, a1, a2, g1, g2, Nat.le_trans g3 hS, g4, g5, g6, Nat.le_trans g7 hF, g8⟩
theorem Tl_pm (h : Tl 14 d W Rn Kn Tn Hn Un I1 I2 J2) : Tl 1 d W Rn Kn Tn Hn Un (fun q k => I1 (mj_pm q) k) I2 J2 := by
  obtain ⟨hN, hM, hR, hT, hH, hA, hU⟩ := h
  refine ⟨hN, hM, hR, hT, hH, hA, fun u hu => ?_⟩
  obtain ⟨f, x1, x2, g1, g2, g3, g4, g5⟩ := hU u hu
  have er : rb (fun q k => I1 (mj_pm q) k) (1 + 9) u = rb I1 (14 + 9) u := by
    cases u with
    | zero => rfl
    | succ u => rfl
  exact ⟨f, x1, x2, g1, by rw [er]; exact g2, by rw [er]; exact g3, by rw [er]; exact g4, g5⟩
theorem Tl_cg {c : Nat} {I1' I2' : (Nat → Nat → Int32)} {J2' : (Nat → Nat → Int64)} (h : Tl c b W Rn Kn Tn Hn Un I1 I2 J2) (e1 : ∀ q, c + 1 ≤ q → q ≤ c + 9 → I1' q = I1 q) (hb : b + d = 1) (e2 : ∀ q j, 2 ≤ q → q ≤ 22 → oub d q j → I2' q j = I2 q j) (eJ : ∀ q j, 2 ≤ q → q ≤ 22 → oub d q j → J2' q j = J2 q j) : Tl c b W Rn Kn Tn Hn Un I1' I2' J2' := by
  obtain ⟨hN, hM, hR, hT, hH, ⟨a1, a2, a3, a4⟩, hU⟩ := h
  have i1 := e1 (c + 1) (by omega) (by omega)
  have i2 := e1 (c + 2) (by omega) (by omega)
  have i3 := e1 (c + 3) (by omega) (by omega)
  have i4 := e1 (c + 4) (by omega) (by omega)
  have i5 := e1 (c + 5) (by omega) (by omega)
  have i6 := e1 (c + 6) (by omega) (by omega)
  have i7 := e1 (c + 7) (by omega) (by omega)
  have i8 := e1 (c + 8) (by omega) (by omega)
  have i9 := e1 (c + 9) (by omega) (by omega)
  obtain ⟨-, -, -, -, -, -, -, -, -, -, -, -, -, b0, b1, b2, b3, b4, b5⟩ := id hN
  have two : ∀ q, 2 ≤ q → q ≤ 7 → I2' q b = I2 q b := fun q z1 z2 => e2 q b z1 (by omega) (by unfold oub; omega)
  refine ⟨?_, fun w hw => ?_, fun r hr w hw => ?_, fun t ht => ?_, fun k hk w hw => ?_, ⟨fun k hk => ?_, fun k hk => ?_, fun k hk => ?_, fun k hk => ?_⟩, fun u hu => ?_⟩
  · unfold tlN at hN ⊢
    rw [i1, two 2 (by decide) (by decide), two 3 (by decide) (by decide), two 4 (by decide) (by decide), two 5 (by decide) (by decide), two 6 (by decide) (by decide), two 7 (by decide) (by decide)]
    exact hN
  · rw [i3, e2 9 _ (by decide) (by decide) (by unfold oub; omega)]
    exact hM w hw
  · rw [i4, i5, e2 11 _ (by decide) (by decide) (by unfold oub; omega), e2 12 _ (by decide) (by decide) (by unfold oub; omega)]
    exact hR r hr w hw
  · obtain ⟨g1, g2, g3, g4⟩ := hT t ht
    rw [i6, i7, e2 14 _ (by decide) (by decide) (by unfold oub; omega), e2 15 _ (by decide) (by decide) (by unfold oub; omega)]
    refine ⟨g1, g2, g3, fun w hw => ?_⟩
    rw [i4, e2 16 _ (by decide) (by decide) (by unfold oub; omega)]
    exact g4 w hw
  · rw [i4, e2 18 _ (by decide) (by decide) (by unfold oub; omega)]
    exact hH k hk w hw
  · rw [i2, eJ 8 _ (by decide) (by decide) (by unfold oub; omega)]
    exact a1 k hk
  · rw [i2, eJ 10 _ (by decide) (by decide) (by unfold oub; omega)]
    exact a2 k hk
  · rw [i2, eJ 13 _ (by decide) (by decide) (by unfold oub; omega)]
    exact a3 k hk
  · rw [i2, eJ 17 _ (by decide) (by decide) (by unfold oub; omega)]
    exact a4 k hk
  · obtain ⟨f, x1, x2, g1, g2, g3, g4, g5, g6, g7, g8⟩ := hU u hu
    have er : rb I1' (c + 9) u = rb I1 (c + 9) u := rb_cg fun j _ => by rw [i9]
    refine ⟨f, x1, x2, g1, ?_, ?_, ?_, ?_, ?_, g7, fun k y hk => ?_⟩
    · rw [er, i9]; exact g2
    · rw [er]; exact g3
    · rw [er]
      intro k y hk
      rw [i8]
      exact g4 k y hk
    · rw [e2 19 _ (by decide) (by decide) (by unfold oub; omega)]; exact g5
    · rw [e2 20 _ (by decide) (by decide) (by unfold oub; omega)]; exact g6
    · have hl := (List.getElem?_eq_some_iff.mp hk).1
      rw [e2 21 _ (by decide) (by decide) (by unfold oub; omega), e2 22 _ (by decide) (by decide) (by unfold oub; omega)]
      exact g8 k y hk
/-- a text with a fault leaves all as it was -/
theorem Rl_ft {I1' I2' : (Nat → Nat → Int32)} {J2' : (Nat → Nat → Int64)} (h : Rl b W Rn Kn Tn Hn Un g I1 J1 I2 J2) (hb : b + d = 1) (fC : ∀ q j, q ≠ 11 → (q < 14 ∨ 23 < q) → I1' q j = mj_up I1 0 0 0 q j) (fR : ∀ q j, (q ≠ 0 ∨ (tsz j ∧ j ≠ 10 ∧ j ≠ 11)) → (q < 23 ∨ 28 < q) → oub d q j → I2' q j = mj_up I2 0 1 0 q j) (fJ : ∀ q j, (q ≠ 0 ∨ j ≠ 7) → oub d q j → J2' q j = J2 q j) (e10 : I2' 0 10 = I1' 11 10) (e11 : I2' 0 11 = I1' 11 11) : Rl b W Rn Kn Tn Hn Un g I1' J1 I2' J2' := by
  obtain ⟨g1, g2, ⟨g3a, g3b, g3c⟩, g4, g5, g6, g7, g8, g9, g10, g11, g12, g13⟩ := h
  have c : ∀ q, q ≠ 0 → q ≠ 11 → (q < 14 ∨ 23 < q) → I1' q = I1 q := fun q z1 z2 z3 => by
    funext j
    rw [fC q j z2 z3, up_n (Or.inl z1)]
  have r : ∀ q, 28 < q → I2' q = I2 q := fun q z => by
    funext j
    rw [fR q j (Or.inl (by omega)) (Or.inr z) (by unfold oub; omega), up_n (Or.inl (by omega))]
  have rj : ∀ q, 22 < q → J2' q = J2 q := fun q z => by
    funext j
    exact fJ q j (Or.inl (by omega)) (by unfold oub; omega)
  have r0 : ∀ j, 11 < j → tsz j → I2' 0 j = I2 0 j := fun j z1 z2 => by
    rw [fR 0 j (Or.inr ⟨z2, by omega, by omega⟩) (by omega) (by unfold oub; omega), up_n (Or.inr (by omega))]
  have r1 : I2' 1 = I2 1 := by
    funext j
    rw [fR 1 j (Or.inl (by omega)) (by omega) (by unfold oub; omega), up_n (Or.inl (by omega))]
  have j0 : ∀ j, j ≠ 7 → J2' 0 j = J2 0 j := fun j z => fJ 0 j (Or.inr z) (by unfold oub; omega)
  have c13 := c 13 (by decide) (by decide) (by decide)
  refine ⟨?_, Tl_cg g2 (fun q z1 z2 => c q (by omega) (by omega) (by omega)) hb (fun q j z1 z2 z3 => ?_) (fun q j z1 z2 z3 => fJ q j (Or.inl (by omega)) z3), ⟨?_, ?_, 0, by decide, ?_, ?_⟩, ⟨e10, e11⟩, ?_, ?_, ?_, ?_, ?_, ?_, ?_, ?_, ?_⟩
  · rw [r0 12 (by decide) (by unfold tsz; omega)]; exact g1
  · rw [fR q j (Or.inl (by omega)) (by omega) z3, up_n (Or.inl (by omega))]
  · rw [r1, c13]; exact g3a
  · rw [c13]; exact g3b
  · rw [fC 0 0 (by decide) (by decide), up_s]; rfl
  · rw [fR 0 1 (Or.inr ⟨by unfold tsz; omega, by decide, by decide⟩) (by omega) (by unfold oub; omega), up_s]; rfl
  · exact rlW_cg g5 (c 4 (by decide) (by decide) (by decide)) (c 5 (by decide) (by decide) (by decide)) (c 6 (by decide) (by decide) (by decide)) (c 24 (by decide) (by decide) (by decide)) (c 25 (by decide) (by decide) (by decide)) (c 26 (by decide) (by decide) (by decide)) (c 27 (by decide) (by decide) (by decide)) rfl
  · unfold rlH at g6 ⊢
    rw [c 38 (by decide) (by decide) (by decide), c 39 (by decide) (by decide) (by decide), r 37 (by decide), r 38 (by decide), r0 58 (by decide) (by unfold tsz; omega), r0 59 (by decide) (by unfold tsz; omega)]
    exact g6
  · unfold rlG at g7 ⊢
    rw [c 51 (by decide) (by decide) (by decide), c 52 (by decide) (by decide) (by decide), r0 63 (by decide) (by unfold tsz; omega)]
    exact g7
  · unfold rlK at g8 ⊢
    rw [c 47 (by decide) (by decide) (by decide), c 50 (by decide) (by decide) (by decide), r 41 (by decide), r0 65 (by decide) (by unfold tsz; omega)]
    exact g8
  · unfold rlS at g9 ⊢
    rw [c 53 (by decide) (by decide) (by decide), c 54 (by decide) (by decide) (by decide), c 55 (by decide) (by decide) (by decide), r 43 (by decide), r 44 (by decide), r0 68 (by decide) (by unfold tsz; omega)]
    exact g9
  · unfold rlP at g10 ⊢
    rw [c 59 (by decide) (by decide) (by decide), c 60 (by decide) (by decide) (by decide), r 48 (by decide), rj 49 (by decide)]
    exact g10
  · unfold rlC at g11 ⊢
    rw [j0 46 (by decide), j0 47 (by decide)]
    exact g11
  · unfold rlO at g12 ⊢
    rw [c 12 (by decide) (by decide) (by decide)]
    exact g12
  · have e0 : I1' 0 9 = I1 0 9 := by rw [fC 0 9 (by decide) (by decide), up_n (Or.inr (by decide))]
    rw [rlZ_c (J := J1) e0 (c 4 (by decide) (by decide) (by decide)) (fun j _ => by rw [c 5 (by decide) (by decide) (by decide)]) (c 9 (by decide) (by decide) (by decide)) (c 10 (by decide) (by decide) (by decide)) (c 44 (by decide) (by decide) (by decide)) (c 45 (by decide) (by decide) (by decide)) rfl]
    exact g13
/-- a text without one -/
theorem Rl_ok {W0 R0 K0 T0 H0 U0 : Nat} {If I1' I2' If2 : (Nat → Nat → Int32)} {Jf J2' Jf2 : (Nat → Nat → Int64)} (h : Rl b W0 R0 K0 T0 H0 U0 g I1 J1 I2 J2) (hb : b + d = 1) (q : RS n x d (mj_up I1 0 0 0) (mj_up I2 0 1 0) J2 W Rn Kn Tn Hn Un S F mc p a t v l o I1' I2' J2') (hc : ttP W Rn g (fun q k => I1' (mj_pm q) k) If Jf) (hr : rtP I2' If2 J2' Jf2) : Rl d W Rn Kn Tn Hn Un g If Jf If2 Jf2 := by
  obtain ⟨g1, g2, ⟨g3a, g3b, g3c⟩, g4, g5, g6, g7, g8, g9, g10, g11, g12, g13⟩ := h
  have hS9 := RS_S q
  obtain ⟨hk, ⟨fC, fR, fJ⟩, hD, hS, hF, hm⟩ := q
  have hn := tk_n hk
  obtain ⟨t1, t2, t3, t4, t5, t6, t7, t8, t9, ⟨t10, t11, t12, t13⟩, tF⟩ := hc
  obtain ⟨⟨u1, u2, u3, u4, u5, u6, u7, u8, uF, uJ⟩, uP⟩ := hr
  have p11 : mj_pm 11 = 11 := by decide
  have cI : ∀ q, q ≠ 0 → q ≠ 11 → (q < 14 ∨ 23 < q) → 10 < q → I1' (mj_pm q) = I1 q := fun q z1 z2 z3 z4 => by
    have e : mj_pm q = q := by unfold mj_pm; rw [if_neg (by omega), if_neg (by omega)]
    funext j
    rw [e, fC q j z2 z3, up_n (Or.inl z1)]
  have hT := Tl_pm (TD_Tl hD hS9 (by omega))
  have hd := (TD_N hD).2.2.1
  have f13 : If 13 = I1 13 := by
    funext j
    rw [tF 13 j (by omega) (by omega) (by omega) (by omega) (by omega) (by omega) (by omega) (by omega) (by omega) (by omega) (by omega)]
    show I1' (mj_pm 13) j = _
    rw [cI 13 (by decide) (by decide) (by decide) (by decide)]
  have f1 : If2 1 = I2 1 := by
    funext j
    rw [uF 1 j (by decide) (by omega), fR 1 j (Or.inl (by omega)) (by omega) (by unfold oub; omega), up_n (Or.inl (by omega))]
  refine ⟨by rw [u3]; exact hD.1, Tl_cg (d := b) hT (fun q z1 z2 => ?_) (by omega) (fun q j z1 z2 z3 => uF q j (by omega) (Or.inl (by omega))) (fun q j z1 z2 z3 => uJ q j (by omega) (Or.inl (by omega))), ⟨?_, ?_, 0, by decide, ?_, ?_⟩, ⟨?_, ?_⟩, t1, Or.inl ⟨t2, t3, u4⟩, ⟨g7.1, g7.2.1, t10, ?_, t11, t12, ?_⟩, ⟨0, by decide, t5, u5, fun i hi => absurd hi (by omega)⟩, ⟨0, by decide, t8, u6, fun i hi => absurd hi (by omega)⟩, fun p hp => ?_, ⟨by rw [u7, t6], by rw [u8, t7]⟩, ?_, Or.inl t4⟩
  · funext j
    exact tF q j (by omega) (by omega) (by omega) (by omega) (by omega) (by omega) (by omega) (by omega) (by omega) (by omega) (by omega)
  · rw [f1, f13]; exact g3a
  · rw [f13]; exact g3b
  · rw [tF 0 0 (by decide) (by decide) (by decide) (by decide) (by decide) (by decide) (by decide) (by decide) (by decide) (by decide) (by decide)]
    show I1' 0 0 = _
    rw [fC 0 0 (by decide) (by decide), up_s]; rfl
  · rw [uF 0 1 (by decide) (by omega), fR 0 1 (Or.inr (by unfold tsz; omega)) (by omega) (by unfold oub; omega), up_s]; rfl
  · rw [u1, tF 11 10 (by decide) (by decide) (by decide) (by decide) (by decide) (by decide) (by decide) (by decide) (by decide) (by decide) (by decide)]
    show _ = I1' 11 10
    rw [r_8 hk, hk.2.2.2.2.2.2.2.2.2.2.2.2.1.1]
  · rw [u2, tF 11 11 (by decide) (by decide) (by decide) (by decide) (by decide) (by decide) (by decide) (by decide) (by decide) (by decide) (by decide)]
    show _ = I1' 11 11
    rw [hk.2.2.2.2.2.2.2.2.2.2.2.2.2.2.1, hk.2.2.2.2.2.2.2.2.2.2.2.2.1.2]
  · rw [uF 0 63 (by decide) (by omega), fR 0 63 (Or.inr (by unfold tsz; omega)) (by omega) (by unfold oub; omega), up_n (by omega)]
    exact g7.2.2.2.1
  · intro n r hr w y hw
    have hw4 : w < W := by
      have hl := (List.getElem?_eq_some_iff.mp hw).1
      have := (wl_ok g7.2.1 (TD_N hD).2.2.2.1).2.2 r (List.mem_of_getElem? hr)
      omega
    rw [t13 n r hr w hw4, List.getD_eq_getElem?_getD, hw]
    rfl
  · obtain ⟨v1, v2⟩ := uP p hp
    obtain ⟨v3, v4⟩ := t9 p hp
    exact ⟨by rw [v1, v4], fun w hw => ⟨0, by decide, v2 w hw, fun _ => rfl⟩, Or.inl ⟨v3, v2⟩⟩
  · intro n hn
    rw [tF 12 n (by omega) (by omega) (by omega) (by omega) (by omega) (by omega) (by omega) (by omega) (by omega) (by omega) (by omega)]
    show I1' (mj_pm 12) n = _
    rw [cI 12 (by decide) (by decide) (by decide) (by decide)]
    exact g12 n hn
end Sb2
end
