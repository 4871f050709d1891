section Sa9j_6
variable {n d W Rn Kn Tn Hn Un S F mc : Nat} {x : Nat → Nat} {B1 B2 : Nat → Nat → Int32} {BJ : Nat → Nat → Int64}
variable {D D' E p a t v : Nat} {l : List Nat} {o : Int} {I1 I2 : Nat → Nat → Int32} {J1 J2 : Nat → Nat → Int64}
/-- a tie -/
theorem st_tie (h : RS n x d B1 B2 BJ W Rn Kn Tn Hn Un S F mc p a t v l o I1 I2 J2) (ho : o = (3 : Nat)) : STO n x d B1 B2 BJ D D' mc p J1 I1 I2 J2 := by
  have hk := h.1
  have hD := h.2.2.1
  obtain ⟨⟨n0, n1, n2, n3, n4, n5⟩, ⟨m0, m1, m2, m3, m4, m5⟩, hd, b0, b1, b2, b3, b4, b5⟩ := TD_N hD
  have t3 := (tk_w hk (w := 3) (by decide) ho).1
  have h7 := own_n hk (by decide) ho
  obtain ⟨Ia, Ra, Sa, k1, k2⟩ := cnt_both (D := D + 5) (D' := D' + 2) (J1 := J1) (y1 := tf (Tn = 24)) (y2 := tf (W = 0)) h t3 rfl rfl
  have c145' := c145 (D := D + 7) (J1 := J1) hD (k := 3) (by decide)
  have ee : erl 3 W Rn Tn Hn ↔ W = 0 := ⟨fun q => by rcases q with ⟨q, -⟩ | ⟨-, q⟩ <;> omega, fun q => Or.inr ⟨Or.inr (Or.inl rfl), q⟩⟩
  rw [tf_iff ee] at c145'
  have rin : ∀ {R : (Nat → Nat → Int32)} {S' : (Nat → Nat → Int64)} {r : mj_R}, E2 30 (D' + 5) (fun y => y = (.null, (R, S', mj_R2))) 40 [(0, .ref 0)] Ra Sa → E2 17 (D' + 6) (fun y => y = r) 296 [(0, .ref 0)] R S' → mj_Cl mj_S2 mj_CD (D' + 7) 17 [.ref 0] (I2, J2, mj_R2) r := fun {R S' r} q1 q2 => r17_3 (D := D' + 5) hk ho (r30_in hD k1 q1) q2
  have dd : ¬ Ra 0 8 ≤ 0 → E2 30 (D' + 5) (fun y => y = (.null, (Ra, Sa, mj_R2))) 40 [(0, .ref 0)] Ra Sa := fun q => by
    refine mj_on (s30_40 ?_)
    rw [if_neg q]
  rcases k2 with ⟨f, c, q⟩ | ⟨f, e, c, q⟩ | ⟨f, e, c, fL, q⟩
  · exact ⟨Ia, Ra, Sa, c143_full (k := 3) h7 (by decide) n3 mst_3 (by decide) f c, fun r hr => rin (dd (DS_8 q).2) hr, Or.inr q⟩
  · rw [tf_t e] at c145'
    exact ⟨Ia, Ra, Sa, c143_early (k := 3) h7 (by decide) n3 mst_3 (by decide) (by omega) c145' c, fun r hr => rin (dd (DS_8 q).2) hr, Or.inr q⟩
  rw [tf_f e] at c145'
  have hlt : Tn < 24 := by omega
  have cgo1 : ∀ {Ib : (Nat → Nat → Int32)}, C1 (D + 8) 152 [.ref 11] Ia J1 .null Ib J1 → C1 (D + 9) 143 [.ref 11] I1 J1 .null Ib J1 := fun c2 => c143_go (k := 3) h7 (by decide) n3 mst_3 (by decide) hlt c145' c (Or.inr (Or.inr (Or.inr (Or.inl ⟨rfl, c2⟩))))
  have n3a : Ia 15 3 = nI Tn := (fL 15 3 (Or.inl (by decide))).trans n3
  rcases q with ⟨p1, a1, t1, v1', l1, o1, q, hp⟩ | q
  rotate_left
  · obtain ⟨Ib, c2, q2⟩ := e_tie (D := D + 4) (J1 := J1) q n3a hlt
    exact ⟨Ib, Ra, Sa, cgo1 c2, fun r hr => rin (dd (DS_8 q).2) hr, Or.inr q2⟩
  have hD1 := q.2.2.1
  obtain ⟨-, ⟨m0, m1, m2, m3, m4, m5⟩, -⟩ := TD_N hD1
  have h35 := hD1.1
  have h8a : Ra 0 8 ≤ 0 := by rw [r_8 q.1]; decide
  have b14 : ¬ oub d 14 (24 * d + Tn) := by unfold oub; omega
  have b15 : ¬ oub d 15 (24 * d + Tn) := by unfold oub; omega
  obtain ⟨r1, r2, Ib, Rb, Sb, c1, c2, f1, f2, f3, q1⟩ := knot_both (D := D + 3) (D' := D' + 2) (J1 := J1) (y := -1) q
  have g35 : Rb 0 35 = nI d := by rw [f2 0 35 (by omega)]; exact h35
  rcases q1 with ⟨kk, hk1, e1, e2, -, p2, a2, t2, v2, l2, o2, q2, hp2⟩ | q1
  rotate_left
  · have w1 := DS_up (q0 := 20) (j0 := Tn) (y := r1) (DS_u2 (q0 := 14) (j0 := 24 * d + Tn) (y := r2) (RS_DS q f1 f2 f3 q1) (by decide) b14) (by decide) (Or.inl (by decide)) (Or.inl (by decide))
    obtain ⟨Id, c4, w2, -⟩ := e_ask (D := D + 5) (J1 := J1) (c := nI 2) (e := r1) w1
    have w3 := DS_up (q0 := 21) (j0 := Tn) (y := -1) (DS_u2 (q0 := 15) (j0 := 24 * d + Tn) (y := 0) w2 (by decide) b15) (by decide) (Or.inl (by decide)) (Or.inl (by decide))
    obtain ⟨Ie, c5, w4, -⟩ := e_amt (D := D + 4) (J1 := J1) (i := 3) (j := Tn) (by omega) w3
    refine ⟨_, _, Sb, cgo1 (c152 n3a hlt c1 c4 c5), fun r' hr' => rin (r30_go h8a hd hlt h35 m3 c2 (r31_D (D := D' + 4) (DS_8 w1).2) (r30_D (D := D' + 4) (DS_8 w4).1 hd ?_ rfl)) hr', Or.inr (DS_up w4 (by decide) (Or.inl (by decide)) (Or.inr (by decide)))⟩
    rw [up_n (by omega), up_n (by omega)]; exact g35
  rw [e1] at c1
  rw [e2] at c2
  have qb := RS_wr2 (q0 := 14) (j0 := 24 * d + Tn) (y := nI kk) (RS_wr (q0 := 20) (j0 := Tn) (y := nI kk) (RS_lx q f1 f2 f3 q2 (by omega)) (by decide) (by unfold inC; omega) (by decide)) (by decide) (by unfold inR; omega) b14
  obtain ⟨r3, r4, Id, Rd, Sd, c3, c4, f4, f5, f6, q3⟩ := knot_both (D := D + 3) (D' := D' + 2) (J1 := J1) (y := nI kk) qb
  have g35d : Rd 0 35 = nI d := by rw [f5 0 35 (by omega), up_n (by omega)]; exact g35
  rcases q3 with ⟨k3, hk3, e3, e4, ne, p3, a3, t3', v3, l3, o3, q4, hp3⟩ | q3
  rotate_left
  · have w1 := DS_up (q0 := 21) (j0 := Tn) (y := r3) (DS_u2 (q0 := 15) (j0 := 24 * d + Tn) (y := r4) (RS_DS qb f4 f5 f6 q3) (by decide) b15) (by decide) (Or.inl (by decide)) (Or.inl (by decide))
    obtain ⟨Ie, c5, w4, -⟩ := e_amt (D := D + 4) (J1 := J1) (i := 3) (j := Tn) (by omega) w1
    refine ⟨_, _, Sd, cgo1 (c152 n3a hlt c1 c3 c5), fun r' hr' => rin (r30_go h8a hd hlt h35 m3 c2 c4 (r30_D (D := D' + 4) (DS_8 w4).1 hd ?_ rfl)) hr', Or.inr (DS_up w4 (by decide) (Or.inl (by decide)) (Or.inr (by decide)))⟩
    rw [up_n (by omega)]; exact g35d
  rw [e3] at c3
  rw [e4] at c4
  have qd := RS_wr2 (q0 := 15) (j0 := 24 * d + Tn) (y := nI k3) (RS_wr (q0 := 21) (j0 := Tn) (y := nI k3) (RS_lx qb f4 f5 f6 q4 (by omega)) (by decide) (by unfold inC; omega) (by decide)) (by decide) (by unfold inR; omega) b15
  obtain ⟨If, hIf⟩ : ∃ If, If = mj_up Id 21 Tn (nI k3) := ⟨_, rfl⟩
  obtain ⟨Rf, hRf⟩ : ∃ Rf, Rf = mj_up Rd 15 (24 * d + Tn) (nI k3) := ⟨_, rfl⟩
  have x20 : If 20 Tn = nI kk := by rw [hIf, up_n (by omega), f4 20 Tn (by omega), up_s]
  have x21 : If 21 Tn = nI k3 := by rw [hIf, up_s]
  have x14 : Rf 14 (24 * d + Tn) = nI kk := by rw [hRf, up_n (by omega), f5 14 _ (by omega), up_s]
  have x15 : Rf 15 (24 * d + Tn) = nI k3 := by rw [hRf, up_s]
  rw [← hIf, ← hRf] at qd
  have kne : kk ≠ k3 := fun z => ne (by rw [z])
  obtain ⟨kf, ⟨fA1, fA2, fA3⟩, hD2, hS2, hF2, hm2⟩ := qd
  obtain ⟨⟨n0, n1, n2, n3, n4, n5⟩, ⟨m0', m1', m2', m3', m4', m5'⟩, -⟩ := TD_N hD2
  have h35f := hD2.1
  have vd : vp_in (nI d) 2 := vp_in_nI hd (by decide)
  obtain ⟨Ig, Rg, Sg, w1, w2, w3, w4, w5, w6⟩ := amts_both (D := D + 2) (D' := D' + 2) (J1 := J1) (W := W) (d := d) (x := x) (n := n) (i := 3) (j := Tn) (c0 := 4 * (24 * d + Tn)) (cq := 16)
    (fun w R S' Q => E2 30 (D' + 5) Q 95 [(0, .ref 0), (1, .int (nI (24 * d + Tn))), (2, .int (nI w))] R S') (fun R S' Q => E2 30 (D' + 5) Q 135 [(0, .ref 0)] R S') (Or.inl rfl) (by omega) b0
    (fun w R S' r2 R' S'' Q hw z1 z2 z3 z4 z5 => by
      refine mj_on (s30_95 _ _ ?_)
      rw [z1, nI_clamp (by omega), z2, if_pos z3, show (4 : Int32) = nI 4 from rfl, pk_mul, nI_add, nI_clamp (by omega), nI_1]
      exact ⟨vd, if_le (by omega) (by omega) (fun y => absurd y (by omega)) (fun _ => ⟨trivial, _, _, _, z4, vp_in_nI (by omega) (by decide), z5⟩)⟩)
    (fun w R S' Q hw z1 z2 z3 z4 => by
      refine mj_on (s30_95 _ _ ?_)
      rw [z1, nI_clamp (by omega), z2]
      refine ⟨vd, if_le (by omega) (by omega) (fun _ => z4) (fun y => ?_)⟩
      rcases z3 with z3 | z3
      · exact absurd y (by omega)
      · rw [if_neg z3]; exact z4) W 0 p3 a3 t3' v3 l3 o3 If Rf Sd (by omega) kf n0 m0' h35f
  have c154 : C1 (D + 7) 154 [.ref 11, .int (nI 3), .int (nI Tn)] If J1 .null Ig J1 := mj_mk (e154 _ _ (w1 _ rfl))
  rw [hIf] at c154
  have cc := cgo1 (c152 n3a hlt c1 c3 c154)
  have g3 : Ig 15 3 = nI Tn := by rw [w3 15 3 (by omega) (by omega)]; exact n3
  rw [g3, nI_1] at cc
  obtain ⟨Ih, hIh⟩ : ∃ Ih, Ih = mj_up Ig 15 3 (nI (Tn + 1)) := ⟨_, rfl⟩
  rw [← hIh] at cc
  have fC : ∀ q j, (q ≠ 11 ∨ j = 9) → (q ≠ 15 ∨ j ≠ 3) → (q ≠ 18 ∨ j < 480 + 4 * Tn ∨ 480 + 4 * Tn + W ≤ j) → Ih q j = If q j := fun q j z1 z2 z3 => by
    rw [hIh, up_n (by omega), w3 q j (by omega) (by omega)]
  have r40 : ∀ {R : (Nat → Nat → Int32)} {S' : (Nat → Nat → Int64)}, E2 30 (D' + 5) (fun y => y = (.null, (R, S', mj_R2))) 135 [(0, .ref 0)] Rg Sg → E2 30 (D' + 5) (fun y => y = (.null, (R, S', mj_R2))) 40 [(0, .ref 0)] Ra Sa := fun {R S'} w => r30_go h8a hd hlt h35 m3 c2 c4 (by rw [← hRf]; exact w2 _ w)
  have g35g : Rg 0 35 = nI d := by rw [w4 0 35 (by omega) (by omega)]; exact h35f
  rcases w6 with ⟨p4, a4, t4, v4, l4, o4, q5, hp4, hv⟩ | ⟨k4, p4, q5⟩
  rotate_left
  · refine ⟨Ih, Rg, Sg, cc, fun r' hr' => rin (r40 (mj_on (s30_135 ?_))) hr', Or.inr ⟨⟨_, _, by rw [hIh]; exact tkD_u1 q5 (by decide)⟩, ⟨fun q j z1 z2 => ?_, fun q j z1 z2 z3 => ?_, fun q j z1 z2 => ?_⟩, ⟨S, RS_S h, ?_⟩, ⟨W, b0, ?_⟩, ⟨Un, b5, ?_⟩⟩⟩
    · rw [if_neg (tkD_8 q5).1]
    · rw [fC q j (Or.inl z1) (by omega) (by omega)]; exact fA1 q j z1 z2
    · rw [w4 q j (by unfold tsz at z1; omega) (by unfold oub at z3; omega)]; exact fA2 q j z1 z2 z3
    · rw [w5 q j z1]; exact fA3 q j z1 z2
    · rw [fC 14 9 (by omega) (by omega) (by omega)]; exact hD2.2.1
    · rw [fC 15 0 (by omega) (by omega) (by omega)]; exact n0
    · rw [fC 15 5 (by omega) (by omega) (by omega)]; exact n5
  obtain ⟨Rh, hRh⟩ : ∃ Rh, Rh = mj_up Rg 5 d (nI (Tn + 1)) := ⟨_, rfl⟩
  have fR : ∀ q j, (q ≠ 0 ∨ (j ≠ 3 ∧ j ≠ 4 ∧ j ≠ 5 ∧ j ≠ 6 ∧ j ≠ 8 ∧ j ≠ 9)) → (q ≠ 5 ∨ j ≠ d) → (q ≠ 16 ∨ j < 4 * (24 * d + Tn) ∨ 4 * (24 * d + Tn) + W ≤ j) → Rh q j = Rf q j := fun q j z1 z2 z3 => by
    rw [hRh, up_n (by omega), w4 q j z1 (by omega)]
  have g5g : Rg 5 d = nI Tn := by rw [w4 5 d (by omega) (by omega)]; exact m3'
  refine ⟨Ih, Rh, Sg, cc, fun r' hr' => rin (r40 (mj_on (s30_135 ?_))) hr', Or.inl ⟨W, Rn, Kn, Tn + 1, Hn, Un, S, F, p4, a4, t4, v4, l4, o4, ⟨tkR_cg q5 (fun q j z => by rw [hIh, up_n (by omega)]) (fun q j z => by rw [hRh, up_n (by omega)]) rfl, ⟨fun q j z1 z2 => ?_, fun q j z1 z2 z3 => ?_, fun q j z1 z2 => ?_⟩, ?_, by omega, by omega, ?_⟩, by omega⟩⟩
  · rw [if_pos (r_8 q5), g35g, nI_clamp (by omega), g5g, nI_1, ← hRh]
    exact ⟨vd, vd, rfl⟩
  · rw [fC q j (Or.inl z1) (by omega) (by omega)]; exact fA1 q j z1 z2
  · rw [fR q j (by unfold tsz at z1; omega) (by unfold oub at z3; omega) (by unfold oub at z3; omega)]; exact fA2 q j z1 z2 z3
  · rw [w5 q j z1]; exact fA3 q j z1 z2
  · have hO := TDo_up (I1' := Ih) (I2' := Rh) (J2' := Sg) hD2.2.2.2.2.2 b0 (fun q j z => fC q j (by unfold inC at z; omega) (by unfold inC at z; omega) (by unfold inC at z; omega)) (fun q j z => fR q j (by unfold inR at z; omega) (by unfold inR at z; omega) (by unfold inR at z; omega)) (fun q j z => w5 q j (by unfold inJ at z; omega))
    refine TD_new hD2 (fC 14 9 (by omega) (by omega) (by omega)) (fR 0 35 (by omega) (by omega) (by omega)) (fR 0 34 (by omega) (by omega) (by omega)) (fun j => fC 23 j (by omega) (by omega) (by omega)) ⟨?_, ?_, ?_, ?_, ?_, ?_, ?_, ?_, ?_, ?_, ?_, ?_, hd, b0, b1, b2, by omega, b4, b5⟩ ?_
    · exact (fC 15 0 (by omega) (by omega) (by omega)).trans n0
    · exact (fC 15 1 (by omega) (by omega) (by omega)).trans n1
    · exact (fC 15 2 (by omega) (by omega) (by omega)).trans n2
    · show Ih 15 3 = _
      rw [hIh, up_s]
    · exact (fC 15 4 (by omega) (by omega) (by omega)).trans n4
    · exact (fC 15 5 (by omega) (by omega) (by omega)).trans n5
    · exact (fR 2 d (by omega) (by omega) (by omega)).trans m0'
    · exact (fR 3 d (by omega) (by omega) (by omega)).trans m1'
    · exact (fR 4 d (by omega) (by omega) (by omega)).trans m2'
    · rw [hRh, up_s]
    · exact (fR 6 d (by omega) (by omega) (by omega)).trans m4'
    · exact (fR 7 d (by omega) (by omega) (by omega)).trans m5'
    · obtain ⟨g1, g2, g3, g4, g5, g9⟩ := hO
      refine ⟨g1, g2, fun t ht => ?_, g4, g5, g9⟩
      by_cases e : t = Tn
      · rw [e]
        have y20 : Ih (14 + 6) Tn = nI kk := (fC 20 Tn (by omega) (by omega) (by omega)).trans x20
        have y21 : Ih (14 + 7) Tn = nI k3 := (fC 21 Tn (by omega) (by omega) (by omega)).trans x21
        rw [y20, y21, fR 14 _ (by omega) (by omega) (by omega), fR 15 _ (by omega) (by omega) (by omega), x14, x15]
        refine ⟨rfl, rfl, ⟨kk, k3, hk1, hk3, kne, rfl, rfl⟩, fun w hw => ?_⟩
        have q := hv w (Nat.zero_le _) hw
        rw [hRh, up_n (by omega)]
        have y18 : Ih (14 + 4) (480 + 4 * Tn + w) = Ig 18 (160 * 3 + 4 * Tn + w) := by rw [hIh]; exact up_n (by omega)
        rw [y18]
        exact q
      · exact g3 t (by omega)
  · exact ⟨(fC 14 0 (by omega) (by omega) (by omega)).trans hm2.1, (fC 11 9 (by omega) (by omega) (by omega)).trans hm2.2⟩
end Sa9j_6

