section
/-! rows, on both sides -/
section Sa9h
variable {n d W Rn Kn Tn Hn Un S F mc : Nat} {x : Nat → Nat} {B1 B2 : Nat → Nat → Int32} {BJ : Nat → Nat → Int64}
variable {D D' E p a t v : Nat} {l : List Nat} {o : Int} {I1 I2 : Nat → Nat → Int32} {J1 J2 : Nat → Nat → Int64}
theorem r27_D {Q : mj_R → Prop} {y z : Int32} (h8 : ¬ I2 0 8 = 0) (hd : d < 2) (h35 : I2 0 35 = nI d) (hQ : Q (.null, (I2, J2, mj_R2))) : E2 27 (D + 1) Q 78 [(0, .ref 0), (1, .int y), (2, .int z)] I2 J2 := by
  have e193 : E2 27 (D + 1) Q 193 [(0, .ref 0)] I2 J2 := by
    refine mj_on (s27_193 ?_)
    rw [if_neg h8]
    exact hQ
  refine mj_on (s27_78 _ _ ?_)
  rw [h35, if_neg h8]
  exact ⟨vp_in_nI hd (by decide), if_i (fun _ => e193) (fun _ => e193)⟩
/-- a row -/
theorem st_row (h : RS n x d B1 B2 BJ W Rn Kn Tn Hn Un S F mc p a t v l o I1 I2 J2) (ho : o = (1 : Nat)) : STO n x d B1 B2 BJ D D' mc p J1 I1 I2 J2 := by
  have hk := h.1
  have hD := h.2.2.1
  obtain ⟨⟨n0, n1, n2, n3, n4, n5⟩, ⟨m0, m1, m2, m3, m4, m5⟩, hd, b0, b1, b2, b3, b4, b5⟩ := TD_N hD
  have t3 := (tk_w hk (w := 1) (by decide) ho).1
  have h7 := own_n hk (by decide) ho
  obtain ⟨Ia, Ra, Sa, k1, k2⟩ := cnt_both (D := D + 5) (D' := D' + 2) (J1 := J1) (y1 := tf (Rn = 40)) (y2 := tf (W = 0)) h t3 rfl rfl
  have c145' := c145 (D := D + 7) (J1 := J1) hD (k := 1) (by decide)
  have ee : erl 1 W Rn Tn Hn ↔ W = 0 := ⟨fun q => by rcases q with ⟨q, -⟩ | ⟨-, q⟩ <;> omega, fun q => Or.inr ⟨Or.inl rfl, q⟩⟩
  rw [tf_iff ee] at c145'
  have v1 : vp_in (1 : Int32) 6 := vp_in_nI (n := 1) (by decide) (by decide)
  have rin : ∀ {R : (Nat → Nat → Int32)} {S' : (Nat → Nat → Int64)} {r : mj_R}, E2 27 (D' + 5) (fun y => y = (.null, (R, S', mj_R2))) 40 [(0, .ref 0)] Ra Sa → E2 17 (D' + 6) (fun y => y = r) 296 [(0, .ref 0)] R S' → mj_Cl mj_S2 mj_CD (D' + 7) 17 [.ref 0] (I2, J2, mj_R2) r := fun {R S' r} q1 q2 => r17_1 (D := D' + 5) hk ho (r27_in hD k1 q1) q2
  have dd : ¬ Ra 0 8 ≤ 0 → E2 27 (D' + 5) (fun y => y = (.null, (Ra, Sa, mj_R2))) 40 [(0, .ref 0)] Ra Sa := fun q => by
    refine mj_on (s27_40 ?_)
    rw [if_neg q]
  rcases k2 with ⟨f, c, q⟩ | ⟨f, e, c, q⟩ | ⟨f, e, c, fL, q⟩
  · exact ⟨Ia, Ra, Sa, c143_full (k := 1) h7 (by decide) n1 mst_1 (by decide) f c, fun r hr => rin (dd (DS_8 q).2) hr, Or.inr q⟩
  · rw [tf_t e] at c145'
    exact ⟨Ia, Ra, Sa, c143_early (k := 1) h7 (by decide) n1 mst_1 (by decide) (by first | decide | exact Or.inl (by decide) | omega) c145' c, fun r hr => rin (dd (DS_8 q).2) hr, Or.inr q⟩
  rw [tf_f e] at c145'
  have hlt : Rn < 40 := by omega
  have cgo1 : ∀ {Ib : (Nat → Nat → Int32)}, C1 (D + 8) 170 [.ref 11] Ia J1 .null Ib J1 → C1 (D + 9) 143 [.ref 11] I1 J1 .null Ib J1 := fun c2 => c143_go (k := 1) h7 (by decide) n1 mst_1 (by decide) hlt c145' c (Or.inr (Or.inl ⟨rfl, c2⟩))
  have n1a : Ia 15 1 = nI Rn := (fL 15 1 (Or.inl (by decide))).trans n1
  rcases q with ⟨p1, a1, t1, v1', l1, o1, q, hp⟩ | q
  rotate_left
  · obtain ⟨Ib, c2, q2⟩ := e_row (D := D + 5) (J1 := J1) q n1a hlt
    exact ⟨Ib, Ra, Sa, cgo1 c2, fun r hr => rin (dd (DS_8 q).2) hr, Or.inr q2⟩
  obtain ⟨r, Ib, Rb, Sb, c2, c3, f1, f2, q2⟩ := name_both (D := D + 3) (D' := D' + 2) (J1 := J1) (i := 1) (N := Rn) q (Or.inr (Or.inl ⟨rfl, rfl, hlt⟩))
  obtain ⟨ka, ⟨fA1, fA2, fA3⟩, hD1, hS1, hF1, hm1⟩ := q
  obtain ⟨⟨n0, n1, n2, n3, n4, n5⟩, ⟨m0, m1, m2, m3, m4, m5⟩, -⟩ := TD_N hD1
  have h35 := hD1.1
  have vd : vp_in (nI d) 2 := vp_in_nI hd (by decide)
  have g35 : Rb 0 35 = nI d := by rw [f1 0 35 (by first | decide | exact Or.inl (by decide) | omega)]; exact h35
  have h8a : Ra 0 8 ≤ 0 := by rw [r_8 ka]; decide
  obtain ⟨Sc, hSc⟩ : ∃ Sc, Sc = mj_up Sb 10 (40 * d + Rn) r := ⟨_, rfl⟩
  have r40 : ∀ {R : (Nat → Nat → Int32)} {S' : (Nat → Nat → Int64)}, E2 27 (D' + 5) (fun y => y = (.null, (R, S', mj_R2))) 78 [(0, .ref 0), (1, .int (nI (40 * d + Rn))), (2, .int (nI 0))] Rb Sc → E2 27 (D' + 5) (fun y => y = (.null, (R, S', mj_R2))) 40 [(0, .ref 0)] Ra Sa := fun {R S'} w => by
    refine mj_on (s27_40 ?_)
    rw [if_pos h8a, h35, nI_clamp (by first | decide | exact Or.inl (by decide) | omega), m1, show (40 : Int32) = nI 40 from rfl, pk_mul, nI_add, nI_clamp (by first | decide | exact Or.inl (by decide) | omega)]
    refine ⟨vd, trivial, _, _, _, c3, vp_in_nI (by first | decide | exact Or.inl (by decide) | omega) (by decide), ?_⟩
    rw [← hSc]
    exact w
  have c170 : ∀ {Ic : (Nat → Nat → Int32)}, E1 170 (D + 7) (fun y => y = (.null, (Ic, J1, mj_R1))) 17 [(0, .ref 11), (1, .int (nI Rn)), (2, .int (nI 0))] Ib J1 → C1 (D + 8) 170 [.ref 11] Ia J1 .null Ic J1 := fun {Ic} w => by
    refine mj_mk (e170 ?_)
    rw [show ((1 : Int32)).toNatClampNeg = 1 from rfl, n1a]
    exact ⟨v1, trivial, _, _, c2, w⟩
  rcases q2 with ⟨hl, hr, f3, p2, a2, t2, v2, l2, o2, q3, hp2⟩ | q2
  rotate_left
  · obtain ⟨w, hw4, hw⟩ := q2.2.2.2.1
    have gC : DS d B1 B2 BJ Ib Rb Sc := ⟨q2.1, ⟨q2.2.1.1, q2.2.1.2.1, fun q j z1 z2 => by rw [hSc, up_n (by unfold oub at z2; omega)]; exact q2.2.1.2.2 q j z1 z2⟩, q2.2.2⟩
    obtain ⟨Ic, J', hc, hJ, h1⟩ := mj_cN (S := mj_S1) (CD := mj_CD) (D := D + 7) (z := 170) (as := [.ref 11]) (h := (Ia, J1, mj_R1)) (R := mj_R1) (P := fun I' J' => J' = J1 ∧ DS d B1 B2 BJ I' Rb Sc) (e170 (by
      rw [show ((1 : Int32)).toNatClampNeg = 1 from rfl, n1a]
      exact ⟨v1, trivial, _, _, c2, e_row0 (D := D + 5) (w := 0) hlt gC hw hw4 (Nat.zero_le _) (fun I3 q => ⟨_, _, rfl, rfl, q⟩)⟩))
    rw [hJ] at hc
    exact ⟨Ic, Rb, Sc, cgo1 hc, fun r' hr' => rin (r40 (r27_D (D := D' + 4) (DS_8 q2).1 hd g35 rfl)) hr', Or.inr h1⟩
  rw [show 40 * 1 + Rn = 40 + Rn from rfl] at f3
  have q4 : tkR n x p2 a2 t2 v2 l2 o2 Ib Rb Sc := tkR_cg q3 (fun _ _ _ => rfl) (fun _ _ _ => rfl) (by rw [hSc, up_n (by first | decide | exact Or.inl (by decide) | omega)])
  have gN : Ib 15 0 = nI W := by rw [f3 15 0 (by first | decide | exact Or.inl (by decide) | omega), up_n (by first | decide | exact Or.inl (by decide) | omega), up_n (by first | decide | exact Or.inl (by decide) | omega)]; exact n0
  have gN2 : Rb 2 d = nI W := by rw [f1 2 d (by first | decide | exact Or.inl (by decide) | omega)]; exact m0
  obtain ⟨Ic, Rc, Sd, w1, w2, w3, w4, w5, w6⟩ := row_both (D := D + 2) (D' := D' + 1) (J1 := J1) hlt hd b0 W 0 p2 a2 t2 v2 l2 o2 Ib Rb Sc (by first | decide | exact Or.inl (by decide) | omega) q4 gN gN2 g35
  have fC : ∀ q j, (q ≠ 11 ∨ j = 9) → (q ≠ 16 ∨ j ≠ 40 + Rn) → (q ≠ 15 ∨ j ≠ 1) → (q ≠ 18 ∨ j < 160 + 4 * Rn ∨ 160 + 4 * Rn + W ≤ j) → (q ≠ 19 ∨ j < 4 * Rn ∨ 4 * Rn + W ≤ j) → Ic q j = Ia q j := fun q j z1 z2 z3 z4 z5 => by
    rw [w3 q j (by first | decide | exact Or.inl (by decide) | omega) (by first | decide | exact Or.inl (by decide) | omega) (by first | decide | exact Or.inl (by decide) | omega), f3 q j (by first | decide | exact Or.inl (by decide) | omega), up_n (by first | decide | exact Or.inl (by decide) | omega), up_n (by first | decide | exact Or.inl (by decide) | omega)]
  have gIc : Ic 15 1 = nI (Rn + 1) := by rw [w3 15 1 (by first | decide | exact Or.inl (by decide) | omega) (by first | decide | exact Or.inl (by decide) | omega) (by first | decide | exact Or.inl (by decide) | omega), f3 15 1 (by first | decide | exact Or.inl (by decide) | omega), up_s]
  have fJ : ∀ q j, (q ≠ 0 ∨ j ≠ 7) → (q ≠ 10 ∨ j ≠ 40 * d + Rn) → Sd q j = Sa q j := fun q j z1 z2 => by
    rw [w5 q j z1, hSc, up_n (by first | decide | exact Or.inl (by decide) | omega)]; exact f2 q j z1
  have gc9 : Ic 14 9 = Ia 14 9 := fC 14 9 (by first | decide | exact Or.inl (by decide) | omega) (by first | decide | exact Or.inl (by decide) | omega) (by first | decide | exact Or.inl (by decide) | omega) (by first | decide | exact Or.inl (by decide) | omega) (by first | decide | exact Or.inl (by decide) | omega)
  have g35c : Rc 0 35 = nI d := by rw [w4 0 35 (by first | decide | exact Or.inl (by decide) | omega) (by first | decide | exact Or.inl (by decide) | omega)]; exact g35
  rcases w6 with ⟨p3, a3, t3', v3, l3, o3, q5, hp3, hv⟩ | ⟨k3, p3, q5⟩
  rotate_left
  · refine ⟨Ic, Rc, Sd, cgo1 (c170 (w1 _ rfl)), fun r' hr' => rin (r40 (w2 _ (mj_on (s27_193 ?_)))) hr', Or.inr ⟨⟨_, _, q5⟩, ⟨fun q j z1 z2 => ?_, fun q j z1 z2 z3 => ?_, fun q j z1 z2 => ?_⟩, ⟨S, RS_S h, ?_⟩, ⟨W, b0, ?_⟩, ⟨Un, b5, ?_⟩⟩⟩
    · rw [if_neg (tkD_8 q5).1]
    · rw [fC q j (Or.inl z1) (by first | decide | exact Or.inl (by decide) | omega) (by first | decide | exact Or.inl (by decide) | omega) (by first | decide | exact Or.inl (by decide) | omega) (by first | decide | exact Or.inl (by decide) | omega)]; exact fA1 q j z1 z2
    · rw [w4 q j (by unfold tsz at z1; omega) (by unfold oub at z3; omega), f1 q j (by unfold tsz at z1; omega)]; exact fA2 q j z1 z2 z3
    · rw [fJ q j z1 (by unfold oub at z2; omega)]; exact fA3 q j z1 z2
    · rw [gc9]; exact hD1.2.1
    · rw [fC 15 0 (by first | decide | exact Or.inl (by decide) | omega) (by first | decide | exact Or.inl (by decide) | omega) (by first | decide | exact Or.inl (by decide) | omega) (by first | decide | exact Or.inl (by decide) | omega) (by first | decide | exact Or.inl (by decide) | omega)]; exact n0
    · rw [fC 15 5 (by first | decide | exact Or.inl (by decide) | omega) (by first | decide | exact Or.inl (by decide) | omega) (by first | decide | exact Or.inl (by decide) | omega) (by first | decide | exact Or.inl (by decide) | omega) (by first | decide | exact Or.inl (by decide) | omega)]; exact n5
  obtain ⟨Rd, hRd⟩ : ∃ Rd, Rd = mj_up Rc 3 d (nI (Rn + 1)) := ⟨_, rfl⟩
  have fR : ∀ q j, (q ≠ 0 ∨ (j ≠ 3 ∧ j ≠ 4 ∧ j ≠ 5 ∧ j ≠ 6 ∧ j ≠ 8 ∧ j ≠ 9)) → (q ≠ 3 ∨ j ≠ d) → ((q ≠ 11 ∧ q ≠ 12) ∨ j < 4 * (40 * d + Rn) ∨ 4 * (40 * d + Rn) + W ≤ j) → Rd q j = Ra q j := fun q j z1 z2 z3 => by
    rw [hRd, up_n (by first | decide | exact Or.inl (by decide) | omega), w4 q j z1 (by first | decide | exact Or.inl (by decide) | omega)]; exact f1 q j z1
  have g3c : Rc 3 d = nI Rn := by rw [w4 3 d (by first | decide | exact Or.inl (by decide) | omega) (by first | decide | exact Or.inl (by decide) | omega), f1 3 d (by first | decide | exact Or.inl (by decide) | omega)]; exact m1
  refine ⟨Ic, Rd, Sd, cgo1 (c170 (w1 _ rfl)), fun r' hr' => rin (r40 (w2 _ (mj_on (s27_193 ?_)))) hr', Or.inl ⟨W, Rn + 1, Kn, Tn, Hn, Un, S, F, p3, a3, t3', v3, l3, o3, ⟨tkR_cg q5 (fun _ _ _ => rfl) (fun q j z => by rw [hRd, up_n (by first | decide | exact Or.inl (by decide) | omega)]) rfl, ⟨fun q j z1 z2 => ?_, fun q j z1 z2 z3 => ?_, fun q j z1 z2 => ?_⟩, ?_, by omega, by omega, ?_⟩, by omega⟩⟩
  · rw [if_pos (r_8 q5), g35c, nI_clamp (by first | decide | exact Or.inl (by decide) | omega), g3c, nI_1, ← hRd]
    exact ⟨vd, vd, rfl⟩
  · rw [fC q j (Or.inl z1) (by first | decide | exact Or.inl (by decide) | omega) (by first | decide | exact Or.inl (by decide) | omega) (by first | decide | exact Or.inl (by decide) | omega) (by first | decide | exact Or.inl (by decide) | omega)]; exact fA1 q j z1 z2
  · rw [fR q j (by unfold tsz at z1; omega) (by unfold oub at z3; omega) (by unfold oub at z3; omega)]; exact fA2 q j z1 z2 z3
  · rw [fJ q j z1 (by unfold oub at z2; omega)]; exact fA3 q j z1 z2
  · have hO := TDo_up (I1' := Ic) (I2' := Rd) (J2' := Sd) hD1.2.2.2.2.2 b0 (fun q j z => fC q j (by unfold inC at z; omega) (by unfold inC at z; omega) (by unfold inC at z; omega) (by unfold inC at z; omega) (by unfold inC at z; omega)) (fun q j z => fR q j (by unfold inR at z; omega) (by unfold inR at z; omega) (by unfold inR at z; omega)) (fun q j z => fJ q j (by unfold inJ at z; omega) (by unfold inJ at z; omega))
    refine TD_new hD1 gc9 (fR 0 35 (by first | decide | exact Or.inl (by decide) | omega) (by first | decide | exact Or.inl (by decide) | omega) (by first | decide | exact Or.inl (by decide) | omega)) (fR 0 34 (by first | decide | exact Or.inl (by decide) | omega) (by first | decide | exact Or.inl (by decide) | omega) (by first | decide | exact Or.inl (by decide) | omega)) (fun j => fC 23 j (by first | decide | exact Or.inl (by decide) | omega) (by first | decide | exact Or.inl (by decide) | omega) (by first | decide | exact Or.inl (by decide) | omega) (by first | decide | exact Or.inl (by decide) | omega) (by first | decide | exact Or.inl (by decide) | omega)) ⟨?_, ?_, ?_, ?_, ?_, ?_, ?_, ?_, ?_, ?_, ?_, ?_, hd, b0, by omega, b2, b3, b4, b5⟩ ?_
    · exact (fC 15 0 (by first | decide | exact Or.inl (by decide) | omega) (by first | decide | exact Or.inl (by decide) | omega) (by first | decide | exact Or.inl (by decide) | omega) (by first | decide | exact Or.inl (by decide) | omega) (by first | decide | exact Or.inl (by decide) | omega)).trans n0
    · exact gIc
    · exact (fC 15 2 (by first | decide | exact Or.inl (by decide) | omega) (by first | decide | exact Or.inl (by decide) | omega) (by first | decide | exact Or.inl (by decide) | omega) (by first | decide | exact Or.inl (by decide) | omega) (by first | decide | exact Or.inl (by decide) | omega)).trans n2
    · exact (fC 15 3 (by first | decide | exact Or.inl (by decide) | omega) (by first | decide | exact Or.inl (by decide) | omega) (by first | decide | exact Or.inl (by decide) | omega) (by first | decide | exact Or.inl (by decide) | omega) (by first | decide | exact Or.inl (by decide) | omega)).trans n3
    · exact (fC 15 4 (by first | decide | exact Or.inl (by decide) | omega) (by first | decide | exact Or.inl (by decide) | omega) (by first | decide | exact Or.inl (by decide) | omega) (by first | decide | exact Or.inl (by decide) | omega) (by first | decide | exact Or.inl (by decide) | omega)).trans n4
    · exact (fC 15 5 (by first | decide | exact Or.inl (by decide) | omega) (by first | decide | exact Or.inl (by decide) | omega) (by first | decide | exact Or.inl (by decide) | omega) (by first | decide | exact Or.inl (by decide) | omega) (by first | decide | exact Or.inl (by decide) | omega)).trans n5
    · exact (fR 2 d (by first | decide | exact Or.inl (by decide) | omega) (by first | decide | exact Or.inl (by decide) | omega) (by first | decide | exact Or.inl (by decide) | omega)).trans m0
    · rw [hRd, up_s]
    · exact (fR 4 d (by first | decide | exact Or.inl (by decide) | omega) (by first | decide | exact Or.inl (by decide) | omega) (by first | decide | exact Or.inl (by decide) | omega)).trans m2
    · exact (fR 5 d (by first | decide | exact Or.inl (by decide) | omega) (by first | decide | exact Or.inl (by decide) | omega) (by first | decide | exact Or.inl (by decide) | omega)).trans m3
    · exact (fR 6 d (by first | decide | exact Or.inl (by decide) | omega) (by first | decide | exact Or.inl (by decide) | omega) (by first | decide | exact Or.inl (by decide) | omega)).trans m4
    · exact (fR 7 d (by first | decide | exact Or.inl (by decide) | omega) (by first | decide | exact Or.inl (by decide) | omega) (by first | decide | exact Or.inl (by decide) | omega)).trans m5
    · obtain ⟨g1, g2, g3, g4, ⟨g5, g6, g7, g8⟩, g9⟩ := hO
      refine ⟨g1, fun r hr w hw => ?_, g3, g4, ⟨g5, fun k hk' => ?_, g7, g8⟩, g9⟩
      · by_cases e : r = Rn
        · rw [e]
          have q := hv w (Nat.zero_le _) hw
          rw [hRd, up_n (by first | decide | exact Or.inl (by decide) | omega), up_n (by first | decide | exact Or.inl (by decide) | omega)]
          exact q
        · exact g2 r (by first | decide | exact Or.inl (by decide) | omega) w hw
      · by_cases e : k = Rn
        · rw [e]
          show nmq (Ic 16 (40 + Rn)) _
          rw [w3 16 _ (by first | decide | exact Or.inl (by decide) | omega) (by first | decide | exact Or.inl (by decide) | omega) (by first | decide | exact Or.inl (by decide) | omega), f3 16 _ (by first | decide | exact Or.inl (by decide) | omega), up_n (by first | decide | exact Or.inl (by decide) | omega), w5 10 _ (by first | decide | exact Or.inl (by decide) | omega), hSc, up_s, up_s, hr]
          exact nmq_l hl
        · exact g6 k (by first | decide | exact Or.inl (by decide) | omega)
  · exact ⟨(fC 14 0 (by first | decide | exact Or.inl (by decide) | omega) (by first | decide | exact Or.inl (by decide) | omega) (by first | decide | exact Or.inl (by decide) | omega) (by first | decide | exact Or.inl (by decide) | omega) (by first | decide | exact Or.inl (by decide) | omega)).trans hm1.1, (fC 11 9 (by first | decide | exact Or.inl (by decide) | omega) (by first | decide | exact Or.inl (by decide) | omega) (by first | decide | exact Or.inl (by decide) | omega) (by first | decide | exact Or.inl (by decide) | omega) (by first | decide | exact Or.inl (by decide) | omega)).trans hm1.2⟩
end Sa9h
end
section
/-! things and ties, on both sides -/
section Sa9i
variable {n d W Rn Kn Tn Hn Un S F mc : Nat} {x : Nat → Nat} {B1 B2 : Nat → Nat → Int32} {BJ : Nat → Nat → Int64}
variable {D D' E p a t v : Nat} {l : List Nat} {o : Int} {I1 I2 : Nat → Nat → Int32} {J1 J2 : Nat → Nat → Int64}
/-- a thing -/
theorem st_thing (h : RS n x d B1 B2 BJ W Rn Kn Tn Hn Un S F mc p a t v l o I1 I2 J2) (ho : o = (4 : Nat)) : STO n x d B1 B2 BJ D D' mc p J1 I1 I2 J2 := by
  have hk := h.1
  have hD := h.2.2.1
  obtain ⟨⟨n0, n1, n2, n3, n4, n5⟩, ⟨m0, m1, m2, m3, m4, m5⟩, hd, b0, b1, b2, b3, b4, b5⟩ := TD_N hD
  have t3 := (tk_w hk (w := 4) (by decide) ho).1
  have h7 := own_n hk (by decide) ho
  obtain ⟨Ia, Ra, Sa, k1, k2⟩ := cnt_both (D := D + 5) (D' := D' + 2) (J1 := J1) (y1 := tf (Hn = 12)) (y2 := tf (W = 0)) h t3 rfl rfl
  have c145' := c145 (D := D + 7) (J1 := J1) hD (k := 4) (by decide)
  have ee : erl 4 W Rn Tn Hn ↔ W = 0 := ⟨fun q => by rcases q with ⟨q, -⟩ | ⟨-, q⟩ <;> omega, fun q => Or.inr ⟨Or.inr (Or.inr rfl), q⟩⟩
  rw [tf_iff ee] at c145'
  have v4 : vp_in (4 : Int32) 6 := vp_in_nI (n := 4) (by decide) (by decide)
  have rin : ∀ {R : (Nat → Nat → Int32)} {S' : (Nat → Nat → Int64)} {r : mj_R}, E2 32 (D' + 5) (fun y => y = (.null, (R, S', mj_R2))) 40 [(0, .ref 0)] Ra Sa → E2 17 (D' + 6) (fun y => y = r) 296 [(0, .ref 0)] R S' → mj_Cl mj_S2 mj_CD (D' + 7) 17 [.ref 0] (I2, J2, mj_R2) r := fun {R S' r} q1 q2 => r17_4 (D := D' + 5) hk ho (r32_in hD k1 q1) q2
  have dd : ¬ Ra 0 8 ≤ 0 → E2 32 (D' + 5) (fun y => y = (.null, (Ra, Sa, mj_R2))) 40 [(0, .ref 0)] Ra Sa := fun q => by
    refine mj_on (s32_40 ?_)
    rw [if_neg q]
  rcases k2 with ⟨f, c, q⟩ | ⟨f, e, c, q⟩ | ⟨f, e, c, fL, q⟩
  · exact ⟨Ia, Ra, Sa, c143_full (k := 4) h7 (by decide) n4 mst_4 (by decide) f c, fun r hr => rin (dd (DS_8 q).2) hr, Or.inr q⟩
  · rw [tf_t e] at c145'
    exact ⟨Ia, Ra, Sa, c143_early (k := 4) h7 (by decide) n4 mst_4 (by decide) (by first | decide | exact Or.inl (by decide) | omega) c145' c, fun r hr => rin (dd (DS_8 q).2) hr, Or.inr q⟩
  rw [tf_f e] at c145'
  have hlt : Hn < 12 := by omega
  have cgo1 : ∀ {Ib : (Nat → Nat → Int32)}, C1 (D + 8) 171 [.ref 11] Ia J1 .null Ib J1 → C1 (D + 9) 143 [.ref 11] I1 J1 .null Ib J1 := fun c2 => c143_go (k := 4) h7 (by decide) n4 mst_4 (by decide) hlt c145' c (Or.inr (Or.inr (Or.inr (Or.inr (Or.inl ⟨rfl, c2⟩)))))
  have n4a : Ia 15 4 = nI Hn := (fL 15 4 (Or.inl (by decide))).trans n4
  rcases q with ⟨p1, a1, t1, v1', l1, o1, q, hp⟩ | q
  rotate_left
  · obtain ⟨Ib, c2, q2⟩ := e_thing (D := D + 4) (J1 := J1) q n4a hlt
    exact ⟨Ib, Ra, Sa, cgo1 c2, fun r hr => rin (dd (DS_8 q).2) hr, Or.inr q2⟩
  obtain ⟨r, Ib, Rb, Sb, c2, c3, f1, f2, q2⟩ := name_both (D := D + 3) (D' := D' + 2) (J1 := J1) (i := 4) (N := Hn) q (Or.inr (Or.inr (Or.inr ⟨rfl, rfl, hlt⟩)))
  obtain ⟨ka, ⟨fA1, fA2, fA3⟩, hD1, hS1, hF1, hm1⟩ := q
  obtain ⟨⟨n0, n1, n2, n3, n4, n5⟩, ⟨m0, m1, m2, m3, m4, m5⟩, -⟩ := TD_N hD1
  have h35 := hD1.1
  have vd : vp_in (nI d) 2 := vp_in_nI hd (by decide)
  have g35 : Rb 0 35 = nI d := by rw [f1 0 35 (by first | decide | exact Or.inl (by decide) | omega)]; exact h35
  have gN2 : Rb 2 d = nI W := by rw [f1 2 d (by first | decide | exact Or.inl (by decide) | omega)]; exact m0
  have h8a : Ra 0 8 ≤ 0 := by rw [r_8 ka]; decide
  have v24 : vp_in (nI (12 * d + Hn)) 24 := vp_in_nI (by first | decide | exact Or.inl (by decide) | omega) (by decide)
  have r40 : ∀ {R : (Nat → Nat → Int32)} {S' : (Nat → Nat → Int64)}, E2 32 (D' + 5) (fun y => y = (.null, (R, S', mj_R2))) 74 [(0, .ref 0), (1, .int (nI (12 * d + Hn))), (2, .long r), (4, .int (nI 0))] Rb Sb → E2 32 (D' + 5) (fun y => y = (.null, (R, S', mj_R2))) 40 [(0, .ref 0)] Ra Sa := fun {R S'} w => by
    refine mj_on (s32_40 ?_)
    rw [if_pos h8a, h35, nI_clamp (by first | decide | exact Or.inl (by decide) | omega), m4, show (12 : Int32) = nI 12 from rfl, pk_mul, nI_add]
    exact ⟨vd, trivial, _, _, _, c3, w⟩
  have c171 : ∀ {Ic : (Nat → Nat → Int32)}, C1 (D + 7) 154 [.ref 11, .int (nI 4), .int (nI Hn)] Ib J1 .null Ic J1 → C1 (D + 8) 171 [.ref 11] Ia J1 .null Ic J1 := fun {Ic} w => by
    refine mj_mk (e171 ?_)
    rw [show ((4 : Int32)).toNatClampNeg = 4 from rfl, n4a]
    exact ⟨v4, trivial, _, _, c2, trivial, _, _, w, rfl⟩
  rcases q2 with ⟨hl, hr, f3, p2, a2, t2, v2, l2, o2, q3, hp2⟩ | q2
  rotate_left
  · obtain ⟨Ic, c4, q4, -⟩ := e_amt (D := D + 4) (J1 := J1) (i := 4) (j := Hn) (by first | decide | exact Or.inl (by decide) | omega) q2
    refine ⟨Ic, Rb, mj_up Sb 17 (12 * d + Hn) r, cgo1 (c171 c4), fun r' hr' => rin (r40 (mj_on (s32_74 _ _ _ ?_))) hr', Or.inr ⟨q4.1, ⟨q4.2.1.1, q4.2.1.2.1, fun q j z1 z2 => ?_⟩, q4.2.2⟩⟩
    · have e116 : E2 32 (D' + 5) (fun y => y = (.null, (Rb, mj_up Sb 17 (12 * d + Hn) r, mj_R2))) 116 [(0, .ref 0), (1, .int (nI (12 * d + Hn))), (2, .long r)] Rb Sb := by
        refine mj_on (s32_116 _ _ ?_)
        rw [if_neg (DS_8 q2).1, nI_clamp (by first | decide | exact Or.inl (by decide) | omega)]
        exact ⟨v24, rfl⟩
      rw [g35, if_neg (DS_8 q2).1]
      exact ⟨vd, if_i (fun _ => e116) (fun _ => e116)⟩
    · rw [up_n (by unfold oub at z2; omega)]; exact q4.2.1.2.2 q j z1 z2
  rw [show 40 * 4 + Hn = 160 + Hn from rfl] at f3
  have gN : Ib 15 0 = nI W := by rw [f3 15 0 (by first | decide | exact Or.inl (by decide) | omega), up_n (by first | decide | exact Or.inl (by decide) | omega), up_n (by first | decide | exact Or.inl (by decide) | omega)]; exact n0
  obtain ⟨Ic, Rc, Sc, w1, w2, w3, w4, w5, w6⟩ := amts_both (D := D + 2) (D' := D' + 2) (J1 := J1) (W := W) (d := d) (x := x) (n := n) (i := 4) (j := Hn) (c0 := 4 * (12 * d + Hn)) (cq := 18)
    (fun w R S' Q => E2 32 (D' + 5) Q 74 [(0, .ref 0), (1, .int (nI (12 * d + Hn))), (2, .long r), (4, .int (nI w))] R S') (fun R S' Q => E2 32 (D' + 5) Q 116 [(0, .ref 0), (1, .int (nI (12 * d + Hn))), (2, .long r)] R S') (Or.inr rfl) (by first | decide | exact Or.inl (by decide) | omega) b0
    (fun w R S' r2 R' S'' Q hw z1 z2 z3 z4 z5 => by
      refine mj_on (s32_74 _ _ _ ?_)
      rw [z1, nI_clamp (by first | decide | exact Or.inl (by decide) | omega), z2, if_pos z3, show (4 : Int32) = nI 4 from rfl, pk_mul, nI_add, nI_clamp (by first | decide | exact Or.inl (by decide) | omega), nI_1]
      exact ⟨vd, if_le (by first | decide | exact Or.inl (by decide) | omega) (by first | decide | exact Or.inl (by decide) | omega) (fun y => absurd y (by first | decide | exact Or.inl (by decide) | omega)) (fun _ => ⟨trivial, _, _, _, z4, vp_in_nI (by first | decide | exact Or.inl (by decide) | omega) (by decide), z5⟩)⟩)
    (fun w R S' Q hw z1 z2 z3 z4 => by
      refine mj_on (s32_74 _ _ _ ?_)
      rw [z1, nI_clamp (by first | decide | exact Or.inl (by decide) | omega), z2]
      refine ⟨vd, if_le (by first | decide | exact Or.inl (by decide) | omega) (by first | decide | exact Or.inl (by decide) | omega) (fun _ => z4) (fun y => ?_)⟩
      rcases z3 with z3 | z3
      · exact absurd y (by first | decide | exact Or.inl (by decide) | omega)
      · rw [if_neg z3]; exact z4) W 0 p2 a2 t2 v2 l2 o2 Ib Rb Sb (by first | decide | exact Or.inl (by decide) | omega) q3 gN gN2 g35
  have c154 : C1 (D + 7) 154 [.ref 11, .int (nI 4), .int (nI Hn)] Ib J1 .null Ic J1 := mj_mk (e154 _ _ (w1 _ rfl))
  have fC : ∀ q j, (q ≠ 11 ∨ j = 9) → (q ≠ 16 ∨ j ≠ 160 + Hn) → (q ≠ 15 ∨ j ≠ 4) → (q ≠ 18 ∨ j < 640 + 4 * Hn ∨ 640 + 4 * Hn + W ≤ j) → Ic q j = Ia q j := fun q j z1 z2 z3 z4 => by
    rw [w3 q j (by first | decide | exact Or.inl (by decide) | omega) (by first | decide | exact Or.inl (by decide) | omega), f3 q j (by first | decide | exact Or.inl (by decide) | omega), up_n (by first | decide | exact Or.inl (by decide) | omega), up_n (by first | decide | exact Or.inl (by decide) | omega)]
  have gIc : Ic 15 4 = nI (Hn + 1) := by rw [w3 15 4 (by first | decide | exact Or.inl (by decide) | omega) (by first | decide | exact Or.inl (by decide) | omega), f3 15 4 (by first | decide | exact Or.inl (by decide) | omega), up_s]
  obtain ⟨Sd, hSd⟩ : ∃ Sd, Sd = mj_up Sc 17 (12 * d + Hn) r := ⟨_, rfl⟩
  have fJ : ∀ q j, (q ≠ 0 ∨ j ≠ 7) → (q ≠ 17 ∨ j ≠ 12 * d + Hn) → Sd q j = Sa q j := fun q j z1 z2 => by
    rw [hSd, up_n (by first | decide | exact Or.inl (by decide) | omega), w5 q j z1]; exact f2 q j z1
  have gc9 : Ic 14 9 = Ia 14 9 := fC 14 9 (by first | decide | exact Or.inl (by decide) | omega) (by first | decide | exact Or.inl (by decide) | omega) (by first | decide | exact Or.inl (by decide) | omega) (by first | decide | exact Or.inl (by decide) | omega)
  have g35c : Rc 0 35 = nI d := by rw [w4 0 35 (by first | decide | exact Or.inl (by decide) | omega) (by first | decide | exact Or.inl (by decide) | omega)]; exact g35
  rcases w6 with ⟨p3, a3, t3', v3, l3, o3, q5, hp3, hv⟩ | ⟨k3, p3, q5⟩
  rotate_left
  · refine ⟨Ic, Rc, Sd, cgo1 (c171 c154), fun r' hr' => rin (r40 (w2 _ (mj_on (s32_116 _ _ ?_)))) hr', Or.inr ⟨⟨_, _, q5⟩, ⟨fun q j z1 z2 => ?_, fun q j z1 z2 z3 => ?_, fun q j z1 z2 => ?_⟩, ⟨S, RS_S h, ?_⟩, ⟨W, b0, ?_⟩, ⟨Un, b5, ?_⟩⟩⟩
    · rw [if_neg (tkD_8 q5).1, nI_clamp (by first | decide | exact Or.inl (by decide) | omega), ← hSd]
      exact ⟨v24, rfl⟩
    · rw [fC q j (Or.inl z1) (by first | decide | exact Or.inl (by decide) | omega) (by first | decide | exact Or.inl (by decide) | omega) (by first | decide | exact Or.inl (by decide) | omega)]; exact fA1 q j z1 z2
    · rw [w4 q j (by unfold tsz at z1; omega) (by unfold oub at z3; omega), f1 q j (by unfold tsz at z1; omega)]; exact fA2 q j z1 z2 z3
    · rw [fJ q j z1 (by unfold oub at z2; omega)]; exact fA3 q j z1 z2
    · rw [gc9]; exact hD1.2.1
    · rw [fC 15 0 (by first | decide | exact Or.inl (by decide) | omega) (by first | decide | exact Or.inl (by decide) | omega) (by first | decide | exact Or.inl (by decide) | omega) (by first | decide | exact Or.inl (by decide) | omega)]; exact n0
    · rw [fC 15 5 (by first | decide | exact Or.inl (by decide) | omega) (by first | decide | exact Or.inl (by decide) | omega) (by first | decide | exact Or.inl (by decide) | omega) (by first | decide | exact Or.inl (by decide) | omega)]; exact n5
  obtain ⟨Rd, hRd⟩ : ∃ Rd, Rd = mj_up Rc 6 d (nI (Hn + 1)) := ⟨_, rfl⟩
  have fR : ∀ q j, (q ≠ 0 ∨ (j ≠ 3 ∧ j ≠ 4 ∧ j ≠ 5 ∧ j ≠ 6 ∧ j ≠ 8 ∧ j ≠ 9)) → (q ≠ 6 ∨ j ≠ d) → (q ≠ 18 ∨ j < 4 * (12 * d + Hn) ∨ 4 * (12 * d + Hn) + W ≤ j) → Rd q j = Ra q j := fun q j z1 z2 z3 => by
    rw [hRd, up_n (by first | decide | exact Or.inl (by decide) | omega), w4 q j z1 (by first | decide | exact Or.inl (by decide) | omega)]; exact f1 q j z1
  have g6c : Rc 6 d = nI Hn := by rw [w4 6 d (by first | decide | exact Or.inl (by decide) | omega) (by first | decide | exact Or.inl (by decide) | omega), f1 6 d (by first | decide | exact Or.inl (by decide) | omega)]; exact m4
  refine ⟨Ic, Rd, Sd, cgo1 (c171 c154), fun r' hr' => rin (r40 (w2 _ (mj_on (s32_116 _ _ ?_)))) hr', Or.inl ⟨W, Rn, Kn, Tn, Hn + 1, Un, S, F, p3, a3, t3', v3, l3, o3, ⟨tkR_cg q5 (fun _ _ _ => rfl) (fun q j z => by rw [hRd, up_n (by first | decide | exact Or.inl (by decide) | omega)]) (by rw [hSd, up_n (by first | decide | exact Or.inl (by decide) | omega)]), ⟨fun q j z1 z2 => ?_, fun q j z1 z2 z3 => ?_, fun q j z1 z2 => ?_⟩, ?_, by omega, by omega, ?_⟩, by omega⟩⟩
  · rw [if_pos (r_8 q5), g35c, nI_clamp (by first | decide | exact Or.inl (by decide) | omega), nI_clamp (by first | decide | exact Or.inl (by decide) | omega), g6c, nI_1, ← hRd, ← hSd]
    exact ⟨v24, vd, vd, rfl⟩
  · rw [fC q j (Or.inl z1) (by first | decide | exact Or.inl (by decide) | omega) (by first | decide | exact Or.inl (by decide) | omega) (by first | decide | exact Or.inl (by decide) | omega)]; exact fA1 q j z1 z2
  · rw [fR q j (by unfold tsz at z1; omega) (by unfold oub at z3; omega) (by unfold oub at z3; omega)]; exact fA2 q j z1 z2 z3
  · rw [fJ q j z1 (by unfold oub at z2; omega)]; exact fA3 q j z1 z2
  · have hO := TDo_up (I1' := Ic) (I2' := Rd) (J2' := Sd) hD1.2.2.2.2.2 b0 (fun q j z => fC q j (by unfold inC at z; omega) (by unfold inC at z; omega) (by unfold inC at z; omega) (by unfold inC at z; omega)) (fun q j z => fR q j (by unfold inR at z; omega) (by unfold inR at z; omega) (by unfold inR at z; omega)) (fun q j z => fJ q j (by unfold inJ at z; omega) (by unfold inJ at z; omega))
    refine TD_new hD1 gc9 (fR 0 35 (by first | decide | exact Or.inl (by decide) | omega) (by first | decide | exact Or.inl (by decide) | omega) (by first | decide | exact Or.inl (by decide) | omega)) (fR 0 34 (by first | decide | exact Or.inl (by decide) | omega) (by first | decide | exact Or.inl (by decide) | omega) (by first | decide | exact Or.inl (by decide) | omega)) (fun j => fC 23 j (by first | decide | exact Or.inl (by decide) | omega) (by first | decide | exact Or.inl (by decide) | omega) (by first | decide | exact Or.inl (by decide) | omega) (by first | decide | exact Or.inl (by decide) | omega)) ⟨?_, ?_, ?_, ?_, ?_, ?_, ?_, ?_, ?_, ?_, ?_, ?_, hd, b0, b1, b2, b3, by omega, b5⟩ ?_
    · exact (fC 15 0 (by first | decide | exact Or.inl (by decide) | omega) (by first | decide | exact Or.inl (by decide) | omega) (by first | decide | exact Or.inl (by decide) | omega) (by first | decide | exact Or.inl (by decide) | omega)).trans n0
    · exact (fC 15 1 (by first | decide | exact Or.inl (by decide) | omega) (by first | decide | exact Or.inl (by decide) | omega) (by first | decide | exact Or.inl (by decide) | omega) (by first | decide | exact Or.inl (by decide) | omega)).trans n1
    · exact (fC 15 2 (by first | decide | exact Or.inl (by decide) | omega) (by first | decide | exact Or.inl (by decide) | omega) (by first | decide | exact Or.inl (by decide) | omega) (by first | decide | exact Or.inl (by decide) | omega)).trans n2
    · exact (fC 15 3 (by first | decide | exact Or.inl (by decide) | omega) (by first | decide | exact Or.inl (by decide) | omega) (by first | decide | exact Or.inl (by decide) | omega) (by first | decide | exact Or.inl (by decide) | omega)).trans n3
    · exact gIc
    · exact (fC 15 5 (by first | decide | exact Or.inl (by decide) | omega) (by first | decide | exact Or.inl (by decide) | omega) (by first | decide | exact Or.inl (by decide) | omega) (by first | decide | exact Or.inl (by decide) | omega)).trans n5
    · exact (fR 2 d (by first | decide | exact Or.inl (by decide) | omega) (by first | decide | exact Or.inl (by decide) | omega) (by first | decide | exact Or.inl (by decide) | omega)).trans m0
    · exact (fR 3 d (by first | decide | exact Or.inl (by decide) | omega) (by first | decide | exact Or.inl (by decide) | omega) (by first | decide | exact Or.inl (by decide) | omega)).trans m1
    · exact (fR 4 d (by first | decide | exact Or.inl (by decide) | omega) (by first | decide | exact Or.inl (by decide) | omega) (by first | decide | exact Or.inl (by decide) | omega)).trans m2
    · exact (fR 5 d (by first | decide | exact Or.inl (by decide) | omega) (by first | decide | exact Or.inl (by decide) | omega) (by first | decide | exact Or.inl (by decide) | omega)).trans m3
    · rw [hRd, up_s]
    · exact (fR 7 d (by first | decide | exact Or.inl (by decide) | omega) (by first | decide | exact Or.inl (by decide) | omega) (by first | decide | exact Or.inl (by decide) | omega)).trans m5
    · obtain ⟨g1, g2, g3, g4, ⟨g5, g6, g7, g8⟩, g9⟩ := hO
      refine ⟨g1, g2, g3, fun k hk' w hw => ?_, ⟨g5, g6, g7, fun k hk' => ?_⟩, tlV_up g9 (Nat.le_refl _) (by first | decide | exact Or.inl (by decide) | omega) (Nat.le_refl _) (Nat.le_refl _) (fun _ _ _ => rfl) (fun _ _ _ => rfl)⟩
      · by_cases e : k = Hn
        · rw [e]
          have q := hv w (Nat.zero_le _) hw
          rw [hRd, up_n (by first | decide | exact Or.inl (by decide) | omega)]
          exact q
        · exact g4 k (by first | decide | exact Or.inl (by decide) | omega) w hw
      · by_cases e : k = Hn
        · rw [e]
          show nmq (Ic 16 (160 + Hn)) _
          rw [w3 16 _ (by first | decide | exact Or.inl (by decide) | omega) (by first | decide | exact Or.inl (by decide) | omega), f3 16 _ (by first | decide | exact Or.inl (by decide) | omega), up_n (by first | decide | exact Or.inl (by decide) | omega), hSd, up_s, up_s, hr]
          exact nmq_l hl
        · exact g8 k (by first | decide | exact Or.inl (by decide) | omega)
  · exact ⟨(fC 14 0 (by first | decide | exact Or.inl (by decide) | omega) (by first | decide | exact Or.inl (by decide) | omega) (by first | decide | exact Or.inl (by decide) | omega) (by first | decide | exact Or.inl (by decide) | omega)).trans hm1.1, (fC 11 9 (by first | decide | exact Or.inl (by decide) | omega) (by first | decide | exact Or.inl (by decide) | omega) (by first | decide | exact Or.inl (by decide) | omega) (by first | decide | exact Or.inl (by decide) | omega)).trans hm1.2⟩
/-- a write beyond what has been read -/
theorem RS_wr {q0 j0 : Nat} {y : Int32} (h : RS n x d B1 B2 BJ W Rn Kn Tn Hn Un S F mc p a t v l o I1 I2 J2) (hq : 16 ≤ q0 ∧ q0 ≤ 23) (hi : ¬ inC W Rn Kn Tn Hn Un S q0 j0) (h23 : q0 ≠ 23) : RS n x d B1 B2 BJ W Rn Kn Tn Hn Un S F mc p a t v l o (mj_up I1 q0 j0 y) I2 J2 := by
  obtain ⟨hk, ⟨fA1, fA2⟩, hD, hS, hF, hm⟩ := h
  have hW := (TD_N hD).2.2.2.1
  have fC : ∀ q j, (q ≠ q0 ∨ j ≠ j0) → mj_up I1 q0 j0 y q j = I1 q j := fun q j z => up_n z
  refine ⟨tkR_cg hk (fun q j z => fC q j (by first | decide | exact Or.inl (by decide) | omega)) (fun _ _ _ => rfl) rfl, ⟨fun q j z1 z2 => ?_, fA2⟩, TD_new hD (fC 14 9 (by first | decide | exact Or.inl (by decide) | omega)) rfl rfl (fun j => fC 23 j (by first | decide | exact Or.inl (by decide) | omega)) ?_ (TDo_up hD.2.2.2.2.2 hW (fun q j z => fC q j ?_) (fun _ _ _ => rfl) (fun _ _ _ => rfl)), hS, hF, by rw [fC 14 0 (by first | decide | exact Or.inl (by decide) | omega)]; exact hm.1, by rw [fC 11 9 (by first | decide | exact Or.inl (by decide) | omega)]; exact hm.2⟩
  · rw [fC q j (by first | decide | exact Or.inl (by decide) | omega)]; exact fA1 q j z1 z2
  · have hN := hD.2.2.2.2.1
    unfold tlN at hN ⊢
    rw [fC (14 + 1) 0 (by first | decide | exact Or.inl (by decide) | omega), fC (14 + 1) 1 (by first | decide | exact Or.inl (by decide) | omega), fC (14 + 1) 2 (by first | decide | exact Or.inl (by decide) | omega), fC (14 + 1) 3 (by first | decide | exact Or.inl (by decide) | omega), fC (14 + 1) 4 (by first | decide | exact Or.inl (by decide) | omega), fC (14 + 1) 5 (by first | decide | exact Or.inl (by decide) | omega)]
    exact hN
  · refine Classical.byContradiction fun w => hi ?_
    have e1 : q = q0 := by omega
    have e2 : j = j0 := by omega
    rw [← e1, ← e2]
    exact z
theorem RS_wr2 {q0 j0 : Nat} {y : Int32} (h : RS n x d B1 B2 BJ W Rn Kn Tn Hn Un S F mc p a t v l o I1 I2 J2) (hq : 9 ≤ q0 ∧ q0 ≤ 20) (hi : ¬ inR d W Rn Tn Hn Un F q0 j0) (hb : ¬ oub d q0 j0) : RS n x d B1 B2 BJ W Rn Kn Tn Hn Un S F mc p a t v l o I1 (mj_up I2 q0 j0 y) J2 := by
  obtain ⟨hk, ⟨fA1, fA2, fA3⟩, hD, hS, hF, hm⟩ := h
  have hW := (TD_N hD).2.2.2.1
  have fR : ∀ q j, (q ≠ q0 ∨ j ≠ j0) → mj_up I2 q0 j0 y q j = I2 q j := fun q j z => up_n z
  refine ⟨tkR_cg hk (fun _ _ _ => rfl) (fun q j z => fR q j (by first | decide | exact Or.inl (by decide) | omega)) rfl, ⟨fA1, fun q j z1 z2 z3 => ?_, fA3⟩, TD_new hD rfl (fR 0 35 (by first | decide | exact Or.inl (by decide) | omega)) (fR 0 34 (by first | decide | exact Or.inl (by decide) | omega)) (fun _ => rfl) ?_ (TDo_up hD.2.2.2.2.2 hW (fun _ _ _ => rfl) (fun q j z => fR q j ?_) (fun _ _ _ => rfl)), hS, hF, hm⟩
  · have e : q ≠ q0 ∨ j ≠ j0 := by
      refine Classical.byContradiction fun w => hb ?_
      have e1 : q = q0 := by omega
      have e2 : j = j0 := by omega
      rw [← e1, ← e2]
      exact z3
    rw [fR q j e]; exact fA2 q j z1 z2 z3
  · have hN := hD.2.2.2.2.1
    unfold tlN at hN ⊢
    rw [fR 2 d (by first | decide | exact Or.inl (by decide) | omega), fR 3 d (by first | decide | exact Or.inl (by decide) | omega), fR 4 d (by first | decide | exact Or.inl (by decide) | omega), fR 5 d (by first | decide | exact Or.inl (by decide) | omega), fR 6 d (by first | decide | exact Or.inl (by decide) | omega), fR 7 d (by first | decide | exact Or.inl (by decide) | omega)]
    exact hN
  · refine Classical.byContradiction fun w => hi ?_
    have e1 : q = q0 := by omega
    have e2 : j = j0 := by omega
    rw [← e1, ← e2]
    exact z
end Sa9i
end
