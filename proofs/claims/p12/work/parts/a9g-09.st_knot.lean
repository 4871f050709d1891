section Sa9g_9
variable {n d W Rn Kn Tn Hn Un S F mc : Nat} {x : Nat → Nat} {B1 B2 : Nat → Nat → Int32} {BJ : Nat → Nat → Int64}
variable {D D' E p a t v : Nat} {l : List Nat} {o : Int} {I1 I2 : Nat → Nat → Int32} {J1 J2 : Nat → Nat → Int64}
/-- a knot -/
theorem st_knot (h : RS n x d B1 B2 BJ W Rn Kn Tn Hn Un S F mc p a t v l o I1 I2 J2) (ho : o = (2 : Nat)) : STO n x d B1 B2 BJ D D' mc p J1 I1 I2 J2 := by
  have hk := h.1
  have hD := h.2.2.1
  obtain ⟨⟨n0, n1, n2, n3, n4, n5⟩, ⟨m0, m1, m2, m3, m4, m5⟩, hd, b0, b1, b2, b3, b4, b5⟩ := TD_N hD
  have t3 := (tk_w hk (w := 2) (by decide) ho).1
  have h7 := own_n hk (by decide) ho
  obtain ⟨Ia, Ra, Sa, k1, k2⟩ := cnt_both (D := D + 5) (D' := D' + 3) (J1 := J1) (y1 := tf (Kn = 10)) (y2 := tf False) h t3 rfl rfl
  have c145' := c145 (D := D + 7) (J1 := J1) hD (k := 2) (by decide)
  have ne : ¬ erl 2 W Rn Tn Hn := by
    rintro (⟨q, -⟩ | ⟨q, -⟩) <;> omega
  rw [tf_f ne] at c145'
  have dead : ∀ {R : (Nat → Nat → Int32)} {S' : (Nat → Nat → Int64)} {Q : mj_R → Prop}, ¬ R 0 8 = 0 → ¬ R 0 8 ≤ 0 → E2 17 (D' + 6) Q 296 [(0, .ref 0)] R S' → E2 17 (D' + 6) Q 68 [(0, .ref 0)] R S' := fun {R S' Q} q1 q2 hQ => by
    refine mj_on (s17_68 ?_)
    refine ⟨trivial, _, _, _, r21_D (D := D' + 5) q2, ?_⟩
    rw [if_neg q1]
    refine mj_on (s17_103 ?_)
    rw [if_neg q1]
    exact hQ
  rcases k2 with ⟨f, c, q⟩ | ⟨f, e, -⟩ | ⟨f, -, c, -, q⟩
  · exact ⟨Ia, Ra, Sa, c143_full (k := 2) h7 (by decide) n2 mst_2 (by decide) f c, fun r hr => r17_2 hD hk ho k1 (dead (DS_8 q).1 (DS_8 q).2 hr), Or.inr q⟩
  · exact e.elim
  have hlt : Kn < 10 := by omega
  rcases q with ⟨p1, a1, t1, v1, l1, o1, q, hp⟩ | q
  rotate_left
  · obtain ⟨Ib, c2, q2, -⟩ := e_name (D := D + 6) (J1 := J1) (c := 2) q
    exact ⟨Ib, Ra, Sa, c143_go (k := 2) h7 (by decide) n2 mst_2 (by decide) hlt c145' c (Or.inr (Or.inr (Or.inl ⟨rfl, c2⟩))), fun r hr => r17_2 hD hk ho k1 (dead (DS_8 q).1 (DS_8 q).2 hr), Or.inr q2⟩
  obtain ⟨r, Ib, Rb, Sb, c2, c3, f1, f2, q2⟩ := name_both (D := D + 4) (D' := D' + 3) (J1 := J1) (i := 2) (N := Kn) q (Or.inr (Or.inr (Or.inl ⟨rfl, rfl, hlt⟩)))
  have cc := c143_go (k := 2) h7 (by decide) n2 mst_2 (by decide) hlt c145' c (Or.inr (Or.inr (Or.inl ⟨rfl, c2⟩)))
  rcases q2 with ⟨hl, hr, f3, p2, a2, t2, v2, l2, o2, q3, hp2⟩ | q2
  rotate_left
  · refine ⟨Ib, Rb, Sb, cc, fun r' hr' => r17_2 hD hk ho k1 (mj_on (s17_68 ?_)), Or.inr q2⟩
    refine ⟨trivial, _, _, _, c3, ?_⟩
    rw [if_neg (DS_8 q2).1]
    refine mj_on (s17_103 ?_)
    rw [if_neg (DS_8 q2).1]
    exact hr'
  rw [show 40 * 2 + Kn = 80 + Kn from rfl] at f3
  obtain ⟨-, ⟨fA1, fA2, fA3⟩, hD1, hS1, hF1, hm1⟩ := q
  obtain ⟨⟨n0, n1, n2, n3, n4, n5⟩, ⟨m0, m1, m2, m3, m4, m5⟩, -⟩ := TD_N hD1
  have h35 := hD1.1
  have hb8 := r_8 q3
  have g35 : Rb 0 35 = nI d := by rw [f1 0 35 (by omega)]; exact h35
  have g4 : Rb 4 d = nI Kn := by rw [f1 4 d (by omega)]; exact m2
  have vd : vp_in (nI d) 2 := vp_in_nI hd (by decide)
  have fC : ∀ q j, (q ≠ 11 ∨ j = 9) → (q ≠ 16 ∨ j ≠ 80 + Kn) → (q ≠ 15 ∨ j ≠ 2) → Ib q j = Ia q j := fun q j z1 z2 z3 => by
    rw [f3 q j (by omega), up_n (by omega), up_n (by omega)]
  obtain ⟨Rc, hRc⟩ : ∃ Rc, Rc = mj_up Rb 4 d (nI (Kn + 1)) := ⟨_, rfl⟩
  obtain ⟨Sc, hSc⟩ : ∃ Sc, Sc = mj_up Sb 13 (10 * d + Kn) r := ⟨_, rfl⟩
  have fR : ∀ q j, (q ≠ 0 ∨ (j ≠ 3 ∧ j ≠ 4 ∧ j ≠ 5 ∧ j ≠ 6 ∧ j ≠ 8 ∧ j ≠ 9)) → (q ≠ 4 ∨ j ≠ d) → Rc q j = Ra q j := fun q j z1 z2 => by
    rw [hRc, up_n (by omega)]; exact f1 q j z1
  have fJ : ∀ q j, (q ≠ 0 ∨ j ≠ 7) → (q ≠ 13 ∨ j ≠ 10 * d + Kn) → Sc q j = Sa q j := fun q j z1 z2 => by
    rw [hSc, up_n (by omega)]; exact f2 q j z1
  refine ⟨Ib, Rc, Sc, cc, fun r' hr' => r17_2 hD hk ho k1 (mj_on (s17_68 ?_)), Or.inl ⟨W, Rn, Kn + 1, Tn, Hn, Un, S, F, p2, a2, t2, v2, l2, o2, ⟨tkR_cg q3 (fun _ _ _ => rfl) (fun q j z => by rw [hRc, up_n (by omega)]) (by rw [hSc, up_n (by omega)]), ⟨fun q j z1 z2 => ?_, fun q j z1 z2 z3 => ?_, fun q j z1 z2 => ?_⟩, ?_, by omega, by omega, ?_⟩, by omega⟩⟩
  · refine ⟨trivial, _, _, _, c3, ?_⟩
    rw [if_pos hb8, g35, nI_clamp (by omega), g4, show (10 : Int32) = nI 10 from rfl, pk_mul, nI_add, nI_clamp (by omega), ← hSc]
    refine ⟨vd, vp_in_nI (by omega) (by decide), ?_⟩
    refine mj_on (s17_103 ?_)
    rw [if_pos hb8, g35, nI_clamp (by omega), g4, nI_1, ← hRc]
    exact ⟨vd, vd, hr'⟩
  · rw [fC q j (Or.inl z1) (by omega) (by omega)]; exact fA1 q j z1 z2
  · rw [fR q j (by unfold tsz at z1; omega) (by unfold oub at z3; omega)]; exact fA2 q j z1 z2 z3
  · rw [fJ q j z1 (by unfold oub at z2; omega)]; exact fA3 q j z1 z2
  · have hO := TDo_up (I1' := Ib) (I2' := Rc) (J2' := Sc) hD1.2.2.2.2.2 b0 (fun q j z => fC q j (by unfold inC at z; omega) (by unfold inC at z; omega) (by unfold inC at z; omega)) (fun q j z => fR q j (by unfold inR at z; omega) (by unfold inR at z; omega)) (fun q j z => fJ q j (by unfold inJ at z; omega) (by unfold inJ at z; omega))
    refine TD_new hD1 (fC 14 9 (by omega) (by omega) (by omega)) (fR 0 35 (by omega) (by omega)) (fR 0 34 (by omega) (by omega)) (fun j => fC 23 j (by omega) (by omega) (by omega)) ⟨?_, ?_, ?_, ?_, ?_, ?_, ?_, ?_, ?_, ?_, ?_, ?_, hd, b0, b1, by omega, b3, b4, b5⟩ ?_
    · exact (fC 15 0 (by omega) (by omega) (by omega)).trans n0
    · exact (fC 15 1 (by omega) (by omega) (by omega)).trans n1
    · show Ib 15 2 = _
      rw [f3 15 2 (by omega), up_s]
    · exact (fC 15 3 (by omega) (by omega) (by omega)).trans n3
    · exact (fC 15 4 (by omega) (by omega) (by omega)).trans n4
    · exact (fC 15 5 (by omega) (by omega) (by omega)).trans n5
    · exact (fR 2 d (by omega) (by omega)).trans m0
    · exact (fR 3 d (by omega) (by omega)).trans m1
    · rw [hRc, up_s]
    · exact (fR 5 d (by omega) (by omega)).trans m3
    · exact (fR 6 d (by omega) (by omega)).trans m4
    · exact (fR 7 d (by omega) (by omega)).trans m5
    · obtain ⟨g1, g2, g3, g4, ⟨g5, g6, g7, g8⟩, g9⟩ := hO
      refine ⟨g1, g2, fun t ht => ?_, g4, ⟨g5, g6, fun k hk' => ?_, g8⟩, g9⟩
      · obtain ⟨w1, w2, ⟨x', y', w3, w4, w5⟩, w6⟩ := g3 t ht
        exact ⟨w1, w2, ⟨x', y', by omega, by omega, w5⟩, w6⟩
      · by_cases e : k = Kn
        · rw [e]
          show nmq (Ib 16 (80 + Kn)) _
          rw [f3 16 _ (by omega), up_n (by omega), hSc, up_s, up_s, hr]
          exact nmq_l hl
        · exact g7 k (by omega)
  · exact ⟨(fC 14 0 (by omega) (by omega) (by omega)).trans hm1.1, (fC 11 9 (by omega) (by omega) (by omega)).trans hm1.2⟩
end Sa9g_9

