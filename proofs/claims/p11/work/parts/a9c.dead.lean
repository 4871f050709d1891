/-! the class behind a fault: names, amounts, rows, ties, things, rules -/
section Sa9c
variable {n d W Rn Kn Tn Hn Un S F mc : Nat} {x : Nat → Nat} {B1 B2 : Nat → Nat → Int32} {BJ : Nat → Nat → Int64}
variable {D D' E p a t v : Nat} {l : List Nat} {o : Int} {I1 I2 : Nat → Nat → Int32} {J1 J2 : Nat → Nat → Int64}
theorem z_c : ((0 : Int32)).toNatClampNeg = 0 := rfl
theorem DS_own (h : DS d B1 B2 BJ I1 I2 J2) : I1 11 5 = nI 4 ∧ I1 11 7 = -1 := by
  obtain ⟨⟨k, p, -, -, -, h4, h5, -⟩, -⟩ := h
  exact ⟨h4, h5⟩
theorem DS_up {q0 j0 : Nat} {y : Int32} (h : DS d B1 B2 BJ I1 I2 J2) (hq : 14 ≤ q0 ∧ q0 ≤ 23) (h1 : q0 ≠ 14 ∨ j0 ≠ 9) (h2 : q0 ≠ 15 ∨ (j0 ≠ 0 ∧ j0 ≠ 5)) : DS d B1 B2 BJ (mj_up I1 q0 j0 y) I2 J2 := by
  obtain ⟨⟨k, p, b1, b2, b3, b4, b5, b6, b7⟩, ⟨a1, a2⟩, ⟨c, c1, c2⟩, ⟨w, w1, w2⟩, ⟨u, u1, u2⟩⟩ := h
  refine ⟨⟨k, p, b1, b2, b3, ?_, ?_, ?_, b7⟩, ⟨fun q j z1 z2 => ?_, a2⟩, ⟨c, c1, ?_⟩, ⟨w, w1, ?_⟩, ⟨u, u1, ?_⟩⟩
  · rw [up_n (by omega)]; exact b4
  · rw [up_n (by omega)]; exact b5
  · rw [up_n (by omega), up_n (by omega), up_n (by omega)]; exact b6
  · rw [up_n (by omega)]; exact a1 q j z1 z2
  · rw [up_n (by omega)]; exact c2
  · rw [up_n (by omega)]; exact w2
  · rw [up_n (by omega)]; exact u2
theorem e_bl (h : DS d B1 B2 BJ I1 I2 J2) : ∃ I1', C1 (D + 1) 144 [.ref 11, .int 1] I1 J1 .null I1' J1 ∧ DS d B1 B2 BJ I1' I2 J2 ∧ lxF I1 I1' := by
  obtain ⟨k, p, hk⟩ := h.1
  obtain ⟨I1', J1', c, hJ, a1, a2, -⟩ := dd_blame (D := D) (J1 := J1) hk
  rw [hJ] at c
  exact ⟨I1', c, DS_lx h (lxh_F a1) ⟨k, p, a2⟩, lxh_F a1⟩
theorem e_take {c : Int32} (h : DS d B1 B2 BJ I1 I2 J2) : ∃ I1', C1 (D + 2) 162 [.ref 11, .int c] I1 J1 .null I1' J1 ∧ DS d B1 B2 BJ I1' I2 J2 ∧ lxF I1 I1' ∧ ∃ k p, tkD k p I1' I2 ∧ tkT k p I1' := by
  obtain ⟨k, p, hk⟩ := h.1
  obtain ⟨I1', J1', cc, hJ, a1, a2, a3⟩ := dd_take (D := D) (J1 := J1) (c := c) hk
  rw [hJ] at cc
  exact ⟨I1', cc, DS_lx h (lxh_F a1) ⟨k, p, a2⟩, lxh_F a1, k, p, a2, a3⟩
theorem e_name {c : Int32} (h : DS d B1 B2 BJ I1 I2 J2) : ∃ I1', C1 (D + 2) 147 [.ref 11, .int c] I1 J1 .null I1' J1 ∧ DS d B1 B2 BJ I1' I2 J2 ∧ lxF I1 I1' := by
  obtain ⟨k, p, hk⟩ := h.1
  obtain ⟨I1', J1', cc, hJ, a1, a2, -⟩ := dd_name (D := D) (J1 := J1) (c := c) hk
  rw [hJ] at cc
  exact ⟨I1', cc, DS_lx h (lxh_F a1) ⟨k, p, a2⟩, lxh_F a1⟩
theorem e_ask {c e : Int32} (h : DS d B1 B2 BJ I1 I2 J2) : ∃ I1', C1 (D + 2) 153 [.ref 11, .int c, .int e] I1 J1 (.int (-1)) I1' J1 ∧ DS d B1 B2 BJ I1' I2 J2 ∧ lxF I1 I1' := by
  obtain ⟨k, p, hk⟩ := h.1
  obtain ⟨I1', J1', cc, hJ, a1, a2, -⟩ := dd_ask (D := D) (J1 := J1) (c := c) (e := e) hk
  rw [hJ] at cc
  exact ⟨I1', cc, DS_lx h (lxh_F a1) ⟨k, p, a2⟩, lxh_F a1⟩
theorem e_num (h : DS d B1 B2 BJ I1 I2 J2) : ∃ I1', C1 (D + 2) 156 [.ref 11] I1 J1 (.int 0) I1' J1 ∧ DS d B1 B2 BJ I1' I2 J2 ∧ lxF I1 I1' := by
  obtain ⟨k, p, hk⟩ := h.1
  obtain ⟨I1', J1', cc, hJ, a1, a2, -⟩ := dd_num (D := D) (J1 := J1) hk
  rw [hJ] at cc
  exact ⟨I1', cc, DS_lx h (lxh_F a1) ⟨k, p, a2⟩, lxh_F a1⟩
theorem e_sg {c : Int32} (h : DS d B1 B2 BJ I1 I2 J2) : C1 (D + 1) 160 [.ref 11, .int c] I1 J1 (.int 0) I1 J1 := by
  have q := sg_d (D := D) (J1 := J1) (c := c) (DS_own h).1
  rw [tf_f id] at q
  exact q
/-- amounts behind a fault, from wish w on -/
theorem e_amt0 {i j w N : Nat} {Q : mj_R → Prop} (hb : 160 * i + 4 * j + 4 ≤ 960) (h : DS d B1 B2 BJ I1 I2 J2) (hN : I1 15 0 = nI N) (hN4 : N ≤ 4) (hw : w ≤ N) (hQ : ∀ I1', DS d B1 B2 BJ I1' I2 J2 → (∀ q z, q ≠ 11 → q ≠ 18 → I1' q z = I1 q z) → Q (.null, (I1', J1, mj_R1))) : E1 154 (D + 2) Q 2 [(0, .ref 11), (1, .int (nI i)), (2, .int (nI j)), (3, .int (nI w))] I1 J1 := by
  have lp := lp_up (n := N) (fun w => ∀ I0, DS d B1 B2 BJ I0 I2 J2 → (∀ q z, q ≠ 11 → q ≠ 18 → I0 q z = I1 q z) → E1 154 (D + 2) Q 2 [(0, .ref 11), (1, .int (nI i)), (2, .int (nI j)), (3, .int (nI w))] I0 J1) (fun w hw ih I0 h0 f0 => ?_) w hw I1 h (fun _ _ _ _ => rfl)
  · exact lp
  refine mj_on (s154_2 _ _ _ ?_)
  rw [z_c, f0 15 0 (by decide) (by decide), hN, nI_1]
  refine ⟨vp_in_nI (n := 0) (by decide) (by decide), if_le (by omega) (by omega) (fun c => ?_) (fun c => ?_)⟩
  · exact hQ I0 h0 f0
  · obtain ⟨Ia, ca, da, fa⟩ := e_num (D := D) (J1 := J1) h0
    refine ⟨trivial, _, _, _, c_slot, trivial, _, _, _, ca, vp_in_nI (by omega) (by decide), ?_⟩
    exact ih c _ (DS_up da (by decide) (Or.inl (by decide)) (Or.inl (by decide))) (fun q z z1 z2 => by rw [up_n (Or.inl z2), fa q z (Or.inl z1)]; exact f0 q z z1 z2)
theorem e_amt {i j : Nat} (hb : 160 * i + 4 * j + 4 ≤ 960) (h : DS d B1 B2 BJ I1 I2 J2) : ∃ I1', C1 (D + 3) 154 [.ref 11, .int (nI i), .int (nI j)] I1 J1 .null I1' J1 ∧ DS d B1 B2 BJ I1' I2 J2 ∧ ∀ q z, q ≠ 11 → q ≠ 18 → I1' q z = I1 q z := by
  obtain ⟨N, hN4, hN⟩ := h.2.2.2.1
  obtain ⟨I', J', hc, hJ, h1, h2⟩ := mj_cN (S := mj_S1) (CD := mj_CD) (D := D + 2) (z := 154) (as := [.ref 11, .int (nI i), .int (nI j)]) (h := (I1, J1, mj_R1)) (R := mj_R1) (P := fun I' J' => J' = J1 ∧ DS d B1 B2 BJ I' I2 J2 ∧ ∀ q z, q ≠ 11 → q ≠ 18 → I' q z = I1 q z) (e154 _ _ (e_amt0 (w := 0) hb h hN hN4 (Nat.zero_le _) (fun I3 q1 q2 => ⟨_, _, rfl, rfl, q1, q2⟩)))
  rw [hJ] at hc
  exact ⟨I', hc, h1, h2⟩
theorem e_wish (h : DS d B1 B2 BJ I1 I2 J2) : ∃ I1', C1 (D + 3) 146 [.ref 11] I1 J1 .null I1' J1 ∧ DS d B1 B2 BJ I1' I2 J2 := by
  obtain ⟨Ia, ca, da, -⟩ := e_name (D := D) (J1 := J1) (c := 0) h
  obtain ⟨Ib, cb, db, -⟩ := e_bl (D := D + 1) (J1 := J1) da
  refine ⟨Ib, mj_mk (e146 ?_), db⟩
  refine ⟨vp_in_nI (n := 0) (by decide) (by decide), trivial, _, _, ca, ?_⟩
  rw [(DS_own da).2, if_neg (by decide), if_neg (by decide)]
  exact ⟨trivial, _, _, cb, rfl⟩
theorem e_tie {N : Nat} (h : DS d B1 B2 BJ I1 I2 J2) (hN : I1 15 3 = nI N) (hN2 : N < 24) : ∃ I1', C1 (D + 4) 152 [.ref 11] I1 J1 .null I1' J1 ∧ DS d B1 B2 BJ I1' I2 J2 := by
  obtain ⟨Ia, ca, da, fa⟩ := e_ask (D := D + 1) (J1 := J1) (c := nI 2) (e := -1) h
  have d2 := DS_up (q0 := 20) (j0 := N) (y := -1) da (by decide) (Or.inl (by decide)) (Or.inl (by decide))
  obtain ⟨Ib, cb, db, fb⟩ := e_ask (D := D + 1) (J1 := J1) (c := nI 2) (e := -1) d2
  have d3 := DS_up (q0 := 21) (j0 := N) (y := -1) db (by decide) (Or.inl (by decide)) (Or.inl (by decide))
  obtain ⟨Ic, cc, dc, fc⟩ := e_amt (D := D) (J1 := J1) (i := 3) (j := N) (by omega) d3
  refine ⟨mj_up Ic 15 3 (Ic 15 3 + 1), mj_mk (e152 ?_), DS_up dc (by decide) (Or.inl (by decide)) (Or.inr (by decide))⟩
  have v3 : vp_in (3 : Int32) 6 := vp_in_nI (n := 3) (by decide) (by decide)
  have vN : vp_in (nI N) 24 := vp_in_nI hN2 (by decide)
  rw [show ((3 : Int32)).toNatClampNeg = 3 from rfl, hN, nI_clamp (by omega)]
  refine ⟨v3, trivial, _, _, _, ca, vN, vN, trivial, _, _, _, ?_, vN, trivial, _, _, cc, v3, v3, rfl⟩
  rw [up_s]
  exact cb
theorem e_thing {N : Nat} (h : DS d B1 B2 BJ I1 I2 J2) (hN : I1 15 4 = nI N) (hN2 : N < 12) : ∃ I1', C1 (D + 4) 171 [.ref 11] I1 J1 .null I1' J1 ∧ DS d B1 B2 BJ I1' I2 J2 := by
  obtain ⟨Ia, ca, da, fa⟩ := e_name (D := D + 1) (J1 := J1) (c := nI 4) h
  obtain ⟨Ib, cb, db, fb⟩ := e_amt (D := D) (J1 := J1) (i := 4) (j := N) (by omega) da
  refine ⟨Ib, mj_mk (e171 ?_), db⟩
  have v4 : vp_in (4 : Int32) 6 := vp_in_nI (n := 4) (by decide) (by decide)
  rw [show ((4 : Int32)).toNatClampNeg = 4 from rfl, hN]
  exact ⟨v4, trivial, _, _, ca, trivial, _, _, cb, rfl⟩
theorem c75 {j w : Nat} {Q : mj_R → Prop} {y z : Int32} (hj : j < 40) (hw : w < 4) (h : E1 170 (D + 1) Q 17 [(0, .ref 11), (1, .int (nI j)), (2, .int (nI (w + 1)))] (mj_up (mj_up I1 18 (160 + 4 * j + w) y) 19 (4 * j + w) z) J1) : E1 170 (D + 1) Q 75 [(0, .ref 11), (1, .int (nI j)), (2, .int (nI w)), (3, .int y), (4, .int z)] I1 J1 := by
  refine mj_on (s170_75 _ _ _ _ ?_)
  refine ⟨trivial, _, _, _, c_slot (k := 1), vp_in_nI (by omega) (by decide), ?_⟩
  rw [ix4, nI_clamp (by omega), nI_clamp (by omega), nI_1, Nat.mul_one]
  exact ⟨vp_in_nI (by omega) (by decide), h⟩
/-- a row behind a fault, from wish w on -/
theorem e_row0 {j w N : Nat} {Q : mj_R → Prop} (hj : j < 40) (h : DS d B1 B2 BJ I1 I2 J2) (hN : I1 15 0 = nI N) (hN4 : N ≤ 4) (hw : w ≤ N) (hQ : ∀ I1', DS d B1 B2 BJ I1' I2 J2 → Q (.null, (I1', J1, mj_R1))) : E1 170 (D + 2) Q 17 [(0, .ref 11), (1, .int (nI j)), (2, .int (nI w))] I1 J1 := by
  have lp := lp_up (n := N) (fun w => ∀ I0, DS d B1 B2 BJ I0 I2 J2 → I0 15 0 = nI N → E1 170 (D + 2) Q 17 [(0, .ref 11), (1, .int (nI j)), (2, .int (nI w))] I0 J1) (fun w hw ih I0 h0 f0 => ?_) w hw I1 h hN
  · exact lp
  refine mj_on (s170_17 _ _ ?_)
  rw [z_c, f0]
  refine ⟨vp_in_nI (n := 0) (by decide) (by decide), if_le (by omega) (by omega) (fun c => ?_) (fun c => ?_)⟩
  · exact hQ I0 h0
  · obtain ⟨Ia, ca, da, fa⟩ := e_num (D := D) (J1 := J1) h0
    refine ⟨trivial, _, _, _, e_sg h0, ?_⟩
    rw [if_pos rfl]
    refine ⟨trivial, _, _, _, ca, trivial, _, _, _, e_sg da, ?_⟩
    rw [if_pos rfl]
    refine c75 hj (by omega) (ih c _ (DS_up (DS_up da (by decide) (Or.inl (by decide)) (Or.inl (by decide))) (by decide) (Or.inl (by decide)) (Or.inl (by decide))) ?_)
    rw [up_n (Or.inl (by decide)), up_n (Or.inl (by decide)), fa 15 0 (Or.inl (by decide))]
    exact f0
theorem e_row {N : Nat} (h : DS d B1 B2 BJ I1 I2 J2) (hN : I1 15 1 = nI N) (hN2 : N < 40) : ∃ I1', C1 (D + 3) 170 [.ref 11] I1 J1 .null I1' J1 ∧ DS d B1 B2 BJ I1' I2 J2 := by
  obtain ⟨Ia, ca, da, fa⟩ := e_name (D := D) (J1 := J1) (c := 1) h
  obtain ⟨w, hw4, hw⟩ := da.2.2.2.1
  obtain ⟨I', J', hc, hJ, h1⟩ := mj_cN (S := mj_S1) (CD := mj_CD) (D := D + 2) (z := 170) (as := [.ref 11]) (h := (I1, J1, mj_R1)) (R := mj_R1) (P := fun I' J' => J' = J1 ∧ DS d B1 B2 BJ I' I2 J2) (e170 (by
    rw [show ((1 : Int32)).toNatClampNeg = 1 from rfl, hN]
    exact ⟨vp_in_nI (n := 1) (by decide) (by decide), trivial, _, _, ca, e_row0 (w := 0) hN2 da hw hw4 (Nat.zero_le _) (fun I3 q => ⟨_, _, rfl, rfl, q⟩)⟩))
  rw [hJ] at hc
  exact ⟨I', hc, h1⟩
theorem e_test (h : DS d B1 B2 BJ I1 I2 J2) : ∃ I1', C1 (D + 8) 157 [.ref 11] I1 J1 .null I1' J1 ∧ DS d B1 B2 BJ I1' I2 J2 := by
  obtain ⟨hk, ⟨a1, a2⟩, ⟨c, c1, c2⟩, ⟨w, w1, w2⟩, ⟨u, u1, u2⟩⟩ := h
  have h0 : DD d c 0 I1 I2 J2 I1 I2 J2 := ⟨hk, fun _ _ _ _ _ => rfl, fun _ _ _ _ _ => rfl, fun _ _ _ => rfl, c, Nat.le_refl _, c1, c2⟩
  obtain ⟨Ia, ca, ⟨b1, b2, -, -, c', c3, c4, c5⟩⟩ := d_test (D := D) (J1 := J1) h0
  refine ⟨Ia, ca, b1, ⟨fun q j z1 z2 => ?_, a2⟩, ⟨c', c4, c5⟩, ⟨w, w1, ?_⟩, ⟨u, u1, ?_⟩⟩
  · rw [b2 q j (Or.inl z1) (Or.inl (by omega)) (Or.inl (by omega))]; exact a1 q j z1 z2
  · rw [b2 15 0 (Or.inl (by decide)) (Or.inl (by decide)) (Or.inl (by decide))]; exact w2
  · rw [b2 15 5 (Or.inl (by decide)) (Or.inl (by decide)) (Or.inl (by decide))]; exact u2
theorem e_end (h : DS d B1 B2 BJ I1 I2 J2) : ∃ I1', C1 (D + 1) 169 [.ref 14] I1 J1 .null I1' J1 ∧ DS d B1 B2 BJ I1' I2 J2 := by
  obtain ⟨u, u1, u2⟩ := h.2.2.2.2
  have v5 : vp_in (5 : Int32) 6 := vp_in_nI (n := 5) (by decide) (by decide)
  by_cases e : u = 12
  · refine ⟨I1, mj_mk (e169 ⟨v5, ?_⟩), h⟩
    rw [show ((5 : Int32)).toNatClampNeg = 5 from rfl, u2, e]
    exact if_i (fun _ => rfl) (fun z => absurd (by decide) z)
  · refine ⟨mj_up (mj_up I1 23 u (I1 14 9)) 15 5 (nI (u + 1)), mj_mk (e169 ⟨v5, ?_⟩), ?_⟩
    · rw [show ((5 : Int32)).toNatClampNeg = 5 from rfl, u2, show (12 : Int32) = nI 12 from rfl, nI_clamp (by omega), nI_1]
      refine if_le (by decide) (by omega) (fun z => absurd z (by omega)) (fun _ => ?_)
      exact ⟨v5, vp_in_nI (by omega) (by decide), v5, v5, rfl⟩
    · have h2 := DS_up (q0 := 23) (j0 := u) (y := I1 14 9) h (by decide) (Or.inl (by decide)) (Or.inl (by decide))
      obtain ⟨⟨k, p, b1, b2, b3, b4, b5, b6, b7⟩, ⟨a1, a2⟩, ⟨c, c1, c2⟩, ⟨w, w1, w2⟩, -⟩ := h2
      refine ⟨⟨k, p, b1, b2, b3, ?_, ?_, ?_, b7⟩, ⟨fun q j z1 z2 => ?_, a2⟩, ⟨c, c1, ?_⟩, ⟨w, w1, ?_⟩, ⟨u + 1, by omega, up_s⟩⟩
      · rw [up_n (by omega)]; exact b4
      · rw [up_n (by omega)]; exact b5
      · rw [up_n (by omega), up_n (by omega), up_n (by omega)]; exact b6
      · rw [up_n (by omega)]; exact a1 q j z1 z2
      · rw [up_n (by omega)]; exact c2
      · rw [up_n (by omega)]; exact w2
end Sa9c
