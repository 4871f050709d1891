section Sb3_3
variable {n d W Rn Kn Tn Hn Un S F mc : Nat} {x : Nat → Nat} {B1 B2 : Nat → Nat → Int32} {BJ : Nat → Nat → Int64}
variable {D D' E p a t v : Nat} {l : List Nat} {o : Int} {I1 I2 : Nat → Nat → Int32} {J1 J2 : Nat → Nat → Int64}
variable {b g : Nat}
theorem al_text {W0 R0 K0 T0 H0 U0 : Nat} (h : Rl b W0 R0 K0 T0 H0 U0 g I1 J1 I2 J2) : lw_PI 136 12 [] (I1, J1, mj_R1) (I2, J2, mj_R2) (fun f1 f2 => Inv 0 f1 f2 ∨ Inv 0 (mj_swp f1) f2) := by
  have hb2 : b < 2 := by
    obtain ⟨-, ⟨⟨-, -, -, -, -, -, -, -, -, -, -, -, q, -⟩, -⟩, -⟩ := h
    exact q
  obtain ⟨d, hb⟩ : ∃ d, b + d = 1 := ⟨1 - b, by omega⟩
  obtain ⟨r, i', I1', I2', J2', c1, c2, q⟩ := text_read h hb
  rcases q with ⟨rfl, n, x, W, Rn, Kn, Tn, Hn, Un, S, F, p, a, t, v, l, o, q⟩ | ⟨rfl, q, k, p, k1, k2⟩
  · have hN := TD_N q.2.2.1
    have hm := q.2.2.2.2.2.1
    have hg := h.2.2.2.2.2.2.1
    obtain ⟨rc, gc, hc, rfl, If, Jf, rfl, hP⟩ := mj_cA (S := mj_S1) (CD := mj_CD) (D := 899) (z := 136) (as := [.ref 0]) (h := (I1, J1, mj_R1)) (P := fun r g' => r = nI i' ∧ ∃ If Jf, g' = mj_swp (If, Jf, mj_R1) ∧ ttP W Rn g (fun q k => I1' (mj_pm q) k) If Jf) (e136 (by
      refine ⟨trivial, _, _, _, c1, ?_⟩
      rw [if_neg (by decide)]
      refine ⟨trivial, 14, (I1', J1, mj_up mj_R1 11 3 1), mj_mk (e172 rfl), ?_⟩
      refine mj_on (s136_35 ?_)
      refine c_swap (Q := fun y => ∃ If Jf, y = (.int (nI i'), (If, Jf, mj_R1)) ∧ ttP W Rn g (fun q k => I1' (mj_pm q) k) If Jf) (fun r hr => ?_) (c_tail (D := 895) (W := W) (Rn := Rn) (g := g) ?_ hN.2.2.2.1 ?_ hN.2.2.2.2.1 ?_ hg.2.1 (fun I' J' hP => ⟨I', J', ?_, hP⟩))
      · obtain ⟨If, Jf, rfl, hr2⟩ := hr
        exact ⟨nI i', _, rfl, rfl, If, Jf, rfl, hr2⟩
      · exact hN.1.1
      · exact hN.1.2.1
      · show I1' 51 0 = nI g
        rw [q.2.1.1 51 0 (by decide) (by decide), up_n (by omega)]
        exact hg.2.2.1
      · show (Value.int (I1' 14 0), (I', J', mj_R1)) = _
        rw [hm]))
    obtain ⟨rr, If2, Jf2, hr, rfl, hP2⟩ := mj_cI (S := mj_S2) (CD := mj_CD) (D := 899) (z := 12) (as := [.ref 0]) (h := (I2, J2, mj_R2)) (R := mj_R2) (P := fun r I' J' => r = nI i' ∧ rtP I2' I' J2' J') (e12 (c2 _ (r_tail (r_8 q.1) (fun I' J' hP => ⟨_, _, _, rfl, rfl, hP⟩))))
    refine ⟨nI i', _, _, hc, hr, Or.inr ?_⟩
    rw [sw_sw]
    exact ⟨rfl, rfl, d, W, Rn, Kn, Tn, Hn, Un, g, Rl_ok h hb q hP hP2⟩
  · obtain ⟨-, ⟨f1, f2, f3⟩, -⟩ := q
    have h8 := k1.2.2.2.2.2.2.1
    have h9 := k1.2.2.2.2.2.2.2
    refine ⟨-1, (I1', J1, mj_R1), (mj_up (mj_up I2' 0 10 (I2' 0 8)) 0 11 (I2' 0 9), J2', mj_R2), mj_mk (e136 ⟨trivial, _, _, _, c1, ?_⟩), mj_mk (e12 (c2 _ (mj_on (s12_133 _ ?_)))), Or.inl ⟨rfl, rfl, b, W0, R0, K0, T0, H0, U0, g, Rl_ft h hb f1 (fun q j z1 z2 z3 => ?_) (fun q j z1 z2 => f3 q j z1 z2) ?_ ?_⟩⟩
    · rw [if_pos rfl]
    · rw [if_neg (tkD_8 k1).2]
    · exact (up_n (by omega)).trans ((up_n (by omega)).trans (f2 q j (z1.imp id And.left) z2 z3))
    · show mj_up (mj_up I2' 0 10 (I2' 0 8)) 0 11 (I2' 0 9) 0 10 = I1' 11 10
      rw [up_n (by omega), up_s, h8]
      exact k2.1.symm
    · show mj_up (mj_up I2' 0 10 (I2' 0 8)) 0 11 (I2' 0 9) 0 11 = I1' 11 11
      rw [up_s, h9]
      exact k2.2.symm
end Sb3_3

