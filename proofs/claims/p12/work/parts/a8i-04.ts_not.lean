section Sa8i_4
variable {n d s0 f0 W H : Nat} {x : Nat → Nat} {B1 B2 : Nat → Nat → Int32} {BJ : Nat → Nat → Int64}
variable {D D' E op kd ph bs p a t v u : Nat} {l : List Nat} {o : Int} {bg : Int32} {K : List Nat} {A1 A2 : List (Nat × Nat)} {L I1 I2 : Nat → Nat → Int32} {J1 J2 : Nat → Nat → Int64}
/-- not, on both sides -/
theorem ts_not (hkd : kd = 1 ∨ kd = 5) (ho : o = (10 : Nat)) (h : TS n x d s0 f0 B1 B2 BJ op kd ph bs 1 K L A1 A2 p a t v l o I1 I2 J2) (h45 : I2 0 45 = 0) (q1 : s0 + A1.length ≤ p) (q3 : bs + K.length < 499) :
    ∃ Ia Ra Sa, C1 (D + 3) 139 [.ref 11] I1 J1 .null Ia J1 ∧ Ia 11 9 = I1 11 9 ∧ ((gD E I2 J2 Ra Sa ∧ DD d s0 f0 B1 B2 BJ Ia Ra Sa) ∨ (gA E I2 J2 Ra Sa ∧ Ra 0 45 = 0 ∧ ∃ p' a' t' v' l' o', TS n x d s0 f0 B1 B2 BJ op kd ph bs 1 (K ++ [16]) L A1 A2 p' a' t' v' l' o' Ia Ra Sa ∧ p + 3 ≤ p')) := by
  have hn := tk_n h.1
  obtain ⟨t3, hl⟩ := tk_w h.1 (w := 10) (by decide) ho
  have l3 : l.length = 3 := by rw [hl]; rfl
  obtain ⟨Ih, b1, b2, b3⟩ := ts_hold (D := E + 3) (c := 16) h (by omega) (by decide)
  obtain ⟨Ia, Ra, Sa, k1, k2, k3, k4, k5⟩ := ts_adv (D := D) (D' := E + 2) (J1 := J1) b2 (by omega) (by omega)
  have c35 : C2 (E + 5) 35 [.ref 0] I2 J2 (.int 0) Ra Sa := part_tst (D := E + 3) hkd h (by
    refine mj_on (s35_34 _ _ ?_)
    rw [if_neg (by decide)]
    exact ⟨trivial, _, _, _, wd_r (w := 10) h.1 (by decide), if_tf (fun _ => ⟨trivial, _, _, b1, trivial, _, _, k2, Or.inl rfl, rfl⟩) (fun y => absurd ho y)⟩)
  refine ⟨Ia, mj_up Ra 0 45 0, Sa, k1, k4, ?_⟩
  rcases k5 with ⟨p', a', t', v', l', o', w1, w2, w3⟩ | ⟨w1, -⟩
  · exact Or.inr ⟨g_part h45 c35 (Or.inl rfl) w1.1.2.2.2.2.2.2.2.2.2.2.2.2.2.1, up_s, p', a', t', v', l', o', TS_45 w1, by have := w3 t3; omega⟩
  · exact Or.inl ⟨g_partD h45 c35 (Or.inl rfl) (DD_8 w1).1, DD_45 w1⟩
end Sa8i_4

