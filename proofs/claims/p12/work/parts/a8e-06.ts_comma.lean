section Sa8e_6
variable {n d s0 f0 W H : Nat} {x : Nat → Nat} {B1 B2 : Nat → Nat → Int32} {BJ : Nat → Nat → Int64}
variable {D D' E op kd ph bs p a t v u : Nat} {l : List Nat} {o : Int} {bg : Int32} {K : List Nat} {A1 A2 : List (Nat × Nat)} {L I1 I2 : Nat → Nat → Int32} {J1 J2 : Nat → Nat → Int64}
/-- the comma of a pair -/
theorem ts_comma {M : Nat} {kk : List Nat} (hS : stc d W H B1 B2 BJ) (h : TS n x d s0 f0 B1 B2 BJ op 3 0 M bg kk L A1 A2 p a t v l o I1 I2 J2) (h45 : I2 0 45 = 1) (hp : ¬ (t = 1 ∧ (v = 43 ∨ v = 45 ∨ v = 42 ∨ v = 47))) (q1 : s0 + A1.length ≤ p) (q2 : f0 + A2.length + (M + kk.length) ≤ p) (q3 : M + kk.length < 500) :
    ∃ I1' I2' J2', C1 (D + 4) 162 [.ref 11, .int (nI 44)] I1 J1 .null I1' J1 ∧ I1' 11 9 = I1 11 9 ∧ ((gD E I2 J2 I2' J2' ∧ DD d s0 f0 B1 B2 BJ I1' I2' J2') ∨ (gA E I2 J2 I2' J2' ∧ I2' 0 45 = 0 ∧ ∃ p' a' t' v' l' o', TS n x d s0 f0 B1 B2 BJ op 4 0 M bg [] L A1 (A2 ++ pops kk) p' a' t' v' l' o' I1' I2' J2' ∧ p < p')) := by
  have hn := tk_n h.1
  have h8 := h.1.2.2.2.2.2.2.2.2.2.2.2.2.2.1
  have hop := h.2.2.2.2.1.2.2.2.2.1
  have vp : vp_in (nI op) 20 := vp_in_nI (by omega) (by decide)
  have r41 : ∀ {r : Value} {I' : (Nat → Nat → Int32)} {J' : (Nat → Nat → Int64)} {Ib : (Nat → Nat → Int32)}, ((t = 1 ∧ v = 44) → Ib = I2) → (¬ (t = 1 ∧ v = 44) → C2 (E + 4) 16 [.ref 0, .int 1, .int (I2 0 4)] I2 J2 .null Ib J2) → E2 41 (E + 4) (fun y => y = (r, (I', J', mj_R2))) 427 [(0, .ref 0), (1, .int (nI op))] Ib J2 → mj_Cl mj_S2 mj_CD (E + 5) 41 [.ref 0] (I2, J2, mj_R2) (r, (I', J', mj_R2)) := fun {r I' J' Ib} y1 y2 hh => by
    refine go_385 (D := E + 3) h (Or.inr hp) (fun z => by omega) ?_
    refine mj_on (s41_385 _ _ ?_)
    rw [if_neg (by decide), if_pos (show nI 3 = 3 from rfl)]
    exact ⟨trivial, _, _, _, sg_r (c := 44) h.1 (by decide), if_tf (fun z => by rw [← y1 z]; exact hh) (fun z => ⟨trivial, _, _, y2 z, hh⟩)⟩
  rcases Classical.em (t = 1 ∧ v = 44) with e | e
  · obtain ⟨Ij, j1, j2, j3⟩ := ts_join (D := E + 2) (r := 1) (K := []) (kk := kk) hS (by decide) (fun c hc => by cases hc) h (fun c _ => rk_1 c) (by omega) (by show M + 0 + kk.length < 500; omega)
    have tk := TS_kd (y := 4) j2 (by decide)
    obtain ⟨Ia, Ra, Sa, k1, k2, k3, k4, k5⟩ := ts_adv (D := D) (D' := E + 2) (J1 := J1) tk (by omega) (by omega)
    have c41 : C2 (E + 5) 41 [.ref 0] I2 J2 (.int 1) (mj_up Ra 0 45 0) Sa := r41 (fun _ => rfl) (fun z => absurd e z) (by
      refine mj_on (s41_427 _ ?_)
      rw [if_pos (by rw [h8]; decide)]
      refine ⟨trivial, _, _, j1, vp, ?_⟩
      rw [nI_clamp (by omega)]
      exact ⟨trivial, _, _, k2, Or.inl rfl, Or.inr rfl, rfl⟩)
    refine ⟨Ia, mj_up Ra 0 45 0, Sa, c_takeY h.1 (by decide) e k1 (by omega), k4, ?_⟩
    rcases k5 with ⟨p', a', t', v', l', o', w1, w2, -⟩ | ⟨w1, -⟩
    · exact Or.inr ⟨g_go h45 c41 (by rw [up_n (by omega)]; exact w1.1.2.2.2.2.2.2.2.2.2.2.2.2.2.1), up_s, p', a', t', v', l', o', TS_45 w1, w2⟩
    · exact Or.inl ⟨g_goD h45 c41 (Or.inl (by rw [up_n (by omega)]; exact (DD_8 w1).1)), DD_45 w1⟩
  · obtain ⟨Ib, Rb, m1, m2, m3, m4, m5, m6, m7⟩ := ts_bl (D := D + 2) (D' := E + 3) (J1 := J1) (k := 1) h (by decide) (by decide) (by omega)
    have c41 : C2 (E + 5) 41 [.ref 0] I2 J2 (.int 0) Rb J2 := r41 (Ib := Rb) (fun z => absurd z e) (fun _ => m2) (by
      refine mj_on (s41_427 _ ?_)
      rw [if_neg (DD_8 m3).2]
      exact ⟨Or.inl rfl, rfl⟩)
    exact ⟨Ib, Rb, J2, c_takeN h.1 (by decide) e m1 (by omega), m6, Or.inl ⟨g_goD h45 c41 (Or.inr rfl), m3⟩⟩
end Sa8e_6

