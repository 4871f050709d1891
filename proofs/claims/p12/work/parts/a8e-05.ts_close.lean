section Sa8e_5
variable {n d s0 f0 W H : Nat} {x : Nat → Nat} {B1 B2 : Nat → Nat → Int32} {BJ : Nat → Nat → Int64}
variable {D D' E op kd ph bs p a t v u : Nat} {l : List Nat} {o : Int} {bg : Int32} {K : List Nat} {A1 A2 : List (Nat × Nat)} {L I1 I2 : Nat → Nat → Int32} {J1 J2 : Nat → Nat → Int64}
/-- a bracket that closes, on both sides -/
theorem ts_close {k c f pr : Nat} {b : Int32} {kk : List Nat} {L' I0 : (Nat → Nat → Int32)} (hS : stc d W H B1 B2 BJ) (hk : (k = 2 ∨ k = 4) ∧ c = 41 ∨ k = 5 ∧ c = 93) (h : TS n x d s0 f0 B1 B2 BJ (op + 1) k f (bs + K.length) b kk L' A1 A2 p a t v l o I1 I2 J2) (h45 : I2 0 45 = 1) (hp : f = 2 ∨ ¬ (t = 1 ∧ (v = 43 ∨ v = 45 ∨ v = 42 ∨ v = 47))) (ht : k = 5 → f ≠ 0 ∧ o ≠ 8 ∧ o ≠ 9)
    (hF : tsF op kd ph bs bg K L I0) (e1 : ∀ q, 23 ≤ q → q ≤ 27 → ∀ i, i < op + 1 → L' q i = I0 q i) (e2 : ∀ i, i < bs + K.length → L' 28 i = I0 28 i) (hpr : k = 4 → L' 26 (op + 1) = nI pr) (q1 : s0 + A1.length ≤ p) (q2 : f0 + A2.length + (bs + K.length + kk.length) ≤ p) (q3 : bs + K.length + kk.length < 500) :
    ∃ I1' I2' J2', C1 (D + 4) 162 [.ref 11, .int (nI c)] I1 J1 .null I1' J1 ∧ I1' 11 9 = I1 11 9 ∧ ((gD E I2 J2 I2' J2' ∧ DD d s0 f0 B1 B2 BJ I1' I2' J2') ∨ (gA E I2 J2 I2' J2' ∧ I2' 0 45 = 1 ∧ ∃ p' a' t' v' l' o', TS n x d s0 f0 B1 B2 BJ op kd (if k = 5 then 2 else ph) bs bg K L A1 (A2 ++ pops kk ++ (if k = 4 then [(pr, 0)] else [])) p' a' t' v' l' o' I1' I2' J2' ∧ p < p')) := by
  have hn := tk_n h.1
  have h8 := h.1.2.2.2.2.2.2.2.2.2.2.2.2.2.1
  have hop := h.2.2.2.2.1.2.2.2.2.1
  have vp : vp_in (nI (op + 1)) 20 := vp_in_nI (by omega) (by decide)
  have hc : c < 256 := by omega
  -- the reference's way to 487
  have r41 : ∀ {r : Value} {I' : (Nat → Nat → Int32)} {J' : (Nat → Nat → Int64)} {Ib : (Nat → Nat → Int32)}, ((t = 1 ∧ v = c) → Ib = I2) → (¬ (t = 1 ∧ v = c) → C2 (E + 4) 16 [.ref 0, .int 1, .int (I2 0 4)] I2 J2 .null Ib J2) → E2 41 (E + 4) (fun y => y = (r, (I', J', mj_R2))) 487 [(0, .ref 0), (1, .int (nI (op + 1))), (2, .int (nI k))] Ib J2 → mj_Cl mj_S2 mj_CD (E + 5) 41 [.ref 0] (I2, J2, mj_R2) (r, (I', J', mj_R2)) := fun {r I' J' Ib} y1 y2 hh => by
    refine go_385 (D := E + 3) h hp (fun z => ht (by omega)) ?_
    refine mj_on (s41_385 _ _ ?_)
    rcases hk with ⟨rfl | rfl, rfl⟩ | ⟨rfl, rfl⟩
    · rw [if_neg (by decide), if_neg (by decide), if_neg (by decide)]
      exact ⟨trivial, _, _, _, sg_r (c := 41) h.1 (by decide), if_tf (fun z => by rw [← y1 z]; exact hh) (fun z => ⟨trivial, _, _, y2 z, hh⟩)⟩
    · rw [if_neg (by decide), if_neg (by decide), if_neg (by decide)]
      exact ⟨trivial, _, _, _, sg_r (c := 41) h.1 (by decide), if_tf (fun z => by rw [← y1 z]; exact hh) (fun z => ⟨trivial, _, _, y2 z, hh⟩)⟩
    · rw [if_neg (by decide), if_neg (by decide), if_pos (show nI 5 = 5 from rfl)]
      exact ⟨trivial, _, _, _, sg_r (c := 93) h.1 (by decide), if_tf (fun z => by rw [← y1 z]; exact hh) (fun z => ⟨trivial, _, _, y2 z, hh⟩)⟩
  rcases Classical.em (t = 1 ∧ v = c) with e | e
  · -- it stands there
    obtain ⟨Ij, j1, j2, j3⟩ := ts_join (D := E + 2) (r := 1) (K := []) (kk := kk) hS (by decide) (fun c hc => by cases hc) h (fun c _ => rk_1 c) (by omega) (by show bs + K.length + 0 + kk.length < 500; omega)
    have jF := j2.2.2.2.2.2
    have jA := j2.2.2.2.2.1
    obtain ⟨Ik, hIk⟩ : ∃ Ik, Ik = mj_up (mj_up Ij 0 41 (nI (op + 1))) 0 42 (nI op) := ⟨_, rfl⟩
    have tk : TS n x d s0 f0 B1 B2 BJ op kd ph bs bg K L A1 (A2 ++ pops kk) p a t v l o I1 Ik J2 := by rw [hIk]; exact TS_pop j2 hF e1 e2
    have k45 : Ik 0 45 = 1 := by rw [hIk, up_n (by omega), up_n (by omega), j3, h45]
    -- from 537 on
    have fin : ∀ (A3 : (List (Nat × Nat))) (Il : (Nat → Nat → Int32)), TS n x d s0 f0 B1 B2 BJ op kd ph bs bg K L A1 A3 p a t v l o I1 Il J2 → Il 0 45 = 1 → A3 = A2 ++ pops kk ++ (if k = 4 then [(pr, 0)] else []) → (∀ {r : Value} {I' : (Nat → Nat → Int32)} {J' : (Nat → Nat → Int64)}, E2 41 (E + 4) (fun y => y = (r, (I', J', mj_R2))) 537 [(0, .ref 0), (2, .int (nI k))] Il J2 → mj_Cl mj_S2 mj_CD (E + 5) 41 [.ref 0] (I2, J2, mj_R2) (r, (I', J', mj_R2))) → ∃ I1' I2' J2', C1 (D + 4) 162 [.ref 11, .int (nI c)] I1 J1 .null I1' J1 ∧ I1' 11 9 = I1 11 9 ∧ ((gD E I2 J2 I2' J2' ∧ DD d s0 f0 B1 B2 BJ I1' I2' J2') ∨ (gA E I2 J2 I2' J2' ∧ I2' 0 45 = 1 ∧ ∃ p' a' t' v' l' o', TS n x d s0 f0 B1 B2 BJ op kd (if k = 5 then 2 else ph) bs bg K L A1 (A2 ++ pops kk ++ (if k = 4 then [(pr, 0)] else [])) p' a' t' v' l' o' I1' I2' J2' ∧ p < p')) := fun A3 Il tl l45 hA3 r537 => by
      have last : ∀ (Im : (Nat → Nat → Int32)) (fq : Nat), TS n x d s0 f0 B1 B2 BJ op kd fq bs bg K L A1 A3 p a t v l o I1 Im J2 → Im 0 45 = 1 → fq = (if k = 5 then 2 else ph) → (∀ {I' : (Nat → Nat → Int32)} {J' : (Nat → Nat → Int64)}, C2 (E + 4) 13 [.ref 0] Im J2 .null I' J' → E2 41 (E + 4) (fun y => y = (.int 1, (I', J', mj_R2))) 537 [(0, .ref 0), (2, .int (nI k))] Il J2) → ∃ I1' I2' J2', C1 (D + 4) 162 [.ref 11, .int (nI c)] I1 J1 .null I1' J1 ∧ I1' 11 9 = I1 11 9 ∧ ((gD E I2 J2 I2' J2' ∧ DD d s0 f0 B1 B2 BJ I1' I2' J2') ∨ (gA E I2 J2 I2' J2' ∧ I2' 0 45 = 1 ∧ ∃ p' a' t' v' l' o', TS n x d s0 f0 B1 B2 BJ op kd (if k = 5 then 2 else ph) bs bg K L A1 (A2 ++ pops kk ++ (if k = 4 then [(pr, 0)] else [])) p' a' t' v' l' o' I1' I2' J2' ∧ p < p')) := fun Im fq tm m45 hfq r13 => by
        obtain ⟨Ia, Ra, Sa, k1, k2, k3, k4, k5⟩ := ts_adv (D := D) (D' := E + 2) (J1 := J1) tm (by omega) (by omega)
        have c41 : C2 (E + 5) 41 [.ref 0] I2 J2 (.int 1) Ra Sa := r537 (r13 k2)
        refine ⟨Ia, Ra, Sa, c_takeY h.1 hc e k1 (by omega), k4, ?_⟩
        rcases k5 with ⟨p', a', t', v', l', o', w1, w2, -⟩ | ⟨w1, -⟩
        · rw [hfq, hA3] at w1
          exact Or.inr ⟨g_go h45 c41 w1.1.2.2.2.2.2.2.2.2.2.2.2.2.2.1, by rw [k3, m45], p', a', t', v', l', o', w1, w2⟩
        · exact Or.inl ⟨g_goD h45 c41 (Or.inl (DD_8 w1).1), w1⟩
      by_cases k5 : k = 5
      · refine last (mj_up Il 24 op (nI 2)) 2 (TS_ph tl (by decide)) (by rw [up_n (by omega)]; exact l45) (by rw [if_pos k5]) (fun {I' J'} q => ?_)
        refine mj_on (s41_537 _ ?_)
        rw [if_pos (show nI k = 5 by rw [k5]; rfl), tl.2.2.2.2.2.1, nI_pred, nI_clamp (by omega)]
        exact ⟨vp_in_nI (by omega) (by decide), trivial, _, _, q, Or.inr rfl, rfl⟩
      · refine last Il ph tl l45 (by rw [if_neg k5]) (fun {I' J'} q => ?_)
        refine mj_on (s41_537 _ ?_)
        rw [if_neg (show ¬ nI k = 5 from fun z => k5 ((nI_eq (b := 5) (by omega) (by decide)).mp z))]
        exact ⟨trivial, _, _, q, Or.inr rfl, rfl⟩
    by_cases k4 : k = 4
    · obtain ⟨Il, l1, l2, l3⟩ := ts_addR (D := E + 3) (c := pr) (y := 0) hS tk (by rw [List.length_append, pops_len]; omega)
      refine fin _ Il l2 (by rw [l3, k45]) (by rw [if_pos k4]) (fun {r I' J'} q => r41 (fun _ => rfl) (fun z => absurd e z) ?_)
      refine mj_on (s41_487 _ _ ?_)
      rw [if_pos (by rw [h8]; decide)]
      refine ⟨trivial, _, _, j1, ?_⟩
      rw [if_pos (show nI k = 4 by rw [k4]; rfl), nI_clamp (by omega), jF.1, jA.2.2.2.2.2.1, nI_pred, nI_pred, ← hIk, jF.2.2.2.2.2.2.2.1, hpr k4]
      exact ⟨vp, trivial, _, _, l1, q⟩
    · refine fin _ Ik tk k45 (by rw [if_neg k4, List.append_nil]) (fun {r I' J'} q => r41 (fun _ => rfl) (fun z => absurd e z) ?_)
      refine mj_on (s41_487 _ _ ?_)
      rw [if_pos (by rw [h8]; decide)]
      refine ⟨trivial, _, _, j1, ?_⟩
      rw [if_neg (show ¬ nI k = 4 from fun z => k4 ((nI_eq (b := 4) (by omega) (by decide)).mp z)), jF.1, jA.2.2.2.2.2.1, nI_pred, nI_pred, ← hIk]
      exact q
  · -- a fault
    obtain ⟨Ib, Rb, m1, m2, m3, m4, m5, m6, m7⟩ := ts_bl (D := D + 2) (D' := E + 3) (J1 := J1) (k := 1) h (by decide) (by decide) (by omega)
    have c41 : C2 (E + 5) 41 [.ref 0] I2 J2 (.int 0) Rb J2 := r41 (Ib := Rb) (fun z => absurd z e) (fun _ => m2) (by
      refine mj_on (s41_487 _ _ ?_)
      rw [if_neg (DD_8 m3).2]
      exact ⟨Or.inl rfl, rfl⟩)
    exact ⟨Ib, Rb, J2, c_takeN h.1 hc e m1 (by omega), m6, Or.inl ⟨g_goD h45 c41 (Or.inr rfl), m3⟩⟩
end Sa8e_5

