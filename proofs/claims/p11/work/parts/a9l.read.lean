/-! statements one behind the other, to the end of the text or to the first fault -/
section Sa9l
variable {n d W Rn Kn Tn Hn Un S F mc : Nat} {x : Nat → Nat} {B1 B2 : Nat → Nat → Int32} {BJ : Nat → Nat → Int64}
variable {D D' E p a t v : Nat} {l : List Nat} {o : Int} {I1 I2 : Nat → Nat → Int32} {J1 J2 : Nat → Nat → Int64}
theorem tk_rng (h : tkR n x p a t v l o I1 I2 J2) : o = -1 ∨ ∃ w : Nat, w < 17 ∧ o = (w : Nat) ∧ t = 3 := by
  rcases h.2.2.2.2.2.2.2.2.2.2.2.2.2.2.2.2 with ⟨-, -, -, q⟩ | ⟨-, -, -, -, -, -, -, -, q⟩ | ⟨-, -, -, -, -, -, -, q⟩ | ⟨t3, -, -, -, -, -, -, q⟩
  · exact Or.inl q
  · exact Or.inl q
  · exact Or.inl q
  · rcases q with ⟨q, -⟩ | ⟨w, hw, q, -⟩
    · exact Or.inl q
    · exact Or.inr ⟨w, hw, q, t3⟩
/-- no statement begins so -/
theorem st_none (h : RS n x d B1 B2 BJ W Rn Kn Tn Hn Un S F mc p a t v l o I1 I2 J2) (ho : ∀ w : Nat, w ≤ 5 → o ≠ (w : Nat)) : ∃ I1' I2', C1 (D + 9) 143 [.ref 11] I1 J1 .null I1' J1 ∧ (∀ r, E2 17 (D' + 6) (fun y => y = r) 296 [(0, .ref 0)] I2' J2 → mj_Cl mj_S2 mj_CD (D' + 7) 17 [.ref 0] (I2, J2, mj_R2) r) ∧ DS d B1 B2 BJ I1' I2' J2 := by
  have hk := h.1
  obtain ⟨Ia, Ra, k1, k2, k3, -⟩ := bl_st (D := D + 7) (D' := D' + 5) (J1 := J1) (k := 1) h (by decide) (by decide)
  refine ⟨Ia, Ra, mj_mk (e143 ?_), fun r hr => r17_n (D := D' + 5) hk ho k2 hr, k3⟩
  rcases tk_rng hk with e | ⟨w, hw, e, -⟩
  · have c7 := hk.2.2.2.2.2.2.2.2.2.2.2.1
    rw [e] at c7
    rw [c7, if_pos (by decide)]
    exact ⟨trivial, _, _, k1, rfl⟩
  · have hw6 : 6 ≤ w := Classical.byContradiction fun z => ho w (by omega) e
    rw [own_n hk hw e, if_neg (nI_pos (by omega)), if_neg (fun z => by
      have z := (nI_leI (a := w) (b := 5) (by omega) (by decide)).mp z
      omega)]
    exact ⟨trivial, _, _, k1, rfl⟩
theorem st_all (h : RS n x d B1 B2 BJ W Rn Kn Tn Hn Un S F mc p a t v l o I1 I2 J2) {w : Nat} (hw : w ≤ 5) (ho : o = (w : Nat)) (hDD : 39 ≤ D) : STO n x d B1 B2 BJ D D' mc p J1 I1 I2 J2 := by
  rcases (by omega : w = 0 ∨ w = 1 ∨ w = 2 ∨ w = 3 ∨ w = 4 ∨ w = 5) with rfl | rfl | rfl | rfl | rfl | rfl
  · exact st_wish h ho
  · exact st_row h ho
  · exact st_knot h ho
  · exact st_tie h ho
  · exact st_thing h ho
  · exact st_rule h ho hDD
theorem owL_3 : ∀ w, w ≤ 5 → 3 ≤ (owL.getD w []).length := by decide
/-- a statement and its ; -/
theorem stt_both (h : RS n x d B1 B2 BJ W Rn Kn Tn Hn Un S F mc p a t v l o I1 I2 J2) (hDD : 39 ≤ D) : ∃ Ia I1' I2' J2', C1 (D + 9) 143 [.ref 11] I1 J1 .null Ia J1 ∧ C1 (D + 9) 162 [.ref 11, .int 59] Ia J1 .null I1' J1 ∧ C2 (D' + 7) 17 [.ref 0] I2 J2 .null I2' J2' ∧ ((∃ W Rn Kn Tn Hn Un S F p' a' t' v' l' o', RS n x d B1 B2 BJ W Rn Kn Tn Hn Un S F mc p' a' t' v' l' o' I1' I2' J2' ∧ p < p') ∨ (DS d B1 B2 BJ I1' I2' J2' ∧ (p + 1 < 900 ∨ ¬ I1' 11 10 = 0))) := by
  have hk := h.1
  have dead : ∀ {Ia : (Nat → Nat → Int32)} {R : (Nat → Nat → Int32)} {S' : (Nat → Nat → Int64)}, C1 (D + 9) 143 [.ref 11] I1 J1 .null Ia J1 → (∀ r, E2 17 (D' + 6) (fun y => y = r) 296 [(0, .ref 0)] R S' → mj_Cl mj_S2 mj_CD (D' + 7) 17 [.ref 0] (I2, J2, mj_R2) r) → DS d B1 B2 BJ Ia R S' → ∃ Ia I1' I2' J2', C1 (D + 9) 143 [.ref 11] I1 J1 .null Ia J1 ∧ C1 (D + 9) 162 [.ref 11, .int 59] Ia J1 .null I1' J1 ∧ C2 (D' + 7) 17 [.ref 0] I2 J2 .null I2' J2' ∧ ((∃ W Rn Kn Tn Hn Un S F p' a' t' v' l' o', RS n x d B1 B2 BJ W Rn Kn Tn Hn Un S F mc p' a' t' v' l' o' I1' I2' J2' ∧ p < p') ∨ (DS d B1 B2 BJ I1' I2' J2' ∧ (p + 1 < 900 ∨ ¬ I1' 11 10 = 0))) := fun {Ia R S'} c1 c2 q => by
    obtain ⟨Ib, c3, q3, -, k, pp, q4, q5⟩ := e_take (D := D + 7) (J1 := J1) (c := 59) q
    refine ⟨Ia, Ib, R, S', c1, c3, c2 _ (mj_on (s17_296 ?_)), Or.inr ⟨q3, Or.inr ?_⟩⟩
    · rw [if_neg (DS_8 q).1]
    · rw [q5.1]
      exact nI_ne0 (by have := q4.1; omega) (by have := q4.2.1; omega)
  by_cases ob : ∃ w : Nat, w ≤ 5 ∧ o = (w : Nat)
  · obtain ⟨w, hw, ho⟩ := ob
    obtain ⟨Ia, Ra, Sa, c1, c2, q⟩ := st_all (D := D) (D' := D') (J1 := J1) h hw ho hDD
    rcases q with ⟨W', Rn', Kn', Tn', Hn', Un', S', F', p1, a1, t1, v1, l1, o1, q, hp⟩ | q
    rotate_left
    · exact dead c1 c2 q
    have h9 : p + 1 < 900 := by
      obtain ⟨t3, hl⟩ := tk_w hk (w := w) (by omega) ho
      have h3 := owL_3 w hw
      rw [hl.symm] at h3
      have hn := hk.1.1
      rcases hk.2.2.2.2.2.2.2.2.2.2.2.2.2.2.2.2 with ⟨z, -⟩ | ⟨z, -⟩ | ⟨z, -⟩ | ⟨-, z1, z2, -⟩ <;> omega
    obtain ⟨Ib, Jb, Rb, Sb, c3, c4, hJ, f1, f2, f3, q1⟩ := take_both (D := D + 5) (D' := D' + 3) (J1 := J1) (c := 59) q.1 (by decide)
    rw [hJ] at c3
    refine ⟨Ia, Ib, Rb, Sb, c1, c3, c2 _ (mj_on (s17_296 ?_)), ?_⟩
    · rw [if_pos (r_8 q.1)]
      exact ⟨trivial, _, _, c4, rfl⟩
    · rcases q1 with ⟨-, -, p2, a2, t2, v2, l2, o2, q2, hp2⟩ | q2
      · exact Or.inl ⟨W', Rn', Kn', Tn', Hn', Un', S', F', p2, a2, t2, v2, l2, o2, RS_lx q f1 f2 f3 q2 (by omega), by omega⟩
      · exact Or.inr ⟨RS_DS q f1 f2 f3 q2, Or.inl h9⟩
  · obtain ⟨Ia, Ra, c1, c2, q⟩ := st_none (D := D) (D' := D') (J1 := J1) h (fun w hw e => ob ⟨w, hw, e⟩)
    exact dead c1 c2 q
theorem e137D {i : Nat} {Q : mj_R → Prop} (h : ¬ I1 11 10 = 0) (h5 : ¬ I1 11 5 = 0) (hi : i ≤ 900) (hQ : Q (.int 0, (I1, J1, mj_R1))) : E1 137 D Q 43 [(0, .ref 11), (2, .int (nI i))] I1 J1 := by
  have e93 : E1 137 D Q 93 [(0, .ref 11)] I1 J1 := by
    refine mj_on (s137_93 ?_)
    rw [if_neg h]
    exact ⟨Or.inl rfl, hQ⟩
  refine mj_on (s137_43 _ ?_)
  rw [if_neg h5, if_neg h]
  exact if_i (fun _ => e93) (fun _ => e93)
/-- the class' loop behind a fault -/
theorem dd_loop {i : Nat} (h : DS d B1 B2 BJ I1 I2 J2) (hi : i ≤ 900) (hi2 : i < 900 ∨ ¬ I1 11 10 = 0) : ∃ I1', (∀ Q : mj_R → Prop, Q (.int 0, (I1', J1, mj_R1)) → E1 137 (D + 3) Q 43 [(0, .ref 11), (2, .int (nI i))] I1 J1) ∧ DS d B1 B2 BJ I1' I2 J2 ∧ ∃ k p, tkD k p I1' I2 ∧ tkT k p I1' := by
  have n5 : ∀ {I : (Nat → Nat → Int32)}, I 11 5 = nI 4 → ¬ I 11 5 = 0 := fun z => by rw [z]; decide
  by_cases e : I1 11 10 = 0
  · have hi9 : i < 900 := hi2.elim id (fun z => absurd e z)
    obtain ⟨Ia, c1, q1, -⟩ := e_bl (D := D + 1) (J1 := J1) h
    have c143 : C1 (D + 3) 143 [.ref 11] I1 J1 .null Ia J1 := by
      refine mj_mk (e143 ?_)
      rw [(DS_own h).2, if_pos (by decide)]
      exact ⟨trivial, _, _, c1, rfl⟩
    obtain ⟨Ib, c2, q2, -, k, p, q3, q4⟩ := e_take (D := D + 1) (J1 := J1) (c := 59) q1
    have q5 := DS_up (q0 := 14) (j0 := 0) (y := Ib 14 0 + 1) q2 (by decide) (Or.inr (by decide)) (Or.inl (by decide))
    have q6 := tkD_u1 (q0 := 14) (j0 := 0) (y := Ib 14 0 + 1) q3 (by decide)
    have q7 : tkT k p (mj_up Ib 14 0 (Ib 14 0 + 1)) := ⟨by rw [up_n (by omega)]; exact q4.1, by rw [up_n (by omega)]; exact q4.2⟩
    have ne : ¬ mj_up Ib 14 0 (Ib 14 0 + 1) 11 10 = 0 := by rw [q7.1]; exact nI_ne0 (by have := q3.1; omega) (by have := q3.2.1; omega)
    refine ⟨_, fun Q hQ => ?_, q5, k, p, q6, q7⟩
    refine mj_on (s137_43 _ ?_)
    rw [if_neg (n5 (DS_own h).1), if_pos e, show (900 : Int32) = nI 900 from rfl, nI_1]
    refine if_le (by decide) (by omega) (fun z => absurd z (by omega)) (fun _ => ⟨trivial, _, _, c143, trivial, _, _, c2, ?_⟩)
    exact e137D ne (n5 (DS_own q5).1) (by omega) hQ
  · obtain ⟨k, p, hk⟩ := h.1
    refine ⟨I1, fun Q hQ => e137D e (n5 (DS_own h).1) hi hQ, h, k, p, hk, ?_⟩
    rcases hk.2.2.2.2.2.1 with ⟨z, -⟩ | z
    · exact absurd z e
    · exact z
theorem r109_D {i : Nat} {Q : mj_R → Prop} (h : ¬ I2 0 8 = 0) (hQ : E2 12 D' Q 133 [(0, .ref 0), (1, .int (nI i))] I2 J2) : E2 12 D' Q 109 [(0, .ref 0), (1, .int (nI i))] I2 J2 := by
  refine mj_on (s12_109 _ ?_)
  rw [if_neg h]
  exact hQ
theorem RS_mc (h : RS n x d B1 B2 BJ W Rn Kn Tn Hn Un S F mc p a t v l o I1 I2 J2) : RS n x d B1 B2 BJ W Rn Kn Tn Hn Un S F (mc + 1) p a t v l o (mj_up I1 14 0 (nI (mc + 1))) I2 J2 := by
  obtain ⟨hk, ⟨fA1, fA2⟩, hD, hS, hF, hm⟩ := h
  have hW := (TD_N hD).2.2.2.1
  have fC : ∀ q j, (q ≠ 14 ∨ j ≠ 0) → mj_up I1 14 0 (nI (mc + 1)) q j = I1 q j := fun q j z => up_n z
  refine ⟨tkR_cg hk (fun q j z => fC q j (by omega)) (fun _ _ _ => rfl) rfl, ⟨fun q j z1 z2 => ?_, fA2⟩, TD_new hD (fC 14 9 (by omega)) rfl rfl (fun j => fC 23 j (by omega)) ?_ (TDo_up hD.2.2.2.2.2 hW (fun q j z => fC q j (by unfold inC at z; omega)) (fun _ _ _ => rfl) (fun _ _ _ => rfl)), hS, hF, up_s, by rw [fC 11 9 (by omega)]; exact hm.2⟩
  · rw [fC q j (by omega)]; exact fA1 q j z1 z2
  · have hN := hD.2.2.2.2.1
    unfold tlN at hN ⊢
    rw [fC (14 + 1) 0 (by omega), fC (14 + 1) 1 (by omega), fC (14 + 1) 2 (by omega), fC (14 + 1) 3 (by omega), fC (14 + 1) 4 (by omega), fC (14 + 1) 5 (by omega)]
    exact hN
theorem rd_loop (hDD : 39 ≤ D) : ∀ m i W Rn Kn Tn Hn Un S F p a t v l o I1 I2 J2, n - p ≤ m → i ≤ p → RS n x d B1 B2 BJ W Rn Kn Tn Hn Un S F i p a t v l o I1 I2 J2 → ∃ r i' I1' I2' J2', (∀ Q : mj_R → Prop, Q (.int r, (I1', J1, mj_R1)) → E1 137 (D + 9) Q 43 [(0, .ref 11), (2, .int (nI i))] I1 J1) ∧ (∀ Q : mj_R → Prop, E2 12 (D' + 7) Q 133 [(0, .ref 0), (1, .int (nI i'))] I2' J2' → E2 12 (D' + 7) Q 109 [(0, .ref 0), (1, .int (nI i))] I2 J2) ∧ ((r = 1 ∧ ∃ W Rn Kn Tn Hn Un S F p' a' t' v' l' o', RS n x d B1 B2 BJ W Rn Kn Tn Hn Un S F i' p' a' t' v' l' o' I1' I2' J2') ∨ (r = 0 ∧ DS d B1 B2 BJ I1' I2' J2' ∧ ∃ k p, tkD k p I1' I2' ∧ tkT k p I1')) := by
  intro m
  induction m with
  | zero =>
    intro i W Rn Kn Tn Hn Un S F p a t v l o I1 I2 J2 hm hi h
    have hk := h.1
    have hn := tk_n hk
    have t0 : t = 0 := Classical.byContradiction fun z => by have := hn.2.2.1 z; omega
    have c5 := hk.2.2.2.2.2.2.2.2.2.1
    have r3 := hk.2.2.2.2.2.2.2.2.2.2.1
    have w0 := hk.2.2.2.2.2.2.2.2.2.2.2.2.1.1
    rw [t0] at c5 r3
    refine ⟨1, i, I1, I2, J2, fun Q hQ => ?_, fun Q hQ => ?_, Or.inl ⟨rfl, W, Rn, Kn, Tn, Hn, Un, S, F, p, a, t, v, l, o, h⟩⟩
    · have e93 : E1 137 (D + 9) Q 93 [(0, .ref 11)] I1 J1 := by
        refine mj_on (s137_93 ?_)
        rw [if_pos w0]
        exact ⟨Or.inr rfl, hQ⟩
      refine mj_on (s137_43 _ ?_)
      rw [if_pos (show I1 11 5 = 0 from c5)]
      exact if_i (fun _ => e93) (fun _ => e93)
    · refine mj_on (s12_109 _ ?_)
      rw [if_pos (r_8 hk), if_pos (show I2 0 3 = 0 from r3)]
      exact hQ
  | succ m ih =>
    intro i W Rn Kn Tn Hn Un S F p a t v l o I1 I2 J2 hm hi h
    have hk := h.1
    have hn := tk_n hk
    have c5 := hk.2.2.2.2.2.2.2.2.2.1
    have r3 := hk.2.2.2.2.2.2.2.2.2.2.1
    have w0 := hk.2.2.2.2.2.2.2.2.2.2.2.2.1.1
    by_cases t0 : t = 0
    · rw [t0] at c5 r3
      refine ⟨1, i, I1, I2, J2, fun Q hQ => ?_, fun Q hQ => ?_, Or.inl ⟨rfl, W, Rn, Kn, Tn, Hn, Un, S, F, p, a, t, v, l, o, h⟩⟩
      · have e93 : E1 137 (D + 9) Q 93 [(0, .ref 11)] I1 J1 := by
          refine mj_on (s137_93 ?_)
          rw [if_pos w0]
          exact ⟨Or.inr rfl, hQ⟩
        refine mj_on (s137_43 _ ?_)
        rw [if_pos (show I1 11 5 = 0 from c5)]
        exact if_i (fun _ => e93) (fun _ => e93)
      · refine mj_on (s12_109 _ ?_)
        rw [if_pos (r_8 hk), if_pos (show I2 0 3 = 0 from r3)]
        exact hQ
    have hpn := hn.2.2.1 t0
    have ht3 := hn.2.2.2.2
    have n5 : ¬ I1 11 5 = 0 := by rw [c5]; exact nI_ne0 (by omega) (by omega)
    have n3 : ¬ I2 0 3 = 0 := by
      rw [r3]
      have : tkr t = 4 - t := if_neg t0
      rw [this]
      exact nI_ne0 (by omega) (by omega)
    have hmc := h.2.2.2.2.2.1
    obtain ⟨Ia, Ib, Rb, Sb, c1, c2, c3, q⟩ := stt_both (D := D) (D' := D') (J1 := J1) h hDD
    have cs : ∀ Q : mj_R → Prop, E1 137 (D + 9) Q 43 [(0, .ref 11), (2, .int (nI (i + 1)))] (mj_up Ib 14 0 (Ib 14 0 + 1)) J1 → E1 137 (D + 9) Q 43 [(0, .ref 11), (2, .int (nI i))] I1 J1 := fun Q hQ => by
      refine mj_on (s137_43 _ ?_)
      rw [if_neg n5, if_pos w0, show (900 : Int32) = nI 900 from rfl, nI_1]
      exact if_le (by decide) (by omega) (fun z => absurd z (by omega)) (fun _ => ⟨trivial, _, _, c1, trivial, _, _, c2, hQ⟩)
    have rs : ∀ Q : mj_R → Prop, E2 12 (D' + 7) Q 109 [(0, .ref 0), (1, .int (nI (i + 1)))] Rb Sb → E2 12 (D' + 7) Q 109 [(0, .ref 0), (1, .int (nI i))] I2 J2 := fun Q hQ => by
      refine mj_on (s12_109 _ ?_)
      rw [if_pos (r_8 hk), if_neg n3, nI_1]
      exact ⟨trivial, _, _, c3, hQ⟩
    rcases q with ⟨W', Rn', Kn', Tn', Hn', Un', S', F', p1, a1, t1, v1, l1, o1, q, hp⟩ | ⟨q, q9⟩
    · have q2 := RS_mc q
      have e14 : Ib 14 0 + 1 = nI (i + 1) := by rw [q.2.2.2.2.2.1, nI_1]
      obtain ⟨r, i', I1', I2', J2', u1, u2, u3⟩ := ih (i + 1) W' Rn' Kn' Tn' Hn' Un' S' F' p1 a1 t1 v1 l1 o1 _ Rb Sb (by omega) (by omega) q2
      rw [e14] at cs
      exact ⟨r, i', I1', I2', J2', fun Q hQ => cs Q (u1 Q hQ), fun Q hQ => rs Q (u2 Q hQ), u3⟩
    · have q2 := DS_up (q0 := 14) (j0 := 0) (y := Ib 14 0 + 1) q (by decide) (Or.inr (by decide)) (Or.inl (by decide))
      obtain ⟨Ic, u1, u2, u3⟩ := dd_loop (D := D + 6) (J1 := J1) (i := i + 1) q2 (by omega) (q9.imp (fun z => by omega) (fun z => by rw [up_n (by omega)]; exact z))
      exact ⟨0, i + 1, Ic, Rb, Sb, fun Q hQ => cs Q (u1 Q hQ), fun Q hQ => rs Q (r109_D (DS_8 q).1 hQ), Or.inr ⟨rfl, u2, u3⟩⟩
end Sa9l
