/-! rows of amounts on both sides -/
def rwC (j z0 z1 : Nat) (I I' : (Nat → Nat → Int32)) : Prop := ∀ q z, (q ≠ 11 ∨ z < 4 ∨ z = 9) → (q ≠ 18 ∨ z < 160 + 4 * j + z0 ∨ 160 + 4 * j + z1 ≤ z) → (q ≠ 19 ∨ z < 4 * j + z0 ∨ 4 * j + z1 ≤ z) → I' q z = I q z
def rwQ (c z0 z1 : Nat) (I I' : (Nat → Nat → Int32)) : Prop := ∀ q j, (q ≠ 0 ∨ (j ≠ 3 ∧ j ≠ 4 ∧ j ≠ 5 ∧ j ≠ 6 ∧ j ≠ 8 ∧ j ≠ 9)) → ((q ≠ 11 ∧ q ≠ 12) ∨ j < c + z0 ∨ c + z1 ≤ j) → I' q j = I q j
section Sa9e
variable {n d W Rn Kn Tn Hn Un S F mc : Nat} {x : Nat → Nat} {B1 B2 : Nat → Nat → Int32} {BJ : Nat → Nat → Int64}
variable {D D' E p a t v : Nat} {l : List Nat} {o : Int} {I1 I2 : Nat → Nat → Int32} {J1 J2 : Nat → Nat → Int64}
theorem dd_row {j w k' p' : Nat} (hj : j < 40) (hW : W ≤ 4) (h : tkD k' p' I1 I2) (hN : I1 15 0 = nI W) (hw : w ≤ W) : ∃ I1', (∀ Q : mj_R → Prop, Q (.null, (I1', J1, mj_R1)) → E1 170 (D + 2) Q 17 [(0, .ref 11), (1, .int (nI j)), (2, .int (nI w))] I1 J1) ∧ tkD k' p' I1' I2 ∧ rwC j w W I1 I1' := by
  have lp := lp_up (n := W) (fun w => ∀ I0, tkD k' p' I0 I2 → I0 15 0 = nI W → ∃ I1', (∀ Q : mj_R → Prop, Q (.null, (I1', J1, mj_R1)) → E1 170 (D + 2) Q 17 [(0, .ref 11), (1, .int (nI j)), (2, .int (nI w))] I0 J1) ∧ tkD k' p' I1' I2 ∧ rwC j w W I0 I1') (fun w hw ih I0 h0 f0 => ?_) w hw I1 h hN
  · exact lp
  by_cases c : w < W
  · obtain ⟨Ia, Ja, ca, hJ, a1, a2, -⟩ := dd_num (D := D) (J1 := J1) h0
    rw [hJ] at ca
    obtain ⟨Ib, b1, b2, b3⟩ := ih c (mj_up (mj_up Ia 18 (160 + 4 * j + w) 0) 19 (4 * j + w) 0) (tkD_u1 (tkD_u1 a2 (by decide)) (by decide)) (by rw [up_n (Or.inl (by decide)), up_n (Or.inl (by decide)), a1 15 0 (Or.inl (by decide))]; exact f0)
    have s0 := sg_d (D := D + 1) (J1 := J1) (c := 63) h0.2.2.2.1
    have s1 := sg_d (D := D + 1) (J1 := J1) (c := 126) a2.2.2.2.1
    rw [tf_f id] at s0 s1
    refine ⟨Ib, fun Q hQ => ?_, b2, fun q z z1 z2 z3 => ?_⟩
    · refine mj_on (s170_17 _ _ ?_)
      rw [z_c, f0]
      refine ⟨vp_in_nI (n := 0) (by decide) (by decide), if_le (by omega) (by omega) (fun c => absurd c (by omega)) (fun _ => ?_)⟩
      refine ⟨trivial, _, _, _, s0, ?_⟩
      rw [if_pos rfl]
      refine ⟨trivial, _, _, _, ca, trivial, _, _, _, s1, ?_⟩
      rw [if_pos rfl]
      exact c75 hj (by omega) (b1 Q hQ)
    · rw [b3 q z z1 (by omega) (by omega), up_n (by omega), up_n (by omega), a1 q z (by omega)]
  · obtain rfl : w = W := by omega
    refine ⟨I0, fun Q hQ => ?_, h0, fun _ _ _ _ _ => rfl⟩
    refine mj_on (s170_17 _ _ ?_)
    rw [z_c, f0]
    exact ⟨vp_in_nI (n := 0) (by decide) (by decide), if_le (by omega) (by omega) (fun _ => hQ) (fun z => absurd z (by omega))⟩
theorem tkD_u2 {k p q0 j0 : Nat} {y : Int32} (h : tkD k p I1 I2) (hq : q0 ≠ 0) : tkD k p I1 (mj_up I2 q0 j0 y) := by
  obtain ⟨b1, b2, b3, b4, b5, b6, b7, b8⟩ := h
  refine ⟨b1, b2, b3, b4, b5, b6, ?_, ?_⟩
  · rw [up_n (by omega)]; exact b7
  · rw [up_n (by omega)]; exact b8
theorem tkR_u2 {q0 j0 : Nat} {y : Int32} (h : tkR n x p a t v l o I1 I2 J2) (hq : 2 ≤ q0) : tkR n x p a t v l o I1 (mj_up I2 q0 j0 y) J2 := tkR_cg h (fun _ _ _ => rfl) (fun q j z => by rw [up_n (by omega)]) rfl
theorem r29_D (h : ¬ I2 0 8 ≤ 0) : C2 (D + 1) 29 [.ref 0] I2 J2 (.int 0) I2 J2 := by
  refine mj_mk (e29 ?_)
  rw [if_neg h]
/-- one amount of a row -/
theorem cell_both {j w : Nat} (hj : j < 40) (hd : d < 2) (hW : W ≤ 4) (hw : w < W) (hk : tkR n x p a t v l o I1 I2 J2) (hN : I1 15 0 = nI W) (hN2 : I2 2 d = nI W) (h35 : I2 0 35 = nI d) : ∃ y1 y2 Ia Ra Sa, (∀ Q : mj_R → Prop, E1 170 (D + 5) Q 75 [(0, .ref 11), (1, .int (nI j)), (2, .int (nI w)), (3, .int y1), (4, .int y2)] Ia J1 → E1 170 (D + 5) Q 17 [(0, .ref 11), (1, .int (nI j)), (2, .int (nI w))] I1 J1) ∧ (∀ Q : mj_R → Prop, E2 27 (D' + 4) Q 78 [(0, .ref 0), (1, .int (nI (40 * d + j))), (2, .int (nI (w + 1)))] Ra Sa → E2 27 (D' + 4) Q 78 [(0, .ref 0), (1, .int (nI (40 * d + j))), (2, .int (nI w))] I2 J2) ∧ lxF I1 Ia ∧ rwQ (4 * (40 * d + j)) w (w + 1) I2 Ra ∧ lxgJ J2 Sa ∧ ((∃ p' a' t' v' l' o', tkR n x p' a' t' v' l' o' Ia Ra Sa ∧ p < p' ∧ (y1 = -1 ∨ amt y1) ∧ amt y2 ∧ Ra 11 (4 * (40 * d + j) + w) = y1 ∧ Ra 12 (4 * (40 * d + j) + w) = y2) ∨ ∃ k p, tkD k p Ia Ra) := by
  obtain ⟨c, hc⟩ : ∃ c, c = 4 * (40 * d + j) + w := ⟨_, rfl⟩
  have hc3 : c < 320 := by omega
  have vc : vp_in (nI c) 320 := vp_in_nI hc3 (by decide)
  have vd : vp_in (nI d) 2 := vp_in_nI hd (by decide)
  have r8 := r_8 hk
  rw [← hc]
  obtain ⟨Iz, hIz⟩ : ∃ Iz, Iz = mj_up I2 12 c 0 := ⟨_, rfl⟩
  have hz : tkR n x p a t v l o I1 Iz J2 := by rw [hIz]; exact tkR_u2 hk (by decide)
  -- heads
  have hcl : ∀ Q : mj_R → Prop, (∃ r1 : Int32, C1 (D + 5) 160 [.ref 11, .int 63] I1 J1 (.int r1) I1 J1 ∧ (if r1 = 0 then (True ∧ ∃ (r2 : Int32) (I2 : (Nat → Nat → Int32)) (J2 : (Nat → Nat → Int64)), mj_Cl mj_S1 mj_CD (D + 5) 156 [.ref 11] (I1, J1, mj_R1) (.int r2, (I2, J2, mj_R1)) ∧ (True ∧ ∃ (r3 : Int32) (I3 : (Nat → Nat → Int32)) (J3 : (Nat → Nat → Int64)), mj_Cl mj_S1 mj_CD (D + 5) 160 [.ref 11, .int 126] (I2, J2, mj_R1) (.int r3, (I3, J3, mj_R1)) ∧ (if r3 = 0 then E1 170 (D + 5) Q 75 [(0, .ref 11), (1, .int (nI j)), (2, .int (nI w)), (3, .int r2), (4, .int 0)] I3 J3 else (True ∧ ∃ (I4 : (Nat → Nat → Int32)) (J4 : (Nat → Nat → Int64)), mj_Cl mj_S1 mj_CD (D + 5) 139 [.ref 11] (I3, J3, mj_R1) (.null, (I4, J4, mj_R1)) ∧ (True ∧ ∃ (r5 : Int32) (I5 : (Nat → Nat → Int32)) (J5 : (Nat → Nat → Int64)), mj_Cl mj_S1 mj_CD (D + 5) 156 [.ref 11] (I4, J4, mj_R1) (.int r5, (I5, J5, mj_R1)) ∧ E1 170 (D + 5) Q 75 [(0, .ref 11), (1, .int (nI j)), (2, .int (nI w)), (3, .int r2), (4, .int r5)] I5 J5))))) else (True ∧ ∃ (I6 : (Nat → Nat → Int32)) (J6 : (Nat → Nat → Int64)), mj_Cl mj_S1 mj_CD (D + 5) 139 [.ref 11] (I1, J1, mj_R1) (.null, (I6, J6, mj_R1)) ∧ E1 170 (D + 5) Q 75 [(0, .ref 11), (1, .int (nI j)), (2, .int (nI w)), (3, .int (-1)), (4, .int 0)] I6 J6))) → E1 170 (D + 5) Q 17 [(0, .ref 11), (1, .int (nI j)), (2, .int (nI w))] I1 J1 := fun Q ⟨r1, q1, q2⟩ => by
    refine mj_on (s170_17 _ _ ?_)
    rw [z_c, hN]
    refine ⟨vp_in_nI (n := 0) (by decide) (by decide), if_le (by omega) (by omega) (fun c => absurd c (by omega)) (fun _ => ?_)⟩
    exact ⟨trivial, _, _, _, q1, q2⟩
  by_cases e : t = 1 ∧ v = 63
  · -- ?
    obtain ⟨Iy, hIy⟩ : ∃ Iy, Iy = mj_up Iz 11 c (-1) := ⟨_, rfl⟩
    have hy : tkR n x p a t v l o I1 Iy J2 := by rw [hIy]; exact tkR_u2 hz (by decide)
    obtain ⟨Ia, Ra, Sa, k1, k2, k3, k4, k5, k6⟩ := adv_ta (D := D + 2) (D' := D' + 2) (J1 := J1) hy (by omega)
    refine ⟨-1, 0, Ia, Ra, Sa, fun Q hQ => ?_, fun Q hQ => ?_, lxf_F k3, fun q z z1 z2 => ?_, k5, ?_⟩
    · have s := sg_c (D := D + 4) (J1 := J1) hk (c := 63) (by decide)
      rw [tf_t e] at s
      refine hcl Q ⟨1, s, ?_⟩
      rw [if_neg (by decide)]
      exact ⟨trivial, _, _, k1, hQ⟩
    · refine mj_on (s27_78 _ _ ?_)
      rw [h35, nI_clamp (by omega), hN2, show (4 : Int32) = nI 4 from rfl, pk_mul, nI_add, ← hc, nI_clamp (by omega), if_pos r8, ← hIz, nI_1]
      refine ⟨vd, if_le (by omega) (by omega) (fun z => absurd z (by omega)) (fun _ => ⟨vc, trivial, _, _, _, sg_r hz (c := 63) (by decide), if_tf (fun _ => ?_) (fun z => absurd e z)⟩)⟩
      rw [← hIy]
      exact ⟨vc, trivial, _, _, k2, hQ⟩
    · rw [k4 q z z1, hIy, hIz, up_n (by omega), up_n (by omega)]
    · rcases k6 with ⟨p', a', t', v', l', o', q1, q2, -⟩ | ⟨p', q1⟩
      · refine Or.inl ⟨p', a', t', v', l', o', q1, q2, Or.inl rfl, ⟨0, by decide, rfl⟩, ?_, ?_⟩
        · rw [k4 11 c (Or.inl (by decide)), hIy, up_s]
        · rw [k4 12 c (Or.inl (by decide)), hIy, up_n (Or.inl (by decide)), hIz, up_s]
      · exact Or.inr ⟨_, _, q1⟩
  -- a number
  obtain ⟨r1, r2, Ib, Jb, Rb, Sb, c1, c2, hJ, f1, f2, f3, hr⟩ := num_both (D := D + 1) (D' := D' + 1) (J1 := J1) hz
  rw [hJ] at c1
  obtain ⟨Rc, hRc⟩ : ∃ Rc, Rc = mj_up Rb 11 c r2 := ⟨_, rfl⟩
  have s0 := sg_c (D := D + 4) (J1 := J1) hk (c := 63) (by decide)
  rw [tf_f e] at s0
  have rhd : ∀ Q : mj_R → Prop, (if Rb 0 8 ≤ 0 then (True ∧ ∃ (r3 : Int32) (I3 : (Nat → Nat → Int32)) (J3 : (Nat → Nat → Int64)), mj_Cl mj_S2 mj_CD (D' + 4) 28 [.ref 0, .int 126] (Rc, Sb, mj_R2) (.int r3, (I3, J3, mj_R2)) ∧ (if r3 = 0 then E2 27 (D' + 4) Q 78 [(0, .ref 0), (1, .int (nI (40 * d + j))), (2, .int (nI (w + 1)))] I3 J3 else (True ∧ ∃ (I4 : (Nat → Nat → Int32)) (J4 : (Nat → Nat → Int64)), mj_Cl mj_S2 mj_CD (D' + 4) 13 [.ref 0] (I3, J3, mj_R2) (.null, (I4, J4, mj_R2)) ∧ (True ∧ ∃ (r5 : Int32) (I5 : (Nat → Nat → Int32)) (J5 : (Nat → Nat → Int64)), mj_Cl mj_S2 mj_CD (D' + 4) 29 [.ref 0] (I4, J4, mj_R2) (.int r5, (I5, J5, mj_R2)) ∧ (vp_in (nI c) 320 ∧ E2 27 (D' + 4) Q 78 [(0, .ref 0), (1, .int (nI (40 * d + j))), (2, .int (nI (w + 1)))] (mj_up I5 12 c r5) J5))))) else E2 27 (D' + 4) Q 78 [(0, .ref 0), (1, .int (nI (40 * d + j))), (2, .int (nI (w + 1)))] Rc Sb) → E2 27 (D' + 4) Q 78 [(0, .ref 0), (1, .int (nI (40 * d + j))), (2, .int (nI w))] I2 J2 := fun Q hQ => by
    refine mj_on (s27_78 _ _ ?_)
    rw [h35, nI_clamp (by omega), hN2, show (4 : Int32) = nI 4 from rfl, pk_mul, nI_add, ← hc, nI_clamp (by omega), if_pos r8, ← hIz, nI_1]
    refine ⟨vd, if_le (by omega) (by omega) (fun z => absurd z (by omega)) (fun _ => ⟨vc, trivial, _, _, _, sg_r hz (c := 63) (by decide), if_tf (fun z => absurd z e) (fun _ => ?_)⟩)⟩
    refine ⟨trivial, _, _, _, c2, vc, ?_⟩
    rw [← hRc]
    exact hQ
  have fz : ∀ q z, (q ≠ 0 ∨ (z ≠ 3 ∧ z ≠ 4 ∧ z ≠ 5 ∧ z ≠ 6 ∧ z ≠ 8 ∧ z ≠ 9)) → ((q ≠ 11 ∧ q ≠ 12) ∨ z < 4 * (40 * d + j) + w ∨ 4 * (40 * d + j) + (w + 1) ≤ z) → Rc q z = I2 q z := fun q z z1 z2 => by
    rw [hRc, up_n (by omega), f2 q z z1, hIz, up_n (by omega)]
  rcases hr with ⟨t2, e1, e2, hv, p1, a1, t1, v1, l1, o1, k1, hp⟩ | ⟨k1, p1, k2⟩
  rotate_left
  · -- a fault
    have s1 := sg_d (D := D + 4) (J1 := J1) (c := 126) k2.2.2.2.1
    rw [tf_f id] at s1
    refine ⟨r1, 0, Ib, Rc, Sb, fun Q hQ => hcl Q ⟨0, s0, ?_⟩, fun Q hQ => rhd Q ?_, f1, fz, f3, Or.inr ⟨k1, p1, by rw [hRc]; exact tkD_u2 k2 (by decide)⟩⟩
    · rw [if_pos rfl]
      refine ⟨trivial, _, _, _, c1, trivial, _, _, _, s1, ?_⟩
      rw [if_pos rfl]
      exact hQ
    · rw [if_neg (tkD_8 k2).2]
      exact hQ
  have kc : tkR n x p1 a1 t1 v1 l1 o1 Ib Rc Sb := by rw [hRc]; exact tkR_u2 k1 (by decide)
  have b8 : Rb 0 8 ≤ 0 := by rw [r_8 k1]; decide
  by_cases e3 : t1 = 1 ∧ v1 = 126
  rotate_left
  · have s1 := sg_c (D := D + 4) (J1 := J1) k1 (c := 126) (by decide)
    rw [tf_f e3] at s1
    refine ⟨r1, 0, Ib, Rc, Sb, fun Q hQ => hcl Q ⟨0, s0, ?_⟩, fun Q hQ => rhd Q ?_, f1, fz, f3, Or.inl ⟨p1, a1, t1, v1, l1, o1, kc, hp, Or.inr ⟨v, hv, e1⟩, ⟨0, by decide, rfl⟩, ?_, ?_⟩⟩
    · rw [if_pos rfl]
      refine ⟨trivial, _, _, _, c1, trivial, _, _, _, s1, ?_⟩
      rw [if_pos rfl]
      exact hQ
    · rw [if_pos b8]
      exact ⟨trivial, _, _, _, sg_r kc (c := 126) (by decide), if_tf (fun z => absurd z e3) (fun _ => hQ)⟩
    · rw [hRc, up_s, e1, e2]
    · rw [hRc, up_n (Or.inl (by decide)), f2 12 c (Or.inl (by decide)), hIz, up_s]
  -- a spread
  have s1 := sg_c (D := D + 4) (J1 := J1) k1 (c := 126) (by decide)
  rw [tf_t e3] at s1
  obtain ⟨Ic, Rd, Sd, k2, k3, k4, k5, k6, k7⟩ := adv_ta (D := D + 2) (D' := D' + 2) (J1 := J1) kc (by omega)
  have fin : ∀ {r5 r6 : Int32} {Ie : (Nat → Nat → Int32)} {Re : (Nat → Nat → Int32)} {Se : (Nat → Nat → Int64)}, C1 (D + 5) 156 [.ref 11] Ic J1 (.int r5) Ie J1 → C2 (D' + 4) 29 [.ref 0] Rd Sd (.int r6) Re Se → (∀ Q : mj_R → Prop, E1 170 (D + 5) Q 75 [(0, .ref 11), (1, .int (nI j)), (2, .int (nI w)), (3, .int r1), (4, .int r5)] Ie J1 → E1 170 (D + 5) Q 17 [(0, .ref 11), (1, .int (nI j)), (2, .int (nI w))] I1 J1) ∧ (∀ Q : mj_R → Prop, E2 27 (D' + 4) Q 78 [(0, .ref 0), (1, .int (nI (40 * d + j))), (2, .int (nI (w + 1)))] (mj_up Re 12 c r6) Se → E2 27 (D' + 4) Q 78 [(0, .ref 0), (1, .int (nI (40 * d + j))), (2, .int (nI w))] I2 J2) := fun {r5 r6 Ie Re Se} q1 q2 => by
    refine ⟨fun Q hQ => hcl Q ⟨0, s0, ?_⟩, fun Q hQ => rhd Q ?_⟩
    · rw [if_pos rfl]
      refine ⟨trivial, _, _, _, c1, trivial, _, _, _, s1, ?_⟩
      rw [if_neg (by decide)]
      exact ⟨trivial, _, _, k2, trivial, _, _, _, q1, hQ⟩
    · rw [if_pos b8]
      exact ⟨trivial, _, _, _, sg_r kc (c := 126) (by decide), if_tf (fun _ => ⟨trivial, _, _, k3, trivial, _, _, _, q2, vc, hQ⟩) (fun z => absurd e3 z)⟩
  have f11 : Rd 11 c = r1 := by rw [k5 11 c (Or.inl (by decide)), hRc, up_s, e1, e2]
  rcases k7 with ⟨p2, a2, t2', v2, l2, o2, k8, hp2, -⟩ | ⟨p2, k8⟩
  · obtain ⟨r5, r6, Ie, Je, Re, Se, c5, c6, hJe, f5, f6, f7, hr5⟩ := num_both (D := D + 1) (D' := D' + 1) (J1 := J1) k8
    rw [hJe] at c5
    obtain ⟨q1, q2⟩ := fin c5 c6
    refine ⟨r1, r5, Ie, mj_up Re 12 c r6, Se, q1, q2, fun q z z1 => ?_, fun q z z1 z2 => ?_, fun q z z1 => ?_, ?_⟩
    · rw [f5 q z z1, k4 q z (by omega), f1 q z z1]
    · rw [up_n (by omega), f6 q z z1, k5 q z z1]; exact fz q z z1 z2
    · rw [f7 q z z1, k6 q z z1, f3 q z z1]
    · rcases hr5 with ⟨-, g1, g2, hv2, p3, a3, t3, v3, l3, o3, m1, m2⟩ | ⟨k9, p3, m1⟩
      · refine Or.inl ⟨p3, a3, t3, v3, l3, o3, tkR_u2 m1 (by decide), by omega, Or.inr ⟨v, hv, e1⟩, ⟨v2, hv2, g1⟩, ?_, ?_⟩
        · rw [up_n (Or.inl (by decide)), f6 11 c (Or.inl (by decide))]; exact f11
        · rw [up_s, g1, g2]
      · exact Or.inr ⟨k9, p3, tkD_u2 m1 (by decide)⟩
  · obtain ⟨Ie, Je, c5, hJe, f5, m1, -⟩ := dd_num (D := D + 3) (J1 := J1) k8
    rw [hJe] at c5
    obtain ⟨q1, q2⟩ := fin c5 (r29_D (D := D' + 3) (tkD_8 k8).2)
    refine ⟨r1, 0, Ie, mj_up Rd 12 c 0, Sd, q1, q2, fun q z z1 => ?_, fun q z z1 z2 => ?_, fun q z z1 => ?_, Or.inr ⟨1, p2, tkD_u2 m1 (by decide)⟩⟩
    · rw [f5 q z (by omega), k4 q z (by omega), f1 q z z1]
    · rw [up_n (by omega), k5 q z z1]; exact fz q z z1 z2
    · rw [k6 q z z1, f3 q z z1]
theorem row_both {j : Nat} (hj : j < 40) (hd : d < 2) (hW : W ≤ 4) :
    ∀ k w p a t v l o I1 I2 J2, w + k = W → tkR n x p a t v l o I1 I2 J2 → I1 15 0 = nI W → I2 2 d = nI W → I2 0 35 = nI d → ∃ I1' I2' J2', (∀ Q : mj_R → Prop, Q (.null, (I1', J1, mj_R1)) → E1 170 (D + 5) Q 17 [(0, .ref 11), (1, .int (nI j)), (2, .int (nI w))] I1 J1) ∧ (∀ Q : mj_R → Prop, E2 27 (D' + 4) Q 193 [(0, .ref 0)] I2' J2' → E2 27 (D' + 4) Q 78 [(0, .ref 0), (1, .int (nI (40 * d + j))), (2, .int (nI w))] I2 J2) ∧ rwC j w W I1 I1' ∧ rwQ (4 * (40 * d + j)) w W I2 I2' ∧ lxgJ J2 J2' ∧ ((∃ p' a' t' v' l' o', tkR n x p' a' t' v' l' o' I1' I2' J2' ∧ p ≤ p' ∧ ∀ u, w ≤ u → u < W → I2' 11 (4 * (40 * d + j) + u) = I1' 18 (160 + 4 * j + u) ∧ (I1' 18 (160 + 4 * j + u) = -1 ∨ amt (I1' 18 (160 + 4 * j + u))) ∧ I2' 12 (4 * (40 * d + j) + u) = I1' 19 (4 * j + u) ∧ amt (I1' 19 (4 * j + u))) ∨ ∃ k p, tkD k p I1' I2')
  | 0, w, p, a, t, v, l, o, I1, I2, J2, hwk, hk, hN, hN2, h35 => by
    obtain rfl : w = W := by omega
    refine ⟨I1, I2, J2, fun Q hQ => ?_, fun Q hQ => ?_, fun _ _ _ _ _ => rfl, fun _ _ _ _ => rfl, fun _ _ _ => rfl, Or.inl ⟨p, a, t, v, l, o, hk, Nat.le_refl _, fun u h1 h2 => absurd h2 (by omega)⟩⟩
    · refine mj_on (s170_17 _ _ ?_)
      rw [z_c, hN]
      exact ⟨vp_in_nI (n := 0) (by decide) (by decide), if_le (by omega) (by omega) (fun _ => hQ) (fun z => absurd z (by omega))⟩
    · refine mj_on (s27_78 _ _ ?_)
      rw [h35, nI_clamp (by omega), hN2]
      exact ⟨vp_in_nI hd (by decide), if_le (by omega) (by omega) (fun _ => hQ) (fun z => absurd z (by omega))⟩
  | k + 1, w, p, a, t, v, l, o, I1, I2, J2, hwk, hk, hN, hN2, h35 => by
    obtain ⟨y1, y2, Ia, Ra, Sa, c1, c2, f1, f2, f3, hr⟩ := cell_both (D := D) (D' := D') (J1 := J1) (w := w) hj hd hW (by omega) hk hN hN2 h35
    obtain ⟨Ib, hIb⟩ : ∃ Ib, Ib = mj_up (mj_up Ia 18 (160 + 4 * j + w) y1) 19 (4 * j + w) y2 := ⟨_, rfl⟩
    have hNa : Ib 15 0 = nI W := by rw [hIb, up_n (Or.inl (by decide)), up_n (Or.inl (by decide)), f1 15 0 (Or.inl (by decide))]; exact hN
    have h2a : Ra 2 d = nI W := by rw [f2 2 d (Or.inl (by decide)) (Or.inl (by decide))]; exact hN2
    have h35a : Ra 0 35 = nI d := by rw [f2 0 35 (by omega) (by omega)]; exact h35
    rcases hr with ⟨p1, a1, t1, v1, l1, o1, k1, hp, g1, g2, g3, g4⟩ | ⟨k1, p1, k2⟩
    · have kb : tkR n x p1 a1 t1 v1 l1 o1 Ib Ra Sa := tkR_cg k1 (fun q z hz => by rw [hIb, up_n (by omega), up_n (by omega)]) (fun _ _ _ => rfl) rfl
      obtain ⟨Ic, Rc, Sc, q1, q2, q3, q4, q5, q6⟩ := row_both hj hd hW k (w + 1) p1 a1 t1 v1 l1 o1 Ib Ra Sa (by omega) kb hNa h2a h35a
      refine ⟨Ic, Rc, Sc, fun Q hQ => c1 Q (c75 hj (by omega) (by rw [← hIb]; exact q1 Q hQ)), fun Q hQ => c2 Q (q2 Q hQ), fun q z z1 z2 z3 => ?_, fun q z z1 z2 => ?_, fun q z z1 => ?_, ?_⟩
      · rw [q3 q z z1 (by omega) (by omega), hIb, up_n (by omega), up_n (by omega), f1 q z (by omega)]
      · rw [q4 q z z1 (by omega), f2 q z z1 (by omega)]
      · rw [q5 q z z1, f3 q z z1]
      · rcases q6 with ⟨p', a', t', v', l', o', m1, m2, m3⟩ | m1
        · refine Or.inl ⟨p', a', t', v', l', o', m1, by omega, fun u h1 h2 => ?_⟩
          by_cases e : u = w
          · rw [e, q3 18 _ (Or.inl (by decide)) (by omega) (by omega), q3 19 _ (Or.inl (by decide)) (by omega) (by omega), q4 11 _ (Or.inl (by decide)) (by omega), q4 12 _ (Or.inl (by decide)) (by omega), hIb, up_s, up_n (Or.inl (by decide)), up_s]
            exact ⟨g3, g1, g4, g2⟩
          · exact m3 u (by omega) h2
        · exact Or.inr m1
    · obtain ⟨Ic, q1, q2, q3⟩ := dd_row (D := D + 3) (J1 := J1) (I1 := Ib) (w := w + 1) hj hW (by rw [hIb]; exact tkD_u1 (tkD_u1 k2 (by decide)) (by decide)) hNa (by omega)
      refine ⟨Ic, Ra, Sa, fun Q hQ => c1 Q (c75 hj (by omega) (by rw [← hIb]; exact q1 Q hQ)), fun Q hQ => c2 Q ?_, fun q z z1 z2 z3 => ?_, fun q z z1 z2 => f2 q z z1 (by omega), f3, Or.inr ⟨k1, p1, q2⟩⟩
      · refine mj_on (s27_78 _ _ ?_)
        rw [h35a, nI_clamp (by omega), h2a, if_neg (tkD_8 k2).1]
        refine ⟨vp_in_nI hd (by decide), if_i (fun _ => hQ) (fun _ => hQ)⟩
      · rw [q3 q z z1 (by omega) (by omega), hIb, up_n (by omega), up_n (by omega), f1 q z (by omega)]
end Sa9e
