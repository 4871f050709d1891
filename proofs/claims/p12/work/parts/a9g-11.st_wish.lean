section Sa9g_11
variable {n d W Rn Kn Tn Hn Un S F mc : Nat} {x : Nat → Nat} {B1 B2 : Nat → Nat → Int32} {BJ : Nat → Nat → Int64}
variable {D D' E p a t v : Nat} {l : List Nat} {o : Int} {I1 I2 : Nat → Nat → Int32} {J1 J2 : Nat → Nat → Int64}
/-- a wish -/
theorem st_wish (h : RS n x d B1 B2 BJ W Rn Kn Tn Hn Un S F mc p a t v l o I1 I2 J2) (ho : o = (0 : Nat)) : STO n x d B1 B2 BJ D D' mc p J1 I1 I2 J2 := by
  have hk := h.1
  have hD := h.2.2.1
  obtain ⟨⟨n0, n1, n2, n3, n4, n5⟩, ⟨m0, m1, m2, m3, m4, m5⟩, hd, b0, b1, b2, b3, b4, b5⟩ := TD_N hD
  have t3 := (tk_w hk (w := 0) (by decide) ho).1
  have h7 := own_n hk (by decide) ho
  obtain ⟨Ia, Ra, Sa, k1, k2⟩ := cnt_both (D := D + 5) (D' := D' + 2) (J1 := J1) (y1 := tf (W = 4)) (y2 := tf (0 < Rn + Tn + Hn)) h t3 rfl rfl
  have c145' := c145 (D := D + 7) (J1 := J1) hD (k := 0) (by decide)
  have ee : erl 0 W Rn Tn Hn ↔ 0 < Rn + Tn + Hn := ⟨fun q => by rcases q with ⟨-, q⟩ | ⟨q, -⟩ <;> omega, fun q => Or.inl ⟨rfl, q⟩⟩
  rw [tf_iff ee] at c145'
  have v0 : vp_in (0 : Int32) 6 := vp_in_nI (n := 0) (by decide) (by decide)
  have rin : ∀ {R : (Nat → Nat → Int32)} {S' : (Nat → Nat → Int64)} {r : mj_R}, E2 19 (D' + 5) (fun y => y = (.null, (R, S', mj_R2))) 59 [(0, .ref 0)] Ra Sa → E2 17 (D' + 6) (fun y => y = r) 296 [(0, .ref 0)] R S' → mj_Cl mj_S2 mj_CD (D' + 7) 17 [.ref 0] (I2, J2, mj_R2) r := fun {R S' r} q1 q2 => r17_0 (D := D' + 5) hk ho (r19_in hD k1 q1) q2
  rcases k2 with ⟨f, c, q⟩ | ⟨f, e, c, q⟩ | ⟨f, e, c, -, q⟩
  · exact ⟨Ia, Ra, Sa, c143_full (k := 0) h7 (by decide) n0 mst_0 (by decide) f c, fun r hr => rin (r19_D (D := D' + 4) (DS_8 q).1 (DS_8 q).2 rfl) hr, Or.inr q⟩
  · rw [tf_t e] at c145'
    exact ⟨Ia, Ra, Sa, c143_early (k := 0) h7 (by decide) n0 mst_0 (by decide) (by omega) c145' c, fun r hr => rin (r19_D (D := D' + 4) (DS_8 q).1 (DS_8 q).2 rfl) hr, Or.inr q⟩
  rw [tf_f e] at c145'
  have hlt : W < 4 := by omega
  rcases q with ⟨p1, a1, t1, v1, l1, o1, q, hp⟩ | q
  rotate_left
  · obtain ⟨Ib, c2, q2⟩ := e_wish (D := D + 5) (J1 := J1) q
    exact ⟨Ib, Ra, Sa, c143_go (k := 0) h7 (by decide) n0 mst_0 (by decide) hlt c145' c (Or.inl ⟨rfl, c2⟩), fun r hr => rin (r19_D (D := D' + 4) (DS_8 q).1 (DS_8 q).2 rfl) hr, Or.inr q2⟩
  have n0a : Ia 15 0 = nI W := (TD_N q.2.2.1).1.1
  obtain ⟨r, Ib, Rb, Sb, c2, c3, f1, f2, q2⟩ := name_both (D := D + 3) (D' := D' + 2) (J1 := J1) (i := 0) (N := W) q (Or.inl ⟨rfl, rfl, hlt⟩)
  rcases q2 with ⟨hl, hr, f3, p2, a2, t2, v2, l2, o2, q3, hp2⟩ | q2
  rotate_left
  · obtain ⟨Ic, c4, q4, -⟩ := e_bl (D := D + 6) (J1 := J1) q2
    refine ⟨Ic, Rb, Sb, c143_go (k := 0) h7 (by decide) n0 mst_0 (by decide) hlt c145' c (Or.inl ⟨rfl, mj_mk (e146 ⟨v0, trivial, _, _, c2, ?_⟩)⟩), fun r hr => rin (mj_on (s19_59 ?_)) hr, Or.inr q4⟩
    · rw [(DS_own q2).2, if_neg (by decide), if_neg (by decide)]
      exact ⟨trivial, _, _, c4, rfl⟩
    · refine ⟨trivial, _, _, _, c3, ?_⟩
      rw [if_neg (DS_8 q2).1]
      refine mj_on (s19_100 _ ?_)
      rw [if_neg (DS_8 q2).2]
  rw [show 40 * 0 + W = W by omega] at f3
  obtain ⟨-, ⟨fA1, fA2, fA3⟩, hD1, hS1, hF1, hm1⟩ := q
  obtain ⟨⟨n0, n1, n2, n3, n4, n5⟩, ⟨m0, m1, m2, m3, m4, m5⟩, -⟩ := TD_N hD1
  have h35 := hD1.1
  have hb8 := r_8 q3
  have hb8' : Rb 0 8 ≤ 0 := by rw [hb8]; decide
  have g35 : Rb 0 35 = nI d := by rw [f1 0 35 (by omega)]; exact h35
  have g2 : Rb 2 d = nI W := by rw [f1 2 d (by omega)]; exact m0
  have vd : vp_in (nI d) 2 := vp_in_nI hd (by decide)
  have own : ∀ {w : Nat} {y : Int32}, w < 17 → y = nI w → (Ib 11 7 = y ↔ o2 = w) := fun hw hy => own_eq q3 hw hy
  by_cases lm : o2 = (6 : Nat) ∨ o2 = (7 : Nat)
  rotate_left
  · -- no less, no more
    have l6 : ¬ o2 = (6 : Nat) := fun z => lm (Or.inl z)
    have l7 : ¬ o2 = (7 : Nat) := fun z => lm (Or.inr z)
    obtain ⟨Ic, Rc, c4, c5, c6, c7, c8⟩ := bl_both (D := D + 6) (D' := D' + 4) (J1 := J1) (k := 1) q3 (by decide) (by decide)
    have hw8 := c8.2.2.2.2.2.2.1
    have n8 : ¬ Rc 0 8 = 0 := by rw [hw8]; decide
    have n8' : ¬ Rc 0 8 ≤ 0 := by rw [hw8]; decide
    refine ⟨Ic, Rc, Sb, c143_go (k := 0) h7 (by decide) (TD_N hD).1.1 mst_0 (by decide) hlt c145' c (Or.inl ⟨rfl, mj_mk (e146 ⟨v0, trivial, _, _, c2, ?_⟩)⟩), fun r hr => rin (mj_on (s19_59 ?_)) hr, Or.inr ⟨⟨_, _, c8⟩, ⟨fun q j z1 z2 => ?_, fun q j z1 z2 z3 => ?_, fun q j z1 z2 => ?_⟩, ⟨S, RS_S h, ?_⟩, ⟨W + 1, by omega, ?_⟩, ⟨Un, b5, ?_⟩⟩⟩
    · rw [if_neg (show ¬ Ib 11 7 = (6 : Int32) from fun z => l6 ((own (w := 6) (by decide) rfl).mp z)), if_neg (show ¬ Ib 11 7 = (7 : Int32) from fun z => l7 ((own (w := 7) (by decide) rfl).mp z))]
      exact ⟨trivial, _, _, c4, rfl⟩
    · refine ⟨trivial, _, _, _, c3, ?_⟩
      rw [if_pos hb8]
      refine ⟨trivial, _, _, _, wd_r (w := 6) q3 (by decide), if_tf (fun z => absurd z l6) (fun _ => ⟨trivial, _, _, _, wd_r (w := 7) q3 (by decide), if_tf (fun z => absurd z l7) (fun _ => ⟨trivial, _, _, c5, mj_on (s19_100 _ ?_)⟩)⟩)⟩
      rw [if_neg n8']
    · rw [c6 q j (Or.inl z1), f3 q j (Or.inl z1), up_n (by omega), up_n (by omega)]; exact fA1 q j z1 z2
    · rw [c7 q j (by unfold tsz at z1; omega), f1 q j (by unfold tsz at z1; omega)]; exact fA2 q j z1 z2 z3
    · rw [f2 q j z1]; exact fA3 q j z1 z2
    · rw [c6 14 9 (by omega), f3 14 9 (by omega), up_n (by omega), up_n (by omega)]; exact hD1.2.1
    · rw [c6 15 0 (by omega), f3 15 0 (by omega), up_s]
    · rw [c6 15 5 (by omega), f3 15 5 (by omega), up_n (by omega), up_n (by omega)]; exact n5
  · obtain ⟨mo, hmo⟩ : ∃ mo : Prop, mo = (o2 = (7 : Nat)) := ⟨_, rfl⟩
    obtain ⟨Ic, hIc⟩ : ∃ Ic, Ic = mj_up Ib 17 W (tf mo) := ⟨_, rfl⟩
    obtain ⟨Rc, hRc⟩ : ∃ Rc, Rc = mj_up (mj_up Rb 9 (4 * d + W) (tf mo)) 2 d (nI (W + 1)) := ⟨_, rfl⟩
    obtain ⟨Sc, hSc⟩ : ∃ Sc, Sc = mj_up Sb 8 (4 * d + W) r := ⟨_, rfl⟩
    have q4 : tkR n x p2 a2 t2 v2 l2 o2 Ib Rb Sc := tkR_cg q3 (fun _ _ _ => rfl) (fun _ _ _ => rfl) (by rw [hSc, up_n (by omega)])
    have q5 : tkR n x p2 a2 t2 v2 l2 o2 Ic Rc Sc := tkR_cg q4 (fun q j z => by rw [hIc, up_n (by omega)]) (fun q j z => by rw [hRc, up_n (by omega), up_n (by omega)]) rfl
    have t3' : t2 = 3 := by
      rcases lm with z | z
      · exact (tk_w q3 (w := 6) (by decide) z).1
      · exact (tk_w q3 (w := 7) (by decide) z).1
    obtain ⟨Id, Rd, Sd, c4, c5, c6, c7, c8, c9⟩ := adv_ta (D := D + 4) (D' := D' + 3) (J1 := J1) q5 (by omega)
    have e7 : Ib 11 7 = (7 : Int32) ↔ mo := by rw [hmo]; exact own (w := 7) (by decide) rfl
    have k33 : E1 146 (D + 7) (fun y => y = (.null, (Id, J1, mj_R1))) 33 [(0, .ref 11), (1, .int (nI W))] Ib J1 := by
      refine mj_on (s146_33 _ ?_)
      rw [nI_clamp (by omega), nar_1, nar_0]
      refine if_i (fun z => ⟨vp_in_nI hlt (by decide), mj_on (s146_56 ?_)⟩) (fun z => ⟨vp_in_nI hlt (by decide), mj_on (s146_56 ?_)⟩)
      · rw [tf_t (e7.mp z)] at hIc
        rw [← hIc]
        exact ⟨trivial, _, _, c4, rfl⟩
      · rw [tf_f (fun w => z (e7.mpr w))] at hIc
        rw [← hIc]
        exact ⟨trivial, _, _, c4, rfl⟩
    have k146 : C1 (D + 8) 146 [.ref 11] Ia J1 .null Id J1 := by
      refine mj_mk (e146 ⟨v0, trivial, _, _, c2, ?_⟩)
      rw [z_c, n0a]
      exact if_i (fun _ => k33) (fun z6 => if_i (fun _ => k33) (fun z7 => absurd lm (fun w => w.elim (fun w => z6 ((own (w := 6) (by decide) rfl).mpr w)) (fun w => z7 ((own (w := 7) (by decide) rfl).mpr w)))))
    have k100 : E2 19 (D' + 5) (fun y => y = (.null, (Rd, Sd, mj_R2))) 100 [(0, .ref 0), (1, .long r)] Rb Sb := by
      refine mj_on (s19_100 _ ?_)
      rw [if_pos hb8', g35, nI_clamp (by omega), g2, show (4 : Int32) = nI 4 from rfl, pk_mul, nI_add, nI_clamp (by omega), ← hSc]
      have wr := wd_r (D := D' + 4) (w := 7) q4 (by decide)
      rw [← hmo] at wr
      refine ⟨vd, vp_in_nI (by omega) (by decide), vd, trivial, _, _, _, wr, vp_in_nI (by omega) (by decide), ?_⟩
      have nar : vp_nar .boolean (tf mo) = tf mo := by
        rcases tf_01 mo with z | z
        · rw [z, nar_0]
        · rw [z, nar_1]
      rw [g35, nI_clamp (by omega), g2, nI_1, nar, ← hRc]
      exact ⟨vd, vd, trivial, _, _, c5, rfl⟩
    have k59 : E2 19 (D' + 5) (fun y => y = (.null, (Rd, Sd, mj_R2))) 59 [(0, .ref 0)] Ra Sa := by
      refine mj_on (s19_59 ?_)
      refine ⟨trivial, _, _, _, c3, ?_⟩
      rw [if_pos hb8]
      exact ⟨trivial, _, _, _, wd_r (w := 6) q3 (by decide), if_tf (fun _ => k100) (fun z6 => ⟨trivial, _, _, _, wd_r (w := 7) q3 (by decide), if_tf (fun _ => k100) (fun z7 => absurd lm (fun w => w.elim z6 z7))⟩)⟩
    have fC : ∀ q j, (q ≠ 11 ∨ j = 9) → (q ≠ 16 ∨ j ≠ W) → (q ≠ 15 ∨ j ≠ 0) → (q ≠ 17 ∨ j ≠ W) → Id q j = Ia q j := fun q j z1 z2 z3 z4 => by
      rw [c6 q j (by omega), hIc, up_n (by omega), f3 q j (by omega), up_n (by omega), up_n (by omega)]
    have fR : ∀ q j, (q ≠ 0 ∨ (j ≠ 3 ∧ j ≠ 4 ∧ j ≠ 5 ∧ j ≠ 6 ∧ j ≠ 8 ∧ j ≠ 9)) → (q ≠ 2 ∨ j ≠ d) → (q ≠ 9 ∨ j ≠ 4 * d + W) → Rd q j = Ra q j := fun q j z1 z2 z3 => by
      rw [c7 q j z1, hRc, up_n (by omega), up_n (by omega)]; exact f1 q j z1
    have fJ : ∀ q j, (q ≠ 0 ∨ j ≠ 7) → (q ≠ 8 ∨ j ≠ 4 * d + W) → Sd q j = Sa q j := fun q j z1 z2 => by
      rw [c8 q j z1, hSc, up_n (by omega)]; exact f2 q j z1
    have gA : tfA d B1 B2 BJ Id Rd Sd := by
      refine ⟨fun q j z1 z2 => ?_, fun q j z1 z2 z3 => ?_, fun q j z1 z2 => ?_⟩
      · rw [fC q j (Or.inl z1) (by omega) (by omega) (by omega)]; exact fA1 q j z1 z2
      · rw [fR q j (by unfold tsz at z1; omega) (by unfold oub at z3; omega) (by unfold oub at z3; omega)]; exact fA2 q j z1 z2 z3
      · rw [fJ q j z1 (by unfold oub at z2; omega)]; exact fA3 q j z1 z2
    have g0 : Id 15 0 = nI (W + 1) := by rw [c6 15 0 (by omega), hIc, up_n (by omega), f3 15 0 (by omega), up_s]
    refine ⟨Id, Rd, Sd, c143_go (k := 0) h7 (by decide) (TD_N hD).1.1 mst_0 (by decide) hlt c145' c (Or.inl ⟨rfl, k146⟩), fun r hr => rin k59 hr, ?_⟩
    rcases c9 with ⟨p3, a3, t3, v3, l3, o3, w1, w2, -⟩ | ⟨p3, w1⟩
    rotate_left
    · refine Or.inr ⟨⟨_, _, w1⟩, gA, ⟨S, RS_S h, ?_⟩, ⟨W + 1, by omega, g0⟩, ⟨Un, b5, ?_⟩⟩
      · rw [fC 14 9 (by omega) (by omega) (by omega) (by omega)]; exact hD1.2.1
      · rw [fC 15 5 (by omega) (by omega) (by omega) (by omega)]; exact n5
    refine Or.inl ⟨W + 1, Rn, Kn, Tn, Hn, Un, S, F, p3, a3, t3, v3, l3, o3, ⟨w1, gA, ?_, by omega, by omega, ?_⟩, by omega⟩
    · have hO := TDo_up (I1' := Id) (I2' := Rd) (J2' := Sd) hD1.2.2.2.2.2 b0 (fun q j z => fC q j (by unfold inC at z; omega) (by unfold inC at z; omega) (by unfold inC at z; omega) (by unfold inC at z; omega)) (fun q j z => fR q j (by unfold inR at z; omega) (by unfold inR at z; omega) (by unfold inR at z; omega)) (fun q j z => fJ q j (by unfold inJ at z; omega) (by unfold inJ at z; omega))
      refine TD_new hD1 (fC 14 9 (by omega) (by omega) (by omega) (by omega)) (fR 0 35 (by omega) (by omega) (by omega)) (fR 0 34 (by omega) (by omega) (by omega)) (fun j => fC 23 j (by omega) (by omega) (by omega) (by omega)) ⟨?_, ?_, ?_, ?_, ?_, ?_, ?_, ?_, ?_, ?_, ?_, ?_, hd, by omega, b1, b2, b3, b4, b5⟩ ?_
      · exact g0
      · exact (fC 15 1 (by omega) (by omega) (by omega) (by omega)).trans n1
      · exact (fC 15 2 (by omega) (by omega) (by omega) (by omega)).trans n2
      · exact (fC 15 3 (by omega) (by omega) (by omega) (by omega)).trans n3
      · exact (fC 15 4 (by omega) (by omega) (by omega) (by omega)).trans n4
      · exact (fC 15 5 (by omega) (by omega) (by omega) (by omega)).trans n5
      · rw [c7 2 d (by omega), hRc, up_s]
      · exact (fR 3 d (by omega) (by omega) (by omega)).trans m1
      · exact (fR 4 d (by omega) (by omega) (by omega)).trans m2
      · exact (fR 5 d (by omega) (by omega) (by omega)).trans m3
      · exact (fR 6 d (by omega) (by omega) (by omega)).trans m4
      · exact (fR 7 d (by omega) (by omega) (by omega)).trans m5
      · obtain ⟨g1, g2, g3, g4, ⟨g5, g6, g7, g8⟩, g9⟩ := hO
        refine ⟨fun w hw => ?_, fun r hr => absurd hr (by omega), fun t ht => absurd ht (by omega), fun k hk => absurd hk (by omega), ⟨fun k hk' => ?_, g6, g7, g8⟩, tlV_up g9 (by omega) (Nat.le_refl _) (Nat.le_refl _) (Nat.le_refl _) (fun _ _ _ => rfl) (fun _ _ _ => rfl)⟩
        · by_cases e : w = W
          · rw [e]
            show Rd 9 (4 * d + W) = Id 17 W ∧ (Id 17 W = 0 ∨ Id 17 W = 1)
            rw [c6 17 W (by omega), c7 9 _ (by omega), hIc, hRc, up_s, up_n (by omega), up_s]
            exact ⟨rfl, tf_01 mo⟩
          · exact g1 w (by omega)
        · by_cases e : k = W
          · rw [e]
            show nmq (Id 16 W) _
            rw [c6 16 W (by omega), hIc, up_n (by omega), f3 16 _ (by omega), up_n (by omega), c8 8 _ (by omega), hSc, up_s, up_s, hr]
            exact nmq_l hl
          · exact g5 k (by omega)
    · exact ⟨(fC 14 0 (by omega) (by omega) (by omega) (by omega)).trans hm1.1, (fC 11 9 (by omega) (by omega) (by omega) (by omega)).trans hm1.2⟩
end Sa9g_11

