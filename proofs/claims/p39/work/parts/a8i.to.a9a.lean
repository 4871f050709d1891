section
/-! reading a test: facts, and all of a test, on both sides -/
def LT (n : Nat) (x : Nat → Nat) (d s0 f0 W H : Nat) (B1 B2 : (Nat → Nat → Int32)) (BJ : (Nat → Nat → Int64)) (E : Nat) (r h : Nat) (nx : Int → Prop) (op kd bs : Nat) (K : List Nat) (L : (Nat → Nat → Int32)) (A1 A2 : (List (Nat × Nat))) (p : Nat) (I1' I2 : (Nat → Nat → Int32)) (J2 : (Nat → Nat → Int64)) : Prop :=
  (∃ p' a' t' v' l' o' ph' c1 c2 kk I2' J2', gA E I2 J2 I2' J2' ∧ TS n x d s0 f0 B1 B2 BJ op kd ph' bs 0 (K ++ kk) L (A1 ++ c1) (A2 ++ c2) p' a' t' v' l' o' I1' I2' J2' ∧ I2' 0 45 = 1 ∧ I1' 11 9 = nI op ∧ fr2 W H true h c1 (c2 ++ pops kk) ∧ (∀ c ∈ kk, r ≤ rnk c) ∧ p < p' ∧ c1.length + p ≤ p' ∧ f0 + (A2 ++ c2).length + (bs + (K ++ kk).length) ≤ p' ∧ 3 * (bs + (K ++ kk).length) ≤ 18 * op + 18 + p' ∧ ph' ≠ 0 ∧ (ph' = 2 ∨ nx5 t' v') ∧ nx o') ∨
  (∃ I2' J2', gD E I2 J2 I2' J2' ∧ DD d s0 f0 B1 B2 BJ I1' I2' J2')
/-- tests are read alike, with u more brackets to open -/
def TestOK (n : Nat) (x : Nat → Nat) (d s0 f0 W H : Nat) (B1 B2 : (Nat → Nat → Int32)) (BJ : (Nat → Nat → Int64)) (J1 : (Nat → Nat → Int64)) (E u : Nat) : Prop := ∀ (D op kd bs : Nat) (L : (Nat → Nat → Int32)) (A1 A2 : (List (Nat × Nat))) (p a t v : Nat) (l : List Nat) (o : Int) (I1 I2 : (Nat → Nat → Int32)) (J2 : (Nat → Nat → Int64)), 4 * u + 15 ≤ D → op + u = 8 → (kd = 1 ∨ kd = 5) → TS n x d s0 f0 B1 B2 BJ op kd 0 bs 1 [] L A1 A2 p a t v l o I1 I2 J2 → I2 0 45 = 0 → I1 11 9 = nI op → s0 + A1.length ≤ p → f0 + A2.length + (bs + 0) ≤ p → 3 * (bs + 0) ≤ 18 * op + p →
  ∃ I1', C1 D 157 [.ref 11] I1 J1 .null I1' J1 ∧ LT n x d s0 f0 W H B1 B2 BJ E 1 (3 * u + 6) (fun o => o ≠ 9 ∧ o ≠ 8) op kd bs [] L A1 A2 p I1' I2 J2
section Sa8i
variable {n d s0 f0 W H : Nat} {x : Nat → Nat} {B1 B2 : Nat → Nat → Int32} {BJ : Nat → Nat → Int64}
variable {D D' E op kd ph bs p a t v u : Nat} {l : List Nat} {o : Int} {bg : Int32} {K : List Nat} {A1 A2 : List (Nat × Nat)} {L I1 I2 : Nat → Nat → Int32} {J1 J2 : Nat → Nat → Int64}
/-- the reference at the head of a fact -/
theorem part_tst {r : Value} {I' : (Nat → Nat → Int32)} {J' : (Nat → Nat → Int64)} (hkd : kd = 1 ∨ kd = 5) (h : TS n x d s0 f0 B1 B2 BJ op kd ph bs 1 K L A1 A2 p a t v l o I1 I2 J2) (hq : E2 35 (D + 1) (fun y => y = (r, (I', J', mj_R2))) 34 [(0, .ref 0), (1, .int (nI op)), (2, .int 1)] I2 J2) : mj_Cl mj_S2 mj_CD (D + 2) 35 [.ref 0] (I2, J2, mj_R2) (r, (I', J', mj_R2)) := by
  refine part_in h ?_
  rw [tf_t (show fst1 kd 1 from ⟨hkd, rfl⟩)]
  exact hq
theorem part_60 {Q : mj_R → Prop} (h : TS n x d s0 f0 B1 B2 BJ op kd ph bs bg K L A1 A2 p a t v l o I1 I2 J2) (ho : o ≠ (10 : Nat)) (hq : (t = 1 ∧ v = 91) → ∃ I' J', C2 (D + 1) 38 [.ref 0, .int 5] (mj_up I2 25 op 0) J2 .null I' J' ∧ Q (.int 0, (I', J', mj_R2))) (hq2 : ¬ (t = 1 ∧ v = 91) → E2 35 (D + 1) Q 87 [(0, .ref 0), (1, .int (nI op)), (2, .int 1)] (mj_up I2 25 op 0) J2) : E2 35 (D + 1) Q 34 [(0, .ref 0), (1, .int (nI op)), (2, .int 1)] I2 J2 := by
  have a5 := h.2.2.2.2.1.2.2.2.2.1
  have vp : vp_in (nI op) 20 := vp_in_nI (by omega) (by decide)
  have h' := (TS_bg (y := 0) h (Or.inl rfl)).1
  refine mj_on (s35_34 _ _ ?_)
  rw [if_neg (by decide)]
  refine ⟨trivial, _, _, _, wd_r (w := 10) h.1 (by decide), if_tf (fun y => absurd y ho) (fun _ => ?_)⟩
  refine mj_on (s35_60 _ _ ?_)
  rw [nI_clamp (by omega), if_neg (by decide)]
  refine ⟨vp, trivial, _, _, _, sg_r (c := 91) h' (by decide), if_tf (fun y => ?_) hq2⟩
  obtain ⟨I', J', q1, q2⟩ := hq y
  exact ⟨trivial, _, _, q1, Or.inl rfl, q2⟩
/-- not, on both sides -/
theorem ts_not (hkd : kd = 1 ∨ kd = 5) (ho : o = (10 : Nat)) (h : TS n x d s0 f0 B1 B2 BJ op kd ph bs 1 K L A1 A2 p a t v l o I1 I2 J2) (h45 : I2 0 45 = 0) (q1 : s0 + A1.length ≤ p) (q3 : bs + K.length < 499) :
    ∃ Ia Ra Sa, C1 (D + 3) 139 [.ref 11] I1 J1 .null Ia J1 ∧ Ia 11 9 = I1 11 9 ∧ ((gD E I2 J2 Ra Sa ∧ DD d s0 f0 B1 B2 BJ Ia Ra Sa) ∨ (gA E I2 J2 Ra Sa ∧ Ra 0 45 = 0 ∧ ∃ p' a' t' v' l' o', TS n x d s0 f0 B1 B2 BJ op kd ph bs 1 (K ++ [16]) L A1 A2 p' a' t' v' l' o' Ia Ra Sa ∧ p + 3 ≤ p')) := by
  have hn := tk_n2 h.1
  obtain ⟨t3, hl⟩ := tk_w h.1 (w := 10) (by decide) ho
  have l3 : l.length = 3 := by rw [hl]; rfl
  obtain ⟨Ih, b1, b2, b3⟩ := ts_hold (D := E + 3) (c := 16) h (by omega) (by decide)
  obtain ⟨Ia, Ra, Sa, k1, k2, k3, k4, k5⟩ := ts_adv (D := D) (D' := E + 2) (J1 := J1) b2 (by omega) (by omega)
  have c35 : C2 (E + 5) 35 [.ref 0] I2 J2 (.int 0) Ra Sa := part_tst (D := E + 3) hkd h (by
    refine mj_on (s35_34 _ _ ?_)
    rw [if_neg (by decide)]
    exact ⟨trivial, _, _, _, wd_r (w := 10) h.1 (by decide), if_tf (fun _ => ⟨trivial, _, _, b1, trivial, _, _, k2, Or.inl rfl, rfl⟩) (fun y => absurd ho y)⟩)
  refine ⟨Ia, mj_up Ra 0 45 0, Sa, k1, k4, ?_⟩
  rcases k5 with ⟨p', a', t', v', l', o', w1, w2, w3⟩ | ⟨w1, -⟩
  · exact Or.inr ⟨g_part h45 c35 (Or.inl rfl) w1.1.2.2.2.2.2.2.2.2.2.2.2.2.2.1, up_s, p', a', t', v', l', o', TS_45 w1, by have := w3 t3; omega⟩
  · exact Or.inl ⟨g_partD h45 c35 (Or.inl rfl) (DD_8 w1).1, DD_45 w1⟩
set_option maxHeartbeats 16000000 in
/-- a fact behind its nots -/
theorem f40 {F : Nat} {tw : Int32} {Q : mj_R → Prop} (hS : stc d W H B1 B2 BJ) (IH : ∀ w, u = w + 1 → TestOK n x d s0 f0 W H B1 B2 BJ J1 E w) (hF : 4 * u ≤ F) (hu : op + u = 8) (hkd : kd = 1 ∨ kd = 5) (h : TS n x d s0 f0 B1 B2 BJ op kd 0 bs 1 K L A1 A2 p a t v l o I1 I2 J2) (h45 : I2 0 45 = 0) (h9 : I1 11 9 = nI op) (ho : o ≠ (10 : Nat)) (hK : ∀ c ∈ K, rnk c < 4) (q1 : s0 + A1.length ≤ p) (q2 : f0 + A2.length + (bs + K.length) ≤ p) (q3 : 3 * (bs + K.length) ≤ 18 * op + 6 + p)
    (hQ : ∀ Ib, LT n x d s0 f0 W H B1 B2 BJ E 4 (3 * u + 4) (fun _ => True) op kd bs K L A1 A2 p Ib I2 J2 → E1 159 (F + 12) Q 160 [(0, .ref 11), (1, .int tw)] Ib J1) : E1 159 (F + 12) Q 40 [(0, .ref 11), (1, .int tw)] I1 J1 := by
  have hn := tk_n2 h.1
  have hbM : bs + K.length < 490 := by omega
  have h' := TS_bg (y := 0) h (Or.inl rfl)
  obtain ⟨Ib, hIb⟩ : ∃ Ib, Ib = mj_up I2 25 op 0 := ⟨_, rfl⟩
  have h8 := h'.1.2.2.2.2.2.2.2.2.2.2.2.2.2.1
  refine mj_on (s159_40 _ ?_)
  refine ⟨trivial, _, _, _, sg_c (c := 91) h.1 (by decide), if_tf (fun e => ?_) (fun e => ?_)⟩
  · -- a bracket
    obtain ⟨r, Ic, Rc, Sc, k1, k2, k3⟩ := ts_open (D := F + 8) (E := E) (J1 := J1) (c := 91) (k := 5) (by decide) (by decide) h' e.1 e.2 h9 q1 (by omega)
    have c35 : C2 (E + 5) 35 [.ref 0] I2 J2 (.int 0) Rc Sc := part_tst (D := E + 3) hkd h (part_60 (D := E + 3) h ho (fun _ => ⟨Rc, Sc, k2, rfl⟩) (fun z => absurd e z))
    rcases k3 with ⟨rfl, k3⟩ | ⟨rfl, k3⟩ | ⟨rfl, k3, k4, k5, k6, k7, p2, a2, t2', v2, l2, o2, k8, k9⟩
    · refine ⟨trivial, _, _, _, k1, ?_⟩
      rw [if_pos rfl]
      exact hQ Ic (Or.inr ⟨_, _, g_partD h45 c35 (Or.inl rfl) (DD_8 k3).1, DD_45 k3⟩)
    · obtain ⟨Ia, a1, b1⟩ := d_test (D := F + 4) (J1 := J1) k3
      obtain ⟨Id, a2, b2⟩ := d_take (D := F + 10) (J1 := J1) (c := 93) b1
      refine ⟨trivial, _, _, _, k1, ?_⟩
      rw [if_neg (by decide)]
      exact ⟨trivial, _, _, a1, trivial, _, _, a2, hQ _ (Or.inr ⟨_, _, g_partD h45 c35 (Or.inl rfl) (DD_8 b2).1, DD_45 (DD_119 b2)⟩)⟩
    · obtain ⟨y, rfl⟩ : ∃ y, u = y + 1 := ⟨u - 1, by omega⟩
      have hn2 := tk_n2 k8.1
      have g0 : gA E I2 J2 (mj_up Rc 0 45 0) Sc := g_part h45 c35 (Or.inl rfl) k8.1.2.2.2.2.2.2.2.2.2.2.2.2.2.1
      obtain ⟨I3, c3, n3⟩ := IH y rfl (F + 12) (op + 1) 5 (bs + K.length) Rc A1 A2 p2 a2 t2' v2 l2 o2 Ic (mj_up Rc 0 45 0) Sc (by omega) (by omega) (Or.inr rfl) (TS_45 k8) up_s k5 (by omega) (by omega) (by omega)
      refine ⟨trivial, _, _, _, k1, ?_⟩
      rw [if_neg (by decide)]
      refine ⟨trivial, _, _, c3, ?_⟩
      rcases n3 with ⟨p3, a3, t3, v3, l3, o3, ph3, x1, x2, kk, R3, S3, m1, m2, m3, m4, m5, m6, m7, m8, m9, m10, m11, m12, m13⟩ | ⟨R3, S3, m1, m2⟩
      · have hn3 := tk_n2 m2.1
        have e00 : ([] ++ kk).length = kk.length := rfl
        rw [e00] at m9 m10
        obtain ⟨I6, R6, S6, c6, c69, n6⟩ := ts_close (D := F + 8) (E := E) (J1 := J1) (k := 5) (c := 93) (pr := 0) hS (Or.inr ⟨rfl, rfl⟩) m2 m3 m12 (fun _ => ⟨m11, m13.2, m13.1⟩) h'.2.2.2.2.2 k6 (fun i _ => k7 i) (fun z => by omega) (by rw [List.length_append]; omega) m9 (by omega)
        refine ⟨trivial, _, _, c6, hQ _ ?_⟩
        rcases n6 with ⟨g6, d6⟩ | ⟨g6, z46, p6, a6, t6, v6, l6, o6, m14, m15⟩
        · exact Or.inr ⟨R6, S6, gA_D g0 (gA_D m1 g6), DD_119 d6⟩
        · rw [if_pos rfl, if_neg (by decide), List.append_nil] at m14
          have hn6 := tk_n2 m14.1
          refine Or.inl ⟨p6, a6, t6, v6, l6, o6, 2, x1, x2 ++ pops kk, [], R6, S6, gA_tr g0 (gA_tr m1 g6), ?_, z46, ?_, ?_, fun c hc => (by cases hc), by omega, by omega, ?_, ?_, by decide, Or.inl rfl, trivial⟩
          · rw [List.append_nil, ← List.append_assoc]
            exact TS_119 m14
          · rw [up_s, c69, m4, nI_pred]
          · rw [pops_nil, List.append_nil]
            exact fr2_up m5 (by omega)
          · simp only [List.length_append, pops_len, List.append_nil] at m9 ⊢
            omega
          · simp only [List.append_nil]
            omega
      · obtain ⟨Id, a2, b2⟩ := d_take (D := F + 10) (J1 := J1) (c := 93) m2
        exact ⟨trivial, _, _, a2, hQ _ (Or.inr ⟨R3, S3, gA_D g0 m1, DD_119 b2⟩)⟩
  by_cases o11 : o = (11 : Nat)
  · -- all
    rw [if_pos ((own_eq (y := 11) h.1 (w := 11) (by decide) rfl).mpr o11)]
    have t3 : t = 3 := (tk_w h.1 (by decide) o11).1
    have hpn : p < n := (tk_n h.1).2.2.1 (by omega)
    obtain ⟨Ic, m1, m2, m3⟩ := ts_addR (D := E + 3) (c := 3) (y := 0) hS h' (by omega)
    obtain ⟨Id, g1, g2, g3⟩ := ts_addC (D := F + 10) (J1 := J1) (c := 3) (y := 0) (TS_ph (y := 2) m2 (by decide)) (by omega) (by decide)
    obtain ⟨Ia, Ra, Sa, k1, k2, k3, k4, k5⟩ := ts_adv (D := F + 9) (D' := E + 2) (J1 := J1) g2 (by omega) (by rw [List.length_append]; show s0 + (A1.length + 1) ≤ 900; omega)
    have a5 := h.2.2.2.2.1.2.2.2.2.1
    have vp : vp_in (nI op) 20 := vp_in_nI (by omega) (by decide)
    have c35 : C2 (E + 5) 35 [.ref 0] I2 J2 (.int 1) Ra Sa := part_tst (D := E + 3) hkd h (part_60 (D := E + 3) h ho (fun z => absurd z e) (fun _ => by
      refine mj_on (s35_87 _ _ ?_)
      rw [if_neg (by decide)]
      refine ⟨trivial, _, _, _, wd_r (w := 11) h'.1 (by decide), if_tf (fun _ => ?_) (fun y => absurd o11 y)⟩
      refine ⟨trivial, _, _, m1, vp, ?_⟩
      rw [nI_clamp (by omega)]
      exact ⟨trivial, _, _, k2, Or.inr rfl, rfl⟩))
    refine ⟨trivial, _, _, g1, trivial, _, _, k1, hQ Ia ?_⟩
    rcases k5 with ⟨p', a', t', v', l', o', w1, w2, -⟩ | ⟨w1, -⟩
    · refine Or.inl ⟨p', a', t', v', l', o', 2, [(3, 0)], [(3, 0)], [], _, _, g_part h45 c35 (Or.inr rfl) w1.1.2.2.2.2.2.2.2.2.2.2.2.2.2.1, by rw [List.append_nil]; exact TS_45 w1, up_s, by rw [k4, g3, h9], ?_, fun c hc => (by cases hc), w2, by show 1 + p ≤ p'; omega, ?_, ?_, by decide, Or.inl rfl, trivial⟩
      · rw [pops_nil, List.append_nil]
        exact fr2_up (fr2_leaf (W := W) (H := H) (c := 3) (v := 0) (by decide) ⟨fun z => by omega, fun z => by omega, fun z => by omega, fun _ => rfl⟩) (by omega)
      · rw [List.length_append, List.append_nil]; show f0 + (A2.length + 1) + (bs + K.length) ≤ p'; omega
      · rw [List.append_nil]; omega
    · exact Or.inr ⟨_, _, g_partD h45 c35 (Or.inr rfl) (DD_8 w1).1, DD_45 w1⟩
  rw [if_neg (fun z => o11 ((own_eq (y := 11) h.1 (w := 11) (by decide) rfl).mp z))]
  by_cases o12 : o = (12 : Nat)
  · -- has
    rw [if_pos ((own_eq (y := 12) h.1 (w := 12) (by decide) rfl).mpr o12)]
    have t3 : t = 3 := (tk_w h.1 (by decide) o12).1
    have a5 := h.2.2.2.2.1.2.2.2.2.1
    have vp : vp_in (nI op) 20 := vp_in_nI (by omega) (by decide)
    obtain ⟨Ia, r, Ic, Id, Ra, Sa, k1, k2, k3, k4, k5⟩ := ts_named (D := F + 7) (E := E) (J1 := J1) (c := 4) (i := 4) hS (Or.inr ⟨rfl, rfl⟩) (TS_ph (y := 2) h' (by decide)) (by omega) q1 (by omega)
    have c35 : C2 (E + 5) 35 [.ref 0] I2 J2 (.int 1) Ra Sa := part_tst (D := E + 3) hkd h (part_60 (D := E + 3) h ho (fun z => absurd z e) (fun _ => by
      refine mj_on (s35_87 _ _ ?_)
      rw [if_neg (by decide)]
      refine ⟨trivial, _, _, _, wd_r (w := 11) h'.1 (by decide), if_tf (fun y => absurd y o11) (fun _ => ?_)⟩
      refine mj_on (s35_120 _ _ ?_)
      rw [if_neg (by decide)]
      refine ⟨trivial, _, _, _, wd_r (w := 12) h'.1 (by decide), if_tf (fun _ => ⟨vp, ?_⟩) (fun y => absurd o12 y)⟩
      rw [nI_clamp (by omega)]
      exact ⟨trivial, _, _, k4, Or.inr rfl, rfl⟩))
    refine ⟨trivial, _, _, k1, trivial, _, _, _, k2, trivial, _, _, k3, hQ Id ?_⟩
    rcases k5 with ⟨k, p', a', t', v', l', o', w1, w2, w3, w4, w5, -, w6⟩ | w1
    · refine Or.inl ⟨p', a', t', v', l', o', 2, [(4, k)], [(4, k)], [], _, _, g_part h45 c35 (Or.inr rfl) w1.1.2.2.2.2.2.2.2.2.2.2.2.2.2.1, by rw [List.append_nil]; exact TS_45 w1, up_s, by rw [w5, h9], ?_, fun c hc => (by cases hc), w2, by show 1 + p ≤ p'; omega, ?_, ?_, by decide, Or.inl rfl, trivial⟩
      · rw [pops_nil, List.append_nil]
        exact fr2_up (fr2_leaf (W := W) (H := H) (c := 4) (v := k) (by decide) ⟨fun z => by omega, fun z => by omega, fun _ => w6 rfl, fun z => by omega⟩) (by omega)
      · rw [List.length_append, List.append_nil]; show f0 + (A2.length + 1) + (bs + K.length) ≤ p'; omega
      · rw [List.append_nil]; omega
    · exact Or.inr ⟨_, _, g_partD h45 c35 (Or.inr rfl) (DD_8 w1).1, DD_45 w1⟩
  rw [if_neg (fun z => o12 ((own_eq (y := 12) h.1 (w := 12) (by decide) rfl).mp z))]
  -- a comparison
  have nsp : ¬ spcl t v o := fun z => z.elim e (fun z => z.elim ho (fun z => z.elim o11 o12))
  obtain ⟨Ia, c1, n1⟩ := sum_all (E := E) (J1 := J1) hS u (F + 12) op kd 0 bs 1 K L A1 A2 p a t v l o I1 I2 J2 (by omega) hu h h45 h9 (by decide) (fun _ => nsp) (fun c hc => by have := hK c hc; omega) q1 q2 (by omega)
  have dead : ∀ {Iz : (Nat → Nat → Int32)} {R : (Nat → Nat → Int32)} {S : (Nat → Nat → Int64)}, C1 (F + 12) 164 [.ref 11] I1 J1 .null Iz J1 → DD d s0 f0 B1 B2 BJ Iz R S → gD E I2 J2 R S → (True ∧ ∃ (I7 : (Nat → Nat → Int32)) (J7 : (Nat → Nat → Int64)), mj_Cl mj_S1 mj_CD (F + 12) 164 [.ref 11] (I1, J1, mj_R1) (.null, (I7, J7, mj_R1)) ∧ (True ∧ ∃ (r8 : Int32) (I8 : (Nat → Nat → Int32)) (J8 : (Nat → Nat → Int64)), mj_Cl mj_S1 mj_CD (F + 12) 168 [.ref 11] (I7, J7, mj_R1) (.int r8, (I8, J8, mj_R1)) ∧ (True ∧ ∃ (I9 : (Nat → Nat → Int32)) (J9 : (Nat → Nat → Int64)), mj_Cl mj_S1 mj_CD (F + 12) 164 [.ref 11] (I8, J8, mj_R1) (.null, (I9, J9, mj_R1)) ∧ (True ∧ ∃ (I10 : (Nat → Nat → Int32)) (J10 : (Nat → Nat → Int64)), mj_Cl mj_S1 mj_CD (F + 12) 163 [.ref 14, .int r8, .int 0] (I9, J9, mj_R1) (.null, (I10, J10, mj_R1)) ∧ E1 159 (F + 12) Q 160 [(0, .ref 11), (1, .int tw)] I10 J10)))) := fun {Iz R S} cc dd gg => by
    obtain ⟨Ib, a2, b2⟩ := d_cmp (D := F + 10) (J1 := J1) dd
    obtain ⟨Ic, a3, b3⟩ := d_sum (D := F + 7) (J1 := J1) b2
    obtain ⟨Id, a4, b4⟩ := d_add (D := F + 10) (J1 := J1) (y := -1) (z := 0) b3
    exact ⟨trivial, _, _, cc, trivial, _, _, _, a2, trivial, _, _, a3, trivial, _, _, a4, hQ Id (Or.inr ⟨R, S, gg, b4⟩)⟩
  rcases n1 with ⟨p2, a2, t2, v2, l2, o2, x1, x2, kk, R2, S2, m1, m2, m3, m4, m5, m6, m7, m8, m9, m10, m11⟩ | ⟨R2, S2, m1, m2⟩
  · have hn2 := tk_n2 m2.1
    have e0 : (K ++ kk).length = K.length + kk.length := List.length_append
    have q12 : s0 + (A1 ++ x1).length ≤ p2 := by rw [List.length_append]; omega
    by_cases w : t2 = 1 ∧ (v2 = 60 ∨ v2 = 62 ∨ v2 = 61)
    · obtain ⟨c, hc⟩ : ∃ c, (v2 = 60 ∧ c = 11) ∨ (v2 = 62 ∧ c = 12) ∨ (v2 = 61 ∧ c = 13) := by
        rcases w.2 with z | z | z
        · exact ⟨11, Or.inl ⟨z, rfl⟩⟩
        · exact ⟨12, Or.inr (Or.inl ⟨z, rfl⟩)⟩
        · exact ⟨13, Or.inr (Or.inr ⟨z, rfl⟩)⟩
      have hcc : nI (opc c) = nI v2 ∧ 11 ≤ c ∧ c ≤ 13 ∧ rnk c = 4 := by
        rcases hc with ⟨rfl, rfl⟩ | ⟨rfl, rfl⟩ | ⟨rfl, rfl⟩
        · exact ⟨rfl, by decide, by decide, rfl⟩
        · exact ⟨rfl, by decide, by decide, rfl⟩
        · exact ⟨rfl, by decide, by decide, rfl⟩
      have hv := tk_v m2.1 w.1
      obtain ⟨Ib, Rb, Sb, k1, k9, k2⟩ := ts_comp (D := F + 8) (E := E) (J1 := J1) hS hc w.1 hkd m2 m3 (fun c hc => by have := hK c hc; omega) m6 q12 m9 (by omega)
      have c168 : C1 (F + 12) 168 [.ref 11] Ia J1 (.int (nI v2)) Ib J1 := by
        refine mj_mk (e168 ?_)
        refine ⟨trivial, _, _, _, sg_c (c := 60) m2.1 (by decide), if_tf (fun _ => ⟨trivial, _, _, k1, by rw [hv]⟩) (fun z1 => ?_)⟩
        refine ⟨trivial, _, _, _, sg_c (c := 62) m2.1 (by decide), if_tf (fun _ => ⟨trivial, _, _, k1, by rw [hv]⟩) (fun z2 => ?_)⟩
        refine ⟨trivial, _, _, _, sg_c (c := 61) m2.1 (by decide), if_tf (fun _ => ⟨trivial, _, _, k1, by rw [hv]⟩) (fun z3 => ?_)⟩
        rcases w.2 with z | z | z
        · exact absurd ⟨w.1, z⟩ z1
        · exact absurd ⟨w.1, z⟩ z2
        · exact absurd ⟨w.1, z⟩ z3
      rcases k2 with ⟨g2, d2⟩ | ⟨g2, z45, p3, a3, t3, v3, l3, o3, w1, w2⟩
      · obtain ⟨Ic, a3, b3⟩ := d_sum (D := F + 7) (J1 := J1) d2
        obtain ⟨Id, a4, b4⟩ := d_add (D := F + 10) (J1 := J1) (y := nI v2) (z := 0) b3
        exact ⟨trivial, _, _, c1, trivial, _, _, _, c168, trivial, _, _, a3, trivial, _, _, a4, hQ Id (Or.inr ⟨Rb, Sb, gA_D m1 g2, b4⟩)⟩
      · have hn3 := tk_n2 w1.1
        have e1 : (A2 ++ x2 ++ pops kk).length = (A2 ++ x2).length + kk.length := by rw [List.length_append, pops_len]
        have e2 : (K ++ [c]).length = K.length + 1 := by rw [List.length_append]; rfl
        obtain ⟨Ic, c3, n3⟩ := sum_all (E := E) (J1 := J1) hS u (F + 12) op kd 1 bs 0 (K ++ [c]) L (A1 ++ x1) (A2 ++ x2 ++ pops kk) p3 a3 t3 v3 l3 o3 Ib Rb Sb (by omega) hu w1 z45 (by rw [k9, m4]) (by decide) (fun z => absurd z.2 (by decide)) (fun e he => by
          rcases List.mem_append.mp he with z | z
          · have := hK e z; omega
          · rw [List.mem_singleton.mp z, hcc.2.2.2]; omega) (by omega) (by rw [e1, e2]; omega) (by rw [e2]; omega)
        rcases n3 with ⟨p4, a4, t4, v4, l4, o4, y1, y2, k', R4, S4, r1, r2, r3, r4, r5, r6, r7, r8, r9, r10, r11⟩ | ⟨R4, S4, r1, r2⟩
        · have hn4 := tk_n2 r2.1
          have e3 : (K ++ [c] ++ k').length = K.length + 1 + k'.length := by rw [List.length_append, e2]
          have e4 : (A2 ++ x2 ++ pops kk ++ y2).length = (A2 ++ x2).length + kk.length + y2.length := by rw [List.length_append, e1]
          rw [e3, e4] at r9
          rw [e3] at r10
          obtain ⟨Id, c4, w3, w4⟩ := ts_addC (D := F + 10) (J1 := J1) (c := c) (y := 0) r2 (by rw [List.length_append]; omega) (by decide)
          rw [hcc.1] at c4
          refine ⟨trivial, _, _, c1, trivial, _, _, _, c168, trivial, _, _, c3, trivial, _, _, c4, hQ Id (Or.inl ⟨p4, a4, t4, v4, l4, o4, 1, x1 ++ (y1 ++ [(c, 0)]), x2 ++ pops kk ++ y2, [c] ++ k', R4, S4, gA_tr m1 (gA_tr g2 r1), ?_, r3, by rw [w4, r4], ?_, ?_, by omega, ?_, ?_, ?_, by decide, Or.inr r11, trivial⟩)⟩
          · simp only [List.append_assoc] at w3 ⊢
            exact w3
          · have q := fr2_cmp (op := c) (h3 := 3 * u + 4) hcc.2.1 hcc.2.2.1 m5 r5 (by omega) (by omega)
            rw [pops_app, pops_one]
            simp only [List.append_assoc] at q ⊢
            exact q
          · intro e he
            rcases List.mem_append.mp he with z | z
            · rw [List.mem_singleton.mp z, hcc.2.2.2]; exact Nat.le_refl _
            · have := r6 e z; omega
          · rw [List.length_append, List.length_append]; show x1.length + (y1.length + 1) + p ≤ p4; omega
          · rw [← List.append_assoc, ← List.append_assoc, e4, ← List.append_assoc, e3]; omega
          · rw [← List.append_assoc, e3]; omega
        · obtain ⟨Id, a4, b4⟩ := d_add (D := F + 10) (J1 := J1) (y := nI v2) (z := 0) r2
          exact ⟨trivial, _, _, c1, trivial, _, _, _, c168, trivial, _, _, c3, trivial, _, _, a4, hQ Id (Or.inr ⟨R4, S4, gA_D m1 (gA_D g2 r1), b4⟩)⟩
    · obtain ⟨Ib, Rb, k1, k2, k3⟩ := ts_nocomp (D := F + 10) (E := E) (J1 := J1) m11 w hkd m2 m3 q12
      have c168 : C1 (F + 12) 168 [.ref 11] Ia J1 (.int (-1)) Ib J1 := by
        refine mj_mk (e168 ?_)
        refine ⟨trivial, _, _, _, sg_c (c := 60) m2.1 (by decide), if_tf (fun z => absurd ⟨z.1, Or.inl z.2⟩ w) (fun z1 => ?_)⟩
        refine ⟨trivial, _, _, _, sg_c (c := 62) m2.1 (by decide), if_tf (fun z => absurd ⟨z.1, Or.inr (Or.inl z.2)⟩ w) (fun z2 => ?_)⟩
        refine ⟨trivial, _, _, _, sg_c (c := 61) m2.1 (by decide), if_tf (fun z => absurd ⟨z.1, Or.inr (Or.inr z.2)⟩ w) (fun z3 => ?_)⟩
        exact ⟨trivial, _, _, k1, rfl⟩
      obtain ⟨Ic, a3, b3⟩ := d_sum (D := F + 7) (J1 := J1) k3
      obtain ⟨Id, a4, b4⟩ := d_add (D := F + 10) (J1 := J1) (y := -1) (z := 0) b3
      exact ⟨trivial, _, _, c1, trivial, _, _, _, c168, trivial, _, _, a3, trivial, _, _, a4, hQ Id (Or.inr ⟨Rb, S2, gA_D m1 k2, b4⟩)⟩
  · exact dead c1 m2 m1
set_option maxHeartbeats 8000000 in
theorem lp_fact {F p0 : Nat} {I0 : (Nat → Nat → Int32)} {J0 : (Nat → Nat → Int64)} (hS : stc d W H B1 B2 BJ) (IH : ∀ w, u = w + 1 → TestOK n x d s0 f0 W H B1 B2 BJ J1 E w) (hF : 4 * u ≤ F) (hu : op + u = 8) (hkd : kd = 1 ∨ kd = 5) (hK : ∀ c ∈ K, rnk c < 3) : ∀ (m j : Nat) (p a t v : Nat) (l : List Nat) (o : Int) (I1 I2 : (Nat → Nat → Int32)) (J2 : (Nat → Nat → Int64)), n - p ≤ m → j + p0 ≤ p → gA E I0 J0 I2 J2 → TS n x d s0 f0 B1 B2 BJ op kd 0 bs 1 (K ++ List.replicate j 16) L A1 A2 p a t v l o I1 I2 J2 → I2 0 45 = 0 → I1 11 9 = nI op → s0 + A1.length + j ≤ p → f0 + A2.length + (bs + K.length + j) ≤ p → 3 * (bs + K.length + j) ≤ 18 * op + 6 + p → ∀ Q : mj_R → Prop, (∀ I1', LT n x d s0 f0 W H B1 B2 BJ E 3 (3 * u + 4) (fun _ => True) op kd bs K L A1 A2 p0 I1' I0 J0 → Q (.null, (I1', J1, mj_R1))) → E1 159 (F + 12) Q 4 [(0, .ref 11), (1, .int (nI (j % 2))), (2, .int (nI j))] I1 J1 := by
  intro m
  induction m using Nat.strongRecOn with
  | _ m ih =>
  intro j p a t v l o I1 I2 J2 hm hj hg h h45 h9 q1 q2 q3 Q hQ
  have hn := tk_n2 h.1
  have e0 : (K ++ List.replicate j 16).length = K.length + j := by rw [List.length_append, List.length_replicate]
  have e40 : o ≠ (10 : Nat) → E1 159 (F + 12) Q 40 [(0, .ref 11), (1, .int (nI (j % 2)))] I1 J1 := fun ho => by
    refine f40 hS IH hF hu hkd h h45 h9 ho (fun c hc => ?_) (by omega) (by rw [e0]; omega) (by rw [e0]; omega) (fun Ib hb => ?_)
    · rcases List.mem_append.mp hc with z | z
      · have := hK c z; omega
      · rw [(List.mem_replicate.mp z).2]; decide
    refine mj_on (s159_160 _ ?_)
    rcases hb with ⟨p', a', t', v', l', o', ph', c1, c2, kk, R, S, m1, m2, m3, m4, m5, m6, m7, m8, m9, m10, m11, m12, -⟩ | ⟨R, S, m1, m2⟩
    · have hn' := tk_n2 m2.1
      have mk : ∀ Ic, TS n x d s0 f0 B1 B2 BJ op kd ph' bs 0 (K ++ List.replicate j 16 ++ kk) L (A1 ++ (c1 ++ List.replicate (j % 2) (16, 0))) (A2 ++ c2) p' a' t' v' l' o' Ic R S → Ic 11 9 = nI op → Q (.null, (Ic, J1, mj_R1)) := fun Ic w1 w2 => by
        refine hQ Ic (Or.inl ⟨p', a', t', v', l', o', ph', c1 ++ List.replicate (j % 2) (16, 0), c2, List.replicate j 16 ++ kk, R, S, gA_tr hg m1, ?_, m3, w2, ?_, ?_, by omega, ?_, ?_, ?_, m11, m12, trivial⟩)
        · rw [← List.append_assoc]; exact w1
        · rw [pops_app, pops_not, ← List.append_assoc]
          exact fr2_not m5 (by omega) j
        · intro c hc
          rcases List.mem_append.mp hc with z | z
          · rw [(List.mem_replicate.mp z).2]; decide
          · have := m6 c z; omega
        · rw [List.length_append, List.length_replicate]; omega
        · rw [← List.append_assoc]; exact m9
        · rw [← List.append_assoc]; exact m10
      by_cases jj : j % 2 = 0
      · rw [if_pos (show nI (j % 2) = 0 by rw [jj]; rfl)]
        refine mk Ib ?_ m4
        rw [jj, List.replicate_zero, List.append_nil]
        exact m2
      · have j1 : j % 2 = 1 := by omega
        rw [if_neg (show ¬ nI (j % 2) = 0 by rw [j1]; decide)]
        obtain ⟨Ic, g1, g2, g3⟩ := ts_addC (D := F + 10) (J1 := J1) (c := 16) (y := 0) m2 (by rw [List.length_append]; omega) (by decide)
        refine ⟨trivial, _, _, g1, mk Ic ?_ (by rw [g3, m4])⟩
        rw [j1, ← List.append_assoc]
        exact g2
    · refine if_i (fun _ => hQ Ib (Or.inr ⟨R, S, gA_D hg m1, m2⟩)) (fun _ => ?_)
      obtain ⟨Ic, a2, b2⟩ := d_add (D := F + 10) (J1 := J1) (y := 10) (z := 0) m2
      exact ⟨trivial, _, _, a2, hQ Ic (Or.inr ⟨R, S, gA_D hg m1, b2⟩)⟩
  refine mj_on (s159_4 _ _ ?_)
  rw [show (900 : Int32) = nI 900 from rfl]
  refine if_le (by decide) (by omega) (fun z => e40 (fun y => ?_)) (fun _ => ?_)
  · have := (tk_n h.1).2.2.1 (by have := (tk_w h.1 (w := 10) (by decide) y).1; omega)
    omega
  by_cases o10 : o = (10 : Nat)
  · rw [if_pos ((own_eq (y := 10) h.1 (w := 10) (by decide) rfl).mpr o10)]
    have t3 := (tk_w h.1 (w := 10) (by decide) o10).1
    have hpn : p < n := (tk_n h.1).2.2.1 (by omega)
    obtain ⟨m0, hm0⟩ : ∃ m', m = m' + 1 := sb_m hm hpn
    have hj2 : ∀ {A : Prop}, (∀ y : Int32, y = nI ((j + 1) % 2) → E1 159 (F + 12) Q 30 [(0, .ref 11), (1, .int y), (2, .int (nI j))] I1 J1) → (if nI (j % 2) = 0 then E1 159 (F + 12) Q 30 [(0, .ref 11), (1, .int 1), (2, .int (nI j))] I1 J1 else E1 159 (F + 12) Q 30 [(0, .ref 11), (1, .int 0), (2, .int (nI j))] I1 J1) := fun {A} q => by
      by_cases jj : j % 2 = 0
      · rw [if_pos (show nI (j % 2) = 0 by rw [jj]; rfl)]
        exact q 1 (by rw [show (j + 1) % 2 = 1 by omega]; rfl)
      · rw [if_neg (show ¬ nI (j % 2) = 0 by rw [show j % 2 = 1 by omega]; decide)]
        exact q 0 (by rw [show (j + 1) % 2 = 0 by omega]; rfl)
    refine hj2 (A := True) fun y hy => ?_
    rw [hy]
    refine mj_on (s159_30 _ _ ?_)
    rw [nI_1]
    obtain ⟨Ia, Ra, Sa, k1, k9, k2⟩ := ts_not (D := F + 9) (E := E) (J1 := J1) hkd o10 h h45 (by omega) (by rw [e0]; omega)
    refine ⟨trivial, _, _, k1, ?_⟩
    rcases k2 with ⟨g2, d2⟩ | ⟨g2, z45, p1, a1, t1, v1, l1, o1, w1, w2⟩
    · exact d_fact4 (D := F + 7) d2 (fun Ic hc => hQ Ic (Or.inr ⟨Ra, Sa, gA_D hg g2, hc⟩))
    · refine ih m0 (by omega) (j + 1) p1 a1 t1 v1 l1 o1 Ia Ra Sa (by omega) (by omega) (gA_tr hg g2) ?_ z45 (by rw [k9, h9]) (by omega) (by omega) (by omega) Q hQ
      rw [List.append_assoc, ← List.replicate_succ'] at w1
      exact w1
  · rw [if_neg (fun z => o10 ((own_eq (y := 10) h.1 (w := 10) (by decide) rfl).mp z))]
    exact e40 o10
theorem lv_fact (hS : stc d W H B1 B2 BJ) (IH : ∀ w, u = w + 1 → TestOK n x d s0 f0 W H B1 B2 BJ J1 E w) (hD : 4 * u + 13 ≤ D) (hu : op + u = 8) (hkd : kd = 1 ∨ kd = 5) (h : TS n x d s0 f0 B1 B2 BJ op kd 0 bs 1 K L A1 A2 p a t v l o I1 I2 J2) (h45 : I2 0 45 = 0) (h9 : I1 11 9 = nI op) (hK : ∀ c ∈ K, rnk c < 3) (q1 : s0 + A1.length ≤ p) (q2 : f0 + A2.length + (bs + K.length) ≤ p) (q3 : 3 * (bs + K.length) ≤ 18 * op + 6 + p) :
    ∃ I1', C1 D 159 [.ref 11] I1 J1 .null I1' J1 ∧ LT n x d s0 f0 W H B1 B2 BJ E 3 (3 * u + 4) (fun _ => True) op kd bs K L A1 A2 p I1' I2 J2 := by
  obtain ⟨F, rfl⟩ : ∃ F, D = F + 13 := ⟨D - 13, by omega⟩
  obtain ⟨I', J', hc, rfl, hL⟩ := mj_cN (S := mj_S1) (CD := mj_CD) (D := F + 12) (z := 159) (as := [.ref 11]) (h := (I1, J1, mj_R1)) (R := mj_R1) (P := fun I' J' => J' = J1 ∧ LT n x d s0 f0 W H B1 B2 BJ E 3 (3 * u + 4) (fun _ => True) op kd bs K L A1 A2 p I' I2 J2) (e159 (lp_fact (F := F) (p0 := p) hS IH (by omega) hu hkd hK (n - p) 0 p a t v l o I1 I2 J2 (Nat.le_refl _) (by omega) gA_rf (by rw [List.replicate_zero, List.append_nil]; exact h) h45 h9 (by omega) (by omega) (by omega) _ (fun I3 q => ⟨_, _, rfl, rfl, q⟩)))
  exact ⟨I', hc, hL⟩
theorem lpD_both {Q : mj_R → Prop} {y : Int32} (h : DD d s0 f0 B1 B2 BJ I1 I2 J2) (hQ : Q (.null, (I1, J1, mj_R1))) : E1 158 D Q 6 [(0, .ref 11), (1, .int y)] I1 J1 := by
  refine mj_on (s158_6 _ ?_)
  refine if_i (fun _ => hQ) (fun _ => ?_)
  rw [(d_tok h).2, if_neg (by decide)]
  exact hQ
set_option maxHeartbeats 16000000 in
theorem lp_both {F p0 : Nat} {I0 : (Nat → Nat → Int32)} {J0 : (Nat → Nat → Int64)} (hS : stc d W H B1 B2 BJ) (IH : ∀ w, u = w + 1 → TestOK n x d s0 f0 W H B1 B2 BJ J1 E w) (hF : 4 * u ≤ F) (hu : op + u = 8) (hkd : kd = 1 ∨ kd = 5) (hK : ∀ c ∈ K, rnk c < 2) (b3 : 3 * (bs + K.length) ≤ 18 * op + 3 + p0) : ∀ (m i : Nat) (x1 x2 : (List (Nat × Nat))) (kk : List Nat) (p a t v : Nat) (l : List Nat) (o : Int) (ph : Nat) (I1 I2 : (Nat → Nat → Int32)) (J2 : (Nat → Nat → Int64)), n - p ≤ m → i ≤ p → p0 < p → gA E I0 J0 I2 J2 → TS n x d s0 f0 B1 B2 BJ op kd ph bs 0 (K ++ kk) L (A1 ++ x1) (A2 ++ x2) p a t v l o I1 I2 J2 → I2 0 45 = 1 → I1 11 9 = nI op → fr2 W H true (3 * u + 5) x1 (x2 ++ pops kk) → (∀ c ∈ kk, 2 ≤ rnk c) → s0 + (A1 ++ x1).length ≤ p → f0 + (A2 ++ x2).length + (bs + (K ++ kk).length) ≤ p → 3 * (bs + (K ++ kk).length) ≤ 18 * op + 18 + p → x1.length + p0 ≤ p → ph ≠ 0 → (ph = 2 ∨ nx5 t v) → True → ∀ Q : mj_R → Prop, (∀ I1', LT n x d s0 f0 W H B1 B2 BJ E 2 (3 * u + 5) (fun o => o ≠ 9) op kd bs K L A1 A2 p0 I1' I0 J0 → Q (.null, (I1', J1, mj_R1))) → E1 158 (F + 13) Q 6 [(0, .ref 11), (1, .int (nI i))] I1 J1 := by
  intro m
  induction m using Nat.strongRecOn with
  | _ m ih =>
  intro i x1 x2 kk p a t v l o ph I1 I2 J2 hm hi hp hg h h45 h9 hf hk q1 q2 q3 q0 hph hph2 hx Q hQ
  have hn := tk_n2 h.1
  have ex : o ≠ (9 : Nat) → Q (.null, (I1, J1, mj_R1)) := fun nx => hQ I1 (Or.inl ⟨p, a, t, v, l, o, ph, x1, x2, kk, I2, J2, hg, h, h45, h9, hf, hk, hp, q0, q2, q3, hph, hph2, nx⟩)
  refine mj_on (s158_6 _ ?_)
  rw [show (900 : Int32) = nI 900 from rfl]
  refine if_le (by decide) (by omega) (fun z => ex (fun y => ?_)) (fun z => ?_)
  · have := (tk_n h.1).2.2.1 (by have := (tk_w h.1 (w := 9) (by decide) y).1; omega)
    omega
  by_cases ow : o = (9 : Nat)
  · rw [if_pos ((own_eq (y := 9) h.1 (w := 9) (by decide) rfl).mpr ow), nI_1]
    have t3 := (tk_w h.1 (w := 9) (by decide) ow).1
    have hpn : p < n := (tk_n h.1).2.2.1 (by omega)
    obtain ⟨m0, hm0⟩ : ∃ m', m = m' + 1 := sb_m hm hpn
    have hkl : bs + (K ++ kk).length < 499 := by omega
    have e0 : (K ++ kk).length = K.length + kk.length := List.length_append
    have e1 : (A2 ++ x2 ++ pops kk).length = (A2 ++ x2).length + kk.length := by rw [List.length_append, pops_len]
    have e2 : (K ++ [14]).length = K.length + 1 := by rw [List.length_append]; rfl
    obtain ⟨Ia, Ra, Sa, k1, k9, k2⟩ := ts_logic (D := F + 10) (E := E) (J1 := J1) (c := 14) (r := 2) (w := 9) hS (Or.inl ⟨rfl, rfl, rfl⟩) ow hkd hph h h45 hK hk q1 q2 hkl
    rcases k2 with ⟨g2, d2⟩ | ⟨g2, z45, p1, a1, t1, v1, l1, o1, w1, w2⟩
    · obtain ⟨Ib, a2, b2⟩ := d_fact (D := F + 7) (J1 := J1) d2
      obtain ⟨Ic, a3, b3⟩ := d_add (D := F + 11) (J1 := J1) (y := 9) (z := 0) b2
      exact ⟨trivial, _, _, k1, trivial, _, _, a2, trivial, _, _, a3, lpD_both b3 (hQ Ic (Or.inr ⟨Ra, Sa, gA_D hg g2, b3⟩))⟩
    · have hn1 := tk_n2 w1.1
      obtain ⟨Ib, c2, n2⟩ := lv_fact (D := F + 13) (E := E) (J1 := J1) hS IH (by omega) hu hkd w1 z45 (by rw [k9, h9]) (fun e he => by
        rcases List.mem_append.mp he with z | z
        · have := hK e z; omega
        · rw [List.mem_singleton.mp z]; decide) (by omega) (by rw [e1, e2]; omega) (by rw [e2]; omega)
      rcases n2 with ⟨p2, a2, t2, v2, l2, o2, ph2, y1, y2, k', Rb, Sb, m1, m2, m3, m4, m5, m6, m7, m8, m9, m10, m11, m12, m13⟩ | ⟨Rb, Sb, m1, m2⟩
      · have hn2 := tk_n2 m2.1
        have e3 : (K ++ [14] ++ k').length = K.length + 1 + k'.length := by rw [List.length_append, e2]
        have e4 : (A2 ++ x2 ++ pops kk ++ y2).length = (A2 ++ x2).length + kk.length + y2.length := by rw [List.length_append, e1]
        have e5 : (A1 ++ x1 ++ y1).length = (A1 ++ x1).length + y1.length := List.length_append
        rw [e3, e4] at m9
        rw [e3] at m10
        obtain ⟨Ic, c3, w3, w4⟩ := ts_addC (D := F + 11) (J1 := J1) (c := 14) (y := 0) m2 (by rw [e5]; omega) (by decide)
        refine ⟨trivial, _, _, k1, trivial, _, _, c2, trivial, _, _, c3, ?_⟩
        refine ih m0 (by omega) (i + 1) (x1 ++ (y1 ++ [(14, 0)])) (x2 ++ pops kk ++ y2) ([14] ++ k') p2 a2 t2 v2 l2 o2 ph2 Ic Rb Sb (sb_n hm hm0 (by omega) (by omega)) (by omega) (by omega) (gA_tr hg (gA_tr g2 m1)) ?_ m3 (by rw [w4, m4]) ?_ ?_ ?_ ?_ ?_ ?_ m11 m12 trivial Q hQ
        · simp only [List.append_assoc] at w3 ⊢
          exact w3
        · have q := fr2_log (op := 14) (h3 := 3 * u + 5) (by decide) hf m5 (by omega) (by omega)
          rw [pops_app, pops_one]
          simp only [List.append_assoc] at q ⊢
          exact q
        · intro e he
          rcases List.mem_append.mp he with z | z
          · rw [List.mem_singleton.mp z]; decide
          · have := m6 e z; omega
        · rw [← List.append_assoc, List.length_append, List.length_append, List.length_append]
          show s0 + ((A1.length + x1.length) + (y1.length + 1)) ≤ p2
          rw [List.length_append] at q1
          omega
        · rw [← List.append_assoc, ← List.append_assoc, e4, ← List.append_assoc, e3]; omega
        · rw [← List.append_assoc, e3]; omega
        · rw [List.length_append, List.length_append]; show x1.length + (y1.length + 1) + p0 ≤ p2; omega
      · obtain ⟨Ic, a3, b3⟩ := d_add (D := F + 11) (J1 := J1) (y := 9) (z := 0) m2
        exact ⟨trivial, _, _, k1, trivial, _, _, c2, trivial, _, _, a3, lpD_both b3 (hQ Ic (Or.inr ⟨Rb, Sb, gA_D hg (gA_D g2 m1), b3⟩))⟩
  · rw [if_neg (fun z => ow ((own_eq (y := 9) h.1 (w := 9) (by decide) rfl).mp z))]
    exact ex ow
set_option maxHeartbeats 4000000 in
theorem lv_both (hS : stc d W H B1 B2 BJ) (IH : ∀ w, u = w + 1 → TestOK n x d s0 f0 W H B1 B2 BJ J1 E w) (hD : 4 * u + 14 ≤ D) (hu : op + u = 8) (hkd : kd = 1 ∨ kd = 5) (h : TS n x d s0 f0 B1 B2 BJ op kd 0 bs 1 K L A1 A2 p a t v l o I1 I2 J2) (h45 : I2 0 45 = 0) (h9 : I1 11 9 = nI op) (hK : ∀ c ∈ K, rnk c < 2) (q1 : s0 + A1.length ≤ p) (q2 : f0 + A2.length + (bs + K.length) ≤ p) (q3 : 3 * (bs + K.length) ≤ 18 * op + 3 + p) :
    ∃ I1', C1 D 158 [.ref 11] I1 J1 .null I1' J1 ∧ LT n x d s0 f0 W H B1 B2 BJ E 2 (3 * u + 5) (fun o => o ≠ 9) op kd bs K L A1 A2 p I1' I2 J2 := by
  obtain ⟨F, rfl⟩ : ∃ F, D = F + 14 := ⟨D - 14, by omega⟩
  obtain ⟨Ia, c1, n1⟩ := lv_fact (D := F + 13) (E := E) (J1 := J1) hS IH (by omega) hu hkd h h45 h9 (fun e he => by have := hK e he; omega) q1 q2 (by omega)
  have key : ∀ Q : mj_R → Prop, (∀ I1', LT n x d s0 f0 W H B1 B2 BJ E 2 (3 * u + 5) (fun o => o ≠ 9) op kd bs K L A1 A2 p I1' I2 J2 → Q (.null, (I1', J1, mj_R1))) → E1 158 (F + 13) Q 6 [(0, .ref 11), (1, .int 0)] Ia J1 := fun Q hQ => by
    rcases n1 with ⟨p2, a2, t2, v2, l2, o2, ph2, y1, y2, k', Rb, Sb, m1, m2, m3, m4, m5, m6, m7, m8, m9, m10, m11, m12, m13⟩ | ⟨Rb, Sb, m1, m2⟩
    · exact lp_both hS IH (by omega) hu hkd hK q3 (n - p2) 0 y1 y2 k' p2 a2 t2 v2 l2 o2 ph2 Ia Rb Sb (Nat.le_refl _) (by omega) m7 m1 m2 m3 m4 (fr2_up m5 (by omega)) (fun e he => by have := m6 e he; omega) (by rw [List.length_append]; omega) m9 m10 m8 m11 m12 trivial Q hQ
    · exact lpD_both m2 (hQ Ia (Or.inr ⟨Rb, Sb, m1, m2⟩))
  obtain ⟨I', J', hc, rfl, hL⟩ := mj_cN (S := mj_S1) (CD := mj_CD) (D := F + 13) (z := 158) (as := [.ref 11]) (h := (I1, J1, mj_R1)) (R := mj_R1) (P := fun I' J' => J' = J1 ∧ LT n x d s0 f0 W H B1 B2 BJ E 2 (3 * u + 5) (fun o => o ≠ 9) op kd bs K L A1 A2 p I' I2 J2) (e158 ⟨trivial, _, _, c1, key _ (fun I3 q => ⟨_, _, rfl, rfl, q⟩)⟩)
  exact ⟨I', hc, hL⟩
theorem lpD_test {Q : mj_R → Prop} {y : Int32} (h : DD d s0 f0 B1 B2 BJ I1 I2 J2) (hQ : Q (.null, (I1, J1, mj_R1))) : E1 157 D Q 6 [(0, .ref 11), (1, .int y)] I1 J1 := by
  refine mj_on (s157_6 _ ?_)
  refine if_i (fun _ => hQ) (fun _ => ?_)
  rw [(d_tok h).2, if_neg (by decide)]
  exact hQ
set_option maxHeartbeats 16000000 in
theorem lp_test {F p0 : Nat} {I0 : (Nat → Nat → Int32)} {J0 : (Nat → Nat → Int64)} (hS : stc d W H B1 B2 BJ) (IH : ∀ w, u = w + 1 → TestOK n x d s0 f0 W H B1 B2 BJ J1 E w) (hF : 4 * u ≤ F) (hu : op + u = 8) (hkd : kd = 1 ∨ kd = 5) (hK : ∀ c ∈ K, rnk c < 1) (b3 : 3 * (bs + K.length) ≤ 18 * op + 0 + p0) : ∀ (m i : Nat) (x1 x2 : (List (Nat × Nat))) (kk : List Nat) (p a t v : Nat) (l : List Nat) (o : Int) (ph : Nat) (I1 I2 : (Nat → Nat → Int32)) (J2 : (Nat → Nat → Int64)), n - p ≤ m → i ≤ p → p0 < p → gA E I0 J0 I2 J2 → TS n x d s0 f0 B1 B2 BJ op kd ph bs 0 (K ++ kk) L (A1 ++ x1) (A2 ++ x2) p a t v l o I1 I2 J2 → I2 0 45 = 1 → I1 11 9 = nI op → fr2 W H true (3 * u + 6) x1 (x2 ++ pops kk) → (∀ c ∈ kk, 1 ≤ rnk c) → s0 + (A1 ++ x1).length ≤ p → f0 + (A2 ++ x2).length + (bs + (K ++ kk).length) ≤ p → 3 * (bs + (K ++ kk).length) ≤ 18 * op + 18 + p → x1.length + p0 ≤ p → ph ≠ 0 → (ph = 2 ∨ nx5 t v) → o ≠ 9 → ∀ Q : mj_R → Prop, (∀ I1', LT n x d s0 f0 W H B1 B2 BJ E 1 (3 * u + 6) (fun o => o ≠ 9 ∧ o ≠ 8) op kd bs K L A1 A2 p0 I1' I0 J0 → Q (.null, (I1', J1, mj_R1))) → E1 157 (F + 14) Q 6 [(0, .ref 11), (1, .int (nI i))] I1 J1 := by
  intro m
  induction m using Nat.strongRecOn with
  | _ m ih =>
  intro i x1 x2 kk p a t v l o ph I1 I2 J2 hm hi hp hg h h45 h9 hf hk q1 q2 q3 q0 hph hph2 hx Q hQ
  have hn := tk_n2 h.1
  have ex : o ≠ (8 : Nat) → Q (.null, (I1, J1, mj_R1)) := fun nx => hQ I1 (Or.inl ⟨p, a, t, v, l, o, ph, x1, x2, kk, I2, J2, hg, h, h45, h9, hf, hk, hp, q0, q2, q3, hph, hph2, hx, nx⟩)
  refine mj_on (s157_6 _ ?_)
  rw [show (900 : Int32) = nI 900 from rfl]
  refine if_le (by decide) (by omega) (fun z => ex (fun y => ?_)) (fun z => ?_)
  · have := (tk_n h.1).2.2.1 (by have := (tk_w h.1 (w := 8) (by decide) y).1; omega)
    omega
  by_cases ow : o = (8 : Nat)
  · rw [if_pos ((own_eq (y := 8) h.1 (w := 8) (by decide) rfl).mpr ow), nI_1]
    have t3 := (tk_w h.1 (w := 8) (by decide) ow).1
    have hpn : p < n := (tk_n h.1).2.2.1 (by omega)
    obtain ⟨m0, hm0⟩ : ∃ m', m = m' + 1 := sb_m hm hpn
    have hkl : bs + (K ++ kk).length < 499 := by omega
    have e0 : (K ++ kk).length = K.length + kk.length := List.length_append
    have e1 : (A2 ++ x2 ++ pops kk).length = (A2 ++ x2).length + kk.length := by rw [List.length_append, pops_len]
    have e2 : (K ++ [15]).length = K.length + 1 := by rw [List.length_append]; rfl
    obtain ⟨Ia, Ra, Sa, k1, k9, k2⟩ := ts_logic (D := F + 11) (E := E) (J1 := J1) (c := 15) (r := 1) (w := 8) hS (Or.inr ⟨rfl, rfl, rfl⟩) ow hkd hph h h45 hK hk q1 q2 hkl
    rcases k2 with ⟨g2, d2⟩ | ⟨g2, z45, p1, a1, t1, v1, l1, o1, w1, w2⟩
    · obtain ⟨Ib, a2, b2⟩ := d_both (D := F + 7) (J1 := J1) d2
      obtain ⟨Ic, a3, b3⟩ := d_add (D := F + 12) (J1 := J1) (y := 8) (z := 0) b2
      exact ⟨trivial, _, _, k1, trivial, _, _, a2, trivial, _, _, a3, lpD_test b3 (hQ Ic (Or.inr ⟨Ra, Sa, gA_D hg g2, b3⟩))⟩
    · have hn1 := tk_n2 w1.1
      obtain ⟨Ib, c2, n2⟩ := lv_both (D := F + 14) (E := E) (J1 := J1) hS IH (by omega) hu hkd w1 z45 (by rw [k9, h9]) (fun e he => by
        rcases List.mem_append.mp he with z | z
        · have := hK e z; omega
        · rw [List.mem_singleton.mp z]; decide) (by omega) (by rw [e1, e2]; omega) (by rw [e2]; omega)
      rcases n2 with ⟨p2, a2, t2, v2, l2, o2, ph2, y1, y2, k', Rb, Sb, m1, m2, m3, m4, m5, m6, m7, m8, m9, m10, m11, m12, m13⟩ | ⟨Rb, Sb, m1, m2⟩
      · have hn2 := tk_n2 m2.1
        have e3 : (K ++ [15] ++ k').length = K.length + 1 + k'.length := by rw [List.length_append, e2]
        have e4 : (A2 ++ x2 ++ pops kk ++ y2).length = (A2 ++ x2).length + kk.length + y2.length := by rw [List.length_append, e1]
        have e5 : (A1 ++ x1 ++ y1).length = (A1 ++ x1).length + y1.length := List.length_append
        rw [e3, e4] at m9
        rw [e3] at m10
        obtain ⟨Ic, c3, w3, w4⟩ := ts_addC (D := F + 12) (J1 := J1) (c := 15) (y := 0) m2 (by rw [e5]; omega) (by decide)
        refine ⟨trivial, _, _, k1, trivial, _, _, c2, trivial, _, _, c3, ?_⟩
        refine ih m0 (by omega) (i + 1) (x1 ++ (y1 ++ [(15, 0)])) (x2 ++ pops kk ++ y2) ([15] ++ k') p2 a2 t2 v2 l2 o2 ph2 Ic Rb Sb (sb_n hm hm0 (by omega) (by omega)) (by omega) (by omega) (gA_tr hg (gA_tr g2 m1)) ?_ m3 (by rw [w4, m4]) ?_ ?_ ?_ ?_ ?_ ?_ m11 m12 m13 Q hQ
        · simp only [List.append_assoc] at w3 ⊢
          exact w3
        · have q := fr2_log (op := 15) (h3 := 3 * u + 6) (by decide) hf m5 (by omega) (by omega)
          rw [pops_app, pops_one]
          simp only [List.append_assoc] at q ⊢
          exact q
        · intro e he
          rcases List.mem_append.mp he with z | z
          · rw [List.mem_singleton.mp z]; decide
          · have := m6 e z; omega
        · rw [← List.append_assoc, List.length_append, List.length_append, List.length_append]
          show s0 + ((A1.length + x1.length) + (y1.length + 1)) ≤ p2
          rw [List.length_append] at q1
          omega
        · rw [← List.append_assoc, ← List.append_assoc, e4, ← List.append_assoc, e3]; omega
        · rw [← List.append_assoc, e3]; omega
        · rw [List.length_append, List.length_append]; show x1.length + (y1.length + 1) + p0 ≤ p2; omega
      · obtain ⟨Ic, a3, b3⟩ := d_add (D := F + 12) (J1 := J1) (y := 8) (z := 0) m2
        exact ⟨trivial, _, _, k1, trivial, _, _, c2, trivial, _, _, a3, lpD_test b3 (hQ Ic (Or.inr ⟨Rb, Sb, gA_D hg (gA_D g2 m1), b3⟩))⟩
  · rw [if_neg (fun z => ow ((own_eq (y := 8) h.1 (w := 8) (by decide) rfl).mp z))]
    exact ex ow
set_option maxHeartbeats 4000000 in
theorem lv_test (hS : stc d W H B1 B2 BJ) (IH : ∀ w, u = w + 1 → TestOK n x d s0 f0 W H B1 B2 BJ J1 E w) (hD : 4 * u + 15 ≤ D) (hu : op + u = 8) (hkd : kd = 1 ∨ kd = 5) (h : TS n x d s0 f0 B1 B2 BJ op kd 0 bs 1 K L A1 A2 p a t v l o I1 I2 J2) (h45 : I2 0 45 = 0) (h9 : I1 11 9 = nI op) (hK : ∀ c ∈ K, rnk c < 1) (q1 : s0 + A1.length ≤ p) (q2 : f0 + A2.length + (bs + K.length) ≤ p) (q3 : 3 * (bs + K.length) ≤ 18 * op + 0 + p) :
    ∃ I1', C1 D 157 [.ref 11] I1 J1 .null I1' J1 ∧ LT n x d s0 f0 W H B1 B2 BJ E 1 (3 * u + 6) (fun o => o ≠ 9 ∧ o ≠ 8) op kd bs K L A1 A2 p I1' I2 J2 := by
  obtain ⟨F, rfl⟩ : ∃ F, D = F + 15 := ⟨D - 15, by omega⟩
  obtain ⟨Ia, c1, n1⟩ := lv_both (D := F + 14) (E := E) (J1 := J1) hS IH (by omega) hu hkd h h45 h9 (fun e he => by have := hK e he; omega) q1 q2 (by omega)
  have key : ∀ Q : mj_R → Prop, (∀ I1', LT n x d s0 f0 W H B1 B2 BJ E 1 (3 * u + 6) (fun o => o ≠ 9 ∧ o ≠ 8) op kd bs K L A1 A2 p I1' I2 J2 → Q (.null, (I1', J1, mj_R1))) → E1 157 (F + 14) Q 6 [(0, .ref 11), (1, .int 0)] Ia J1 := fun Q hQ => by
    rcases n1 with ⟨p2, a2, t2, v2, l2, o2, ph2, y1, y2, k', Rb, Sb, m1, m2, m3, m4, m5, m6, m7, m8, m9, m10, m11, m12, m13⟩ | ⟨Rb, Sb, m1, m2⟩
    · exact lp_test hS IH (by omega) hu hkd hK q3 (n - p2) 0 y1 y2 k' p2 a2 t2 v2 l2 o2 ph2 Ia Rb Sb (Nat.le_refl _) (by omega) m7 m1 m2 m3 m4 (fr2_up m5 (by omega)) (fun e he => by have := m6 e he; omega) (by rw [List.length_append]; omega) m9 m10 m8 m11 m12 m13 Q hQ
    · exact lpD_test m2 (hQ Ia (Or.inr ⟨Rb, Sb, m1, m2⟩))
  obtain ⟨I', J', hc, rfl, hL⟩ := mj_cN (S := mj_S1) (CD := mj_CD) (D := F + 14) (z := 157) (as := [.ref 11]) (h := (I1, J1, mj_R1)) (R := mj_R1) (P := fun I' J' => J' = J1 ∧ LT n x d s0 f0 W H B1 B2 BJ E 1 (3 * u + 6) (fun o => o ≠ 9 ∧ o ≠ 8) op kd bs K L A1 A2 p I' I2 J2) (e157 ⟨trivial, _, _, c1, key _ (fun I3 q => ⟨_, _, rfl, rfl, q⟩)⟩)
  exact ⟨I', hc, hL⟩
theorem test_all (hS : stc d W H B1 B2 BJ) : ∀ u, TestOK n x d s0 f0 W H B1 B2 BJ J1 E u
  | 0 => fun D op kd bs L A1 A2 p a t v l o I1 I2 J2 hD hu hkd h h45 h9 q1 q2 q3 => lv_test hS (fun w q => by omega) hD hu hkd h h45 h9 (fun c hc => by cases hc) q1 q2 q3
  | u + 1 => fun D op kd bs L A1 A2 p a t v l o I1 I2 J2 hD hu hkd h h45 h9 q1 q2 q3 => lv_test hS (fun w q => by
      obtain rfl : w = u := by omega
      exact test_all hS w) hD hu hkd h h45 h9 (fun c hc => by cases hc) q1 q2 q3
end Sa8i
end
section
/-! statements: the two states while a text is read -/
/-- outside of what bank d holds -/
def oub (d q j : Nat) : Prop := ((q < 2 ∨ 7 < q) ∨ j ≠ d) ∧ ((q ≠ 8 ∧ q ≠ 9) ∨ j < 4 * d ∨ 4 * d + 4 ≤ j) ∧ (q ≠ 10 ∨ j < 40 * d ∨ 40 * d + 40 ≤ j) ∧ ((q ≠ 11 ∧ q ≠ 12) ∨ j < 160 * d ∨ 160 * d + 160 ≤ j) ∧ (q ≠ 13 ∨ j < 10 * d ∨ 10 * d + 10 ≤ j) ∧ ((q ≠ 14 ∧ q ≠ 15) ∨ j < 24 * d ∨ 24 * d + 24 ≤ j) ∧ (q ≠ 16 ∨ j < 96 * d ∨ 96 * d + 96 ≤ j) ∧ ((q ≠ 17 ∧ q ≠ 19 ∧ q ≠ 20) ∨ j < 12 * d ∨ 12 * d + 12 ≤ j) ∧ (q ≠ 18 ∨ j < 48 * d ∨ 48 * d + 48 ≤ j) ∧ ((q ≠ 21 ∧ q ≠ 22) ∨ j < 900 * d ∨ 900 * d + 900 ≤ j)
def tsz (j : Nat) : Prop := (j = 1 ∨ 10 ≤ j) ∧ j ≠ 34 ∧ j ≠ 35 ∧ j ≠ 41 ∧ j ≠ 42 ∧ j ≠ 44 ∧ j ≠ 45
/-- what stays while a text is read -/
def tfC (B I : (Nat → Nat → Int32)) : Prop := ∀ q j, q ≠ 11 → (q < 14 ∨ 23 < q) → I q j = B q j
def tfR (d : Nat) (B I : (Nat → Nat → Int32)) : Prop := ∀ q j, (q ≠ 0 ∨ tsz j) → (q < 23 ∨ 28 < q) → oub d q j → I q j = B q j
def tfJ (d : Nat) (B J : (Nat → Nat → Int64)) : Prop := ∀ q j, (q ≠ 0 ∨ j ≠ 7) → oub d q j → J q j = B q j
def tfA (d : Nat) (B1 B2 : (Nat → Nat → Int32)) (BJ : (Nat → Nat → Int64)) (I1 I2 : (Nat → Nat → Int32)) (J2 : (Nat → Nat → Int64)) : Prop := tfC B1 I1 ∧ tfR d B2 I2 ∧ tfJ d BJ J2
/-- the rules that have been read -/
def tlV (d W Hn Un S F : Nat) (I1 I2 : (Nat → Nat → Int32)) : Prop := ∀ u, u < Un → ∃ (f : Nat) (a1 a2 : (List (Nat × Nat))), sgB 64 950 W Hn a1 a2 ∧ I1 23 u = nI (rb I1 23 u + a1.length) ∧ rb I1 23 u + a1.length ≤ S ∧ cdC I1 22 (rb I1 23 u) a1 ∧
  I2 19 (12 * d + u) = nI f ∧ I2 20 (12 * d + u) = nI (f + a2.length) ∧ f + a2.length ≤ F ∧ cdR I2 (900 * d + f) a2
def TDo (d W Rn Kn Tn Hn Un S F : Nat) (I1 I2 : (Nat → Nat → Int32)) (J2 : (Nat → Nat → Int64)) : Prop := tlM 14 d W I1 I2 ∧ tlR 14 d W Rn I1 I2 ∧ tlT 14 d W Kn Tn I1 I2 ∧ tlH 14 d W Hn I1 I2 ∧ tlA 14 d W Rn Kn Hn I1 J2 ∧ tlV d W Hn Un S F I1 I2
def TD (d W Rn Kn Tn Hn Un S F : Nat) (I1 I2 : (Nat → Nat → Int32)) (J2 : (Nat → Nat → Int64)) : Prop := I2 0 35 = nI d ∧ I1 14 9 = nI S ∧ S = rb I1 23 Un ∧ I2 0 34 = nI F ∧ tlN 14 d W Rn Kn Tn Hn Un I1 I2 ∧ TDo d W Rn Kn Tn Hn Un S F I1 I2 J2
def RS (n : Nat) (x : Nat → Nat) (d : Nat) (B1 B2 : (Nat → Nat → Int32)) (BJ : (Nat → Nat → Int64)) (W Rn Kn Tn Hn Un S F mc p a t v : Nat) (l : List Nat) (o : Int) (I1 I2 : (Nat → Nat → Int32)) (J2 : (Nat → Nat → Int64)) : Prop := tkR n x p a t v l o I1 I2 J2 ∧ tfA d B1 B2 BJ I1 I2 J2 ∧ TD d W Rn Kn Tn Hn Un S F I1 I2 J2 ∧ S ≤ p ∧ F ≤ p ∧ I1 14 0 = nI mc ∧ I1 11 9 = nI 0
/-- what the class needs behind a fault -/
def DSB (I : (Nat → Nat → Int32)) : Prop := (∃ c, c ≤ 900 ∧ I 14 9 = nI c) ∧ (∃ w, w ≤ 4 ∧ I 15 0 = nI w) ∧ ∃ u, u ≤ 12 ∧ I 15 5 = nI u
def DS (d : Nat) (B1 B2 : (Nat → Nat → Int32)) (BJ : (Nat → Nat → Int64)) (I1 I2 : (Nat → Nat → Int32)) (J2 : (Nat → Nat → Int64)) : Prop := (∃ k p, tkD k p I1 I2) ∧ tfA d B1 B2 BJ I1 I2 J2 ∧ DSB I1
/-- where data lie -/
def inC (W Rn Kn Tn Hn Un S q j : Nat) : Prop := (q = 16 ∧ (j < W ∨ (40 ≤ j ∧ j < 40 + Rn) ∨ (80 ≤ j ∧ j < 80 + Kn) ∨ (160 ≤ j ∧ j < 160 + Hn))) ∨ (q = 17 ∧ j < W) ∨ (q = 18 ∧ ((160 ≤ j ∧ j < 160 + 4 * Rn) ∨ (480 ≤ j ∧ j < 480 + 4 * Tn) ∨ (640 ≤ j ∧ j < 640 + 4 * Hn))) ∨ (q = 19 ∧ j < 4 * Rn) ∨ ((q = 20 ∨ q = 21) ∧ j < Tn) ∨ (q = 22 ∧ j < S) ∨ (q = 23 ∧ j < Un)
def inR (d W Rn Tn Hn Un F q j : Nat) : Prop := (q = 9 ∧ j < 4 * d + W) ∨ ((q = 11 ∨ q = 12) ∧ j < 160 * d + 4 * Rn) ∨ ((q = 14 ∨ q = 15) ∧ j < 24 * d + Tn) ∨ (q = 16 ∧ j < 96 * d + 4 * Tn) ∨ (q = 18 ∧ j < 48 * d + 4 * Hn) ∨ ((q = 19 ∨ q = 20) ∧ j < 12 * d + Un) ∨ ((q = 21 ∨ q = 22) ∧ j < 900 * d + F)
def inJ (d W Rn Kn Hn q j : Nat) : Prop := (q = 8 ∧ j < 4 * d + W) ∨ (q = 10 ∧ j < 40 * d + Rn) ∨ (q = 13 ∧ j < 10 * d + Kn) ∨ (q = 17 ∧ j < 12 * d + Hn)
section Sa9a
variable {n d W Rn Kn Tn Hn Un S F mc : Nat} {x : Nat → Nat} {B1 B2 : Nat → Nat → Int32} {BJ : Nat → Nat → Int64}
variable {D D' E p a t v : Nat} {l : List Nat} {o : Int} {I1 I2 : Nat → Nat → Int32} {J1 J2 : Nat → Nat → Int64}
theorem rb_cg {I I' : (Nat → Nat → Int32)} {c : Nat} : ∀ {u : Nat}, (∀ j, j < u → I' c j = I c j) → rb I' c u = rb I c u
  | 0, _ => rfl
  | u + 1, h => by
    show (I' c u).toNatClampNeg = (I c u).toNatClampNeg
    rw [h u (by omega)]
theorem tys1_up {W W' H H' : Nat} {c : Nat × Nat} {st s' : List Bool} (hW : W ≤ W') (hH : H ≤ H') (h : tys1 W H c st = some s') : tys1 W' H' c st = some s' := by
  unfold tys1 at h ⊢
  by_cases c4 : c.1 ≤ 4
  · rw [if_pos c4] at h ⊢
    by_cases q : (c.1 = 0 → c.2 ≤ 9999) ∧ (c.1 = 2 → c.2 < W) ∧ (c.1 = 4 → c.2 < H) ∧ (c.1 = 1 ∨ c.1 = 3 → c.2 = 0)
    · rw [if_pos q] at h
      rw [if_pos ⟨q.1, fun z => Nat.lt_of_lt_of_le (q.2.1 z) hW, fun z => Nat.lt_of_lt_of_le (q.2.2.1 z) hH, q.2.2.2⟩]
      exact h
    · rw [if_neg q] at h
      cases h
  · rw [if_neg c4] at h ⊢
    exact h
theorem tyc_up {M W W' H H' : Nat} (hW : W ≤ W') (hH : H ≤ H') : ∀ {a : (List (Nat × Nat))} {st s' : List Bool}, tyc M W H a st = some s' → tyc M W' H' a st = some s'
  | [], _, _, h => h
  | c :: r, st, s', h => by
    obtain ⟨s1, h1, h2, h3⟩ := tyc_cons h
    show (match tys1 W' H' c st with
      | some st' => if st'.length ≤ M then tyc M W' H' r st' else none
      | none => none) = _
    rw [tys1_up hW hH h1]
    show (if s1.length ≤ M then tyc M W' H' r s1 else none) = _
    rw [if_pos h2]
    exact tyc_up hW hH h3
theorem sgB_up {W W' H H' : Nat} {a1 a2 : (List (Nat × Nat))} (hW : W ≤ W') (hH : H ≤ H') (h : sgB 64 950 W H a1 a2) : sgB 64 950 W' H' a1 a2 := ⟨tyc_up hW hH h.1, tyc_up hW hH h.2.1, h.2.2⟩
theorem tlV_up {W' Hn' S' F' : Nat} {I1' I2' : (Nat → Nat → Int32)} (h : tlV d W Hn Un S F I1 I2) (hW : W ≤ W') (hH : Hn ≤ Hn') (hS : S ≤ S') (hF : F ≤ F') (e1 : ∀ q j, (q = 22 ∧ j < S) ∨ (q = 23 ∧ j < Un) → I1' q j = I1 q j) (e2 : ∀ q j, ((q = 19 ∨ q = 20) ∧ j < 12 * d + Un) ∨ ((q = 21 ∨ q = 22) ∧ j < 900 * d + F) → I2' q j = I2 q j) : tlV d W' Hn' Un S' F' I1' I2' := fun u hu => by
  obtain ⟨f, a1, a2, g1, g2, g3, g4, g5, g6, g7, g8⟩ := h u hu
  have eb : rb I1' 23 u = rb I1 23 u := rb_cg fun j hj => e1 23 j (Or.inr ⟨rfl, by omega⟩)
  refine ⟨f, a1, a2, sgB_up hW hH g1, ?_, ?_, ?_, ?_, ?_, by omega, fun k y hk => ?_⟩
  · rw [eb, e1 23 u (Or.inr ⟨rfl, hu⟩)]; exact g2
  · rw [eb]; omega
  · rw [eb]
    intro k y hk
    have hl := (List.getElem?_eq_some_iff.mp hk).1
    rw [e1 22 _ (Or.inl ⟨rfl, by omega⟩)]
    exact g4 k y hk
  · rw [e2 19 _ (Or.inl ⟨Or.inl rfl, by omega⟩)]; exact g5
  · rw [e2 20 _ (Or.inl ⟨Or.inr rfl, by omega⟩)]; exact g6
  · have hl := (List.getElem?_eq_some_iff.mp hk).1
    rw [e2 21 _ (Or.inr ⟨Or.inl rfl, by omega⟩), e2 22 _ (Or.inr ⟨Or.inr rfl, by omega⟩)]
    exact g8 k y hk
theorem TDo_up {I1' I2' : (Nat → Nat → Int32)} {J2' : (Nat → Nat → Int64)} (h : TDo d W Rn Kn Tn Hn Un S F I1 I2 J2) (hW : W ≤ 4) (cC : ∀ q j, inC W Rn Kn Tn Hn Un S q j → I1' q j = I1 q j) (cR : ∀ q j, inR d W Rn Tn Hn Un F q j → I2' q j = I2 q j) (cJ : ∀ q j, inJ d W Rn Kn Hn q j → J2' q j = J2 q j) : TDo d W Rn Kn Tn Hn Un S F I1' I2' J2' := by
  obtain ⟨hM, hR, hT, hH, ⟨a1, a2, a3, a4⟩, hV⟩ := h
  refine ⟨fun w hw => ?_, fun r hr w hw => ?_, fun t ht => ?_, fun k hk w hw => ?_, ⟨fun k hk => ?_, fun k hk => ?_, fun k hk => ?_, fun k hk => ?_⟩, ?_⟩
  · have e1 : I1' (14 + 3) w = I1 (14 + 3) w := cC 17 w (Or.inr (Or.inl ⟨rfl, by omega⟩))
    rw [e1, cR 9 _ (Or.inl ⟨rfl, by omega⟩)]
    exact hM w hw
  · have e1 : I1' (14 + 4) (160 + 4 * r + w) = I1 (14 + 4) (160 + 4 * r + w) := cC 18 _ (Or.inr (Or.inr (Or.inl ⟨rfl, Or.inl (by omega)⟩)))
    have e2 : I1' (14 + 5) (4 * r + w) = I1 (14 + 5) (4 * r + w) := cC 19 _ (Or.inr (Or.inr (Or.inr (Or.inl ⟨rfl, by omega⟩))))
    rw [e1, e2, cR 11 _ (Or.inr (Or.inl ⟨Or.inl rfl, by omega⟩)), cR 12 _ (Or.inr (Or.inl ⟨Or.inr rfl, by omega⟩))]
    exact hR r hr w hw
  · have e1 : I1' (14 + 6) t = I1 (14 + 6) t := cC 20 _ (Or.inr (Or.inr (Or.inr (Or.inr (Or.inl ⟨Or.inl rfl, by omega⟩)))))
    have e2 : I1' (14 + 7) t = I1 (14 + 7) t := cC 21 _ (Or.inr (Or.inr (Or.inr (Or.inr (Or.inl ⟨Or.inr rfl, by omega⟩)))))
    obtain ⟨g1, g2, g3, g4⟩ := hT t ht
    rw [e1, e2, cR 14 _ (Or.inr (Or.inr (Or.inl ⟨Or.inl rfl, by omega⟩))), cR 15 _ (Or.inr (Or.inr (Or.inl ⟨Or.inr rfl, by omega⟩)))]
    refine ⟨g1, g2, g3, fun w hw => ?_⟩
    have e3 : I1' (14 + 4) (480 + 4 * t + w) = I1 (14 + 4) (480 + 4 * t + w) := cC 18 _ (Or.inr (Or.inr (Or.inl ⟨rfl, Or.inr (Or.inl (by omega))⟩)))
    rw [e3, cR 16 _ (Or.inr (Or.inr (Or.inr (Or.inl ⟨rfl, by omega⟩))))]
    exact g4 w hw
  · have e1 : I1' (14 + 4) (640 + 4 * k + w) = I1 (14 + 4) (640 + 4 * k + w) := cC 18 _ (Or.inr (Or.inr (Or.inl ⟨rfl, Or.inr (Or.inr (by omega))⟩)))
    rw [e1, cR 18 _ (Or.inr (Or.inr (Or.inr (Or.inr (Or.inl ⟨rfl, by omega⟩)))))]
    exact hH k hk w hw
  · have e1 : I1' (14 + 2) k = I1 (14 + 2) k := cC 16 _ (Or.inl ⟨rfl, Or.inl (by omega)⟩)
    rw [e1, cJ 8 _ (Or.inl ⟨rfl, by omega⟩)]
    exact a1 k hk
  · have e1 : I1' (14 + 2) (40 + k) = I1 (14 + 2) (40 + k) := cC 16 _ (Or.inl ⟨rfl, Or.inr (Or.inl (by omega))⟩)
    rw [e1, cJ 10 _ (Or.inr (Or.inl ⟨rfl, by omega⟩))]
    exact a2 k hk
  · have e1 : I1' (14 + 2) (80 + k) = I1 (14 + 2) (80 + k) := cC 16 _ (Or.inl ⟨rfl, Or.inr (Or.inr (Or.inl (by omega)))⟩)
    rw [e1, cJ 13 _ (Or.inr (Or.inr (Or.inl ⟨rfl, by omega⟩)))]
    exact a3 k hk
  · have e1 : I1' (14 + 2) (160 + k) = I1 (14 + 2) (160 + k) := cC 16 _ (Or.inl ⟨rfl, Or.inr (Or.inr (Or.inr (by omega)))⟩)
    rw [e1, cJ 17 _ (Or.inr (Or.inr (Or.inr ⟨rfl, by omega⟩)))]
    exact a4 k hk
  · exact tlV_up hV (Nat.le_refl _) (Nat.le_refl _) (Nat.le_refl _) (Nat.le_refl _) (fun q j z => cC q j (Or.inr (Or.inr (Or.inr (Or.inr (Or.inr z)))))) (fun q j z => cR q j (Or.inr (Or.inr (Or.inr (Or.inr (Or.inr z))))))
theorem lxf_F {I I' : (Nat → Nat → Int32)} (h : lxf I I') : lxF I I' := fun q j z => h q j (by omega)
theorem lxh_F {I I' : (Nat → Nat → Int32)} (h : lxh I I') : lxF I I' := fun q j z => h q j (by omega)
theorem tfA_lx {I1' I2' : (Nat → Nat → Int32)} {J2' : (Nat → Nat → Int64)} (h : tfA d B1 B2 BJ I1 I2 J2) (e1 : lxF I1 I1') (e2 : lxg I2 I2') (e3 : lxgJ J2 J2') : tfA d B1 B2 BJ I1' I2' J2' := by
  obtain ⟨h1, h2, h3⟩ := h
  refine ⟨fun q j z1 z2 => ?_, fun q j z1 z2 z3 => ?_, fun q j z1 z2 => ?_⟩
  · rw [e1 q j (Or.inl z1)]; exact h1 q j z1 z2
  · rw [e2 q j (by unfold tsz at z1; omega)]; exact h2 q j z1 z2 z3
  · rw [e3 q j z1]; exact h3 q j z1 z2
theorem TD_lx {I1' I2' : (Nat → Nat → Int32)} {J2' : (Nat → Nat → Int64)} (h : TD d W Rn Kn Tn Hn Un S F I1 I2 J2) (e1 : lxF I1 I1') (e2 : lxg I2 I2') (e3 : lxgJ J2 J2') : TD d W Rn Kn Tn Hn Un S F I1' I2' J2' := by
  obtain ⟨h1, h2, h3, h4, h5, h6⟩ := h
  have hW : W ≤ 4 := by
    obtain ⟨-, -, -, -, -, -, -, -, -, -, -, -, -, q, -⟩ := h5
    exact q
  have c1 : ∀ q j, q ≠ 11 → I1' q j = I1 q j := fun q j z => e1 q j (Or.inl z)
  refine ⟨?_, ?_, ?_, ?_, ?_, TDo_up h6 hW (fun q j z => c1 q j (by unfold inC at z; omega)) (fun q j z => e2 q j (by unfold inR at z; omega)) (fun q j z => e3 q j (by unfold inJ at z; omega))⟩
  · rw [e2 0 35 (by decide)]; exact h1
  · rw [c1 14 9 (by decide)]; exact h2
  · rw [h3]; exact (rb_cg fun j _ => c1 23 j (by decide)).symm
  · rw [e2 0 34 (by decide)]; exact h4
  · unfold tlN at h5 ⊢
    rw [c1 (14 + 1) 0 (by decide), c1 (14 + 1) 1 (by decide), c1 (14 + 1) 2 (by decide), c1 (14 + 1) 3 (by decide), c1 (14 + 1) 4 (by decide), c1 (14 + 1) 5 (by decide), e2 2 d (Or.inl (by decide)), e2 3 d (Or.inl (by decide)), e2 4 d (Or.inl (by decide)), e2 5 d (Or.inl (by decide)), e2 6 d (Or.inl (by decide)), e2 7 d (Or.inl (by decide))]
    exact h5
theorem DS_mk {I1' I2' : (Nat → Nat → Int32)} {J2' : (Nat → Nat → Int64)} (h : tfA d B1 B2 BJ I1 I2 J2) (hb : DSB I1) (e1 : lxF I1 I1') (e2 : lxg I2 I2') (e3 : lxgJ J2 J2') (hd : ∃ k p, tkD k p I1' I2') : DS d B1 B2 BJ I1' I2' J2' := by
  refine ⟨hd, tfA_lx h e1 e2 e3, ?_⟩
  obtain ⟨⟨c, c1, c2⟩, ⟨w, w1, w2⟩, ⟨u, u1, u2⟩⟩ := hb
  exact ⟨⟨c, c1, by rw [e1 14 9 (by decide)]; exact c2⟩, ⟨w, w1, by rw [e1 15 0 (by decide)]; exact w2⟩, ⟨u, u1, by rw [e1 15 5 (by decide)]; exact u2⟩⟩
theorem lxg_rf {I : (Nat → Nat → Int32)} : lxg I I := fun _ _ _ => rfl
theorem lxgJ_rf {J : (Nat → Nat → Int64)} : lxgJ J J := fun _ _ _ => rfl
theorem lxF_rf {I : (Nat → Nat → Int32)} : lxF I I := fun _ _ _ => rfl
theorem DS_lx {I1' : (Nat → Nat → Int32)} (h : DS d B1 B2 BJ I1 I2 J2) (e1 : lxF I1 I1') (hd : ∃ k p, tkD k p I1' I2) : DS d B1 B2 BJ I1' I2 J2 := DS_mk h.2.1 h.2.2 e1 lxg_rf lxgJ_rf hd
theorem TD_N (h : TD d W Rn Kn Tn Hn Un S F I1 I2 J2) : (I1 15 0 = nI W ∧ I1 15 1 = nI Rn ∧ I1 15 2 = nI Kn ∧ I1 15 3 = nI Tn ∧ I1 15 4 = nI Hn ∧ I1 15 5 = nI Un) ∧ (I2 2 d = nI W ∧ I2 3 d = nI Rn ∧ I2 4 d = nI Kn ∧ I2 5 d = nI Tn ∧ I2 6 d = nI Hn ∧ I2 7 d = nI Un) ∧ d < 2 ∧ W ≤ 4 ∧ Rn ≤ 40 ∧ Kn ≤ 10 ∧ Tn ≤ 24 ∧ Hn ≤ 12 ∧ Un ≤ 12 := by
  obtain ⟨a1, a2, a3, a4, a5, a6, b1, b2, b3, b4, b5, b6, c⟩ := h.2.2.2.2.1
  exact ⟨⟨a1, a2, a3, a4, a5, a6⟩, ⟨b1, b2, b3, b4, b5, b6⟩, c⟩
theorem TD_DSB (h : TD d W Rn Kn Tn Hn Un S F I1 I2 J2) (hS : S ≤ 900) : DSB I1 := by
  obtain ⟨⟨a1, -, -, -, -, a6⟩, -, -, c1, -, -, -, -, c6⟩ := TD_N h
  exact ⟨⟨S, hS, h.2.1⟩, ⟨W, c1, a1⟩, ⟨Un, c6, a6⟩⟩
end Sa9a
end
