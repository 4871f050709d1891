section Sa8i_5
variable {n d s0 f0 W H : Nat} {x : Nat → Nat} {B1 B2 : Nat → Nat → Int32} {BJ : Nat → Nat → Int64}
variable {D D' E op kd ph bs p a t v u : Nat} {l : List Nat} {o : Int} {bg : Int32} {K : List Nat} {A1 A2 : List (Nat × Nat)} {L I1 I2 : Nat → Nat → Int32} {J1 J2 : Nat → Nat → Int64}
set_option maxHeartbeats 16000000 in
/-- a fact behind its nots -/
theorem f40 {F : Nat} {tw : Int32} {Q : mj_R → Prop} (hS : stc d W H B1 B2 BJ) (IH : ∀ w, u = w + 1 → TestOK n x d s0 f0 W H B1 B2 BJ J1 E w) (hF : 4 * u ≤ F) (hu : op + u = 8) (hkd : kd = 1 ∨ kd = 5) (h : TS n x d s0 f0 B1 B2 BJ op kd 0 bs 1 K L A1 A2 p a t v l o I1 I2 J2) (h45 : I2 0 45 = 0) (h9 : I1 11 9 = nI op) (ho : o ≠ (10 : Nat)) (hK : ∀ c ∈ K, rnk c < 4) (q1 : s0 + A1.length ≤ p) (q2 : f0 + A2.length + (bs + K.length) ≤ p) (q3 : 3 * (bs + K.length) ≤ 18 * op + 6 + p)
    (hQ : ∀ Ib, LT n x d s0 f0 W H B1 B2 BJ E 4 (3 * u + 4) (fun _ => True) op kd bs K L A1 A2 p Ib I2 J2 → E1 159 (F + 12) Q 160 [(0, .ref 11), (1, .int tw)] Ib J1) : E1 159 (F + 12) Q 40 [(0, .ref 11), (1, .int tw)] I1 J1 := by
  have hn := tk_n h.1
  have hbM : bs + K.length < 490 := by omega
  have h' := TS_bg (y := 0) h (Or.inl rfl)
  obtain ⟨Ib, hIb⟩ : ∃ Ib, Ib = mj_up I2 25 op 0 := ⟨_, rfl⟩
  have h8 := h'.1.2.2.2.2.2.2.2.2.2.2.2.2.2.1
  refine mj_on (s159_40 _ ?_)
  refine ⟨trivial, _, _, _, sg_c (c := 91) h.1 (by decide), if_tf (fun e => ?_) (fun e => ?_)⟩
  · -- a bracket
    obtain ⟨r, Ic, Rc, Sc, k1, k2, k3⟩ := ts_open (D := F + 8) (E := E) (J1 := J1) (c := 91) (k := 5) (by decide) (by decide) h' e.1 e.2 h9 q1 (by omega)
    have c35 : C2 (E + 5) 35 [.ref 0] I2 J2 (.int 0) Rc Sc := part_tst (D := E + 3) hkd h (part_60 (D := E + 3) h ho (fun _ => ⟨Rc, Sc, k2, rfl⟩) (fun z => absurd e z))
    rcases k3 with ⟨rfl, k3⟩ | ⟨rfl, k3⟩ | ⟨rfl, k3, k4, k5, k6, k7, p2, a2, t2', v2, l2, o2, k8, k9⟩
    · refine ⟨trivial, _, _, _, k1, ?_⟩
      rw [if_pos rfl]
      exact hQ Ic (Or.inr ⟨_, _, g_partD h45 c35 (Or.inl rfl) (DD_8 k3).1, DD_45 k3⟩)
    · obtain ⟨Ia, a1, b1⟩ := d_test (D := F + 4) (J1 := J1) k3
      obtain ⟨Id, a2, b2⟩ := d_take (D := F + 10) (J1 := J1) (c := 93) b1
      refine ⟨trivial, _, _, _, k1, ?_⟩
      rw [if_neg (by decide)]
      exact ⟨trivial, _, _, a1, trivial, _, _, a2, hQ _ (Or.inr ⟨_, _, g_partD h45 c35 (Or.inl rfl) (DD_8 b2).1, DD_45 (DD_119 b2)⟩)⟩
    · obtain ⟨y, rfl⟩ : ∃ y, u = y + 1 := ⟨u - 1, by omega⟩
      have hn2 := tk_n k8.1
      have g0 : gA E I2 J2 (mj_up Rc 0 45 0) Sc := g_part h45 c35 (Or.inl rfl) k8.1.2.2.2.2.2.2.2.2.2.2.2.2.2.1
      obtain ⟨I3, c3, n3⟩ := IH y rfl (F + 12) (op + 1) 5 (bs + K.length) Rc A1 A2 p2 a2 t2' v2 l2 o2 Ic (mj_up Rc 0 45 0) Sc (by omega) (by omega) (Or.inr rfl) (TS_45 k8) up_s k5 (by omega) (by omega) (by omega)
      refine ⟨trivial, _, _, _, k1, ?_⟩
      rw [if_neg (by decide)]
      refine ⟨trivial, _, _, c3, ?_⟩
      rcases n3 with ⟨p3, a3, t3, v3, l3, o3, ph3, x1, x2, kk, R3, S3, m1, m2, m3, m4, m5, m6, m7, m8, m9, m10, m11, m12, m13⟩ | ⟨R3, S3, m1, m2⟩
      · have hn3 := tk_n m2.1
        have e00 : ([] ++ kk).length = kk.length := rfl
        rw [e00] at m9 m10
        obtain ⟨I6, R6, S6, c6, c69, n6⟩ := ts_close (D := F + 8) (E := E) (J1 := J1) (k := 5) (c := 93) (pr := 0) hS (Or.inr ⟨rfl, rfl⟩) m2 m3 m12 (fun _ => ⟨m11, m13.2, m13.1⟩) h'.2.2.2.2.2 k6 (fun i _ => k7 i) (fun z => by omega) (by rw [List.length_append]; omega) m9 (by omega)
        refine ⟨trivial, _, _, c6, hQ _ ?_⟩
        rcases n6 with ⟨g6, d6⟩ | ⟨g6, z46, p6, a6, t6, v6, l6, o6, m14, m15⟩
        · exact Or.inr ⟨R6, S6, gA_D g0 (gA_D m1 g6), DD_119 d6⟩
        · rw [if_pos rfl, if_neg (by decide), List.append_nil] at m14
          have hn6 := tk_n m14.1
          refine Or.inl ⟨p6, a6, t6, v6, l6, o6, 2, x1, x2 ++ pops kk, [], R6, S6, gA_tr g0 (gA_tr m1 g6), ?_, z46, ?_, ?_, fun c hc => (by cases hc), by omega, by omega, ?_, ?_, by decide, Or.inl rfl, trivial⟩
          · rw [List.append_nil, ← List.append_assoc]
            exact TS_119 m14
          · rw [up_s, c69, m4, nI_pred]
          · rw [pops_nil, List.append_nil]
            exact fr2_up m5 (by omega)
          · simp only [List.length_append, pops_len, List.append_nil] at m9 ⊢
            omega
          · simp only [List.append_nil]
            omega
      · obtain ⟨Id, a2, b2⟩ := d_take (D := F + 10) (J1 := J1) (c := 93) m2
        exact ⟨trivial, _, _, a2, hQ _ (Or.inr ⟨R3, S3, gA_D g0 m1, DD_119 b2⟩)⟩
  by_cases o11 : o = (11 : Nat)
  · -- all
    rw [if_pos ((own_eq (y := 11) h.1 (w := 11) (by decide) rfl).mpr o11)]
    have t3 : t = 3 := (tk_w h.1 (by decide) o11).1
    obtain ⟨Ic, m1, m2, m3⟩ := ts_addR (D := E + 3) (c := 3) (y := 0) hS h' (by omega)
    obtain ⟨Id, g1, g2, g3⟩ := ts_addC (D := F + 10) (J1 := J1) (c := 3) (y := 0) (TS_ph (y := 2) m2 (by decide)) (by omega) (by decide)
    obtain ⟨Ia, Ra, Sa, k1, k2, k3, k4, k5⟩ := ts_adv (D := F + 9) (D' := E + 2) (J1 := J1) g2 (by omega) (by rw [List.length_append]; show s0 + (A1.length + 1) ≤ 900; omega)
    have a5 := h.2.2.2.2.1.2.2.2.2.1
    have vp : vp_in (nI op) 20 := vp_in_nI (by omega) (by decide)
    have c35 : C2 (E + 5) 35 [.ref 0] I2 J2 (.int 1) Ra Sa := part_tst (D := E + 3) hkd h (part_60 (D := E + 3) h ho (fun z => absurd z e) (fun _ => by
      refine mj_on (s35_87 _ _ ?_)
      rw [if_neg (by decide)]
      refine ⟨trivial, _, _, _, wd_r (w := 11) h'.1 (by decide), if_tf (fun _ => ?_) (fun y => absurd o11 y)⟩
      refine ⟨trivial, _, _, m1, vp, ?_⟩
      rw [nI_clamp (by omega)]
      exact ⟨trivial, _, _, k2, Or.inr rfl, rfl⟩))
    refine ⟨trivial, _, _, g1, trivial, _, _, k1, hQ Ia ?_⟩
    rcases k5 with ⟨p', a', t', v', l', o', w1, w2, -⟩ | ⟨w1, -⟩
    · refine Or.inl ⟨p', a', t', v', l', o', 2, [(3, 0)], [(3, 0)], [], _, _, g_part h45 c35 (Or.inr rfl) w1.1.2.2.2.2.2.2.2.2.2.2.2.2.2.1, by rw [List.append_nil]; exact TS_45 w1, up_s, by rw [k4, g3, h9], ?_, fun c hc => (by cases hc), w2, by show 1 + p ≤ p'; omega, ?_, ?_, by decide, Or.inl rfl, trivial⟩
      · rw [pops_nil, List.append_nil]
        exact fr2_up (fr2_leaf (W := W) (H := H) (c := 3) (v := 0) (by decide) ⟨fun z => by omega, fun z => by omega, fun z => by omega, fun _ => rfl⟩) (by omega)
      · rw [List.length_append, List.append_nil]; show f0 + (A2.length + 1) + (bs + K.length) ≤ p'; omega
      · rw [List.append_nil]; omega
    · exact Or.inr ⟨_, _, g_partD h45 c35 (Or.inr rfl) (DD_8 w1).1, DD_45 w1⟩
  rw [if_neg (fun z => o11 ((own_eq (y := 11) h.1 (w := 11) (by decide) rfl).mp z))]
  by_cases o12 : o = (12 : Nat)
  · -- has
    rw [if_pos ((own_eq (y := 12) h.1 (w := 12) (by decide) rfl).mpr o12)]
    have t3 : t = 3 := (tk_w h.1 (by decide) o12).1
    have a5 := h.2.2.2.2.1.2.2.2.2.1
    have vp : vp_in (nI op) 20 := vp_in_nI (by omega) (by decide)
    obtain ⟨Ia, r, Ic, Id, Ra, Sa, k1, k2, k3, k4, k5⟩ := ts_named (D := F + 7) (E := E) (J1 := J1) (c := 4) (i := 4) hS (Or.inr ⟨rfl, rfl⟩) (TS_ph (y := 2) h' (by decide)) (by omega) q1 (by omega)
    have c35 : C2 (E + 5) 35 [.ref 0] I2 J2 (.int 1) Ra Sa := part_tst (D := E + 3) hkd h (part_60 (D := E + 3) h ho (fun z => absurd z e) (fun _ => by
      refine mj_on (s35_87 _ _ ?_)
      rw [if_neg (by decide)]
      refine ⟨trivial, _, _, _, wd_r (w := 11) h'.1 (by decide), if_tf (fun y => absurd y o11) (fun _ => ?_)⟩
      refine mj_on (s35_120 _ _ ?_)
      rw [if_neg (by decide)]
      refine ⟨trivial, _, _, _, wd_r (w := 12) h'.1 (by decide), if_tf (fun _ => ⟨vp, ?_⟩) (fun y => absurd o12 y)⟩
      rw [nI_clamp (by omega)]
      exact ⟨trivial, _, _, k4, Or.inr rfl, rfl⟩))
    refine ⟨trivial, _, _, k1, trivial, _, _, _, k2, trivial, _, _, k3, hQ Id ?_⟩
    rcases k5 with ⟨k, p', a', t', v', l', o', w1, w2, w3, w4, w5, -, w6⟩ | w1
    · refine Or.inl ⟨p', a', t', v', l', o', 2, [(4, k)], [(4, k)], [], _, _, g_part h45 c35 (Or.inr rfl) w1.1.2.2.2.2.2.2.2.2.2.2.2.2.2.1, by rw [List.append_nil]; exact TS_45 w1, up_s, by rw [w5, h9], ?_, fun c hc => (by cases hc), w2, by show 1 + p ≤ p'; omega, ?_, ?_, by decide, Or.inl rfl, trivial⟩
      · rw [pops_nil, List.append_nil]
        exact fr2_up (fr2_leaf (W := W) (H := H) (c := 4) (v := k) (by decide) ⟨fun z => by omega, fun z => by omega, fun _ => w6 rfl, fun z => by omega⟩) (by omega)
      · rw [List.length_append, List.append_nil]; show f0 + (A2.length + 1) + (bs + K.length) ≤ p'; omega
      · rw [List.append_nil]; omega
    · exact Or.inr ⟨_, _, g_partD h45 c35 (Or.inr rfl) (DD_8 w1).1, DD_45 w1⟩
  rw [if_neg (fun z => o12 ((own_eq (y := 12) h.1 (w := 12) (by decide) rfl).mp z))]
  -- a comparison
  have nsp : ¬ spcl t v o := fun z => z.elim e (fun z => z.elim ho (fun z => z.elim o11 o12))
  obtain ⟨Ia, c1, n1⟩ := sum_all (E := E) (J1 := J1) hS u (F + 12) op kd 0 bs 1 K L A1 A2 p a t v l o I1 I2 J2 (by omega) hu h h45 h9 (by decide) (fun _ => nsp) (fun c hc => by have := hK c hc; omega) q1 q2 (by omega)
  have dead : ∀ {Iz : (Nat → Nat → Int32)} {R : (Nat → Nat → Int32)} {S : (Nat → Nat → Int64)}, C1 (F + 12) 164 [.ref 11] I1 J1 .null Iz J1 → DD d s0 f0 B1 B2 BJ Iz R S → gD E I2 J2 R S → (True ∧ ∃ (I7 : (Nat → Nat → Int32)) (J7 : (Nat → Nat → Int64)), mj_Cl mj_S1 mj_CD (F + 12) 164 [.ref 11] (I1, J1, mj_R1) (.null, (I7, J7, mj_R1)) ∧ (True ∧ ∃ (r8 : Int32) (I8 : (Nat → Nat → Int32)) (J8 : (Nat → Nat → Int64)), mj_Cl mj_S1 mj_CD (F + 12) 168 [.ref 11] (I7, J7, mj_R1) (.int r8, (I8, J8, mj_R1)) ∧ (True ∧ ∃ (I9 : (Nat → Nat → Int32)) (J9 : (Nat → Nat → Int64)), mj_Cl mj_S1 mj_CD (F + 12) 164 [.ref 11] (I8, J8, mj_R1) (.null, (I9, J9, mj_R1)) ∧ (True ∧ ∃ (I10 : (Nat → Nat → Int32)) (J10 : (Nat → Nat → Int64)), mj_Cl mj_S1 mj_CD (F + 12) 163 [.ref 14, .int r8, .int 0] (I9, J9, mj_R1) (.null, (I10, J10, mj_R1)) ∧ E1 159 (F + 12) Q 160 [(0, .ref 11), (1, .int tw)] I10 J10)))) := fun {Iz R S} cc dd gg => by
    obtain ⟨Ib, a2, b2⟩ := d_cmp (D := F + 10) (J1 := J1) dd
    obtain ⟨Ic, a3, b3⟩ := d_sum (D := F + 7) (J1 := J1) b2
    obtain ⟨Id, a4, b4⟩ := d_add (D := F + 10) (J1 := J1) (y := -1) (z := 0) b3
    exact ⟨trivial, _, _, cc, trivial, _, _, _, a2, trivial, _, _, a3, trivial, _, _, a4, hQ Id (Or.inr ⟨R, S, gg, b4⟩)⟩
  rcases n1 with ⟨p2, a2, t2, v2, l2, o2, x1, x2, kk, R2, S2, m1, m2, m3, m4, m5, m6, m7, m8, m9, m10, m11⟩ | ⟨R2, S2, m1, m2⟩
  · have hn2 := tk_n m2.1
    have e0 : (K ++ kk).length = K.length + kk.length := List.length_append
    have q12 : s0 + (A1 ++ x1).length ≤ p2 := by rw [List.length_append]; omega
    by_cases w : t2 = 1 ∧ (v2 = 60 ∨ v2 = 62 ∨ v2 = 61)
    · obtain ⟨c, hc⟩ : ∃ c, (v2 = 60 ∧ c = 11) ∨ (v2 = 62 ∧ c = 12) ∨ (v2 = 61 ∧ c = 13) := by
        rcases w.2 with z | z | z
        · exact ⟨11, Or.inl ⟨z, rfl⟩⟩
        · exact ⟨12, Or.inr (Or.inl ⟨z, rfl⟩)⟩
        · exact ⟨13, Or.inr (Or.inr ⟨z, rfl⟩)⟩
      have hcc : nI (opc c) = nI v2 ∧ 11 ≤ c ∧ c ≤ 13 ∧ rnk c = 4 := by
        rcases hc with ⟨rfl, rfl⟩ | ⟨rfl, rfl⟩ | ⟨rfl, rfl⟩
        · exact ⟨rfl, by decide, by decide, rfl⟩
        · exact ⟨rfl, by decide, by decide, rfl⟩
        · exact ⟨rfl, by decide, by decide, rfl⟩
      have hv := tk_v m2.1 w.1
      obtain ⟨Ib, Rb, Sb, k1, k9, k2⟩ := ts_comp (D := F + 8) (E := E) (J1 := J1) hS hc w.1 hkd m2 m3 (fun c hc => by have := hK c hc; omega) m6 q12 m9 (by omega)
      have c168 : C1 (F + 12) 168 [.ref 11] Ia J1 (.int (nI v2)) Ib J1 := by
        refine mj_mk (e168 ?_)
        refine ⟨trivial, _, _, _, sg_c (c := 60) m2.1 (by decide), if_tf (fun _ => ⟨trivial, _, _, k1, by rw [hv]⟩) (fun z1 => ?_)⟩
        refine ⟨trivial, _, _, _, sg_c (c := 62) m2.1 (by decide), if_tf (fun _ => ⟨trivial, _, _, k1, by rw [hv]⟩) (fun z2 => ?_)⟩
        refine ⟨trivial, _, _, _, sg_c (c := 61) m2.1 (by decide), if_tf (fun _ => ⟨trivial, _, _, k1, by rw [hv]⟩) (fun z3 => ?_)⟩
        rcases w.2 with z | z | z
        · exact absurd ⟨w.1, z⟩ z1
        · exact absurd ⟨w.1, z⟩ z2
        · exact absurd ⟨w.1, z⟩ z3
      rcases k2 with ⟨g2, d2⟩ | ⟨g2, z45, p3, a3, t3, v3, l3, o3, w1, w2⟩
      · obtain ⟨Ic, a3, b3⟩ := d_sum (D := F + 7) (J1 := J1) d2
        obtain ⟨Id, a4, b4⟩ := d_add (D := F + 10) (J1 := J1) (y := nI v2) (z := 0) b3
        exact ⟨trivial, _, _, c1, trivial, _, _, _, c168, trivial, _, _, a3, trivial, _, _, a4, hQ Id (Or.inr ⟨Rb, Sb, gA_D m1 g2, b4⟩)⟩
      · have hn3 := tk_n w1.1
        have e1 : (A2 ++ x2 ++ pops kk).length = (A2 ++ x2).length + kk.length := by rw [List.length_append, pops_len]
        have e2 : (K ++ [c]).length = K.length + 1 := by rw [List.length_append]; rfl
        obtain ⟨Ic, c3, n3⟩ := sum_all (E := E) (J1 := J1) hS u (F + 12) op kd 1 bs 0 (K ++ [c]) L (A1 ++ x1) (A2 ++ x2 ++ pops kk) p3 a3 t3 v3 l3 o3 Ib Rb Sb (by omega) hu w1 z45 (by rw [k9, m4]) (by decide) (fun z => absurd z.2 (by decide)) (fun e he => by
          rcases List.mem_append.mp he with z | z
          · have := hK e z; omega
          · rw [List.mem_singleton.mp z, hcc.2.2.2]; omega) (by omega) (by rw [e1, e2]; omega) (by rw [e2]; omega)
        rcases n3 with ⟨p4, a4, t4, v4, l4, o4, y1, y2, k', R4, S4, r1, r2, r3, r4, r5, r6, r7, r8, r9, r10, r11⟩ | ⟨R4, S4, r1, r2⟩
        · have hn4 := tk_n r2.1
          have e3 : (K ++ [c] ++ k').length = K.length + 1 + k'.length := by rw [List.length_append, e2]
          have e4 : (A2 ++ x2 ++ pops kk ++ y2).length = (A2 ++ x2).length + kk.length + y2.length := by rw [List.length_append, e1]
          rw [e3, e4] at r9
          rw [e3] at r10
          obtain ⟨Id, c4, w3, w4⟩ := ts_addC (D := F + 10) (J1 := J1) (c := c) (y := 0) r2 (by rw [List.length_append]; omega) (by decide)
          rw [hcc.1] at c4
          refine ⟨trivial, _, _, c1, trivial, _, _, _, c168, trivial, _, _, c3, trivial, _, _, c4, hQ Id (Or.inl ⟨p4, a4, t4, v4, l4, o4, 1, x1 ++ (y1 ++ [(c, 0)]), x2 ++ pops kk ++ y2, [c] ++ k', R4, S4, gA_tr m1 (gA_tr g2 r1), ?_, r3, by rw [w4, r4], ?_, ?_, by omega, ?_, ?_, ?_, by decide, Or.inr r11, trivial⟩)⟩
          · simp only [List.append_assoc] at w3 ⊢
            exact w3
          · have q := fr2_cmp (op := c) (h3 := 3 * u + 4) hcc.2.1 hcc.2.2.1 m5 r5 (by omega) (by omega)
            rw [pops_app, pops_one]
            simp only [List.append_assoc] at q ⊢
            exact q
          · intro e he
            rcases List.mem_append.mp he with z | z
            · rw [List.mem_singleton.mp z, hcc.2.2.2]; exact Nat.le_refl _
            · have := r6 e z; omega
          · rw [List.length_append, List.length_append]; show x1.length + (y1.length + 1) + p ≤ p4; omega
          · rw [← List.append_assoc, ← List.append_assoc, e4, ← List.append_assoc, e3]; omega
          · rw [← List.append_assoc, e3]; omega
        · obtain ⟨Id, a4, b4⟩ := d_add (D := F + 10) (J1 := J1) (y := nI v2) (z := 0) r2
          exact ⟨trivial, _, _, c1, trivial, _, _, _, c168, trivial, _, _, c3, trivial, _, _, a4, hQ Id (Or.inr ⟨R4, S4, gA_D m1 (gA_D g2 r1), b4⟩)⟩
    · obtain ⟨Ib, Rb, k1, k2, k3⟩ := ts_nocomp (D := F + 10) (E := E) (J1 := J1) m11 w hkd m2 m3 q12
      have c168 : C1 (F + 12) 168 [.ref 11] Ia J1 (.int (-1)) Ib J1 := by
        refine mj_mk (e168 ?_)
        refine ⟨trivial, _, _, _, sg_c (c := 60) m2.1 (by decide), if_tf (fun z => absurd ⟨z.1, Or.inl z.2⟩ w) (fun z1 => ?_)⟩
        refine ⟨trivial, _, _, _, sg_c (c := 62) m2.1 (by decide), if_tf (fun z => absurd ⟨z.1, Or.inr (Or.inl z.2)⟩ w) (fun z2 => ?_)⟩
        refine ⟨trivial, _, _, _, sg_c (c := 61) m2.1 (by decide), if_tf (fun z => absurd ⟨z.1, Or.inr (Or.inr z.2)⟩ w) (fun z3 => ?_)⟩
        exact ⟨trivial, _, _, k1, rfl⟩
      obtain ⟨Ic, a3, b3⟩ := d_sum (D := F + 7) (J1 := J1) k3
      obtain ⟨Id, a4, b4⟩ := d_add (D := F + 10) (J1 := J1) (y := -1) (z := 0) b3
      exact ⟨trivial, _, _, c1, trivial, _, _, _, c168, trivial, _, _, a3, trivial, _, _, a4, hQ Id (Or.inr ⟨Rb, S2, gA_D m1 k2, b4⟩)⟩
  · exact dead c1 m2 m1
end Sa8i_5

