section Sa8f
variable {n d s0 f0 W H : Nat} {x : Nat → Nat} {B1 B2 : Nat → Nat → Int32} {BJ : Nat → Nat → Int64}
variable {D D' E op kd ph bs p a t v u : Nat} {l : List Nat} {o : Int} {bg : Int32} {K : List Nat} {A1 A2 : List (Nat × Nat)} {L I1 I2 : Nat → Nat → Int32} {J1 J2 : Nat → Nat → Int64}
set_option maxHeartbeats 16000000 in
/-- a pair in brackets, behind its word -/
theorem lv_pair {F w pr p0 : Nat} {I0 : (Nat → Nat → Int32)} {J0 : (Nat → Nat → Int64)} (hS : stc d W H B1 B2 BJ) (IH : ∀ y, u = y + 1 → SumOK n x d s0 f0 W H B1 B2 BJ J1 E y) (hw : w = 15 ∧ pr = 9 ∨ w = 16 ∧ pr = 10) (hF : 4 * u ≤ F) (hu : op + u = 8) (h : TS n x d s0 f0 B1 B2 BJ op kd ph bs 0 K L A1 A2 p a t v l o I1 I2 J2) (h9 : I1 11 9 = nI op) (hp0 : p0 < p) (q1 : s0 + A1.length ≤ p) (q2 : f0 + A2.length + (bs + K.length) ≤ p) (q3 : 3 * (bs + K.length) ≤ 18 * op + 15 + p)
    (g45 : I0 0 45 = 0) (hr : ∀ {r : Value} {I' : (Nat → Nat → Int32)} {J' : (Nat → Nat → Int64)} {Rz : (Nat → Nat → Int32)}, ((t = 1 ∧ v = 40) → Rz = I2) → (¬ (t = 1 ∧ v = 40) → C2 (E + 4) 16 [.ref 0, .int 1, .int (I2 0 4)] I2 J2 .null Rz J2) → E2 35 (E + 4) (fun y => y = (r, (I', J', mj_R2))) 224 [(0, .ref 0), (3, .int (nI pr))] Rz J2 → mj_Cl mj_S2 mj_CD (E + 5) 35 [.ref 0] (I0, J0, mj_R2) (r, (I', J', mj_R2))) :
    ∃ I1', C1 (F + 9) 167 [.ref 11, .int (nI w)] I1 J1 .null I1' J1 ∧ LN n x d s0 f0 W H B1 B2 BJ E 6 (3 * u + 1) (fun _ _ => True) op kd ph bs K L A1 A2 p0 I1' I0 J0 := by
  have hn := tk_n2 h.1
  have hbM : bs + K.length < 500 := by have := h.2.2.2.2.1.2.2.2.2.1; omega
  have hopc : nI (opc pr) = nI w := by rcases hw with ⟨rfl, rfl⟩ | ⟨rfl, rfl⟩ <;> rfl
  -- the class behind a fault
  have cz : ∀ {Ia : (Nat → Nat → Int32)} {R : (Nat → Nat → Int32)} {S : (Nat → Nat → Int64)}, DD d s0 f0 B1 B2 BJ Ia R S → ∃ Ib, C1 (F + 8) 163 [.ref 14, .int (nI w), .int 0] (mj_up Ia 11 9 (Ia 11 9 - 1)) J1 .null Ib J1 ∧ DD d s0 f0 B1 B2 BJ Ib R S := fun {Ia R S} q => d_add (D := F + 6) (J1 := J1) (y := nI w) (z := 0) (DD_119 q)
  by_cases e : t = 1 ∧ v = 40
  · obtain ⟨r, Ic, Rc, Sc, k1, k2, k3⟩ := ts_open (D := F + 4) (E := E) (J1 := J1) (c := 40) (k := 3) (by decide) (by decide) h e.1 e.2 h9 q1 hbM
    rcases k3 with ⟨rfl, k3⟩ | ⟨rfl, k3⟩ | ⟨rfl, k3, k4, k5, k6, k7, p2, a2, t2, v2, l2, o2, k8, k9⟩
    · refine ⟨Ic, mj_mk (e167 _ ⟨trivial, _, _, _, k1, by rw [if_pos rfl]⟩), Or.inr ⟨_, _, g_partD g45 (hr (Rz := I2) (fun _ => rfl) (fun z => absurd e z) (I' := Rc) (J' := Sc) (r := .int 0) ?_) (Or.inl rfl) (DD_8 k3).1, DD_45 k3⟩⟩
      refine mj_on (s35_224 _ ?_)
      refine ⟨trivial, _, _, k2, ?_⟩
      rw [if_neg (DD_8 k3).1]
      exact ⟨Or.inl rfl, rfl⟩
    · obtain ⟨Ia, a1, b1⟩ := d_sum (D := F + 3) (J1 := J1) k3
      obtain ⟨Ib, a2, b2⟩ := d_take (D := F + 6) (J1 := J1) (c := 44) b1
      obtain ⟨Id, a3, b3⟩ := d_sum (D := F + 3) (J1 := J1) b2
      obtain ⟨Ie, a4, b4⟩ := d_take (D := F + 6) (J1 := J1) (c := 41) b3
      obtain ⟨If, a5, b5⟩ := cz b4
      refine ⟨If, mj_mk (e167 _ ⟨trivial, _, _, _, k1, ?_⟩), Or.inr ⟨_, _, g_partD g45 (hr (Rz := I2) (fun _ => rfl) (fun z => absurd e z) (I' := Rc) (J' := Sc) (r := .int 0) ?_) (Or.inl rfl) (DD_8 b5).1, DD_45 b5⟩⟩
      · rw [if_neg (by decide)]
        exact ⟨trivial, _, _, a1, trivial, _, _, a2, trivial, _, _, a3, trivial, _, _, a4, trivial, _, _, a5, rfl⟩
      · refine mj_on (s35_224 _ ?_)
        refine ⟨trivial, _, _, k2, ?_⟩
        rw [if_neg (DD_8 b5).1]
        exact ⟨Or.inl rfl, rfl⟩
    · -- the first number
      obtain ⟨y, rfl⟩ : ∃ y, u = y + 1 := ⟨u - 1, by omega⟩
      have hn2 := tk_n2 k8.1
      have k81 := TS_45 (r := 0) (TS_pr (y := nI pr) k8)
      obtain ⟨Rd, hRd⟩ : ∃ Rd, Rd = mj_up (mj_up Rc 26 (op + 1) (nI pr)) 0 45 0 := ⟨_, rfl⟩
      obtain ⟨L', hL'⟩ : ∃ L', L' = mj_up Rc 26 (op + 1) (nI pr) := ⟨_, rfl⟩
      rw [← hRd, ← hL'] at k81
      have g0 : gA E I0 J0 Rd Sc := by
        rw [hRd]
        refine g_part g45 (hr (Rz := I2) (fun _ => rfl) (fun z => absurd e z) ?_) (Or.inl rfl) ?_
        · refine mj_on (s35_224 _ ?_)
          refine ⟨trivial, _, _, k2, ?_⟩
          rw [if_pos k8.1.2.2.2.2.2.2.2.2.2.2.2.2.2.1, k8.2.2.2.2.2.1, nI_pred, nI_clamp (by omega)]
          exact ⟨vp_in_nI (by omega) (by decide), Or.inl rfl, rfl⟩
        · rw [up_n (by omega)]; exact k8.1.2.2.2.2.2.2.2.2.2.2.2.2.2.1
      have hF0 := h.2.2.2.2.2
      have ag1 : ∀ q, 23 ≤ q → q ≤ 27 → ∀ i, i < op + 1 → L' q i = I2 q i := fun q z1 z2 i hi => by rw [hL', up_n (by omega)]; exact k6 q z1 z2 i hi
      have ag2 : ∀ i, i < bs + K.length → L' 28 i = I2 28 i := fun i _ => by rw [hL', up_n (by omega)]; exact k7 i
      have lpr : L' 26 (op + 1) = nI pr := by rw [hL', up_s]
      obtain ⟨I3, c3, n3⟩ := IH y rfl (F + 8) (op + 1) 3 0 (bs + K.length) 1 [] L' A1 A2 p2 a2 t2 v2 l2 o2 Ic Rd Sc (by omega) (by omega) k81 (by rw [hRd, up_s]) k5 (by decide) (fun z => absurd z.1 (by omega)) (fun c hc => by cases hc) (by omega) (by show f0 + A2.length + (bs + K.length + 0) ≤ p2; omega) (by show 3 * (bs + K.length + 0) ≤ 18 * (op + 1) + 12 + p2; omega)
      have hd : ∀ {Iy : (Nat → Nat → Int32)} {R : (Nat → Nat → Int32)} {S : (Nat → Nat → Int64)}, C1 (F + 8) 164 [.ref 11] Ic J1 .null Iy J1 → DD d s0 f0 B1 B2 BJ Iy R S → ∃ If, C1 (F + 9) 167 [.ref 11, .int (nI w)] I1 J1 .null If J1 ∧ DD d s0 f0 B1 B2 BJ If R S := fun {Iy R S} cc b1 => by
        obtain ⟨Ib, a2, b2⟩ := d_take (D := F + 6) (J1 := J1) (c := 44) b1
        obtain ⟨Id, a3, b3⟩ := d_sum (D := F + 3) (J1 := J1) b2
        obtain ⟨Ie, a4, b4⟩ := d_take (D := F + 6) (J1 := J1) (c := 41) b3
        obtain ⟨If, a5, b5⟩ := cz b4
        refine ⟨If, mj_mk (e167 _ ⟨trivial, _, _, _, k1, ?_⟩), b5⟩
        rw [if_neg (by decide)]
        exact ⟨trivial, _, _, cc, trivial, _, _, a2, trivial, _, _, a3, trivial, _, _, a4, trivial, _, _, a5, rfl⟩
      rcases n3 with ⟨p3, a3, t3, v3, l3, o3, x1, x2, kk, R3, S3, m1, m2, m3, m4, m5, m6, m7, m8, m9, m10, m11⟩ | ⟨R3, S3, m1, m2⟩
      · -- the comma
        have hn3 := tk_n2 m2.1
        have e00 : ([] ++ kk).length = kk.length := rfl
        rw [e00] at m9 m10
        obtain ⟨I4, R4, S4, c4, c49, n4⟩ := ts_comma (D := F + 4) (E := E) (J1 := J1) hS m2 m3 m11 (by rw [List.length_append]; omega) m9 (by omega)
        rcases n4 with ⟨g4, d4⟩ | ⟨g4, z45, p4, a4, t4, v4, l4, o4, m12, m13⟩
        · obtain ⟨Id, a3, b3⟩ := d_sum (D := F + 3) (J1 := J1) d4
          obtain ⟨Ie, a4, b4⟩ := d_take (D := F + 6) (J1 := J1) (c := 41) b3
          obtain ⟨If, a5, b5⟩ := cz b4
          refine ⟨If, mj_mk (e167 _ ⟨trivial, _, _, _, k1, ?_⟩), Or.inr ⟨R4, S4, gA_D g0 (gA_D m1 g4), b5⟩⟩
          rw [if_neg (by decide)]
          exact ⟨trivial, _, _, c3, trivial, _, _, c4, trivial, _, _, a3, trivial, _, _, a4, trivial, _, _, a5, rfl⟩
        · -- the second number
          have hn4 := tk_n2 m12.1
          have e01 : (A2 ++ x2 ++ pops kk).length = (A2 ++ x2).length + kk.length := by rw [List.length_append, pops_len]
          obtain ⟨I5, c5, n5⟩ := IH y rfl (F + 8) (op + 1) 4 0 (bs + K.length) 0 [] L' (A1 ++ x1) (A2 ++ x2 ++ pops kk) p4 a4 t4 v4 l4 o4 I4 R4 S4 (by omega) (by omega) m12 z45 (by rw [c49, m4]) (by decide) (fun z => absurd z.1 (by omega)) (fun c hc => by cases hc) (by rw [List.length_append]; omega) (by rw [e01]; show (f0 + ((A2 ++ x2).length + kk.length) + (bs + K.length + 0)) ≤ p4; omega) (by show 3 * (bs + K.length + 0) ≤ 18 * (op + 1) + 12 + p4; omega)
          rcases n5 with ⟨p5, a5, t5, v5, l5, o5, y1, y2, k2', R5, S5, r1, r2, r3, r4, r5, r6, r7, r8, r9, r10, r11⟩ | ⟨R5, S5, r1, r2⟩
          · have hn5 := tk_n2 r2.1
            have e02 : ([] ++ k2').length = k2'.length := rfl
            rw [e02] at r9 r10
            obtain ⟨I6, R6, S6, c6, c69, n6⟩ := ts_close (D := F + 4) (E := E) (J1 := J1) (k := 4) (c := 41) (pr := pr) hS (Or.inl ⟨Or.inr rfl, rfl⟩) r2 r3 (Or.inr r11) (fun z => by omega) hF0 ag1 ag2 (fun _ => lpr) (by rw [List.length_append, List.length_append]; omega) r9 (by omega)
            have c167 : ∀ {If : (Nat → Nat → Int32)}, C1 (F + 8) 163 [.ref 14, .int (nI w), .int 0] (mj_up I6 11 9 (I6 11 9 - 1)) J1 .null If J1 → C1 (F + 9) 167 [.ref 11, .int (nI w)] I1 J1 .null If J1 := fun {If} a5 => by
              refine mj_mk (e167 _ ⟨trivial, _, _, _, k1, ?_⟩)
              rw [if_neg (by decide)]
              exact ⟨trivial, _, _, c3, trivial, _, _, c4, trivial, _, _, c5, trivial, _, _, c6, trivial, _, _, a5, rfl⟩
            rcases n6 with ⟨g6, d6⟩ | ⟨g6, z46, p6, a6, t6, v6, l6, o6, m14, m15⟩
            · obtain ⟨If, a5, b5⟩ := cz d6
              exact ⟨If, c167 a5, Or.inr ⟨R6, S6, gA_D g0 (gA_D m1 (gA_D g4 (gA_D r1 g6))), b5⟩⟩
            · rw [if_neg (by decide), if_pos rfl] at m14
              have hn6 := tk_n2 m14.1
              obtain ⟨If, a7, b7, b8⟩ := ts_addC (D := F + 6) (J1 := J1) (c := pr) (y := 0) (TS_119 (y := I6 11 9 - 1) m14) (by rw [List.length_append, List.length_append]; omega) (by decide)
              rw [hopc] at a7
              refine ⟨If, c167 a7, Or.inl ⟨p6, a6, t6, v6, l6, o6, x1 ++ (y1 ++ [(pr, 0)]), (x2 ++ pops kk) ++ ((y2 ++ pops k2') ++ [(pr, 0)]), [], R6, S6, gA_tr g0 (gA_tr m1 (gA_tr g4 (gA_tr r1 g6))), ?_, z46, ?_, ?_, fun c hc => (by cases hc), by omega, ?_, ?_, ?_, trivial⟩⟩
              · rw [List.append_nil]
                simp only [List.append_assoc] at b7 ⊢
                exact b7
              · rw [b8, up_s, c69, r4, nI_pred]
              · rw [pops_nil, List.append_nil]
                exact fr2_num (by omega) (by omega) m5 r5 (by omega) (by omega)
              · simp only [List.length_append, List.length_cons, List.length_nil]
                omega
              · simp only [List.length_append, List.length_cons, List.length_nil, pops_len] at r9 ⊢
                omega
              · simp only [List.append_nil]
                omega
          · obtain ⟨Ie, a4, b4⟩ := d_take (D := F + 6) (J1 := J1) (c := 41) r2
            obtain ⟨If, a5, b5⟩ := cz b4
            refine ⟨If, mj_mk (e167 _ ⟨trivial, _, _, _, k1, ?_⟩), Or.inr ⟨R5, S5, gA_D g0 (gA_D m1 (gA_D g4 r1)), b5⟩⟩
            rw [if_neg (by decide)]
            exact ⟨trivial, _, _, c3, trivial, _, _, c4, trivial, _, _, c5, trivial, _, _, a4, trivial, _, _, a5, rfl⟩
      · obtain ⟨If, a5, b5⟩ := hd c3 m2
        exact ⟨If, a5, Or.inr ⟨R3, S3, gA_D g0 m1, b5⟩⟩
  · obtain ⟨Ib, Rb, m1, m2, m3, m4, m5, m6, m7⟩ := ts_bl (D := F + 6) (D' := E + 3) (J1 := J1) (k := 1) h (by decide) (by decide) (by omega)
    refine ⟨Ib, mj_mk (e167 _ ⟨trivial, _, _, _, mj_mk (r := (.int 0, (Ib, J1, mj_R1))) (e161 _ ⟨trivial, _, _, _, sg_c h.1 (c := 40) (by decide), if_tf (fun z => absurd z e) (fun _ => ⟨trivial, _, _, m1, Or.inl rfl, rfl⟩)⟩), by rw [if_pos rfl]⟩), Or.inr ⟨_, _, g_partD g45 (hr (fun z => absurd z e) (fun _ => m2) (r224_D m3 rfl)) (Or.inl rfl) (DD_8 m3).1, DD_45 m3⟩⟩
end Sa8f
