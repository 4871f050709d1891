/-! reading a test: products and sums on both sides -/
section Sa8h
variable {n d s0 f0 W H : Nat} {x : Nat → Nat} {B1 B2 : Nat → Nat → Int32} {BJ : Nat → Nat → Int64}
variable {D D' E op kd ph bs p a t v u : Nat} {l : List Nat} {o : Int} {bg : Int32} {K : List Nat} {A1 A2 : List (Nat × Nat)} {L I1 I2 : Nat → Nat → Int32} {J1 J2 : Nat → Nat → Int64}
theorem sb_m {n p m : Nat} (hm : n - p ≤ m) (h : p < n) : ∃ m', m = m' + 1 := ⟨m - 1, by omega⟩
theorem sb_n {n p q m m' : Nat} (hm : n - p ≤ m) (h0 : m = m' + 1) (h1 : p < q) (h2 : q ≤ n) : n - q ≤ m' := by omega
theorem tk_v (h : tkR n x p a t v l o I1 I2 J2) (ht : t = 1) : I1 11 6 = nI v := by
  rcases h.2.2.2.2.2.2.2.2.2.2.2.2.2.2.2.2 with ⟨q, -⟩ | ⟨-, -, -, -, -, -, q, -⟩ | ⟨q, -⟩ | ⟨q, -⟩
  · omega
  · exact q
  · omega
  · omega
theorem lpD_prod {Q : mj_R → Prop} {y : Int32} (h : DD d s0 f0 B1 B2 BJ I1 I2 J2) (hQ : Q (.null, (I1, J1, mj_R1))) : E1 165 (D + 1) Q 6 [(0, .ref 11), (1, .int y)] I1 J1 := by
  refine mj_on (s165_6 _ ?_)
  refine if_i (fun _ => hQ) (fun _ => ?_)
  refine ⟨trivial, _, _, _, sg_d (d_tok h).1, if_tf (fun z => z.elim) (fun _ => ?_)⟩
  exact ⟨trivial, _, _, _, sg_d (d_tok h).1, if_tf (fun z => z.elim) (fun _ => hQ)⟩
set_option maxHeartbeats 16000000 in
theorem lp_prod {F p0 : Nat} {I0 : (Nat → Nat → Int32)} {J0 : (Nat → Nat → Int64)} (hS : stc d W H B1 B2 BJ) (IH : ∀ w, u = w + 1 → SumOK n x d s0 f0 W H B1 B2 BJ J1 E w) (hF : 4 * u ≤ F) (hu : op + u = 8) (hph : ph < 2) (hK : ∀ c ∈ K, rnk c < 6) (b3 : 3 * (bs + K.length) ≤ 18 * op + 13 + p0) : ∀ (m i : Nat) (x1 x2 : (List (Nat × Nat))) (kk : List Nat) (p a t v : Nat) (l : List Nat) (o : Int) (I1 I2 : (Nat → Nat → Int32)) (J2 : (Nat → Nat → Int64)), n - p ≤ m → i ≤ p → p0 < p → gA E I0 J0 I2 J2 → TS n x d s0 f0 B1 B2 BJ op kd ph bs 0 (K ++ kk) L (A1 ++ x1) (A2 ++ x2) p a t v l o I1 I2 J2 → I2 0 45 = 1 → I1 11 9 = nI op → fr2 W H false (3 * u + 2) x1 (x2 ++ pops kk) → (∀ c ∈ kk, 6 ≤ rnk c) → s0 + (A1 ++ x1).length ≤ p → f0 + (A2 ++ x2).length + (bs + (K ++ kk).length) ≤ p → 3 * (bs + (K ++ kk).length) ≤ 18 * op + 18 + p → x1.length + p0 ≤ p → True → ∀ Q : mj_R → Prop, (∀ I1', LN n x d s0 f0 W H B1 B2 BJ E 6 (3 * u + 2) nx6 op kd ph bs K L A1 A2 p0 I1' I0 J0 → Q (.null, (I1', J1, mj_R1))) → E1 165 (F + 10) Q 6 [(0, .ref 11), (1, .int (nI i))] I1 J1 := by
    intro m
    induction m using Nat.strongRecOn with
    | _ m ih =>
    intro i x1 x2 kk p a t v l o I1 I2 J2 hm hi hp hg h h45 h9 hf hk q1 q2 q3 q0 hx Q hQ
    have hn := tk_n2 h.1
    have ex : nx6 t v → Q (.null, (I1, J1, mj_R1)) := fun nx => hQ I1 (Or.inl ⟨p, a, t, v, l, o, x1, x2, kk, I2, J2, hg, h, h45, h9, hf, hk, hp, q0, q2, q3, nx⟩)
    have go : ∀ (c : Nat), (v = 42 ∧ c = 7) ∨ (v = 47 ∧ c = 8) → t = 1 → E1 165 (F + 10) Q 31 [(0, .ref 11), (1, .int (nI i))] I1 J1 := fun c hc ht => by
      have hc4 : (v = 43 ∧ c = 5 ∧ 6 = 5) ∨ (v = 45 ∧ c = 6 ∧ 6 = 5) ∨ (v = 42 ∧ c = 7 ∧ 6 = 6) ∨ (v = 47 ∧ c = 8 ∧ 6 = 6) := by omega
      have hv := tk_v h.1 ht
      have hcc : nI (opc c) = nI v ∧ 5 ≤ c ∧ c ≤ 10 ∧ rnk c = 6 := by
        rcases hc with ⟨rfl, rfl⟩ | ⟨rfl, rfl⟩
        · exact ⟨rfl, by decide, by decide, rfl⟩
        · exact ⟨rfl, by decide, by decide, rfl⟩
      have hpn : p < n := (tk_n h.1).2.2.1 (by omega)
      obtain ⟨m0, hm0⟩ : ∃ m', m = m' + 1 := sb_m hm hpn
      have hkl : bs + (K ++ kk).length < 499 := by omega
      have e0 : (K ++ kk).length = K.length + kk.length := List.length_append
      have e1 : (A2 ++ x2 ++ pops kk).length = (A2 ++ x2).length + kk.length := by rw [List.length_append, pops_len]
      have e2 : (K ++ [c]).length = K.length + 1 := by rw [List.length_append]; rfl
      obtain ⟨Ia, Ra, Sa, k1, k9, k2⟩ := ts_arith (D := F + 7) (E := E) (J1 := J1) (c := c) (r := 6) hS hc4 ht hph h h45 hK hk q1 q2 hkl
      refine mj_on (s165_31 _ ?_)
      rw [hv, nI_1]
      rcases k2 with ⟨g2, d2⟩ | ⟨g2, z45, p1, a1, t1, v1, l1, o1, w1, w2⟩
      · obtain ⟨Ib, a2, b2⟩ := d_part (D := F + 7) (J1 := J1) d2
        obtain ⟨Ic, a3, b3⟩ := d_add (D := F + 8) (J1 := J1) (y := nI v) (z := 0) b2
        exact ⟨trivial, _, _, k1, trivial, _, _, a2, trivial, _, _, a3, lpD_prod b3 (hQ Ic (Or.inr ⟨Ra, Sa, gA_D hg g2, b3⟩))⟩
      · have hn1 := tk_n2 w1.1
        obtain ⟨Ib, c2, n2⟩ := lv_part (D := F + 10) (E := E) (J1 := J1) hS IH (by omega) hu w1 z45 (by rw [k9, h9]) hph (fun z => absurd z.2 (by decide)) (by omega) (by rw [e1, e2]; omega) (by rw [e2]; omega)
        rcases n2 with ⟨p2, a2, t2, v2, l2, o2, y1, y2, k', Rb, Sb, m1, m2, m3, m4, m5, m6, m7, m8, m9, m10, m11⟩ | ⟨Rb, Sb, m1, m2⟩
        · have hn2 := tk_n2 m2.1
          have e3 : (K ++ [c] ++ k').length = K.length + 1 + k'.length := by rw [List.length_append, e2]
          have e4 : (A2 ++ x2 ++ pops kk ++ y2).length = (A2 ++ x2).length + kk.length + y2.length := by rw [List.length_append, e1]
          have e5 : (A1 ++ x1 ++ y1).length = (A1 ++ x1).length + y1.length := List.length_append
          rw [e3, e4] at m9
          rw [e3] at m10
          obtain ⟨Ic, c3, w3, w4⟩ := ts_addC (D := F + 8) (J1 := J1) (c := c) (y := 0) m2 (by rw [e5]; omega) (by decide)
          rw [hcc.1] at c3
          refine ⟨trivial, _, _, k1, trivial, _, _, c2, trivial, _, _, c3, ?_⟩
          refine ih m0 (by omega) (i + 1) (x1 ++ (y1 ++ [(c, 0)])) (x2 ++ pops kk ++ y2) ([c] ++ k') p2 a2 t2 v2 l2 o2 Ic Rb Sb (sb_n hm hm0 (by omega) (by omega)) (by omega) (by omega) (gA_tr hg (gA_tr g2 m1)) ?_ m3 (by rw [w4, m4]) ?_ ?_ ?_ ?_ ?_ ?_ trivial Q hQ
          · simp only [List.append_assoc] at w3 ⊢
            exact w3
          · have q := fr2_num (op := c) (h3 := 3 * u + 2) hcc.2.1 hcc.2.2.1 hf m5 (by omega) (by omega)
            rw [pops_app, pops_one]
            simp only [List.append_assoc] at q ⊢
            exact q
          · intro e he
            rcases List.mem_append.mp he with z | z
            · rw [List.mem_singleton.mp z, hcc.2.2.2]; exact Nat.le_refl _
            · have := m6 e z; omega
          · rw [← List.append_assoc, List.length_append, List.length_append, List.length_append]
            show s0 + ((A1.length + x1.length) + (y1.length + 1)) ≤ p2
            rw [List.length_append] at q1
            omega
          · rw [← List.append_assoc, ← List.append_assoc, e4, ← List.append_assoc, e3]; omega
          · rw [← List.append_assoc, e3]; omega
          · rw [List.length_append, List.length_append]; show x1.length + (y1.length + 1) + p0 ≤ p2; omega
        · obtain ⟨Ic, a3, b3⟩ := d_add (D := F + 8) (J1 := J1) (y := nI v) (z := 0) m2
          exact ⟨trivial, _, _, k1, trivial, _, _, c2, trivial, _, _, a3, lpD_prod b3 (hQ Ic (Or.inr ⟨Rb, Sb, gA_D hg (gA_D g2 m1), b3⟩))⟩
    refine mj_on (s165_6 _ ?_)
    rw [show (900 : Int32) = nI 900 from rfl]
    refine if_le (by decide) (by omega) (fun z => ex (fun y => ?_)) (fun z => ?_)
    · have := (tk_n h.1).2.2.1 (by omega)
      omega
    refine ⟨trivial, _, _, _, sg_c (c := 42) h.1 (by decide), if_tf (fun y => go 7 (Or.inl ⟨y.2, rfl⟩) y.1) (fun y1 => ?_)⟩
    refine ⟨trivial, _, _, _, sg_c (c := 47) h.1 (by decide), if_tf (fun y => go 8 (Or.inr ⟨y.2, rfl⟩) y.1) (fun y2 => ex ?_)⟩
    exact fun y => y.2.elim (fun z => y1 ⟨y.1, z⟩) (fun z => y2 ⟨y.1, z⟩)
set_option maxHeartbeats 4000000 in
theorem lv_prod (hS : stc d W H B1 B2 BJ) (IH : ∀ w, u = w + 1 → SumOK n x d s0 f0 W H B1 B2 BJ J1 E w) (hD : 4 * u + 11 ≤ D) (hu : op + u = 8) (h : TS n x d s0 f0 B1 B2 BJ op kd ph bs bg K L A1 A2 p a t v l o I1 I2 J2) (h45 : I2 0 45 = 0) (h9 : I1 11 9 = nI op) (hph : ph < 2) (hb : fst1 kd bg → ¬ spcl t v o) (hK : ∀ c ∈ K, rnk c < 6) (q1 : s0 + A1.length ≤ p) (q2 : f0 + A2.length + (bs + K.length) ≤ p) (q3 : 3 * (bs + K.length) ≤ 18 * op + 13 + p) :
    ∃ I1', C1 D 165 [.ref 11] I1 J1 .null I1' J1 ∧ LN n x d s0 f0 W H B1 B2 BJ E 6 (3 * u + 2) nx6 op kd ph bs K L A1 A2 p I1' I2 J2 := by
  obtain ⟨F, rfl⟩ : ∃ F, D = F + 11 := ⟨D - 11, by omega⟩
  obtain ⟨Ia, c1, n1⟩ := lv_part (D := F + 10) (E := E) (J1 := J1) hS IH (by omega) hu h h45 h9 hph hb q1 q2 (by omega)
  have key : ∀ Q : mj_R → Prop, (∀ I1', LN n x d s0 f0 W H B1 B2 BJ E 6 (3 * u + 2) nx6 op kd ph bs K L A1 A2 p I1' I2 J2 → Q (.null, (I1', J1, mj_R1))) → E1 165 (F + 10) Q 6 [(0, .ref 11), (1, .int 0)] Ia J1 := fun Q hQ => by
    rcases n1 with ⟨p2, a2, t2, v2, l2, o2, y1, y2, k', Rb, Sb, m1, m2, m3, m4, m5, m6, m7, m8, m9, m10, m11⟩ | ⟨Rb, Sb, m1, m2⟩
    · exact lp_prod hS IH (by omega) hu hph hK q3 (n - p2) 0 y1 y2 k' p2 a2 t2 v2 l2 o2 Ia Rb Sb (Nat.le_refl _) (by omega) m7 m1 m2 m3 m4 (fr2_up m5 (by omega)) (fun e he => by have := m6 e he; omega) (by rw [List.length_append]; omega) m9 m10 m8 trivial Q hQ
    · exact lpD_prod m2 (hQ Ia (Or.inr ⟨Rb, Sb, m1, m2⟩))
  obtain ⟨I', J', hc, rfl, hL⟩ := mj_cN (S := mj_S1) (CD := mj_CD) (D := F + 10) (z := 165) (as := [.ref 11]) (h := (I1, J1, mj_R1)) (R := mj_R1) (P := fun I' J' => J' = J1 ∧ LN n x d s0 f0 W H B1 B2 BJ E 6 (3 * u + 2) nx6 op kd ph bs K L A1 A2 p I' I2 J2) (e165 ⟨trivial, _, _, c1, key _ (fun I3 q => ⟨_, _, rfl, rfl, q⟩)⟩)
  exact ⟨I', hc, hL⟩
theorem lpD_sum {Q : mj_R → Prop} {y : Int32} (h : DD d s0 f0 B1 B2 BJ I1 I2 J2) (hQ : Q (.null, (I1, J1, mj_R1))) : E1 164 (D + 1) Q 6 [(0, .ref 11), (1, .int y)] I1 J1 := by
  refine mj_on (s164_6 _ ?_)
  refine if_i (fun _ => hQ) (fun _ => ?_)
  refine ⟨trivial, _, _, _, sg_d (d_tok h).1, if_tf (fun z => z.elim) (fun _ => ?_)⟩
  exact ⟨trivial, _, _, _, sg_d (d_tok h).1, if_tf (fun z => z.elim) (fun _ => hQ)⟩
set_option maxHeartbeats 16000000 in
theorem lp_sum {F p0 : Nat} {I0 : (Nat → Nat → Int32)} {J0 : (Nat → Nat → Int64)} (hS : stc d W H B1 B2 BJ) (IH : ∀ w, u = w + 1 → SumOK n x d s0 f0 W H B1 B2 BJ J1 E w) (hF : 4 * u ≤ F) (hu : op + u = 8) (hph : ph < 2) (hK : ∀ c ∈ K, rnk c < 5) (b3 : 3 * (bs + K.length) ≤ 18 * op + 12 + p0) : ∀ (m i : Nat) (x1 x2 : (List (Nat × Nat))) (kk : List Nat) (p a t v : Nat) (l : List Nat) (o : Int) (I1 I2 : (Nat → Nat → Int32)) (J2 : (Nat → Nat → Int64)), n - p ≤ m → i ≤ p → p0 < p → gA E I0 J0 I2 J2 → TS n x d s0 f0 B1 B2 BJ op kd ph bs 0 (K ++ kk) L (A1 ++ x1) (A2 ++ x2) p a t v l o I1 I2 J2 → I2 0 45 = 1 → I1 11 9 = nI op → fr2 W H false (3 * u + 3) x1 (x2 ++ pops kk) → (∀ c ∈ kk, 5 ≤ rnk c) → s0 + (A1 ++ x1).length ≤ p → f0 + (A2 ++ x2).length + (bs + (K ++ kk).length) ≤ p → 3 * (bs + (K ++ kk).length) ≤ 18 * op + 18 + p → x1.length + p0 ≤ p → nx6 t v → ∀ Q : mj_R → Prop, (∀ I1', LN n x d s0 f0 W H B1 B2 BJ E 5 (3 * u + 3) nx5 op kd ph bs K L A1 A2 p0 I1' I0 J0 → Q (.null, (I1', J1, mj_R1))) → E1 164 (F + 11) Q 6 [(0, .ref 11), (1, .int (nI i))] I1 J1 := by
    intro m
    induction m using Nat.strongRecOn with
    | _ m ih =>
    intro i x1 x2 kk p a t v l o I1 I2 J2 hm hi hp hg h h45 h9 hf hk q1 q2 q3 q0 hx Q hQ
    have hn := tk_n2 h.1
    have ex : nx5 t v → Q (.null, (I1, J1, mj_R1)) := fun nx => hQ I1 (Or.inl ⟨p, a, t, v, l, o, x1, x2, kk, I2, J2, hg, h, h45, h9, hf, hk, hp, q0, q2, q3, nx⟩)
    have go : ∀ (c : Nat), (v = 43 ∧ c = 5) ∨ (v = 45 ∧ c = 6) → t = 1 → E1 164 (F + 11) Q 31 [(0, .ref 11), (1, .int (nI i))] I1 J1 := fun c hc ht => by
      have hc4 : (v = 43 ∧ c = 5 ∧ 5 = 5) ∨ (v = 45 ∧ c = 6 ∧ 5 = 5) ∨ (v = 42 ∧ c = 7 ∧ 5 = 6) ∨ (v = 47 ∧ c = 8 ∧ 5 = 6) := by omega
      have hv := tk_v h.1 ht
      have hcc : nI (opc c) = nI v ∧ 5 ≤ c ∧ c ≤ 10 ∧ rnk c = 5 := by
        rcases hc with ⟨rfl, rfl⟩ | ⟨rfl, rfl⟩
        · exact ⟨rfl, by decide, by decide, rfl⟩
        · exact ⟨rfl, by decide, by decide, rfl⟩
      have hpn : p < n := (tk_n h.1).2.2.1 (by omega)
      obtain ⟨m0, hm0⟩ : ∃ m', m = m' + 1 := sb_m hm hpn
      have hkl : bs + (K ++ kk).length < 499 := by omega
      have e0 : (K ++ kk).length = K.length + kk.length := List.length_append
      have e1 : (A2 ++ x2 ++ pops kk).length = (A2 ++ x2).length + kk.length := by rw [List.length_append, pops_len]
      have e2 : (K ++ [c]).length = K.length + 1 := by rw [List.length_append]; rfl
      obtain ⟨Ia, Ra, Sa, k1, k9, k2⟩ := ts_arith (D := F + 8) (E := E) (J1 := J1) (c := c) (r := 5) hS hc4 ht hph h h45 hK hk q1 q2 hkl
      refine mj_on (s164_31 _ ?_)
      rw [hv, nI_1]
      rcases k2 with ⟨g2, d2⟩ | ⟨g2, z45, p1, a1, t1, v1, l1, o1, w1, w2⟩
      · obtain ⟨Ib, a2, b2⟩ := d_prod (D := F + 7) (J1 := J1) d2
        obtain ⟨Ic, a3, b3⟩ := d_add (D := F + 9) (J1 := J1) (y := nI v) (z := 0) b2
        exact ⟨trivial, _, _, k1, trivial, _, _, a2, trivial, _, _, a3, lpD_sum b3 (hQ Ic (Or.inr ⟨Ra, Sa, gA_D hg g2, b3⟩))⟩
      · have hn1 := tk_n2 w1.1
        obtain ⟨Ib, c2, n2⟩ := lv_prod (D := F + 11) (E := E) (J1 := J1) hS IH (by omega) hu w1 z45 (by rw [k9, h9]) hph (fun z => absurd z.2 (by decide)) (fun e he => by
          rcases List.mem_append.mp he with z | z
          · have := hK e z; omega
          · rw [List.mem_singleton.mp z, hcc.2.2.2]; omega) (by omega) (by rw [e1, e2]; omega) (by rw [e2]; omega)
        rcases n2 with ⟨p2, a2, t2, v2, l2, o2, y1, y2, k', Rb, Sb, m1, m2, m3, m4, m5, m6, m7, m8, m9, m10, m11⟩ | ⟨Rb, Sb, m1, m2⟩
        · have hn2 := tk_n2 m2.1
          have e3 : (K ++ [c] ++ k').length = K.length + 1 + k'.length := by rw [List.length_append, e2]
          have e4 : (A2 ++ x2 ++ pops kk ++ y2).length = (A2 ++ x2).length + kk.length + y2.length := by rw [List.length_append, e1]
          have e5 : (A1 ++ x1 ++ y1).length = (A1 ++ x1).length + y1.length := List.length_append
          rw [e3, e4] at m9
          rw [e3] at m10
          obtain ⟨Ic, c3, w3, w4⟩ := ts_addC (D := F + 9) (J1 := J1) (c := c) (y := 0) m2 (by rw [e5]; omega) (by decide)
          rw [hcc.1] at c3
          refine ⟨trivial, _, _, k1, trivial, _, _, c2, trivial, _, _, c3, ?_⟩
          refine ih m0 (by omega) (i + 1) (x1 ++ (y1 ++ [(c, 0)])) (x2 ++ pops kk ++ y2) ([c] ++ k') p2 a2 t2 v2 l2 o2 Ic Rb Sb (sb_n hm hm0 (by omega) (by omega)) (by omega) (by omega) (gA_tr hg (gA_tr g2 m1)) ?_ m3 (by rw [w4, m4]) ?_ ?_ ?_ ?_ ?_ ?_ m11 Q hQ
          · simp only [List.append_assoc] at w3 ⊢
            exact w3
          · have q := fr2_num (op := c) (h3 := 3 * u + 3) hcc.2.1 hcc.2.2.1 hf m5 (by omega) (by omega)
            rw [pops_app, pops_one]
            simp only [List.append_assoc] at q ⊢
            exact q
          · intro e he
            rcases List.mem_append.mp he with z | z
            · rw [List.mem_singleton.mp z, hcc.2.2.2]; exact Nat.le_refl _
            · have := m6 e z; omega
          · rw [← List.append_assoc, List.length_append, List.length_append, List.length_append]
            show s0 + ((A1.length + x1.length) + (y1.length + 1)) ≤ p2
            rw [List.length_append] at q1
            omega
          · rw [← List.append_assoc, ← List.append_assoc, e4, ← List.append_assoc, e3]; omega
          · rw [← List.append_assoc, e3]; omega
          · rw [List.length_append, List.length_append]; show x1.length + (y1.length + 1) + p0 ≤ p2; omega
        · obtain ⟨Ic, a3, b3⟩ := d_add (D := F + 9) (J1 := J1) (y := nI v) (z := 0) m2
          exact ⟨trivial, _, _, k1, trivial, _, _, c2, trivial, _, _, a3, lpD_sum b3 (hQ Ic (Or.inr ⟨Rb, Sb, gA_D hg (gA_D g2 m1), b3⟩))⟩
    refine mj_on (s164_6 _ ?_)
    rw [show (900 : Int32) = nI 900 from rfl]
    refine if_le (by decide) (by omega) (fun z => ex (fun y => ?_)) (fun z => ?_)
    · have := (tk_n h.1).2.2.1 (by omega)
      omega
    refine ⟨trivial, _, _, _, sg_c (c := 43) h.1 (by decide), if_tf (fun y => go 5 (Or.inl ⟨y.2, rfl⟩) y.1) (fun y1 => ?_)⟩
    refine ⟨trivial, _, _, _, sg_c (c := 45) h.1 (by decide), if_tf (fun y => go 6 (Or.inr ⟨y.2, rfl⟩) y.1) (fun y2 => ex ?_)⟩
    intro y
    rcases y.2 with z | z | z | z
    · exact y1 ⟨y.1, z⟩
    · exact y2 ⟨y.1, z⟩
    · exact hx ⟨y.1, Or.inl z⟩
    · exact hx ⟨y.1, Or.inr z⟩
set_option maxHeartbeats 4000000 in
theorem lv_sum (hS : stc d W H B1 B2 BJ) (IH : ∀ w, u = w + 1 → SumOK n x d s0 f0 W H B1 B2 BJ J1 E w) (hD : 4 * u + 12 ≤ D) (hu : op + u = 8) (h : TS n x d s0 f0 B1 B2 BJ op kd ph bs bg K L A1 A2 p a t v l o I1 I2 J2) (h45 : I2 0 45 = 0) (h9 : I1 11 9 = nI op) (hph : ph < 2) (hb : fst1 kd bg → ¬ spcl t v o) (hK : ∀ c ∈ K, rnk c < 5) (q1 : s0 + A1.length ≤ p) (q2 : f0 + A2.length + (bs + K.length) ≤ p) (q3 : 3 * (bs + K.length) ≤ 18 * op + 12 + p) :
    ∃ I1', C1 D 164 [.ref 11] I1 J1 .null I1' J1 ∧ LN n x d s0 f0 W H B1 B2 BJ E 5 (3 * u + 3) nx5 op kd ph bs K L A1 A2 p I1' I2 J2 := by
  obtain ⟨F, rfl⟩ : ∃ F, D = F + 12 := ⟨D - 12, by omega⟩
  obtain ⟨Ia, c1, n1⟩ := lv_prod (D := F + 11) (E := E) (J1 := J1) hS IH (by omega) hu h h45 h9 hph hb (fun e he => by have := hK e he; omega) q1 q2 (by omega)
  have key : ∀ Q : mj_R → Prop, (∀ I1', LN n x d s0 f0 W H B1 B2 BJ E 5 (3 * u + 3) nx5 op kd ph bs K L A1 A2 p I1' I2 J2 → Q (.null, (I1', J1, mj_R1))) → E1 164 (F + 11) Q 6 [(0, .ref 11), (1, .int 0)] Ia J1 := fun Q hQ => by
    rcases n1 with ⟨p2, a2, t2, v2, l2, o2, y1, y2, k', Rb, Sb, m1, m2, m3, m4, m5, m6, m7, m8, m9, m10, m11⟩ | ⟨Rb, Sb, m1, m2⟩
    · exact lp_sum hS IH (by omega) hu hph hK q3 (n - p2) 0 y1 y2 k' p2 a2 t2 v2 l2 o2 Ia Rb Sb (Nat.le_refl _) (by omega) m7 m1 m2 m3 m4 (fr2_up m5 (by omega)) (fun e he => by have := m6 e he; omega) (by rw [List.length_append]; omega) m9 m10 m8 m11 Q hQ
    · exact lpD_sum m2 (hQ Ia (Or.inr ⟨Rb, Sb, m1, m2⟩))
  obtain ⟨I', J', hc, rfl, hL⟩ := mj_cN (S := mj_S1) (CD := mj_CD) (D := F + 11) (z := 164) (as := [.ref 11]) (h := (I1, J1, mj_R1)) (R := mj_R1) (P := fun I' J' => J' = J1 ∧ LN n x d s0 f0 W H B1 B2 BJ E 5 (3 * u + 3) nx5 op kd ph bs K L A1 A2 p I' I2 J2) (e164 ⟨trivial, _, _, c1, key _ (fun I3 q => ⟨_, _, rfl, rfl, q⟩)⟩)
  exact ⟨I', hc, hL⟩
theorem sum_all (hS : stc d W H B1 B2 BJ) : ∀ u, SumOK n x d s0 f0 W H B1 B2 BJ J1 E u
  | 0 => fun D op kd ph bs bg K L A1 A2 p a t v l o I1 I2 J2 hD hu h h45 h9 hph hb hK q1 q2 q3 => lv_sum hS (fun w q => by omega) hD hu h h45 h9 hph hb hK q1 q2 q3
  | u + 1 => fun D op kd ph bs bg K L A1 A2 p a t v l o I1 I2 J2 hD hu h h45 h9 hph hb hK q1 q2 q3 => lv_sum hS (fun w q => by
      obtain rfl : w = u := by omega
      exact sum_all hS w) hD hu h h45 h9 hph hb hK q1 q2 q3
end Sa8h
