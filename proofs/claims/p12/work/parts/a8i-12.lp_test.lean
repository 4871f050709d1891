section Sa8i_12
variable {n d s0 f0 W H : Nat} {x : Nat → Nat} {B1 B2 : Nat → Nat → Int32} {BJ : Nat → Nat → Int64}
variable {D D' E op kd ph bs p a t v u : Nat} {l : List Nat} {o : Int} {bg : Int32} {K : List Nat} {A1 A2 : List (Nat × Nat)} {L I1 I2 : Nat → Nat → Int32} {J1 J2 : Nat → Nat → Int64}
set_option maxHeartbeats 16000000 in
theorem lp_test {F p0 : Nat} {I0 : (Nat → Nat → Int32)} {J0 : (Nat → Nat → Int64)} (hS : stc d W H B1 B2 BJ) (IH : ∀ w, u = w + 1 → TestOK n x d s0 f0 W H B1 B2 BJ J1 E w) (hF : 4 * u ≤ F) (hu : op + u = 8) (hkd : kd = 1 ∨ kd = 5) (hK : ∀ c ∈ K, rnk c < 1) (b3 : 3 * (bs + K.length) ≤ 18 * op + 0 + p0) : ∀ (m i : Nat) (x1 x2 : (List (Nat × Nat))) (kk : List Nat) (p a t v : Nat) (l : List Nat) (o : Int) (ph : Nat) (I1 I2 : (Nat → Nat → Int32)) (J2 : (Nat → Nat → Int64)), n - p ≤ m → i ≤ p → p0 < p → gA E I0 J0 I2 J2 → TS n x d s0 f0 B1 B2 BJ op kd ph bs 0 (K ++ kk) L (A1 ++ x1) (A2 ++ x2) p a t v l o I1 I2 J2 → I2 0 45 = 1 → I1 11 9 = nI op → fr2 W H true (3 * u + 6) x1 (x2 ++ pops kk) → (∀ c ∈ kk, 1 ≤ rnk c) → s0 + (A1 ++ x1).length ≤ p → f0 + (A2 ++ x2).length + (bs + (K ++ kk).length) ≤ p → 3 * (bs + (K ++ kk).length) ≤ 18 * op + 18 + p → x1.length + p0 ≤ p → ph ≠ 0 → (ph = 2 ∨ nx5 t v) → o ≠ 9 → ∀ Q : mj_R → Prop, (∀ I1', LT n x d s0 f0 W H B1 B2 BJ E 1 (3 * u + 6) (fun o => o ≠ 9 ∧ o ≠ 8) op kd bs K L A1 A2 p0 I1' I0 J0 → Q (.null, (I1', J1, mj_R1))) → E1 157 (F + 14) Q 6 [(0, .ref 11), (1, .int (nI i))] I1 J1 := by
  intro m
  induction m using Nat.strongRecOn with
  | _ m ih =>
  intro i x1 x2 kk p a t v l o ph I1 I2 J2 hm hi hp hg h h45 h9 hf hk q1 q2 q3 q0 hph hph2 hx Q hQ
  have hn := tk_n h.1
  have ex : o ≠ (8 : Nat) → Q (.null, (I1, J1, mj_R1)) := fun nx => hQ I1 (Or.inl ⟨p, a, t, v, l, o, ph, x1, x2, kk, I2, J2, hg, h, h45, h9, hf, hk, hp, q0, q2, q3, hph, hph2, hx, nx⟩)
  refine mj_on (s157_6 _ ?_)
  rw [show (900 : Int32) = nI 900 from rfl]
  refine if_le (by decide) (by omega) (fun z => ex (fun y => ?_)) (fun z => ?_)
  · have := hn.2.2.1 (by have := (tk_w h.1 (w := 8) (by decide) y).1; omega)
    omega
  by_cases ow : o = (8 : Nat)
  · rw [if_pos ((own_eq (y := 8) h.1 (w := 8) (by decide) rfl).mpr ow), nI_1]
    have t3 := (tk_w h.1 (w := 8) (by decide) ow).1
    have hpn : p < n := hn.2.2.1 (by omega)
    obtain ⟨m0, hm0⟩ : ∃ m', m = m' + 1 := ⟨m - 1, by omega⟩
    have hkl : bs + (K ++ kk).length < 499 := by omega
    have e0 : (K ++ kk).length = K.length + kk.length := List.length_append
    have e1 : (A2 ++ x2 ++ pops kk).length = (A2 ++ x2).length + kk.length := by rw [List.length_append, pops_len]
    have e2 : (K ++ [15]).length = K.length + 1 := by rw [List.length_append]; rfl
    obtain ⟨Ia, Ra, Sa, k1, k9, k2⟩ := ts_logic (D := F + 11) (E := E) (J1 := J1) (c := 15) (r := 1) (w := 8) hS (Or.inr ⟨rfl, rfl, rfl⟩) ow hkd hph h h45 hK hk q1 q2 hkl
    rcases k2 with ⟨g2, d2⟩ | ⟨g2, z45, p1, a1, t1, v1, l1, o1, w1, w2⟩
    · obtain ⟨Ib, a2, b2⟩ := d_both (D := F + 7) (J1 := J1) d2
      obtain ⟨Ic, a3, b3⟩ := d_add (D := F + 12) (J1 := J1) (y := 8) (z := 0) b2
      exact ⟨trivial, _, _, k1, trivial, _, _, a2, trivial, _, _, a3, lpD_test b3 (hQ Ic (Or.inr ⟨Ra, Sa, gA_D hg g2, b3⟩))⟩
    · have hn1 := tk_n w1.1
      obtain ⟨Ib, c2, n2⟩ := lv_both (D := F + 14) (E := E) (J1 := J1) hS IH (by omega) hu hkd w1 z45 (by rw [k9, h9]) (fun e he => by
        rcases List.mem_append.mp he with z | z
        · have := hK e z; omega
        · rw [List.mem_singleton.mp z]; decide) (by omega) (by rw [e1, e2]; omega) (by rw [e2]; omega)
      rcases n2 with ⟨p2, a2, t2, v2, l2, o2, ph2, y1, y2, k', Rb, Sb, m1, m2, m3, m4, m5, m6, m7, m8, m9, m10, m11, m12, m13⟩ | ⟨Rb, Sb, m1, m2⟩
      · have hn2 := tk_n m2.1
        have e3 : (K ++ [15] ++ k').length = K.length + 1 + k'.length := by rw [List.length_append, e2]
        have e4 : (A2 ++ x2 ++ pops kk ++ y2).length = (A2 ++ x2).length + kk.length + y2.length := by rw [List.length_append, e1]
        have e5 : (A1 ++ x1 ++ y1).length = (A1 ++ x1).length + y1.length := List.length_append
        rw [e3, e4] at m9
        rw [e3] at m10
        obtain ⟨Ic, c3, w3, w4⟩ := ts_addC (D := F + 12) (J1 := J1) (c := 15) (y := 0) m2 (by rw [e5]; omega) (by decide)
        refine ⟨trivial, _, _, k1, trivial, _, _, c2, trivial, _, _, c3, ?_⟩
        refine ih m0 (by omega) (i + 1) (x1 ++ (y1 ++ [(15, 0)])) (x2 ++ pops kk ++ y2) ([15] ++ k') p2 a2 t2 v2 l2 o2 ph2 Ic Rb Sb (by omega) (by omega) (by omega) (gA_tr hg (gA_tr g2 m1)) ?_ m3 (by rw [w4, m4]) ?_ ?_ ?_ ?_ ?_ ?_ m11 m12 m13 Q hQ
        · simp only [List.append_assoc] at w3 ⊢
          exact w3
        · have q := fr2_log (op := 15) (h3 := 3 * u + 6) (by decide) hf m5 (by omega) (by omega)
          rw [pops_app, pops_one]
          simp only [List.append_assoc] at q ⊢
          exact q
        · intro e he
          rcases List.mem_append.mp he with z | z
          · rw [List.mem_singleton.mp z]; decide
          · have := m6 e z; omega
        · rw [← List.append_assoc, List.length_append, List.length_append, List.length_append]
          show s0 + ((A1.length + x1.length) + (y1.length + 1)) ≤ p2
          rw [List.length_append] at q1
          omega
        · rw [← List.append_assoc, ← List.append_assoc, e4, ← List.append_assoc, e3]; omega
        · rw [← List.append_assoc, e3]; omega
        · rw [List.length_append, List.length_append]; show x1.length + (y1.length + 1) + p0 ≤ p2; omega
      · obtain ⟨Ic, a3, b3⟩ := d_add (D := F + 12) (J1 := J1) (y := 8) (z := 0) m2
        exact ⟨trivial, _, _, k1, trivial, _, _, c2, trivial, _, _, a3, lpD_test b3 (hQ Ic (Or.inr ⟨Rb, Sb, gA_D hg (gA_D g2 m1), b3⟩))⟩
  · rw [if_neg (fun z => ow ((own_eq (y := 8) h.1 (w := 8) (by decide) rfl).mp z))]
    exact ex ow
end Sa8i_12

