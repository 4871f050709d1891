section Sa8h_4
variable {n d s0 f0 W H : Nat} {x : Nat → Nat} {B1 B2 : Nat → Nat → Int32} {BJ : Nat → Nat → Int64}
variable {D D' E op kd ph bs p a t v u : Nat} {l : List Nat} {o : Int} {bg : Int32} {K : List Nat} {A1 A2 : List (Nat × Nat)} {L I1 I2 : Nat → Nat → Int32} {J1 J2 : Nat → Nat → Int64}
set_option maxHeartbeats 4000000 in
theorem lv_prod (hS : stc d W H B1 B2 BJ) (IH : ∀ w, u = w + 1 → SumOK n x d s0 f0 W H B1 B2 BJ J1 E w) (hD : 4 * u + 11 ≤ D) (hu : op + u = 8) (h : TS n x d s0 f0 B1 B2 BJ op kd ph bs bg K L A1 A2 p a t v l o I1 I2 J2) (h45 : I2 0 45 = 0) (h9 : I1 11 9 = nI op) (hph : ph < 2) (hb : fst1 kd bg → ¬ spcl t v o) (hK : ∀ c ∈ K, rnk c < 6) (q1 : s0 + A1.length ≤ p) (q2 : f0 + A2.length + (bs + K.length) ≤ p) (q3 : 3 * (bs + K.length) ≤ 18 * op + 13 + p) :
    ∃ I1', C1 D 165 [.ref 11] I1 J1 .null I1' J1 ∧ LN n x d s0 f0 W H B1 B2 BJ E 6 (3 * u + 2) nx6 op kd ph bs K L A1 A2 p I1' I2 J2 := by
  obtain ⟨F, rfl⟩ : ∃ F, D = F + 11 := ⟨D - 11, by omega⟩
  obtain ⟨Ia, c1, n1⟩ := lv_part (D := F + 10) (E := E) (J1 := J1) hS IH (by omega) hu h h45 h9 hph hb q1 q2 (by omega)
  have key : ∀ Q : mj_R → Prop, (∀ I1', LN n x d s0 f0 W H B1 B2 BJ E 6 (3 * u + 2) nx6 op kd ph bs K L A1 A2 p I1' I2 J2 → Q (.null, (I1', J1, mj_R1))) → E1 165 (F + 10) Q 6 [(0, .ref 11), (1, .int 0)] Ia J1 := fun Q hQ => by
    rcases n1 with ⟨p2, a2, t2, v2, l2, o2, y1, y2, k', Rb, Sb, m1, m2, m3, m4, m5, m6, m7, m8, m9, m10, m11⟩ | ⟨Rb, Sb, m1, m2⟩
    · exact lp_prod hS IH (by omega) hu hph hK q3 (n - p2) 0 y1 y2 k' p2 a2 t2 v2 l2 o2 Ia Rb Sb (Nat.le_refl _) (by omega) m7 m1 m2 m3 m4 (fr2_up m5 (by omega)) (fun e he => by have := m6 e he; omega) (by rw [List.length_append]; omega) m9 m10 m8 trivial Q hQ
    · exact lpD_prod m2 (hQ Ia (Or.inr ⟨Rb, Sb, m1, m2⟩))
  obtain ⟨I', J', hc, rfl, hL⟩ := mj_cN (S := mj_S1) (CD := mj_CD) (D := F + 10) (z := 165) (as := [.ref 11]) (h := (I1, J1, mj_R1)) (R := mj_R1) (P := fun I' J' => J' = J1 ∧ LN n x d s0 f0 W H B1 B2 BJ E 6 (3 * u + 2) nx6 op kd ph bs K L A1 A2 p I' I2 J2) (e165 ⟨trivial, _, _, c1, key _ (fun I3 q => ⟨_, _, rfl, rfl, q⟩)⟩)
  exact ⟨I', hc, hL⟩
end Sa8h_4

