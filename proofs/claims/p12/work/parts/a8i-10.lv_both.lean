section Sa8i_10
variable {n d s0 f0 W H : Nat} {x : Nat → Nat} {B1 B2 : Nat → Nat → Int32} {BJ : Nat → Nat → Int64}
variable {D D' E op kd ph bs p a t v u : Nat} {l : List Nat} {o : Int} {bg : Int32} {K : List Nat} {A1 A2 : List (Nat × Nat)} {L I1 I2 : Nat → Nat → Int32} {J1 J2 : Nat → Nat → Int64}
set_option maxHeartbeats 4000000 in
theorem lv_both (hS : stc d W H B1 B2 BJ) (IH : ∀ w, u = w + 1 → TestOK n x d s0 f0 W H B1 B2 BJ J1 E w) (hD : 4 * u + 14 ≤ D) (hu : op + u = 8) (hkd : kd = 1 ∨ kd = 5) (h : TS n x d s0 f0 B1 B2 BJ op kd 0 bs 1 K L A1 A2 p a t v l o I1 I2 J2) (h45 : I2 0 45 = 0) (h9 : I1 11 9 = nI op) (hK : ∀ c ∈ K, rnk c < 2) (q1 : s0 + A1.length ≤ p) (q2 : f0 + A2.length + (bs + K.length) ≤ p) (q3 : 3 * (bs + K.length) ≤ 18 * op + 3 + p) :
    ∃ I1', C1 D 158 [.ref 11] I1 J1 .null I1' J1 ∧ LT n x d s0 f0 W H B1 B2 BJ E 2 (3 * u + 5) (fun o => o ≠ 9) op kd bs K L A1 A2 p I1' I2 J2 := by
  obtain ⟨F, rfl⟩ : ∃ F, D = F + 14 := ⟨D - 14, by omega⟩
  obtain ⟨Ia, c1, n1⟩ := lv_fact (D := F + 13) (E := E) (J1 := J1) hS IH (by omega) hu hkd h h45 h9 (fun e he => by have := hK e he; omega) q1 q2 (by omega)
  have key : ∀ Q : mj_R → Prop, (∀ I1', LT n x d s0 f0 W H B1 B2 BJ E 2 (3 * u + 5) (fun o => o ≠ 9) op kd bs K L A1 A2 p I1' I2 J2 → Q (.null, (I1', J1, mj_R1))) → E1 158 (F + 13) Q 6 [(0, .ref 11), (1, .int 0)] Ia J1 := fun Q hQ => by
    rcases n1 with ⟨p2, a2, t2, v2, l2, o2, ph2, y1, y2, k', Rb, Sb, m1, m2, m3, m4, m5, m6, m7, m8, m9, m10, m11, m12, m13⟩ | ⟨Rb, Sb, m1, m2⟩
    · exact lp_both hS IH (by omega) hu hkd hK q3 (n - p2) 0 y1 y2 k' p2 a2 t2 v2 l2 o2 ph2 Ia Rb Sb (Nat.le_refl _) (by omega) m7 m1 m2 m3 m4 (fr2_up m5 (by omega)) (fun e he => by have := m6 e he; omega) (by rw [List.length_append]; omega) m9 m10 m8 m11 m12 trivial Q hQ
    · exact lpD_both m2 (hQ Ia (Or.inr ⟨Rb, Sb, m1, m2⟩))
  obtain ⟨I', J', hc, rfl, hL⟩ := mj_cN (S := mj_S1) (CD := mj_CD) (D := F + 13) (z := 158) (as := [.ref 11]) (h := (I1, J1, mj_R1)) (R := mj_R1) (P := fun I' J' => J' = J1 ∧ LT n x d s0 f0 W H B1 B2 BJ E 2 (3 * u + 5) (fun o => o ≠ 9) op kd bs K L A1 A2 p I' I2 J2) (e158 ⟨trivial, _, _, c1, key _ (fun I3 q => ⟨_, _, rfl, rfl, q⟩)⟩)
  exact ⟨I', hc, hL⟩
end Sa8i_10

