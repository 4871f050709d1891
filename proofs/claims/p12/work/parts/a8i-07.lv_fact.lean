section Sa8i_7
variable {n d s0 f0 W H : Nat} {x : Nat → Nat} {B1 B2 : Nat → Nat → Int32} {BJ : Nat → Nat → Int64}
variable {D D' E op kd ph bs p a t v u : Nat} {l : List Nat} {o : Int} {bg : Int32} {K : List Nat} {A1 A2 : List (Nat × Nat)} {L I1 I2 : Nat → Nat → Int32} {J1 J2 : Nat → Nat → Int64}
theorem lv_fact (hS : stc d W H B1 B2 BJ) (IH : ∀ w, u = w + 1 → TestOK n x d s0 f0 W H B1 B2 BJ J1 E w) (hD : 4 * u + 13 ≤ D) (hu : op + u = 8) (hkd : kd = 1 ∨ kd = 5) (h : TS n x d s0 f0 B1 B2 BJ op kd 0 bs 1 K L A1 A2 p a t v l o I1 I2 J2) (h45 : I2 0 45 = 0) (h9 : I1 11 9 = nI op) (hK : ∀ c ∈ K, rnk c < 3) (q1 : s0 + A1.length ≤ p) (q2 : f0 + A2.length + (bs + K.length) ≤ p) (q3 : 3 * (bs + K.length) ≤ 18 * op + 6 + p) :
    ∃ I1', C1 D 159 [.ref 11] I1 J1 .null I1' J1 ∧ LT n x d s0 f0 W H B1 B2 BJ E 3 (3 * u + 4) (fun _ => True) op kd bs K L A1 A2 p I1' I2 J2 := by
  obtain ⟨F, rfl⟩ : ∃ F, D = F + 13 := ⟨D - 13, by omega⟩
  obtain ⟨I', J', hc, rfl, hL⟩ := mj_cN (S := mj_S1) (CD := mj_CD) (D := F + 12) (z := 159) (as := [.ref 11]) (h := (I1, J1, mj_R1)) (R := mj_R1) (P := fun I' J' => J' = J1 ∧ LT n x d s0 f0 W H B1 B2 BJ E 3 (3 * u + 4) (fun _ => True) op kd bs K L A1 A2 p I' I2 J2) (e159 (lp_fact (F := F) (p0 := p) hS IH (by omega) hu hkd hK (n - p) 0 p a t v l o I1 I2 J2 (Nat.le_refl _) (by omega) gA_rf (by rw [List.replicate_zero, List.append_nil]; exact h) h45 h9 (by omega) (by omega) (by omega) _ (fun I3 q => ⟨_, _, rfl, rfl, q⟩)))
  exact ⟨I', hc, hL⟩
end Sa8i_7

