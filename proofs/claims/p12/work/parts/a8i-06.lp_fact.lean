section Sa8i_6
variable {n d s0 f0 W H : Nat} {x : Nat → Nat} {B1 B2 : Nat → Nat → Int32} {BJ : Nat → Nat → Int64}
variable {D D' E op kd ph bs p a t v u : Nat} {l : List Nat} {o : Int} {bg : Int32} {K : List Nat} {A1 A2 : List (Nat × Nat)} {L I1 I2 : Nat → Nat → Int32} {J1 J2 : Nat → Nat → Int64}
set_option maxHeartbeats 8000000 in
theorem lp_fact {F p0 : Nat} {I0 : (Nat → Nat → Int32)} {J0 : (Nat → Nat → Int64)} (hS : stc d W H B1 B2 BJ) (IH : ∀ w, u = w + 1 → TestOK n x d s0 f0 W H B1 B2 BJ J1 E w) (hF : 4 * u ≤ F) (hu : op + u = 8) (hkd : kd = 1 ∨ kd = 5) (hK : ∀ c ∈ K, rnk c < 3) : ∀ (m j : Nat) (p a t v : Nat) (l : List Nat) (o : Int) (I1 I2 : (Nat → Nat → Int32)) (J2 : (Nat → Nat → Int64)), n - p ≤ m → j + p0 ≤ p → gA E I0 J0 I2 J2 → TS n x d s0 f0 B1 B2 BJ op kd 0 bs 1 (K ++ List.replicate j 16) L A1 A2 p a t v l o I1 I2 J2 → I2 0 45 = 0 → I1 11 9 = nI op → s0 + A1.length + j ≤ p → f0 + A2.length + (bs + K.length + j) ≤ p → 3 * (bs + K.length + j) ≤ 18 * op + 6 + p → ∀ Q : mj_R → Prop, (∀ I1', LT n x d s0 f0 W H B1 B2 BJ E 3 (3 * u + 4) (fun _ => True) op kd bs K L A1 A2 p0 I1' I0 J0 → Q (.null, (I1', J1, mj_R1))) → E1 159 (F + 12) Q 4 [(0, .ref 11), (1, .int (nI (j % 2))), (2, .int (nI j))] I1 J1 := by
  intro m
  induction m using Nat.strongRecOn with
  | _ m ih =>
  intro j p a t v l o I1 I2 J2 hm hj hg h h45 h9 q1 q2 q3 Q hQ
  have hn := tk_n h.1
  have e0 : (K ++ List.replicate j 16).length = K.length + j := by rw [List.length_append, List.length_replicate]
  have e40 : o ≠ (10 : Nat) → E1 159 (F + 12) Q 40 [(0, .ref 11), (1, .int (nI (j % 2)))] I1 J1 := fun ho => by
    refine f40 hS IH hF hu hkd h h45 h9 ho (fun c hc => ?_) (by omega) (by rw [e0]; omega) (by rw [e0]; omega) (fun Ib hb => ?_)
    · rcases List.mem_append.mp hc with z | z
      · have := hK c z; omega
      · rw [(List.mem_replicate.mp z).2]; decide
    refine mj_on (s159_160 _ ?_)
    rcases hb with ⟨p', a', t', v', l', o', ph', c1, c2, kk, R, S, m1, m2, m3, m4, m5, m6, m7, m8, m9, m10, m11, m12, -⟩ | ⟨R, S, m1, m2⟩
    · have hn' := tk_n m2.1
      have mk : ∀ Ic, TS n x d s0 f0 B1 B2 BJ op kd ph' bs 0 (K ++ List.replicate j 16 ++ kk) L (A1 ++ (c1 ++ List.replicate (j % 2) (16, 0))) (A2 ++ c2) p' a' t' v' l' o' Ic R S → Ic 11 9 = nI op → Q (.null, (Ic, J1, mj_R1)) := fun Ic w1 w2 => by
        refine hQ Ic (Or.inl ⟨p', a', t', v', l', o', ph', c1 ++ List.replicate (j % 2) (16, 0), c2, List.replicate j 16 ++ kk, R, S, gA_tr hg m1, ?_, m3, w2, ?_, ?_, by omega, ?_, ?_, ?_, m11, m12, trivial⟩)
        · rw [← List.append_assoc]; exact w1
        · rw [pops_app, pops_not, ← List.append_assoc]
          exact fr2_not m5 (by omega) j
        · intro c hc
          rcases List.mem_append.mp hc with z | z
          · rw [(List.mem_replicate.mp z).2]; decide
          · have := m6 c z; omega
        · rw [List.length_append, List.length_replicate]; omega
        · rw [← List.append_assoc]; exact m9
        · rw [← List.append_assoc]; exact m10
      by_cases jj : j % 2 = 0
      · rw [if_pos (show nI (j % 2) = 0 by rw [jj]; rfl)]
        refine mk Ib ?_ m4
        rw [jj, List.replicate_zero, List.append_nil]
        exact m2
      · have j1 : j % 2 = 1 := by omega
        rw [if_neg (show ¬ nI (j % 2) = 0 by rw [j1]; decide)]
        obtain ⟨Ic, g1, g2, g3⟩ := ts_addC (D := F + 10) (J1 := J1) (c := 16) (y := 0) m2 (by rw [List.length_append]; omega) (by decide)
        refine ⟨trivial, _, _, g1, mk Ic ?_ (by rw [g3, m4])⟩
        rw [j1, ← List.append_assoc]
        exact g2
    · refine if_i (fun _ => hQ Ib (Or.inr ⟨R, S, gA_D hg m1, m2⟩)) (fun _ => ?_)
      obtain ⟨Ic, a2, b2⟩ := d_add (D := F + 10) (J1 := J1) (y := 10) (z := 0) m2
      exact ⟨trivial, _, _, a2, hQ Ic (Or.inr ⟨R, S, gA_D hg m1, b2⟩)⟩
  refine mj_on (s159_4 _ _ ?_)
  rw [show (900 : Int32) = nI 900 from rfl]
  refine if_le (by decide) (by omega) (fun z => e40 (fun y => ?_)) (fun _ => ?_)
  · have := hn.2.2.1 (by have := (tk_w h.1 (w := 10) (by decide) y).1; omega)
    omega
  by_cases o10 : o = (10 : Nat)
  · rw [if_pos ((own_eq (y := 10) h.1 (w := 10) (by decide) rfl).mpr o10)]
    have t3 := (tk_w h.1 (w := 10) (by decide) o10).1
    have hpn : p < n := hn.2.2.1 (by omega)
    obtain ⟨m0, hm0⟩ : ∃ m', m = m' + 1 := ⟨m - 1, by omega⟩
    have hj2 : ∀ {A : Prop}, (∀ y : Int32, y = nI ((j + 1) % 2) → E1 159 (F + 12) Q 30 [(0, .ref 11), (1, .int y), (2, .int (nI j))] I1 J1) → (if nI (j % 2) = 0 then E1 159 (F + 12) Q 30 [(0, .ref 11), (1, .int 1), (2, .int (nI j))] I1 J1 else E1 159 (F + 12) Q 30 [(0, .ref 11), (1, .int 0), (2, .int (nI j))] I1 J1) := fun {A} q => by
      by_cases jj : j % 2 = 0
      · rw [if_pos (show nI (j % 2) = 0 by rw [jj]; rfl)]
        exact q 1 (by rw [show (j + 1) % 2 = 1 by omega]; rfl)
      · rw [if_neg (show ¬ nI (j % 2) = 0 by rw [show j % 2 = 1 by omega]; decide)]
        exact q 0 (by rw [show (j + 1) % 2 = 0 by omega]; rfl)
    refine hj2 (A := True) fun y hy => ?_
    rw [hy]
    refine mj_on (s159_30 _ _ ?_)
    rw [nI_1]
    obtain ⟨Ia, Ra, Sa, k1, k9, k2⟩ := ts_not (D := F + 9) (E := E) (J1 := J1) hkd o10 h h45 (by omega) (by rw [e0]; omega)
    refine ⟨trivial, _, _, k1, ?_⟩
    rcases k2 with ⟨g2, d2⟩ | ⟨g2, z45, p1, a1, t1, v1, l1, o1, w1, w2⟩
    · exact d_fact4 (D := F + 7) d2 (fun Ic hc => hQ Ic (Or.inr ⟨Ra, Sa, gA_D hg g2, hc⟩))
    · refine ih m0 (by omega) (j + 1) p1 a1 t1 v1 l1 o1 Ia Ra Sa (by omega) (by omega) (gA_tr hg g2) ?_ z45 (by rw [k9, h9]) (by omega) (by omega) (by omega) Q hQ
      rw [List.append_assoc, ← List.replicate_succ'] at w1
      exact w1
  · rw [if_neg (fun z => o10 ((own_eq (y := 10) h.1 (w := 10) (by decide) rfl).mp z))]
    exact e40 o10
end Sa8i_6

