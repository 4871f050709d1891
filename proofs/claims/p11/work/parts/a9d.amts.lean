/-! amounts on both sides -/
/-- from place z0 to place z1 the class' cell q may change, and its lexer -/
def amC (q0 z0 z1 : Nat) (I I' : (Nat → Nat → Int32)) : Prop := ∀ q z, (q ≠ 11 ∨ z < 4 ∨ z = 9) → (q ≠ q0 ∨ z < z0 ∨ z1 ≤ z) → I' q z = I q z
def amR (q0 z0 z1 : Nat) (I I' : (Nat → Nat → Int32)) : Prop := ∀ q j, (q ≠ 0 ∨ (j ≠ 3 ∧ j ≠ 4 ∧ j ≠ 5 ∧ j ≠ 6 ∧ j ≠ 8 ∧ j ≠ 9)) → (q ≠ q0 ∨ j < z0 ∨ z1 ≤ j) → I' q j = I q j
section Sa9d
variable {n d W Rn Kn Tn Hn Un S F mc : Nat} {x : Nat → Nat} {B1 B2 : Nat → Nat → Int32} {BJ : Nat → Nat → Int64}
variable {D D' E p a t v : Nat} {l : List Nat} {o : Int} {I1 I2 : Nat → Nat → Int32} {J1 J2 : Nat → Nat → Int64}
theorem tkD_up {k p q0 j0 q1 j1 : Nat} {y z : Int32} (h : tkD k p I1 I2) (hq : q0 ≠ 11) (hr : q1 ≠ 0) : tkD k p (mj_up I1 q0 j0 y) (mj_up I2 q1 j1 z) := by
  obtain ⟨b1, b2, b3, b4, b5, b6, b7, b8⟩ := h
  refine ⟨b1, b2, b3, ?_, ?_, ?_, ?_, ?_⟩
  · rw [up_n (by omega)]; exact b4
  · rw [up_n (by omega)]; exact b5
  · rw [up_n (by omega), up_n (by omega), up_n (by omega)]; exact b6
  · rw [up_n (by omega)]; exact b7
  · rw [up_n (by omega)]; exact b8
theorem tkD_u1 {k p q0 j0 : Nat} {y : Int32} (h : tkD k p I1 I2) (hq : q0 ≠ 11) : tkD k p (mj_up I1 q0 j0 y) I2 := by
  obtain ⟨b1, b2, b3, b4, b5, b6, b7, b8⟩ := h
  refine ⟨b1, b2, b3, ?_, ?_, ?_, b7, b8⟩
  · rw [up_n (by omega)]; exact b4
  · rw [up_n (by omega)]; exact b5
  · rw [up_n (by omega), up_n (by omega), up_n (by omega)]; exact b6
theorem tkD_8 {k p : Nat} (h : tkD k p I1 I2) : ¬ I2 0 8 = 0 ∧ ¬ I2 0 8 ≤ 0 := by
  obtain ⟨h1, h2, -, -, -, -, h7, -⟩ := h
  rw [h7]
  have e1 : ¬ nI k = 0 := nI_ne0 (by omega) (by omega)
  refine ⟨e1, fun z => ?_⟩
  have z := (nI_leI (a := k) (b := 0) (by omega) (by decide)).mp z
  omega
/-- the class behind a fault -/
theorem dd_amt {i j w k' p' : Nat} (hb : 160 * i + 4 * j + 4 ≤ 960) (hW : W ≤ 4) (h : tkD k' p' I1 I2) (hN : I1 15 0 = nI W) (hw : w ≤ W) : ∃ I1', (∀ Q : mj_R → Prop, Q (.null, (I1', J1, mj_R1)) → E1 154 (D + 2) Q 2 [(0, .ref 11), (1, .int (nI i)), (2, .int (nI j)), (3, .int (nI w))] I1 J1) ∧ tkD k' p' I1' I2 ∧ amC 18 (160 * i + 4 * j + w) (160 * i + 4 * j + W) I1 I1' := by
  have lp := lp_up (n := W) (fun w => ∀ I0, tkD k' p' I0 I2 → I0 15 0 = nI W → ∃ I1', (∀ Q : mj_R → Prop, Q (.null, (I1', J1, mj_R1)) → E1 154 (D + 2) Q 2 [(0, .ref 11), (1, .int (nI i)), (2, .int (nI j)), (3, .int (nI w))] I0 J1) ∧ tkD k' p' I1' I2 ∧ amC 18 (160 * i + 4 * j + w) (160 * i + 4 * j + W) I0 I1') (fun w hw ih I0 h0 f0 => ?_) w hw I1 h hN
  · exact lp
  by_cases c : w < W
  · obtain ⟨Ia, Ja, ca, hJ, a1, a2, -⟩ := dd_num (D := D) (J1 := J1) h0
    rw [hJ] at ca
    obtain ⟨Ib, b1, b2, b3⟩ := ih c (mj_up Ia 18 (160 * i + 4 * j + w) 0) (tkD_u1 a2 (by decide)) (by rw [up_n (Or.inl (by decide)), a1 15 0 (Or.inl (by decide))]; exact f0)
    refine ⟨Ib, fun Q hQ => ?_, b2, fun q z z1 z2 => ?_⟩
    · refine mj_on (s154_2 _ _ _ ?_)
      rw [z_c, f0, nI_1]
      refine ⟨vp_in_nI (n := 0) (by decide) (by decide), if_le (by omega) (by omega) (fun c => absurd c (by omega)) (fun _ => ?_)⟩
      refine ⟨trivial, _, _, _, c_slot, trivial, _, _, _, ca, vp_in_nI (by omega) (by decide), ?_⟩
      rw [nI_clamp (by omega)]
      exact b1 Q hQ
    · rw [b3 q z z1 (by omega), up_n (by omega), a1 q z (by omega)]
  · obtain rfl : w = W := by omega
    refine ⟨I0, fun Q hQ => ?_, h0, fun _ _ _ _ => rfl⟩
    refine mj_on (s154_2 _ _ _ ?_)
    rw [z_c, f0]
    exact ⟨vp_in_nI (n := 0) (by decide) (by decide), if_le (by omega) (by omega) (fun _ => hQ) (fun z => absurd z (by omega))⟩
/-- amounts from wish w on; the reference's loop is told by what its head does -/
theorem amts_both {i j c0 cq : Nat} (G : Nat → (Nat → Nat → Int32) → (Nat → Nat → Int64) → (mj_R → Prop) → Prop) (G' : (Nat → Nat → Int32) → (Nat → Nat → Int64) → (mj_R → Prop) → Prop) (hq : cq = 16 ∨ cq = 18) (hb : 160 * i + 4 * j + 4 ≤ 960) (hW : W ≤ 4)
    (g1 : ∀ w (I2 : (Nat → Nat → Int32)) (J2 : (Nat → Nat → Int64)) r (I2' : (Nat → Nat → Int32)) (J2' : (Nat → Nat → Int64)) Q, w < W → I2 0 35 = nI d → I2 2 d = nI W → I2 0 8 = 0 → C2 (D' + 3) 29 [.ref 0] I2 J2 (.int r) I2' J2' → G (w + 1) (mj_up I2' cq (c0 + w) r) J2' Q → G w I2 J2 Q)
    (g2 : ∀ w (I2 : (Nat → Nat → Int32)) (J2 : (Nat → Nat → Int64)) Q, w ≤ W → I2 0 35 = nI d → I2 2 d = nI W → (w = W ∨ ¬ I2 0 8 = 0) → G' I2 J2 Q → G w I2 J2 Q) :
    ∀ k w p a t v l o I1 I2 J2, w + k = W → tkR n x p a t v l o I1 I2 J2 → I1 15 0 = nI W → I2 2 d = nI W → I2 0 35 = nI d → ∃ I1' I2' J2', (∀ Q : mj_R → Prop, Q (.null, (I1', J1, mj_R1)) → E1 154 (D + 4) Q 2 [(0, .ref 11), (1, .int (nI i)), (2, .int (nI j)), (3, .int (nI w))] I1 J1) ∧ (∀ Q, G' I2' J2' Q → G w I2 J2 Q) ∧ amC 18 (160 * i + 4 * j + w) (160 * i + 4 * j + W) I1 I1' ∧ amR cq (c0 + w) (c0 + W) I2 I2' ∧ lxgJ J2 J2' ∧ ((∃ p' a' t' v' l' o', tkR n x p' a' t' v' l' o' I1' I2' J2' ∧ p ≤ p' ∧ ∀ u, w ≤ u → u < W → I2' cq (c0 + u) = I1' 18 (160 * i + 4 * j + u) ∧ amt (I1' 18 (160 * i + 4 * j + u))) ∨ ∃ k p, tkD k p I1' I2')
  | 0, w, p, a, t, v, l, o, I1, I2, J2, hwk, hk, hN, hN2, h35 => by
    obtain rfl : w = W := by omega
    refine ⟨I1, I2, J2, fun Q hQ => ?_, fun Q hQ => g2 w I2 J2 Q (Nat.le_refl _) h35 hN2 (Or.inl rfl) hQ, fun _ _ _ _ => rfl, fun _ _ _ _ => rfl, fun _ _ _ => rfl, Or.inl ⟨p, a, t, v, l, o, hk, Nat.le_refl _, fun u h1 h2 => absurd h2 (by omega)⟩⟩
    refine mj_on (s154_2 _ _ _ ?_)
    rw [z_c, hN]
    exact ⟨vp_in_nI (n := 0) (by decide) (by decide), if_le (by omega) (by omega) (fun _ => hQ) (fun z => absurd z (by omega))⟩
  | k + 1, w, p, a, t, v, l, o, I1, I2, J2, hwk, hk, hN, hN2, h35 => by
    have hwW : w < W := by omega
    obtain ⟨r1, r2, Ia, Ja, Ra, Sa, c1, c2, hJ, f1, f2, f3, hr⟩ := num_both (D := D) (D' := D') (J1 := J1) hk
    rw [hJ] at c1
    have step : ∀ (Q : mj_R → Prop), E1 154 (D + 4) Q 2 [(0, .ref 11), (1, .int (nI i)), (2, .int (nI j)), (3, .int (nI (w + 1)))] (mj_up Ia 18 (160 * i + 4 * j + w) r1) J1 → E1 154 (D + 4) Q 2 [(0, .ref 11), (1, .int (nI i)), (2, .int (nI j)), (3, .int (nI w))] I1 J1 := fun Q hQ => by
      refine mj_on (s154_2 _ _ _ ?_)
      rw [z_c, hN, nI_1]
      refine ⟨vp_in_nI (n := 0) (by decide) (by decide), if_le (by omega) (by omega) (fun c => absurd c (by omega)) (fun _ => ?_)⟩
      refine ⟨trivial, _, _, _, c_slot, trivial, _, _, _, c1, vp_in_nI (by omega) (by decide), ?_⟩
      rw [nI_clamp (by omega)]
      exact hQ
    have hNa : mj_up Ia 18 (160 * i + 4 * j + w) r1 15 0 = nI W := by rw [up_n (Or.inl (by decide)), f1 15 0 (Or.inl (by decide))]; exact hN
    have h2a : mj_up Ra cq (c0 + w) r2 2 d = nI W := by rw [up_n (Or.inl (by omega)), f2 2 d (Or.inl (by decide))]; exact hN2
    have h35a : mj_up Ra cq (c0 + w) r2 0 35 = nI d := by rw [up_n (Or.inl (by omega)), f2 0 35 (by decide)]; exact h35
    rcases hr with ⟨t2, e1, e2, hv, p1, a1, t1, v1, l1, o1, k1, hp⟩ | ⟨k1, p1, k2⟩
    · have kb : tkR n x p1 a1 t1 v1 l1 o1 (mj_up Ia 18 (160 * i + 4 * j + w) r1) (mj_up Ra cq (c0 + w) r2) Sa := tkR_cg k1 (fun q z hz => by rw [up_n (by omega)]) (fun q z hz => by rw [up_n (by omega)]) rfl
      obtain ⟨Ib, Rb, Sb, q1, q2, q3, q4, q5, q6⟩ := amts_both G G' hq hb hW g1 g2 k (w + 1) p1 a1 t1 v1 l1 o1 _ _ Sa (by omega) kb hNa h2a h35a
      refine ⟨Ib, Rb, Sb, fun Q hQ => step Q (q1 Q hQ), fun Q hQ => g1 w I2 J2 r2 Ra Sa Q hwW h35 hN2 (r_8 hk) c2 (q2 Q hQ), fun q z z1 z2 => ?_, fun q z z1 z2 => ?_, fun q z z1 => ?_, ?_⟩
      · rw [q3 q z z1 (by omega), up_n (by omega), f1 q z (by omega)]
      · rw [q4 q z z1 (by omega), up_n (by omega), f2 q z z1]
      · rw [q5 q z z1, f3 q z z1]
      · rcases q6 with ⟨p', a', t', v', l', o', m1, m2, m3⟩ | m1
        · refine Or.inl ⟨p', a', t', v', l', o', m1, by omega, fun u h1 h2 => ?_⟩
          by_cases e : u = w
          · rw [e, q3 18 _ (Or.inl (by decide)) (by omega), q4 cq _ (Or.inl (by omega)) (by omega), up_s, up_s, e1, e2]
            exact ⟨rfl, v, hv, rfl⟩
          · exact m3 u (by omega) h2
        · exact Or.inr m1
    · obtain ⟨Ib, q1, q2, q3⟩ := dd_amt (D := D + 2) (J1 := J1) (i := i) (j := j) (w := w + 1) hb hW (tkD_u1 (q0 := 18) (j0 := 160 * i + 4 * j + w) (y := r1) k2 (by decide)) hNa (by omega)
      have k3 : tkD k1 p1 Ib (mj_up Ra cq (c0 + w) r2) := by
        obtain ⟨b1, b2, b3, b4, b5, b6, b7, b8⟩ := q2
        exact ⟨b1, b2, b3, b4, b5, b6, by rw [up_n (Or.inl (by omega))]; exact b7, by rw [up_n (Or.inl (by omega))]; exact b8⟩
      refine ⟨Ib, mj_up Ra cq (c0 + w) r2, Sa, fun Q hQ => step Q (q1 Q hQ), fun Q hQ => g1 w I2 J2 r2 Ra Sa Q hwW h35 hN2 (r_8 hk) c2 (g2 (w + 1) _ Sa Q (by omega) h35a h2a (Or.inr (tkD_8 k3).1) hQ), fun q z z1 z2 => ?_, fun q z z1 z2 => ?_, f3, Or.inr ⟨k1, p1, k3⟩⟩
      · rw [q3 q z z1 (by omega), up_n (by omega), f1 q z (by omega)]
      · rw [up_n (by omega), f2 q z z1]
end Sa9d
