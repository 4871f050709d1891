/-! front: sets, on both sides -/
theorem FR_cg {W n : Nat} {C : (Nat → Int32) → Nat → Prop} {F F' : Nat → Nat → Int32} {key : Nat → Nat} (h : FR W C n F key) (hC : ∀ f f' k, C f k → (∀ w, w < W → f w = f' w) → C f' k) (e : ∀ i, i < n → ∀ w, w < W → F i w = F' i w) : FR W C n F' key := by
  obtain ⟨h1, h2, h3, h4, h5⟩ := h
  refine ⟨fun i j hij hj => ?_, fun i hi => hC _ _ _ (h2 i hi) (e i hi), fun i hi f k hc hn w hw => ?_, fun i hi f k hc hf => ?_, fun f k hc => ?_⟩
  · obtain ⟨w, w1, w2, w3⟩ := h1 i j hij hj
    refine ⟨w, w1, by rw [← e i (by omega) w w1, ← e j hj w w1]; exact w2, fun u hu => ?_⟩
    rw [← e i (by omega) u (by omega), ← e j hj u (by omega)]
    exact w3 u hu
  · rw [← e i hi w hw]
    exact h3 i hi f k hc (fun u hu => by rw [e i hi u hu]; exact hn u hu) w hw
  · exact h4 i hi f k hc fun w hw => by rw [hf w hw, e i hi w hw]
  · obtain ⟨i, hi, q⟩ := h5 f k hc
    exact ⟨i, hi, fun w hw => by rw [← e i hi w hw]; exact q w hw⟩
theorem sC_cg {I I' : Nat → Nat → Int32} (h4 : I' 4 = I 4) (h5 : I' 5 = I 5) (h9 : I' 9 = I 9) (h10 : I' 10 = I 10) : sC I' = sC I := by
  have e1 : hsu I' = hsu I := hsu_cg h5
  have e2 : rb I' 10 = rb I 10 := by
    funext u
    cases u with
    | zero => rfl
    | succ u => show (I' 10 u).toNatClampNeg = (I 10 u).toNatClampNeg; rw [h10]
  have e3 : ruT I' = ruT I := by
    funext W Hn u m
    unfold ruT hsf cdC
    rw [e1, e2, h9, h10]
  funext W Hn Un f m
  unfold sC aT
  rw [e1, e3, h4]
section S98c
variable {D b W Rn Kn Tn Hn Un g : Nat} {I I1 I2 : Nat → Nat → Int32} {J J1 J2 : Nat → Nat → Int64}
theorem Rl.things (h : Rl b W Rn Kn Tn Hn Un g I1 J1 I2 J2) : thq W Hn I1 ∧ thr b W Hn I1 I2 := by
  obtain ⟨h1, ⟨n, -, -, -, t, -⟩, -⟩ := id h
  obtain ⟨a1, a2, a3, a4, a5, a6, b1, b2, b3, b4, b5, b6, c1, c2, c3, c4, c5, c6, c7⟩ := n
  refine ⟨⟨c2, c6, a1, a5, fun k hk w hw => ?_⟩, c2, c6, h1, c1, b5, fun k hk w hw => ?_⟩
  · obtain ⟨-, x, hx, e⟩ := t k hk w hw
    exact ⟨x, hx, e⟩
  · obtain ⟨e2, x, hx, e⟩ := t k hk w hw
    exact ⟨x, hx, e, e2.trans e⟩
theorem Rl.rules (h : Rl b W Rn Kn Tn Hn Un g I1 J1 I2 J2) : ∃ A1 A2 : Nat → List (Nat × Nat), ruA I1 W Hn Un A1 ∧ ruR I2 b W Hn Un A2 ∧ ∀ u, u < Un → ∀ hs m, ev hs m (A1 u) [] = ev hs m (A2 u) [] := by
  have t := h.2.1.2.2.2.2.2.2
  have key : ∀ u, ∃ p : List (Nat × Nat) × List (Nat × Nat), u < Un → ∃ f, sgB 64 950 W Hn p.1 p.2 ∧ I1 10 u = nI (rb I1 10 u + p.1.length) ∧ rb I1 10 u + p.1.length ≤ 900 ∧ cdC I1 9 (rb I1 10 u) p.1 ∧ I2 19 (12 * b + u) = nI f ∧ I2 20 (12 * b + u) = nI (f + p.2.length) ∧ f + p.2.length ≤ 900 ∧ cdR I2 (900 * b + f) p.2 := fun u => by
    by_cases c : u < Un
    · obtain ⟨f, a1, a2, q⟩ := t u c
      exact ⟨(a1, a2), fun _ => ⟨f, q⟩⟩
    · exact ⟨([], []), fun q => absurd q c⟩
  obtain ⟨p, hp⟩ := Classical.axiomOfChoice key
  refine ⟨fun u => (p u).1, fun u => (p u).2, fun u hu => ?_, fun u hu => ?_, fun u hu => ?_⟩
  · obtain ⟨f, ⟨s1, s2, s3⟩, q1, q2, q3, q4, q5, q6, q7⟩ := hp u hu
    exact ⟨s1, q1, q2, q3⟩
  · obtain ⟨f, ⟨s1, s2, s3⟩, q1, q2, q3, q4, q5, q6, q7⟩ := hp u hu
    exact ⟨f, q4, q5, q6, q7, s2⟩
  · obtain ⟨f, ⟨s1, s2, s3⟩, q⟩ := hp u hu
    exact s3
theorem aT_aA {A1 A2 : Nat → List (Nat × Nat)} (hW : W ≤ 4) (hH : Hn ≤ 12) (hA : ruA I1 W Hn Un A1) (he : ∀ u, u < Un → ∀ hs m, ev hs m (A1 u) [] = ev hs m (A2 u) []) (v : Nat → Nat) : (aA I1 Hn Un A1 (2 ^ Hn) v ↔ aT I1 W Hn Un v) ∧ (aA I1 Hn Un A2 (2 ^ Hn) v ↔ aT I1 W Hn Un v) := by
  have k1 : ∀ m u, u < Un → (ruT I1 W Hn u m ↔ ev (hsf I1 Hn m) m (A1 u) [] = [1]) := fun m u hu => ruA_ruT hW hH hA hu
  constructor
  · constructor
    · rintro ⟨m, q1, q2, q3⟩
      exact ⟨m, q1, fun u hu => (k1 m u hu).mpr (q2 u hu), q3⟩
    · rintro ⟨m, q1, q2, q3⟩
      exact ⟨m, q1, fun u hu => (k1 m u hu).mp (q2 u hu), q3⟩
  · constructor
    · rintro ⟨m, q1, q2, q3⟩
      exact ⟨m, q1, fun u hu => (k1 m u hu).mpr ((he u hu _ _).trans (q2 u hu)), q3⟩
    · rintro ⟨m, q1, q2, q3⟩
      exact ⟨m, q1, fun u hu => (he u hu _ _).symm.trans ((k1 m u hu).mp (q2 u hu)), q3⟩
theorem al_front2 {x2 x3 : Int32} (h : Rl b W Rn Kn Tn Hn Un g I1 J1 I2 J2) (hW : W ≠ 0) : AI 203 70 [.int (nI 2), .int x2, .int x3] I1 J1 I2 J2 (Rl b W Rn Kn Tn Hn Un g) := by
  obtain ⟨a1, a2, a3, a4, a5, a6, b1, b2, b3, b4, b5, b6, c1, c2, c3, c4, c5, c6, c7⟩ := id h.N
  have a1 : I1 2 0 = nI W := a1
  have a6 : I1 2 5 = nI Un := a6
  have hB := h.rB
  obtain ⟨d1, d2, d3, d4, d5, d6⟩ := id hB
  have v0 : vp_in 0 6 := vp_in_nI (n := 0) (by decide) (by decide)
  have vb : vp_in (nI b) 2 := vp_in_nI d2 (by decide)
  have hW0 : ¬ nI W = 0 := nI_ne0 (by omega) (by omega)
  have n2 : ∀ {n : Nat}, n ≤ 100 → ¬ nI n = -2 := fun {n} hn z => by
    have := congrArg Int32.toInt z
    rw [nI_toInt (by omega)] at this
    have h2 : (-2 : Int32).toInt = -2 := by decide
    omega
  obtain ⟨tq, tr⟩ := h.things
  obtain ⟨A1, A2, rA1, rA2, rE⟩ := h.rules
  have hAA := aT_aA c2 c6 rA1 rE
  have hsC : ∀ I : Nat → Nat → Int32, sC I W Hn Un = cdT W (I 4) (aT I W Hn Un) := fun I => rfl
  have hCc : ∀ f f' k, sC I1 W Hn Un f k → (∀ w, w < W → f w = f' w) → sC I1 W Hn Un f' k := fun f f' k ⟨q1, v, q2, q3⟩ e => ⟨q1, v, q2, fun w hw => by rw [← e w hw]; exact q3 w hw⟩
  -- the class' sets
  have cla : ∃ (Ib : Nat → Nat → Int32) (Jb : Nat → Nat → Int64) (n : Nat) (F : Nat → Nat → Int32), FR W (sC I1 W Hn Un) n F (fun _ => 0) ∧ (∀ q j, q ≠ 29 → q ≠ 30 → q ≠ 32 → q ≠ 34 → q ≠ 35 → q ≠ 36 → q ≠ 37 → q ≠ 44 → q ≠ 45 → (q ≠ 0 ∨ j ≠ 9) → Ib q j = I1 q j) ∧ (∀ q, q ≠ 31 → q ≠ 46 → Jb q = J1 q) ∧ ((n ≤ 100 ∧ Ib 0 9 = nI n ∧ Ib 44 0 = nI 2 ∧ Ib 44 1 = nI n ∧ F = fun k w => Ib 45 (4 * k + w)) ∨ (100 < n ∧ Ib 0 9 = -2)) ∧
      ∀ Q : mj_R → Prop, E1 220 898 Q 40 [(0, .ref 0)] Ib Jb → mj_if (Nat.ble (mj_sz [.ref 0]) (mj_CD 220).2.2) (mj_sg mj_S1 (mj_CD 220) (mj_Cl mj_S1 mj_CD 898) Q (mj_Ev mj_S1 (mj_CD 220) (mj_Cl mj_S1 mj_CD 898) Q) 100 0 (mj_a0 0 [.ref 0]) [] (I1, J1, mj_R1)) := by
    rcases h.2.2.2.2.2.2.2.2.2.2.2.2 with z | ⟨z, n, F, z1, z2⟩ | ⟨n, z1, z, z2, z3, z4⟩
    · obtain ⟨Ia, Ja, ca, ⟨L, pa, hL⟩, fa, ga⟩ := c_gatherSets (D := 890) (J := J1) tq a6 c7 rA1
      have hL : ∀ v, v ∈ L ↔ aT I1 W Hn Un v := fun v => (hL v).trans (hAA v).1
      obtain ⟨K, pP, pO⟩ := plL_plP pa c2
      have e4 : Ia 4 = I1 4 := fa 4 (by decide) (by decide) (by decide) (by decide) (by decide) (by decide) (by decide)
      rw [e4] at pP
      obtain ⟨f, hf, hsrt, r, Ib, Jb, cb, fb, gb, kb, sb, tb⟩ := c_putF_a (D := 894) (kd := 2) pP pO
      have frc := fr_cla (T := aT I1 W Hn Un) (mo := I1 4) (cho_FR hf hsrt) (fun f' k hk => by
        obtain ⟨x, hx, e, -⟩ := hk
        exact ⟨L.getD x (fun _ => 0), (hL _).mp (List.mem_of_getElem? (by rw [List.getD_eq_getElem?_getD, List.getElem?_eq_getElem hx]; rfl)), e⟩) (fun v hv => by
        obtain ⟨x, hx⟩ := List.getElem?_of_mem ((hL v).mpr hv)
        have hxl := (List.getElem?_eq_some_iff.mp hx).1
        refine ⟨rho (I1 4) v, K x, ⟨x, hxl, fun w hw => ?_, rfl⟩, fun _ _ => rfl⟩
        show rho (I1 4) v w = rho (I1 4) (L.getD x (fun _ => 0)) w
        rw [List.getD_eq_getElem?_getD, hx]; rfl)
      obtain ⟨n, hn⟩ : ∃ n, n = (cho W (fun x => rho (I1 4) (L.getD x (fun _ => 0))) f L.length).length := ⟨_, rfl⟩
      rw [← hn] at frc sb tb
      have fr : ∀ q j, q ≠ 29 → q ≠ 30 → q ≠ 32 → q ≠ 34 → q ≠ 35 → q ≠ 36 → q ≠ 37 → q ≠ 44 → q ≠ 45 → (q ≠ 0 ∨ j ≠ 9) → mj_up Ib 0 9 r q j = I1 q j := fun q j q1 q2 q3 q4 q5 q6 q7 q8 q9 q0 => by rw [up_n q0, fb q q3 q8 q9, fa q q1 q2 q3 q4 q5 q6 q7]
      have go : ∀ Q : mj_R → Prop, E1 220 898 Q 40 [(0, .ref 0)] (mj_up Ib 0 9 r) Jb → mj_if (Nat.ble (mj_sz [.ref 0]) (mj_CD 220).2.2) (mj_sg mj_S1 (mj_CD 220) (mj_Cl mj_S1 mj_CD 898) Q (mj_Ev mj_S1 (mj_CD 220) (mj_Cl mj_S1 mj_CD 898) Q) 100 0 (mj_a0 0 [.ref 0]) [] (I1, J1, mj_R1)) := fun Q hh => by
        refine e220 ?_
        rw [if_pos z]
        exact ⟨trivial, _, _, ca, trivial, _, _, _, cb, hh⟩
      by_cases c : n ≤ 100
      · obtain ⟨er, s1, s2⟩ := sb c
        refine ⟨mj_up Ib 0 9 r, Jb, n, fun k w => mj_up Ib 0 9 r 45 (4 * k + w), FR_cg frc hCc (fun i hi w hw => ?_), fr, fun q q1 q2 => by rw [gb q q2, ga q q1], Or.inl ⟨c, by rw [up_s, er], by rw [up_c (by decide)]; exact kb, by rw [up_c (by decide), s1, hn], rfl⟩, go⟩
        have hi2 : i < (cho W (fun x => rho (I1 4) (L.getD x (fun _ => 0))) f L.length).length := by omega
        obtain ⟨x, hx1, hx2, -⟩ := gt_of hi2
        have ex : (cho W (fun x => rho (I1 4) (L.getD x (fun _ => 0))) f L.length).getD i 0 = x := by rw [List.getD_eq_getElem?_getD, hx1]; rfl
        show rho (I1 4) (L.getD ((cho W (fun x => rho (I1 4) (L.getD x (fun _ => 0))) f L.length).getD i 0) (fun _ => 0)) w = _
        rw [ex, up_c (by decide), (s2 i x hx1).1 w hw]
      · exact ⟨mj_up Ib 0 9 r, Jb, n, _, frc, fr, fun q q1 q2 => by rw [gb q q2, ga q q1], Or.inr ⟨by omega, by rw [up_s, tb (by omega)]⟩, go⟩
    · refine ⟨I1, J1, n, F, z2, fun _ _ _ _ _ _ _ _ _ _ _ _ => rfl, fun _ _ _ => rfl, Or.inr ⟨z1, z⟩, fun Q hh => e220 ?_⟩
      rw [if_neg (show ¬ I1 0 9 = -3 by rw [z]; decide)]
      exact hh
    · refine ⟨I1, J1, n, _, z4, fun _ _ _ _ _ _ _ _ _ _ _ _ => rfl, fun _ _ _ => rfl, Or.inl ⟨z1, z, z2, z3, rfl⟩, fun Q hh => e220 ?_⟩
      have n3 : ¬ I1 0 9 = -3 := fun q => by
        rw [z] at q
        have := congrArg Int32.toInt q
        rw [nI_toInt (by omega)] at this
        have h2 : (-3 : Int32).toInt = -3 := by decide
        omega
      rw [if_neg n3]
      exact hh
  obtain ⟨Ib, Jb, n, F, frF, fb, gb, alt, go⟩ := cla
  have top : ∀ (r : Int32) (I' : Nat → Nat → Int32) (J' : Nat → Nat → Int64), C1 899 220 [.ref 0] I1 J1 (.int r) I' J' → C1 900 203 [.ref 0, .int (nI 2), .int x2, .int x3] I1 J1 (.int r) I' J' := fun r I' J' hc => by
    refine mj_mk (D := 899) (e203 _ _ _ ?_)
    rw [if_neg (show ¬ nI 2 < 0 by decide), if_neg (show ¬ 2 < nI 2 by decide), show ((0 : Int32)).toNatClampNeg = 0 from rfl, a1, if_neg hW0, if_neg (show ¬ nI 2 = 0 by decide), if_neg (show ¬ nI 2 = 1 by decide)]
    exact ⟨v0, trivial, _, _, _, hc, rfl⟩
  -- the reference's
  obtain ⟨I2a, J2a, c2a, ⟨R, g1, m1⟩, w1, w2⟩ := r_sets (D := 894) (J := J2) (I := mj_up I2 0 48 (nI 0)) (b := b) (Rn := Rn) (mo := I1 4) (by
      unfold rB at hB ⊢
      rw [up_j (by decide), up_c (by decide), up_c (by decide)]
      exact hB) (thr_cg tr fun q j q1 q2 q3 q4 q5 => by rw [up_n (by omega)]) tq (by rw [up_c (by decide)]; exact b6) c7 (A := A2) (by
      intro u hu
      obtain ⟨f, z1, z2, z3, z4, z5⟩ := rA2 u hu
      refine ⟨f, by rw [up_c (by decide)]; exact z1, by rw [up_c (by decide)]; exact z2, z3, ?_, z5⟩
      unfold cdR at z4 ⊢
      rw [up_c (by decide), up_c (by decide)]
      exact z4) (fun w hw => by rw [up_c (by decide)]; exact (h.2.1.2.1 w hw).1) up_s
  have m2 : mnR W (rS (I1 4) (aT I1 W Hn Un)) R := mnR_cg m1 fun f => ⟨fun ⟨v, q1, q2⟩ => ⟨v, (hAA v).2.mp q1, q2⟩, fun ⟨v, q1, q2⟩ => ⟨v, (hAA v).2.mpr q1, q2⟩⟩
  have hu := unl_of m2
  obtain ⟨σ, hσ⟩ := rkk_at hu
  obtain ⟨e1, e2⟩ := FR_one frF (fr_ref m2 hσ)
  have wf2 : sfr I2 I2a := sfr_tr (fun q j q1 q2 q3 q4 q5 => by rw [up_n (by omega)]) w1
  have rf : ∀ {Q : mj_R → Prop}, mj_Ev mj_S2 (mj_CD 70) (mj_Cl mj_S2 mj_CD 899) Q 212 [(0, .ref 0), (1, .int (nI 2))] [] (I2a, J2a, mj_R2) → mj_if (Nat.ble (mj_sz [.ref 0, .int (nI 2), .int x2, .int x3]) (mj_CD 70).2.2) (mj_sg mj_S2 (mj_CD 70) (mj_Cl mj_S2 mj_CD 899) Q (mj_Ev mj_S2 (mj_CD 70) (mj_Cl mj_S2 mj_CD 899) Q) 100 0 (mj_a0 0 [.ref 0, .int (nI 2), .int x2, .int x3]) [] (I2, J2, mj_R2)) := fun {Q} hh => by
    refine e70 _ _ _ ?_
    refine ⟨trivial, _, _, _, r_is, if_tf (fun _ => ?_) (fun z => absurd ⟨by decide, by decide⟩ z)⟩
    rw [d1, nI_clamp (by omega), d3, if_neg hW0, if_neg (show ¬ nI 2 = 1 by decide)]
    refine ⟨vb, ?_⟩
    refine mj_on (s70_73 _ _ _ ?_)
    rw [if_neg (show ¬ nI 2 = 0 by decide)]
    refine mj_on (s70_192 _ _ _ ?_)
    rw [if_neg (show ¬ nI 2 = 1 by decide), if_pos (show nI 2 = 2 from rfl)]
    exact ⟨trivial, _, _, mj_Cl_le (by decide) c2a, hh⟩
  have hB2 : rB I2a b W Rn := by
    unfold rB at hB ⊢
    rw [wf2 0 12 (by decide) (by decide) (by decide) (by decide) (by decide), sfr_c wf2 2 (by decide) (by decide), sfr_c wf2 3 (by decide) (by decide)]
    exact hB
  have mI1 : ∀ (D : List Nat) (E : List (Nat × Nat)), D.elem 29 = true → D.elem 30 = true → D.elem 32 = true → D.elem 34 = true → D.elem 35 = true → D.elem 36 = true → D.elem 37 = true → D.elem 44 = true → D.elem 45 = true → E.elem (0, 9) = true → mkI D E Ib = mkI D E I1 := fun D E z1 z2 z3 z4 z5 z6 z7 z8 z9 z0 => mkI_of fun q j y1 y2 => by
    have ne : ∀ p, D.elem p = true → q ≠ p := fun p hp e => by rw [e, hp] at y1; cases y1
    refine fb q j (ne 29 z1) (ne 30 z2) (ne 32 z3) (ne 34 z4) (ne 35 z5) (ne 36 z6) (ne 37 z7) (ne 44 z8) (ne 45 z9) ?_
    by_cases e : q = 0
    · right
      intro e3
      rw [e, e3, z0] at y2
      cases y2
    · exact Or.inl e
  have mJ1 : ∀ (D : List Nat) (E : List (Nat × Nat)), D.elem 31 = true → D.elem 46 = true → mkJ D E Jb = mkJ D E J1 := fun D E z1 z2 => mkJ_of fun q j y1 y2 => by
    have ne : ∀ p, D.elem p = true → q ≠ p := fun p hp e => by rw [e, hp] at y1; cases y1
    rw [gb q (ne 31 z1) (ne 46 z2)]
  have mI2 : ∀ (D : List Nat) (E : List (Nat × Nat)), D.elem 29 = true → D.elem 30 = true → D.elem 31 = true → D.elem 32 = true → E.elem (0, 48) = true → E.elem (0, 56) = true → mkI D E I2a = mkI D E I2 := fun D E z1 z2 z3 z4 z5 z6 => mkI_of fun q j y1 y2 => by
    have ne : ∀ p, D.elem p = true → q ≠ p := fun p hp e => by rw [e, hp] at y1; cases y1
    refine wf2 q j (ne 29 z1) (ne 30 z2) (ne 31 z3) (ne 32 z4) ?_
    by_cases e : q = 0
    · right
      constructor
      · intro e3
        rw [e, e3, z5] at y2
        cases y2
      · intro e3
        rw [e, e3, z6] at y2
        cases y2
    · exact Or.inl e
  have mJ2 : ∀ (D : List Nat) (E : List (Nat × Nat)), D.elem 36 = true → mkJ D E J2a = mkJ D E J2 := fun D E z1 => mkJ_of fun q j y1 y2 => by
    rw [w2 q (fun z => by rw [z, z1] at y1; cases y1)]
  have fbq : ∀ q, q ≠ 0 → q ≠ 29 → q ≠ 30 → q ≠ 32 → q ≠ 34 → q ≠ 35 → q ≠ 36 → q ≠ 37 → q ≠ 44 → q ≠ 45 → Ib q = I1 q := fun q q0 q1 q2 q3 q4 q5 q6 q7 q8 q9 => by
    funext j
    exact fb q j q1 q2 q3 q4 q5 q6 q7 q8 q9 (Or.inl q0)
  have sCb : sC Ib = sC I1 := sC_cg (fbq 4 (by decide) (by decide) (by decide) (by decide) (by decide) (by decide) (by decide) (by decide) (by decide) (by decide)) (fbq 5 (by decide) (by decide) (by decide) (by decide) (by decide) (by decide) (by decide) (by decide) (by decide) (by decide)) (fbq 9 (by decide) (by decide) (by decide) (by decide) (by decide) (by decide) (by decide) (by decide) (by decide) (by decide)) (fbq 10 (by decide) (by decide) (by decide) (by decide) (by decide) (by decide) (by decide) (by decide) (by decide) (by decide))
  rcases alt with ⟨hc, s9, s0, s1, rfl⟩ | ⟨hc, s9⟩
  · obtain ⟨Ic, Jc, cc, o1, o2, o3, o4, o5, o6⟩ := c_copy_a (D := 896) (n := n) (I := Ib) (J := Jb) s1 hc
    have ic9 : Ic 0 9 = nI n := by rw [o1 0 9 (by decide) (fun z => absurd z (by decide))]; exact s9
    have k1 : C1 899 220 [.ref 0] I1 J1 (.int (nI n)) Ic Jc := by
      refine mj_mk (D := 898) (go _ ?_)
      refine mj_on (s220_40 ?_)
      rw [s9, if_neg (n2 hc)]
      refine ⟨trivial, _, _, cc, ?_⟩
      rw [ic9]
    have hRl : R.length ≤ 100 := by omega
    obtain ⟨r2, I2b, J2b, c2b, rr, p1, p2, p3⟩ := mj_cI (S := mj_S2) (CD := mj_CD) (R := mj_R2) (P := fun r I' J' => r = nI n ∧ J' = J2a ∧ (∀ k, k < n → (∀ w, w < W → I' 37 (4 * k + w) = rwR R (σ k) w) ∧ ∃ y, True ∧ I' 38 k = nI y) ∧ ∀ q, q ≠ 37 → q ≠ 38 → q ≠ 39 → I' q = mj_up (mj_up I2a 0 59 (nI 2)) 0 58 (nI n) q) (rf (by
      refine mj_on (s70_212 _ ?_)
      rw [g1.1, show (100 : Int32) = nI 100 from rfl, ← e1]
      refine if_le (by omega) (by decide) (fun _ => ?_) (fun z => absurd z (by omega))
      refine r_placeF (Wb := fun _ => True) (W := W) (b := b) (Rn := Rn) (D := 898) (R := R) (σ := σ) (kd := 2) ?_ ?_ hu hRl (by decide) (by decide) hσ (fun I' i1 i2 => ⟨_, _, _, rfl, by rw [e1], rfl, fun k hk => i1 k (by omega), i2⟩)
      · unfold rB at hB2 ⊢
        rw [up_j (by decide), up_j (by decide), up_c (by decide), up_c (by decide), up_c (by decide), up_c (by decide)]
        exact hB2
      · exact gaL_cg g1 (by rw [up_j (by decide), up_j (by decide)]) (by rw [up_c (by decide), up_c (by decide)]) (by rw [up_c (by decide), up_c (by decide)])))
    subst rr
    subst p1
    have lrow : ∀ k, k < n → ∀ w, w < W → Ic 39 (4 * k + w) = rwR R (σ k) w := fun k hk w hw => by
      rw [o5 k w hk (by omega)]
      exact (e2 k hk).1 w hw
    have mIc : ∀ (D : List Nat) (E : List (Nat × Nat)), D.elem 39 = true → E.elem (38, 0) = true → E.elem (38, 1) = true → mkI D E Ic = mkI D E Ib := fun D E z1 z2 z3 => mkI_of fun q j y1 y2 => by
      refine o1 q j (fun z => by rw [z, z1] at y1; cases y1) fun z => ⟨fun y => ?_, fun y => ?_⟩
      · rw [z, y, z2] at y2; cases y2
      · rw [z, y, z3] at y2; cases y2
    have mJc : ∀ (D : List Nat) (E : List (Nat × Nat)), D.elem 40 = true → mkJ D E Jc = mkJ D E Jb := fun D E z1 => mkJ_of fun q j y1 _ => by
      rw [o2 q (fun z => by rw [z, z1] at y1; cases y1)]
    have icq : ∀ q, q ≠ 38 → q ≠ 39 → Ic q = Ib q := fun q q1 q2 => by
      funext j
      exact o1 q j q2 fun z => absurd z q1
    refine ⟨_, Ic, Jc, I2b, J2b, top _ _ _ k1, c2b, Rl_H h ((mIc _ _ rfl rfl rfl).trans (mI1 _ _ rfl rfl rfl rfl rfl rfl rfl rfl rfl rfl)) ((mJc _ _ rfl).trans (mJ1 _ _ rfl rfl)) ((mkI_of fun q j y1 y2 => ?_ : mkI ([37, 38, 39] ++ sc2) ([(0, 58), (0, 59)] ++ sl2) I2b = mkI ([37, 38, 39] ++ sc2) ([(0, 58), (0, 59)] ++ sl2) I2a).trans (mI2 _ _ rfl rfl rfl rfl rfl rfl)) (mJ2 _ _ rfl) ?_ ?_⟩
    · have ne : ∀ p, ([37, 38, 39] ++ sc2).elem p = true → q ≠ p := fun p hp e => by rw [e, hp] at y1; cases y1
      rw [p3 q (ne 37 rfl) (ne 38 rfl) (ne 39 rfl)]
      have n58 : q ≠ 0 ∨ j ≠ 58 := by
        by_cases e : q = 0
        · right; intro e3; rw [e, e3] at y2; exact absurd y2 (by decide)
        · exact Or.inl e
      have n59 : q ≠ 0 ∨ j ≠ 59 := by
        by_cases e : q = 0
        · right; intro e3; rw [e, e3] at y2; exact absurd y2 (by decide)
        · exact Or.inl e
      rw [up_n n58, up_n n59]
    · refine Or.inr ⟨2, n, by decide, hc, by rw [o3, s0], o4, ?_, ?_, by omega, fun k hk w hw => ⟨?_, ?_⟩, fun z => absurd z (by decide)⟩
      · rw [p3 0 (by decide) (by decide) (by decide), up_s]
      · rw [p3 0 (by decide) (by decide) (by decide), up_j (by decide), up_s]
      · rw [(p2 k hk).1 w hw, lrow k hk w hw]
      · rw [lrow k hk w hw]
        obtain ⟨v, ⟨m, -, -, hv⟩, ev⟩ := m2.1 _ (List.mem_of_getElem? (rwR_of (hσ k (by omega)).1))
        rw [ev]
        refine rho_rng ?_
        rw [hv]
        have := hsu_le (m := m) tq hw Hn (Nat.le_refl _)
        show hsu I1 w m Hn ≤ 200000
        omega
    · refine Or.inr (Or.inr ⟨n, hc, ic9, by rw [icq 44 (by decide) (by decide)]; exact s0, by rw [icq 44 (by decide) (by decide)]; exact s1, ?_⟩)
      rw [sC_cg (icq 4 (by decide) (by decide)) (icq 5 (by decide) (by decide)) (icq 9 (by decide) (by decide)) (icq 10 (by decide) (by decide)), sCb, icq 45 (by decide) (by decide)]
      exact frF
  · have k1 : C1 899 220 [.ref 0] I1 J1 (.int (-2)) Ib Jb := by
      refine mj_mk (D := 898) (go _ ?_)
      refine mj_on (s220_40 ?_)
      rw [s9, if_pos rfl]
    obtain ⟨r2, I2b, J2b, c2b, rr, p1, p2⟩ := mj_cI (S := mj_S2) (CD := mj_CD) (R := mj_R2) (P := fun r I' J' => r = -2 ∧ I' = I2a ∧ J' = J2a) (rf (by
      refine mj_on (s70_212 _ ?_)
      rw [g1.1, show (100 : Int32) = nI 100 from rfl, ← e1]
      have hRl : R.length ≤ 4096 := by
        have hp : (2 : Nat) ^ Hn ≤ 4096 := Nat.le_trans (Nat.pow_le_pow_right (by decide) c6) (by decide)
        have := mnR_len (L := (List.range (2 ^ Hn)).map fun m' => rho (I1 4) (fun w => hsu I1 w m' Hn)) m2 (fun f ⟨v, ⟨m', q1, _, q2⟩, q3⟩ => by rw [q3, q2]; exact List.mem_map.mpr ⟨m', List.mem_range.mpr q1, rfl⟩)
        rw [List.length_map, List.length_range] at this
        omega
      exact if_le (by omega) (by decide) (fun z => absurd z (by omega)) (fun _ => ⟨_, _, _, rfl, rfl, rfl, rfl⟩)))
    subst rr
    subst p1
    subst p2
    refine ⟨_, Ib, Jb, I2b, J2b, top _ _ _ k1, c2b, Rl_H h (mI1 _ _ rfl rfl rfl rfl rfl rfl rfl rfl rfl rfl) (mJ1 _ _ rfl rfl) (mI2 _ _ rfl rfl rfl rfl rfl rfl) (mJ2 _ _ rfl) ?_ ?_⟩
    · have q := h.2.2.2.2.2.1
      unfold rlH at q ⊢
      rw [fbq 38 (by decide) (by decide) (by decide) (by decide) (by decide) (by decide) (by decide) (by decide) (by decide) (by decide), fbq 39 (by decide) (by decide) (by decide) (by decide) (by decide) (by decide) (by decide) (by decide) (by decide) (by decide), wf2 0 58 (by decide) (by decide) (by decide) (by decide) (by decide), wf2 0 59 (by decide) (by decide) (by decide) (by decide) (by decide)]
      have e37 : I2b 37 = I2 37 := by funext j; exact wf2 37 j (by decide) (by decide) (by decide) (by decide) (Or.inl (by decide))
      have e38 : I2b 38 = I2 38 := by funext j; exact wf2 38 j (by decide) (by decide) (by decide) (by decide) (Or.inl (by decide))
      rw [e37, e38]
      exact q
    · refine Or.inr (Or.inl ⟨s9, n, F, hc, ?_⟩)
      rw [sCb]
      exact frF
end S98c
