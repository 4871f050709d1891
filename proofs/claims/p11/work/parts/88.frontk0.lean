/-! front: kind 0, and where there is none -/
section S88
variable {D b W Rn Kn Tn Hn Un g : Nat} {I I1 I2 : Nat → Nat → Int32} {J J1 J2 : Nat → Nat → Int64}
set_option maxRecDepth 100000 in
theorem rlZ_m {W Hn Un : Nat} {I : Nat → Nat → Int32} {J : Nat → Nat → Int64} : rlZ W Hn Un (mkI ([39] ++ sc1) ([(38, 0), (38, 1)] ++ sl1) I) (mkJ ([40] ++ scJ1) [] J) = rlZ W Hn Un I J := rfl
theorem al_front0 {x1 x2 x3 : Int32} (h : Rl b W Rn Kn Tn Hn Un g I1 J1 I2 J2) (hx : (x1 ≠ 1 ∧ x1 ≠ 2) ∨ W = 0) : AI 203 70 [.int x1, .int x2, .int x3] I1 J1 I2 J2 (Rl b W Rn Kn Tn Hn Un g) := by
  obtain ⟨a1, a2, -⟩ := h.N
  have hB := h.rB
  obtain ⟨b1, b2, b3, b4, b5, b6⟩ := id hB
  have v0 : vp_in 0 6 := vp_in_nI (n := 0) (by decide) (by decide)
  rcases (Classical.em (¬ x1 < 0 ∧ ¬ 2 < x1)).symm with ok | ok
  · refine AI.same (-1) (mj_mk (D := 899) (e203 _ _ _ ?_)) (mj_mk (D := 899) (e70 _ _ _ ?_)) h
    · exact if_i (fun _ => rfl) (fun c => if_i (fun _ => rfl) (fun d => absurd ⟨c, d⟩ ok))
    · exact ⟨trivial, _, _, _, r_is, if_tf (fun f => absurd f ok) (fun _ => rfl)⟩
  by_cases hW : W = 0
  · refine AI.same (-1) (mj_mk (D := 899) (e203 _ _ _ ?_)) (mj_mk (D := 899) (e70 _ _ _ ?_)) h
    · rw [if_neg ok.1, if_neg ok.2, show ((0 : Int32)).toNatClampNeg = 0 from rfl, a1, hW]
      exact ⟨v0, rfl⟩
    · refine ⟨trivial, _, _, _, r_is, if_tf (fun _ => ?_) (fun q => absurd ok q)⟩
      rw [b1, nI_clamp (by omega), b3, hW]
      exact ⟨vp_in_nI b2 (by decide), rfl⟩
  have hx := hx.resolve_right hW
  obtain ⟨k, hk, rfl⟩ := nI_of2 (n := 2) (by decide) ok.1 (Int32.not_lt.mp ok.2)
  have k0 : k = 0 := by
    rcases (by omega : k = 0 ∨ k = 1 ∨ k = 2) with e | e | e
    · exact e
    · exact absurd (show nI k = 1 by rw [e]; rfl) hx.1
    · exact absurd (show nI k = 2 by rw [e]; rfl) hx.2
  subst k0
  obtain ⟨I1', J1', c1, c2, c3, c4, c5, c6⟩ := c_rowsFront (D := 897) h
  obtain ⟨r, I2', J2', f1, rfl, rfl, f4, f5, f6, f7⟩ := r_front0 (x2 := x2) (x3 := x3) h hW
  obtain ⟨n, hn⟩ : ∃ n, n = (blL (J1 24 6) Rn).length := ⟨_, rfl⟩
  obtain ⟨l1, l2⟩ := blL_ok (C := J1 24 6) (n := Rn)
  rw [← hn] at c5 f4 f1 l1
  have mI : ∀ (D : List Nat) (E : List (Nat × Nat)), D.elem 39 = true → E.elem (38, 0) = true → E.elem (38, 1) = true → mkI D E I1' = mkI D E I1 := fun D E d1 d2 d3 => mkI_of fun q j q1 q2 => by
    refine c2 q j (fun z => by rw [z, d1] at q1; cases q1) fun z => ⟨fun y => ?_, fun y => ?_⟩
    · rw [z, y, d2] at q2; cases q2
    · rw [z, y, d3] at q2; cases q2
  have mJ : ∀ (D : List Nat) (E : List (Nat × Nat)), D.elem 40 = true → mkJ D E J1' = mkJ D E J1 := fun D E d1 => mkJ_of fun q j q1 _ => by
    rw [c3 q (fun z => by rw [z, d1] at q1; cases q1)]
  have bd : ∀ x, x < Rn → ∀ w, w < W → ∃ y : Int, -1000000 ≤ y ∧ y ≤ 1000000 ∧ I1 25 (4 * x + w) = iI y := fun x hx2 w hw => by
    obtain ⟨y, y1, y2, y3⟩ := h.lrng hx2 hw
    exact ⟨y, by omega, by omega, y3⟩
  refine ⟨_, I1', J1', I2', J2', mj_mk (D := 899) (e203 _ _ _ ?_), f1, Rl_H h (mI _ _ rfl rfl rfl) (mJ _ _ rfl) f7 rfl ?_ ?_⟩
  · rw [if_neg (show ¬ nI 0 < 0 by decide), if_neg (show ¬ 2 < nI 0 by decide), show ((0 : Int32)).toNatClampNeg = 0 from rfl, a1, if_neg (nI_ne0 (by omega) (by omega)), if_pos (show nI 0 = 0 from rfl)]
    refine ⟨v0, trivial, _, _, c1, ?_⟩
    rw [c5]
  · refine Or.inr ⟨0, n, by decide, by omega, c4, c5, f4, f5, by omega, fun k hk w hw => ?_, fun z => absurd z (by decide)⟩
    · obtain ⟨x, hx1, hx2, -⟩ := gt_of (l := blL (J1 24 6) Rn) (n := k) (by omega)
      have e1 := (c6 k x hx1).1 w (by omega)
      have e2 := (f6 k x hx1).1 w hw
      rw [e1, e2]
      exact ⟨rfl, bd x (l2 x hx2) w hw⟩
  · rw [← rlZ_m, mI _ _ rfl rfl rfl, mJ _ _ rfl, rlZ_m]
    exact h.2.2.2.2.2.2.2.2.2.2.2.2
end S88
