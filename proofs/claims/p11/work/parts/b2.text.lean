/-! text, on both sides -/
section Sb2
variable {n d W Rn Kn Tn Hn Un S F mc : Nat} {x : Nat → Nat} {B1 B2 : Nat → Nat → Int32} {BJ : Nat → Nat → Int64}
variable {D D' E p a t v : Nat} {l : List Nat} {o : Int} {I1 I2 : Nat → Nat → Int32} {J1 J2 : Nat → Nat → Int64}
variable {b g : Nat}
theorem TD_Tl (h : TD d W Rn Kn Tn Hn Un S F I1 I2 J2) (hS : S ≤ 900) (hF : F ≤ 900) : Tl 14 d W Rn Kn Tn Hn Un I1 I2 J2 := by
  obtain ⟨-, -, -, -, hN, hM, hR, hT, hH, hA, hV⟩ := h
  refine ⟨hN, hM, hR, hT, hH, hA, fun u hu => ?_⟩
  obtain ⟨f, a1, a2, g1, g2, g3, g4, g5, g6, g7, g8⟩ := hV u hu
  exact ⟨f, a1, a2, g1, g2, Nat.le_trans g3 hS, g4, g5, g6, Nat.le_trans g7 hF, g8⟩
theorem Tl_pm (h : Tl 14 d W Rn Kn Tn Hn Un I1 I2 J2) : Tl 1 d W Rn Kn Tn Hn Un (fun q k => I1 (mj_pm q) k) I2 J2 := by
  obtain ⟨hN, hM, hR, hT, hH, hA, hU⟩ := h
  refine ⟨hN, hM, hR, hT, hH, hA, fun u hu => ?_⟩
  obtain ⟨f, x1, x2, g1, g2, g3, g4, g5⟩ := hU u hu
  have er : rb (fun q k => I1 (mj_pm q) k) (1 + 9) u = rb I1 (14 + 9) u := by
    cases u with
    | zero => rfl
    | succ u => rfl
  exact ⟨f, x1, x2, g1, by rw [er]; exact g2, by rw [er]; exact g3, by rw [er]; exact g4, g5⟩
theorem Tl_cg {c : Nat} {I1' I2' : (Nat → Nat → Int32)} {J2' : (Nat → Nat → Int64)} (h : Tl c b W Rn Kn Tn Hn Un I1 I2 J2) (e1 : ∀ q, c + 1 ≤ q → q ≤ c + 9 → I1' q = I1 q) (hb : b + d = 1) (e2 : ∀ q j, 2 ≤ q → q ≤ 22 → oub d q j → I2' q j = I2 q j) (eJ : ∀ q j, 2 ≤ q → q ≤ 22 → oub d q j → J2' q j = J2 q j) : Tl c b W Rn Kn Tn Hn Un I1' I2' J2' := by
  obtain ⟨hN, hM, hR, hT, hH, ⟨a1, a2, a3, a4⟩, hU⟩ := h
  have i1 := e1 (c + 1) (by omega) (by omega)
  have i2 := e1 (c + 2) (by omega) (by omega)
  have i3 := e1 (c + 3) (by omega) (by omega)
  have i4 := e1 (c + 4) (by omega) (by omega)
  have i5 := e1 (c + 5) (by omega) (by omega)
  have i6 := e1 (c + 6) (by omega) (by omega)
  have i7 := e1 (c + 7) (by omega) (by omega)
  have i8 := e1 (c + 8) (by omega) (by omega)
  have i9 := e1 (c + 9) (by omega) (by omega)
  obtain ⟨-, -, -, -, -, -, -, -, -, -, -, -, -, b0, b1, b2, b3, b4, b5⟩ := id hN
  have two : ∀ q, 2 ≤ q → q ≤ 7 → I2' q b = I2 q b := fun q z1 z2 => e2 q b z1 (by omega) (by unfold oub; omega)
  refine ⟨?_, fun w hw => ?_, fun r hr w hw => ?_, fun t ht => ?_, fun k hk w hw => ?_, ⟨fun k hk => ?_, fun k hk => ?_, fun k hk => ?_, fun k hk => ?_⟩, fun u hu => ?_⟩
  · unfold tlN at hN ⊢
    rw [i1, two 2 (by decide) (by decide), two 3 (by decide) (by decide), two 4 (by decide) (by decide), two 5 (by decide) (by decide), two 6 (by decide) (by decide), two 7 (by decide) (by decide)]
    exact hN
  · rw [i3, e2 9 _ (by decide) (by decide) (by unfold oub; omega)]
    exact hM w hw
  · rw [i4, i5, e2 11 _ (by decide) (by decide) (by unfold oub; omega), e2 12 _ (by decide) (by decide) (by unfold oub; omega)]
    exact hR r hr w hw
  · obtain ⟨g1, g2, g3, g4⟩ := hT t ht
    rw [i6, i7, e2 14 _ (by decide) (by decide) (by unfold oub; omega), e2 15 _ (by decide) (by decide) (by unfold oub; omega)]
    refine ⟨g1, g2, g3, fun w hw => ?_⟩
    rw [i4, e2 16 _ (by decide) (by decide) (by unfold oub; omega)]
    exact g4 w hw
  · rw [i4, e2 18 _ (by decide) (by decide) (by unfold oub; omega)]
    exact hH k hk w hw
  · rw [i2, eJ 8 _ (by decide) (by decide) (by unfold oub; omega)]
    exact a1 k hk
  · rw [i2, eJ 10 _ (by decide) (by decide) (by unfold oub; omega)]
    exact a2 k hk
  · rw [i2, eJ 13 _ (by decide) (by decide) (by unfold oub; omega)]
    exact a3 k hk
  · rw [i2, eJ 17 _ (by decide) (by decide) (by unfold oub; omega)]
    exact a4 k hk
  · obtain ⟨f, x1, x2, g1, g2, g3, g4, g5, g6, g7, g8⟩ := hU u hu
    have er : rb I1' (c + 9) u = rb I1 (c + 9) u := rb_cg fun j _ => by rw [i9]
    refine ⟨f, x1, x2, g1, ?_, ?_, ?_, ?_, ?_, g7, fun k y hk => ?_⟩
    · rw [er, i9]; exact g2
    · rw [er]; exact g3
    · rw [er]
      intro k y hk
      rw [i8]
      exact g4 k y hk
    · rw [e2 19 _ (by decide) (by decide) (by unfold oub; omega)]; exact g5
    · rw [e2 20 _ (by decide) (by decide) (by unfold oub; omega)]; exact g6
    · have hl := (List.getElem?_eq_some_iff.mp hk).1
      rw [e2 21 _ (by decide) (by decide) (by unfold oub; omega), e2 22 _ (by decide) (by decide) (by unfold oub; omega)]
      exact g8 k y hk
/-- a text with a fault leaves all as it was -/
theorem Rl_ft {I1' I2' : (Nat → Nat → Int32)} {J2' : (Nat → Nat → Int64)} (h : Rl b W Rn Kn Tn Hn Un g I1 J1 I2 J2) (hb : b + d = 1) (fC : ∀ q j, q ≠ 11 → (q < 14 ∨ 23 < q) → I1' q j = mj_up I1 0 0 0 q j) (fR : ∀ q j, (q ≠ 0 ∨ (tsz j ∧ j ≠ 10 ∧ j ≠ 11)) → (q < 23 ∨ 28 < q) → oub d q j → I2' q j = mj_up I2 0 1 0 q j) (fJ : ∀ q j, (q ≠ 0 ∨ j ≠ 7) → oub d q j → J2' q j = J2 q j) (e10 : I2' 0 10 = I1' 11 10) (e11 : I2' 0 11 = I1' 11 11) : Rl b W Rn Kn Tn Hn Un g I1' J1 I2' J2' := by
  obtain ⟨g1, g2, ⟨g3a, g3b, g3c⟩, g4, g5, g6, g7, g8, g9, g10, g11, g12, g13⟩ := h
  have c : ∀ q, q ≠ 0 → q ≠ 11 → (q < 14 ∨ 23 < q) → I1' q = I1 q := fun q z1 z2 z3 => by
    funext j
    rw [fC q j z2 z3, up_n (Or.inl z1)]
  have r : ∀ q, 28 < q → I2' q = I2 q := fun q z => by
    funext j
    rw [fR q j (Or.inl (by omega)) (Or.inr z) (by unfold oub; omega), up_n (Or.inl (by omega))]
  have rj : ∀ q, 22 < q → J2' q = J2 q := fun q z => by
    funext j
    exact fJ q j (Or.inl (by omega)) (by unfold oub; omega)
  have r0 : ∀ j, 11 < j → tsz j → I2' 0 j = I2 0 j := fun j z1 z2 => by
    rw [fR 0 j (Or.inr ⟨z2, by omega, by omega⟩) (by omega) (by unfold oub; omega), up_n (Or.inr (by omega))]
  have r1 : I2' 1 = I2 1 := by
    funext j
    rw [fR 1 j (Or.inl (by omega)) (by omega) (by unfold oub; omega), up_n (Or.inl (by omega))]
  have j0 : ∀ j, j ≠ 7 → J2' 0 j = J2 0 j := fun j z => fJ 0 j (Or.inr z) (by unfold oub; omega)
  have c13 := c 13 (by decide) (by decide) (by decide)
  refine ⟨?_, Tl_cg g2 (fun q z1 z2 => c q (by omega) (by omega) (by omega)) hb (fun q j z1 z2 z3 => ?_) (fun q j z1 z2 z3 => fJ q j (Or.inl (by omega)) z3), ⟨?_, ?_, 0, by decide, ?_, ?_⟩, ⟨e10, e11⟩, ?_, ?_, ?_, ?_, ?_, ?_, ?_, ?_, ?_⟩
  · rw [r0 12 (by decide) (by unfold tsz; omega)]; exact g1
  · rw [fR q j (Or.inl (by omega)) (by omega) z3, up_n (Or.inl (by omega))]
  · rw [r1, c13]; exact g3a
  · rw [c13]; exact g3b
  · rw [fC 0 0 (by decide) (by decide), up_s]; rfl
  · rw [fR 0 1 (Or.inr ⟨by unfold tsz; omega, by decide, by decide⟩) (by omega) (by unfold oub; omega), up_s]; rfl
  · exact rlW_cg g5 (c 4 (by decide) (by decide) (by decide)) (c 5 (by decide) (by decide) (by decide)) (c 6 (by decide) (by decide) (by decide)) (c 24 (by decide) (by decide) (by decide)) (c 25 (by decide) (by decide) (by decide)) (c 26 (by decide) (by decide) (by decide)) (c 27 (by decide) (by decide) (by decide)) rfl
  · unfold rlH at g6 ⊢
    rw [c 38 (by decide) (by decide) (by decide), c 39 (by decide) (by decide) (by decide), r 37 (by decide), r 38 (by decide), r0 58 (by decide) (by unfold tsz; omega), r0 59 (by decide) (by unfold tsz; omega)]
    exact g6
  · unfold rlG at g7 ⊢
    rw [c 51 (by decide) (by decide) (by decide), c 52 (by decide) (by decide) (by decide), r0 63 (by decide) (by unfold tsz; omega)]
    exact g7
  · unfold rlK at g8 ⊢
    rw [c 47 (by decide) (by decide) (by decide), c 50 (by decide) (by decide) (by decide), r 41 (by decide), r0 65 (by decide) (by unfold tsz; omega)]
    exact g8
  · unfold rlS at g9 ⊢
    rw [c 53 (by decide) (by decide) (by decide), c 54 (by decide) (by decide) (by decide), c 55 (by decide) (by decide) (by decide), r 43 (by decide), r 44 (by decide), r0 68 (by decide) (by unfold tsz; omega)]
    exact g9
  · unfold rlP at g10 ⊢
    rw [c 59 (by decide) (by decide) (by decide), c 60 (by decide) (by decide) (by decide), r 48 (by decide), rj 49 (by decide)]
    exact g10
  · unfold rlC at g11 ⊢
    rw [j0 46 (by decide), j0 47 (by decide)]
    exact g11
  · unfold rlO at g12 ⊢
    rw [c 12 (by decide) (by decide) (by decide)]
    exact g12
  · have e0 : I1' 0 9 = I1 0 9 := by rw [fC 0 9 (by decide) (by decide), up_n (Or.inr (by decide))]
    rw [rlZ_c (J := J1) e0 (c 4 (by decide) (by decide) (by decide)) (fun j _ => by rw [c 5 (by decide) (by decide) (by decide)]) (c 9 (by decide) (by decide) (by decide)) (c 10 (by decide) (by decide) (by decide)) (c 44 (by decide) (by decide) (by decide)) (c 45 (by decide) (by decide) (by decide)) rfl]
    exact g13
/-- a text without one -/
theorem Rl_ok {W0 R0 K0 T0 H0 U0 : Nat} {If I1' I2' If2 : (Nat → Nat → Int32)} {Jf J2' Jf2 : (Nat → Nat → Int64)} (h : Rl b W0 R0 K0 T0 H0 U0 g I1 J1 I2 J2) (hb : b + d = 1) (q : RS n x d (mj_up I1 0 0 0) (mj_up I2 0 1 0) J2 W Rn Kn Tn Hn Un S F mc p a t v l o I1' I2' J2') (hc : ttP W Rn g (fun q k => I1' (mj_pm q) k) If Jf) (hr : rtP I2' If2 J2' Jf2) : Rl d W Rn Kn Tn Hn Un g If Jf If2 Jf2 := by
  obtain ⟨g1, g2, ⟨g3a, g3b, g3c⟩, g4, g5, g6, g7, g8, g9, g10, g11, g12, g13⟩ := h
  have hS9 := RS_S q
  obtain ⟨hk, ⟨fC, fR, fJ⟩, hD, hS, hF, hm⟩ := q
  have hn := tk_n hk
  obtain ⟨t1, t2, t3, t4, t5, t6, t7, t8, t9, ⟨t10, t11, t12, t13⟩, tF⟩ := hc
  obtain ⟨⟨u1, u2, u3, u4, u5, u6, u7, u8, uF, uJ⟩, uP⟩ := hr
  have p11 : mj_pm 11 = 11 := by decide
  have cI : ∀ q, q ≠ 0 → q ≠ 11 → (q < 14 ∨ 23 < q) → 10 < q → I1' (mj_pm q) = I1 q := fun q z1 z2 z3 z4 => by
    have e : mj_pm q = q := by unfold mj_pm; rw [if_neg (by omega), if_neg (by omega)]
    funext j
    rw [e, fC q j z2 z3, up_n (Or.inl z1)]
  have hT := Tl_pm (TD_Tl hD hS9 (by omega))
  have hd := (TD_N hD).2.2.1
  have f13 : If 13 = I1 13 := by
    funext j
    rw [tF 13 j (by omega) (by omega) (by omega) (by omega) (by omega) (by omega) (by omega) (by omega) (by omega) (by omega) (by omega)]
    show I1' (mj_pm 13) j = _
    rw [cI 13 (by decide) (by decide) (by decide) (by decide)]
  have f1 : If2 1 = I2 1 := by
    funext j
    rw [uF 1 j (by decide) (by omega), fR 1 j (Or.inl (by omega)) (by omega) (by unfold oub; omega), up_n (Or.inl (by omega))]
  refine ⟨by rw [u3]; exact hD.1, Tl_cg (d := b) hT (fun q z1 z2 => ?_) (by omega) (fun q j z1 z2 z3 => uF q j (by omega) (Or.inl (by omega))) (fun q j z1 z2 z3 => uJ q j (by omega) (Or.inl (by omega))), ⟨?_, ?_, 0, by decide, ?_, ?_⟩, ⟨?_, ?_⟩, t1, Or.inl ⟨t2, t3, u4⟩, ⟨g7.1, g7.2.1, t10, ?_, t11, t12, ?_⟩, ⟨0, by decide, t5, u5, fun i hi => absurd hi (by omega)⟩, ⟨0, by decide, t8, u6, fun i hi => absurd hi (by omega)⟩, fun p hp => ?_, ⟨by rw [u7, t6], by rw [u8, t7]⟩, ?_, Or.inl t4⟩
  · funext j
    exact tF q j (by omega) (by omega) (by omega) (by omega) (by omega) (by omega) (by omega) (by omega) (by omega) (by omega) (by omega)
  · rw [f1, f13]; exact g3a
  · rw [f13]; exact g3b
  · rw [tF 0 0 (by decide) (by decide) (by decide) (by decide) (by decide) (by decide) (by decide) (by decide) (by decide) (by decide) (by decide)]
    show I1' 0 0 = _
    rw [fC 0 0 (by decide) (by decide), up_s]; rfl
  · rw [uF 0 1 (by decide) (by omega), fR 0 1 (Or.inr (by unfold tsz; omega)) (by omega) (by unfold oub; omega), up_s]; rfl
  · rw [u1, tF 11 10 (by decide) (by decide) (by decide) (by decide) (by decide) (by decide) (by decide) (by decide) (by decide) (by decide) (by decide)]
    show _ = I1' 11 10
    rw [r_8 hk, hk.2.2.2.2.2.2.2.2.2.2.2.2.1.1]
  · rw [u2, tF 11 11 (by decide) (by decide) (by decide) (by decide) (by decide) (by decide) (by decide) (by decide) (by decide) (by decide) (by decide)]
    show _ = I1' 11 11
    rw [hk.2.2.2.2.2.2.2.2.2.2.2.2.2.2.1, hk.2.2.2.2.2.2.2.2.2.2.2.2.1.2]
  · rw [uF 0 63 (by decide) (by omega), fR 0 63 (Or.inr (by unfold tsz; omega)) (by omega) (by unfold oub; omega), up_n (by omega)]
    exact g7.2.2.2.1
  · intro n r hr w y hw
    have hw4 : w < W := by
      have hl := (List.getElem?_eq_some_iff.mp hw).1
      have := (wl_ok g7.2.1 (TD_N hD).2.2.2.1).2.2 r (List.mem_of_getElem? hr)
      omega
    rw [t13 n r hr w hw4, List.getD_eq_getElem?_getD, hw]
    rfl
  · obtain ⟨v1, v2⟩ := uP p hp
    obtain ⟨v3, v4⟩ := t9 p hp
    exact ⟨by rw [v1, v4], fun w hw => ⟨0, by decide, v2 w hw, fun _ => rfl⟩, Or.inl ⟨v3, v2⟩⟩
  · intro n hn
    rw [tF 12 n (by omega) (by omega) (by omega) (by omega) (by omega) (by omega) (by omega) (by omega) (by omega) (by omega) (by omega)]
    show I1' (mj_pm 12) n = _
    rw [cI 12 (by decide) (by decide) (by decide) (by decide)]
    exact g12 n hn
end Sb2
