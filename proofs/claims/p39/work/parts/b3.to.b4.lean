section
/-! text is told alike -/
section Sb3
variable {n d W Rn Kn Tn Hn Un S F mc : Nat} {x : Nat → Nat} {B1 B2 : Nat → Nat → Int32} {BJ : Nat → Nat → Int64}
variable {D D' E p a t v : Nat} {l : List Nat} {o : Int} {I1 I2 : Nat → Nat → Int32} {J1 J2 : Nat → Nat → Int64}
variable {b g : Nat}
theorem TDo_0 : TDo d 0 0 0 0 0 0 0 0 I1 I2 J2 := ⟨fun w hw => absurd hw (Nat.not_lt_zero _), fun r hr => absurd hr (Nat.not_lt_zero _), fun t ht => absurd ht (Nat.not_lt_zero _), fun k hk => absurd hk (Nat.not_lt_zero _), ⟨fun k hk => absurd hk (Nat.not_lt_zero _), fun k hk => absurd hk (Nat.not_lt_zero _), fun k hk => absurd hk (Nat.not_lt_zero _), fun k hk => absurd hk (Nat.not_lt_zero _)⟩, fun u hu => absurd hu (Nat.not_lt_zero _)⟩
theorem text_read {W0 R0 K0 T0 H0 U0 : Nat} (h : Rl b W0 R0 K0 T0 H0 U0 g I1 J1 I2 J2) (hb : b + d = 1) : ∃ r i' I1' I2' J2', C1 899 137 [.ref 11, .int (I1 0 0)] (mj_up I1 0 0 0) J1 (.int r) I1' J1 ∧ (∀ Q : mj_R → Prop, E2 12 899 Q 133 [(0, .ref 0), (1, .int (nI i'))] I2' J2' → E2 12 899 Q 23 [(0, .ref 0)] (mj_up (mj_up (mj_up (mj_up I2 0 2 (I2 0 1)) 0 1 0) 0 5 0) 0 8 0) J2) ∧ ((r = 1 ∧ ∃ n x W Rn Kn Tn Hn Un S F p a t v l o, RS n x d (mj_up I1 0 0 0) (mj_up I2 0 1 0) J2 W Rn Kn Tn Hn Un S F i' p a t v l o I1' I2' J2') ∨ (r = 0 ∧ DS d (mj_up I1 0 0 0) (mj_up I2 0 1 0) J2 I1' I2' J2' ∧ ∃ k p, tkD k p I1' I2' ∧ tkT k p I1')) := by
  have h12 := h.1
  have hO := h.2.2.2.2.2.2.2.2.2.2.2.1
  obtain ⟨e21, hx, n, hn, e00, e01⟩ := h.2.2.1
  obtain ⟨x, hx⟩ := Classical.axiomOfChoice hx
  rw [e00, e01]
  -- the class begins
  obtain ⟨Ia, Ja, ca, a1, a2, a3, a4, hJ⟩ := c_clear (D := 897) (I := mj_up (mj_up I1 0 0 0) 11 2 (nI n)) (J := J1)
  rw [hJ] at ca
  obtain ⟨Iz, hIz⟩ : ∃ Iz, Iz = mj_up (mj_up (mj_up (mj_up (mj_up Ia 11 4 0) 11 5 0) 11 9 0) 11 10 0) 11 11 (-1) := ⟨_, rfl⟩
  have fz : ∀ q j, (q ≠ 11 ∨ (j ≠ 4 ∧ j ≠ 5 ∧ j ≠ 9 ∧ j ≠ 10 ∧ j ≠ 11)) → Iz q j = Ia q j := fun q j z => by
    rw [hIz, up_n (by first | decide | exact Or.inl (by decide) | omega), up_n (by first | decide | exact Or.inl (by decide) | omega), up_n (by first | decide | exact Or.inl (by decide) | omega), up_n (by first | decide | exact Or.inl (by decide) | omega), up_n (by first | decide | exact Or.inl (by decide) | omega)]
  have z2 : Iz 11 2 = nI n := by rw [fz 11 2 (by first | decide | exact Or.inl (by decide) | omega), a4 11 2 (by decide) (by first | decide | exact Or.inl (by decide) | omega), up_s]
  have z4 : Iz 11 4 = nI 0 := by rw [hIz, up_n (by first | decide | exact Or.inl (by decide) | omega), up_n (by first | decide | exact Or.inl (by decide) | omega), up_n (by first | decide | exact Or.inl (by decide) | omega), up_n (by first | decide | exact Or.inl (by decide) | omega), up_s]; rfl
  have z5 : Iz 11 5 = nI 0 := by rw [hIz, up_n (by first | decide | exact Or.inl (by decide) | omega), up_n (by first | decide | exact Or.inl (by decide) | omega), up_n (by first | decide | exact Or.inl (by decide) | omega), up_s]; rfl
  have z9 : Iz 11 9 = nI 0 := by rw [hIz, up_n (by first | decide | exact Or.inl (by decide) | omega), up_n (by first | decide | exact Or.inl (by decide) | omega), up_s]; rfl
  have z10 : Iz 11 10 = 0 := by rw [hIz, up_n (by first | decide | exact Or.inl (by decide) | omega), up_s]
  have z11 : Iz 11 11 = -1 := by rw [hIz, up_s]
  have fC : tfC (mj_up I1 0 0 0) Iz := fun q j w1 w2 => by
    rw [fz q j (Or.inl w1), a4 q j (by first | decide | exact Or.inl (by decide) | omega) (by first | decide | exact Or.inl (by decide) | omega), up_n (Or.inl w1)]
  have z13 : lxt n x Iz 13 := ⟨hn, fun j hj => by rw [fC 13 j (by decide) (by decide), up_n (by first | decide | exact Or.inl (by decide) | omega)]; exact ⟨(hx j).2, (hx j).1⟩⟩
  have z12 : rlO Iz := fun j hj => by rw [fC 12 j (by decide) (by decide), up_n (by first | decide | exact Or.inl (by decide) | omega)]; exact hO j hj
  -- the reference begins
  have hd : d < 2 := by omega
  have vd : vp_in (nI d) 2 := vp_in_nI hd (by decide)
  obtain ⟨Ra, hRa⟩ : ∃ Ra, Ra = mj_up (mj_up (mj_up (mj_up I2 0 2 (nI n)) 0 1 0) 0 5 0) 0 8 0 := ⟨_, rfl⟩
  obtain ⟨Rb, hRb⟩ : ∃ Rb, Rb = mj_up (mj_up (mj_up (mj_up Ra 0 9 (-1)) 0 35 (nI d)) 2 d 0) 3 d 0 := ⟨_, rfl⟩
  obtain ⟨Rc, hRc⟩ : ∃ Rc, Rc = mj_up (mj_up (mj_up (mj_up Rb 4 d 0) 5 d 0) 6 d 0) 7 d 0 := ⟨_, rfl⟩
  obtain ⟨Rz, hRz⟩ : ∃ Rz, Rz = mj_up Rc 0 34 0 := ⟨_, rfl⟩
  have ra12 : Ra 0 12 = nI b := by rw [hRa, up_n (by first | decide | exact Or.inl (by decide) | omega), up_n (by first | decide | exact Or.inl (by decide) | omega), up_n (by first | decide | exact Or.inl (by decide) | omega), up_n (by first | decide | exact Or.inl (by decide) | omega)]; exact h12
  have rb35 : Rb 0 35 = nI d := by rw [hRb, up_n (by first | decide | exact Or.inl (by decide) | omega), up_n (by first | decide | exact Or.inl (by decide) | omega), up_s]
  have fA : ∀ q j, (q ≠ 0 ∨ (j ≠ 2 ∧ j ≠ 5 ∧ j ≠ 8)) → Ra q j = mj_up I2 0 1 0 q j := fun q j z => by
    rw [hRa, up_n (by first | decide | exact Or.inl (by decide) | omega), up_n (by first | decide | exact Or.inl (by decide) | omega)]
    by_cases e : q = 0 ∧ j = 1
    · rw [e.1, e.2, up_s, up_s]
    · rw [up_n (by first | decide | exact Or.inl (by decide) | omega), up_n (by first | decide | exact Or.inl (by decide) | omega), up_n (by first | decide | exact Or.inl (by decide) | omega)]
  have fB : ∀ q j, (q ≠ 0 ∨ (j ≠ 9 ∧ j ≠ 35)) → ((q ≠ 2 ∧ q ≠ 3) ∨ j ≠ d) → Rb q j = Ra q j := fun q j w1 w2 => by
    rw [hRb, up_n (by first | decide | exact Or.inl (by decide) | omega), up_n (by first | decide | exact Or.inl (by decide) | omega), up_n (by first | decide | exact Or.inl (by decide) | omega), up_n (by first | decide | exact Or.inl (by decide) | omega)]
  have fCc : ∀ q j, (q < 4 ∨ 7 < q ∨ j ≠ d) → Rc q j = Rb q j := fun q j z => by
    rw [hRc, up_n (by first | decide | exact Or.inl (by decide) | omega), up_n (by first | decide | exact Or.inl (by decide) | omega), up_n (by first | decide | exact Or.inl (by decide) | omega), up_n (by first | decide | exact Or.inl (by decide) | omega)]
  have fZ : ∀ q j, (q ≠ 0 ∨ j ≠ 34) → Rz q j = Rc q j := fun q j z => by rw [hRz, up_n z]
  have fR : tfR d (mj_up I2 0 1 0) Rz := fun q j w1 w2 w3 => by
    rw [fZ q j (by unfold tsz at w1; omega), fCc q j (by unfold oub at w3; omega), fB q j (by unfold tsz at w1; omega) (by unfold oub at w3; omega), fA q j (by unfold tsz at w1; omega)]
  have y2 : Rz 0 2 = nI n := by rw [fZ 0 2 (by first | decide | exact Or.inl (by decide) | omega), fCc 0 2 (by first | decide | exact Or.inl (by decide) | omega), fB 0 2 (by first | decide | exact Or.inl (by decide) | omega) (by first | decide | exact Or.inl (by decide) | omega), hRa, up_n (by first | decide | exact Or.inl (by decide) | omega), up_n (by first | decide | exact Or.inl (by decide) | omega), up_n (by first | decide | exact Or.inl (by decide) | omega), up_s]
  have y5 : Rz 0 5 = nI 0 := by rw [fZ 0 5 (by first | decide | exact Or.inl (by decide) | omega), fCc 0 5 (by first | decide | exact Or.inl (by decide) | omega), fB 0 5 (by first | decide | exact Or.inl (by decide) | omega) (by first | decide | exact Or.inl (by decide) | omega), hRa, up_n (by first | decide | exact Or.inl (by decide) | omega), up_s]; rfl
  have y8 : Rz 0 8 = 0 := by rw [fZ 0 8 (by first | decide | exact Or.inl (by decide) | omega), fCc 0 8 (by first | decide | exact Or.inl (by decide) | omega), fB 0 8 (by first | decide | exact Or.inl (by decide) | omega) (by first | decide | exact Or.inl (by decide) | omega), hRa, up_s]
  have y9 : Rz 0 9 = -1 := by rw [fZ 0 9 (by first | decide | exact Or.inl (by decide) | omega), fCc 0 9 (by first | decide | exact Or.inl (by decide) | omega), hRb, up_n (by first | decide | exact Or.inl (by decide) | omega), up_n (by first | decide | exact Or.inl (by decide) | omega), up_n (by first | decide | exact Or.inl (by decide) | omega), up_s]
  have y35 : Rz 0 35 = nI d := by rw [fZ 0 35 (by first | decide | exact Or.inl (by decide) | omega), fCc 0 35 (by first | decide | exact Or.inl (by decide) | omega)]; exact rb35
  have y34 : Rz 0 34 = nI 0 := by rw [hRz, up_s]; rfl
  have y1 : lxt n x Rz 1 := ⟨hn, fun j hj => by
    rw [fR 1 j (Or.inl (by decide)) (by decide) (by unfold oub; omega), up_n (by first | decide | exact Or.inl (by decide) | omega), e21]
    exact ⟨(hx j).2, (hx j).1⟩⟩
  have hN : tlN 14 d 0 0 0 0 0 0 Iz Rz := by
    refine ⟨?_, ?_, ?_, ?_, ?_, ?_, ?_, ?_, ?_, ?_, ?_, ?_, hd, by decide, by decide, by decide, by decide, by decide, by decide⟩
    · exact (fz 15 0 (by first | decide | exact Or.inl (by decide) | omega)).trans (a3 0 (by decide))
    · exact (fz 15 1 (by first | decide | exact Or.inl (by decide) | omega)).trans (a3 1 (by decide))
    · exact (fz 15 2 (by first | decide | exact Or.inl (by decide) | omega)).trans (a3 2 (by decide))
    · exact (fz 15 3 (by first | decide | exact Or.inl (by decide) | omega)).trans (a3 3 (by decide))
    · exact (fz 15 4 (by first | decide | exact Or.inl (by decide) | omega)).trans (a3 4 (by decide))
    · exact (fz 15 5 (by first | decide | exact Or.inl (by decide) | omega)).trans (a3 5 (by decide))
    · rw [fZ 2 d (by first | decide | exact Or.inl (by decide) | omega), fCc 2 d (by first | decide | exact Or.inl (by decide) | omega), hRb, up_n (by first | decide | exact Or.inl (by decide) | omega), up_s]; rfl
    · rw [fZ 3 d (by first | decide | exact Or.inl (by decide) | omega), fCc 3 d (by first | decide | exact Or.inl (by decide) | omega), hRb, up_s]; rfl
    · rw [fZ 4 d (by first | decide | exact Or.inl (by decide) | omega), hRc, up_n (by first | decide | exact Or.inl (by decide) | omega), up_n (by first | decide | exact Or.inl (by decide) | omega), up_n (by first | decide | exact Or.inl (by decide) | omega), up_s]; rfl
    · rw [fZ 5 d (by first | decide | exact Or.inl (by decide) | omega), hRc, up_n (by first | decide | exact Or.inl (by decide) | omega), up_n (by first | decide | exact Or.inl (by decide) | omega), up_s]; rfl
    · rw [fZ 6 d (by first | decide | exact Or.inl (by decide) | omega), hRc, up_n (by first | decide | exact Or.inl (by decide) | omega), up_s]; rfl
    · rw [fZ 7 d (by first | decide | exact Or.inl (by decide) | omega), hRc, up_s]; rfl
  have z149 : Iz 14 9 = nI 0 := (fz 14 9 (by first | decide | exact Or.inl (by decide) | omega)).trans a2
  have z140 : Iz 14 0 = nI 0 := (fz 14 0 (by first | decide | exact Or.inl (by decide) | omega)).trans a1
  have hD : TD d 0 0 0 0 0 0 0 0 Iz Rz J2 := ⟨y35, z149, rfl, y34, hN, TDo_0⟩
  have hA : tfA d (mj_up I1 0 0 0) (mj_up I2 0 1 0) J2 Iz Rz J2 := ⟨fC, fR, fun _ _ _ _ => rfl⟩
  obtain ⟨Ib, Jb, Rd, Sd, k1, k2, hJb, k3, k4, k5, k6⟩ := adv_both (D := 895) (D' := 897) (J1 := J1) (J2 := J2) z13 y1 z12 z2 y2 z4 y5 z5 (by decide) ⟨z10, z11⟩ y8 y9 (Nat.zero_le _) (tkA_0 ⟨by decide, by decide⟩)
  rw [hJb] at k1
  have cin : ∀ {r : Int32} {I' : (Nat → Nat → Int32)}, E1 137 898 (fun y => y = (.int r, (I', J1, mj_R1))) 43 [(0, .ref 11), (2, .int (nI 0))] Ib J1 → C1 899 137 [.ref 11, .int (nI n)] (mj_up I1 0 0 0) J1 (.int r) I' J1 := fun {r I'} w => by
    refine mj_mk (e137 _ ?_)
    refine ⟨trivial, _, _, ca, mj_on (s137_32 ?_)⟩
    rw [← hIz]
    exact ⟨trivial, _, _, k1, w⟩
  have rin : ∀ Q : mj_R → Prop, E2 12 899 Q 109 [(0, .ref 0), (1, .int (nI 0))] Rd Sd → E2 12 899 Q 23 [(0, .ref 0)] (mj_up (mj_up (mj_up (mj_up I2 0 2 (nI n)) 0 1 0) 0 5 0) 0 8 0) J2 := fun Q w => by
    rw [← hRa]
    refine mj_on (s12_23 ?_)
    rw [ra12, show (1 : Int32) - nI b = nI d by rw [show (1 : Int32) = nI 1 from rfl, nI_mns (by first | decide | exact Or.inl (by decide) | omega)]; congr 1; omega, nI_clamp (by first | decide | exact Or.inl (by decide) | omega), ← hRb]
    refine ⟨vd, vd, mj_on (s12_58 ?_)⟩
    rw [rb35, nI_clamp (by first | decide | exact Or.inl (by decide) | omega), ← hRc]
    refine ⟨vd, vd, vd, vd, mj_on (s12_98 ?_)⟩
    rw [← hRz]
    exact ⟨trivial, _, _, k2, w⟩
  rcases k6 with ⟨p, a, t, v, l, o, w1, -⟩ | ⟨p, w1⟩
  · have hr : RS n x d (mj_up I1 0 0 0) (mj_up I2 0 1 0) J2 0 0 0 0 0 0 0 0 0 p a t v l o Ib Rd Sd := ⟨w1, tfA_lx hA (lxf_F k3) k4 k5, TD_lx hD (lxf_F k3) k4 k5, Nat.zero_le _, Nat.zero_le _, by rw [k3 14 0 (by first | decide | exact Or.inl (by decide) | omega)]; exact z140, by rw [k3 11 9 (by first | decide | exact Or.inl (by decide) | omega)]; exact z9⟩
    obtain ⟨r, i', I1', I2', J2', u1, u2, u3⟩ := rd_loop (n := n) (x := x) (d := d) (B1 := mj_up I1 0 0 0) (B2 := mj_up I2 0 1 0) (BJ := J2) (D := 889) (D' := 892) (J1 := J1) (by decide) n 0 0 0 0 0 0 0 0 0 p a t v l o Ib Rd Sd (by first | decide | exact Or.inl (by decide) | omega) (Nat.zero_le _) hr
    refine ⟨r, i', I1', I2', J2', cin (u1 _ rfl), fun Q hQ => rin Q (u2 Q hQ), u3.imp (fun z => ⟨z.1, n, x, z.2⟩) id⟩
  · have hr : DS d (mj_up I1 0 0 0) (mj_up I2 0 1 0) J2 Ib Rd Sd := DS_mk hA (TD_DSB hD (by decide)) (lxf_F k3) k4 k5 ⟨_, _, w1⟩
    obtain ⟨I1', u1, u2, u3⟩ := dd_loop (D := 895) (J1 := J1) (i := 0) hr (by decide) (Or.inl (by decide))
    exact ⟨0, 0, I1', Rd, Sd, cin (u1 _ rfl), fun Q hQ => rin Q (r109_D (DS_8 hr).1 hQ), Or.inr ⟨rfl, u2, u3⟩⟩
theorem al_text {W0 R0 K0 T0 H0 U0 : Nat} (h : Rl b W0 R0 K0 T0 H0 U0 g I1 J1 I2 J2) : lw_PI 136 12 [] (I1, J1, mj_R1) (I2, J2, mj_R2) (fun f1 f2 => Inv 0 f1 f2 ∨ Inv 0 (mj_swp f1) f2) := by
  have hb2 : b < 2 := by
    obtain ⟨-, ⟨⟨-, -, -, -, -, -, -, -, -, -, -, -, q, -⟩, -⟩, -⟩ := h
    exact q
  obtain ⟨d, hb⟩ : ∃ d, b + d = 1 := ⟨1 - b, by omega⟩
  obtain ⟨r, i', I1', I2', J2', c1, c2, q⟩ := text_read h hb
  rcases q with ⟨rfl, n, x, W, Rn, Kn, Tn, Hn, Un, S, F, p, a, t, v, l, o, q⟩ | ⟨rfl, q, k, p, k1, k2⟩
  · have hN := TD_N q.2.2.1
    have hm := q.2.2.2.2.2.1
    have hg := h.2.2.2.2.2.2.1
    obtain ⟨rc, gc, hc, rfl, If, Jf, rfl, hP⟩ := mj_cA (S := mj_S1) (CD := mj_CD) (D := 899) (z := 136) (as := [.ref 0]) (h := (I1, J1, mj_R1)) (P := fun r g' => r = nI i' ∧ ∃ If Jf, g' = mj_swp (If, Jf, mj_R1) ∧ ttP W Rn g (fun q k => I1' (mj_pm q) k) If Jf) (e136 (by
      refine ⟨trivial, _, _, _, c1, ?_⟩
      rw [if_neg (by decide)]
      refine ⟨trivial, 14, (I1', J1, mj_up mj_R1 11 3 1), mj_mk (e172 rfl), ?_⟩
      refine mj_on (s136_35 ?_)
      refine c_swap (Q := fun y => ∃ If Jf, y = (.int (nI i'), (If, Jf, mj_R1)) ∧ ttP W Rn g (fun q k => I1' (mj_pm q) k) If Jf) (fun r hr => ?_) (c_tail (D := 895) (W := W) (Rn := Rn) (g := g) ?_ hN.2.2.2.1 ?_ hN.2.2.2.2.1 ?_ hg.2.1 (fun I' J' hP => ⟨I', J', ?_, hP⟩))
      · obtain ⟨If, Jf, rfl, hr2⟩ := hr
        exact ⟨nI i', _, rfl, rfl, If, Jf, rfl, hr2⟩
      · exact hN.1.1
      · exact hN.1.2.1
      · show I1' 51 0 = nI g
        rw [q.2.1.1 51 0 (by decide) (by decide), up_n (by first | decide | exact Or.inl (by decide) | omega)]
        exact hg.2.2.1
      · show (Value.int (I1' 14 0), (I', J', mj_R1)) = _
        rw [hm]))
    obtain ⟨rr, If2, Jf2, hr, rfl, hP2⟩ := mj_cI (S := mj_S2) (CD := mj_CD) (D := 899) (z := 12) (as := [.ref 0]) (h := (I2, J2, mj_R2)) (R := mj_R2) (P := fun r I' J' => r = nI i' ∧ rtP I2' I' J2' J') (e12 (c2 _ (r_tail (r_8 q.1) (fun I' J' hP => ⟨_, _, _, rfl, rfl, hP⟩))))
    refine ⟨nI i', _, _, hc, hr, Or.inr ?_⟩
    rw [sw_sw]
    exact ⟨rfl, rfl, d, W, Rn, Kn, Tn, Hn, Un, g, Rl_ok h hb q hP hP2⟩
  · obtain ⟨-, ⟨f1, f2, f3⟩, -⟩ := q
    have h8 := k1.2.2.2.2.2.2.1
    have h9 := k1.2.2.2.2.2.2.2
    refine ⟨-1, (I1', J1, mj_R1), (mj_up (mj_up I2' 0 10 (I2' 0 8)) 0 11 (I2' 0 9), J2', mj_R2), mj_mk (e136 ⟨trivial, _, _, _, c1, ?_⟩), mj_mk (e12 (c2 _ (mj_on (s12_133 _ ?_)))), Or.inl ⟨rfl, rfl, b, W0, R0, K0, T0, H0, U0, g, Rl_ft h hb f1 (fun q j z1 z2 z3 => ?_) (fun q j z1 z2 => f3 q j z1 z2) ?_ ?_⟩⟩
    · rw [if_pos rfl]
    · rw [if_neg (tkD_8 k1).2]
    · exact (up_n (by first | decide | exact Or.inl (by decide) | omega)).trans ((up_n (by first | decide | exact Or.inl (by decide) | omega)).trans (f2 q j (z1.imp id And.left) z2 z3))
    · show mj_up (mj_up I2' 0 10 (I2' 0 8)) 0 11 (I2' 0 9) 0 10 = I1' 11 10
      rw [up_n (by first | decide | exact Or.inl (by decide) | omega), up_s, h8]
      exact k2.1.symm
    · show mj_up (mj_up I2' 0 10 (I2' 0 8)) 0 11 (I2' 0 9) 0 11 = I1' 11 11
      rw [up_s, h9]
      exact k2.2.symm
end Sb3
end
section
/-! the claim: every call is answered alike, so every run of calls is -/
theorem AI.lw {z1 z2 : Nat} {as : List Value} {I1 I2 : Nat → Nat → Int32} {J1 J2 : Nat → Nat → Int64} {P : (Nat → Nat → Int32) → (Nat → Nat → Int64) → (Nat → Nat → Int32) → (Nat → Nat → Int64) → Prop} {G : mj_H → mj_H → Prop} (h : AI z1 z2 as I1 J1 I2 J2 P) (hG : ∀ f1 h1 f2 h2, P f1 h1 f2 h2 → G (f1, h1, mj_R1) (f2, h2, mj_R2)) : lw_PI z1 z2 as (I1, J1, mj_R1) (I2, J2, mj_R2) G := by
  obtain ⟨r, f1, h1, f2, h2, a, b, c⟩ := h
  exact ⟨r, _, _, a, b, hG _ _ _ _ c⟩
theorem AJ.lw {z1 z2 : Nat} {as : List Value} {I1 I2 : Nat → Nat → Int32} {J1 J2 : Nat → Nat → Int64} {P : (Nat → Nat → Int32) → (Nat → Nat → Int64) → (Nat → Nat → Int32) → (Nat → Nat → Int64) → Prop} {G : mj_H → mj_H → Prop} (h : AJ z1 z2 as I1 J1 I2 J2 P) (hG : ∀ f1 h1 f2 h2, P f1 h1 f2 h2 → G (f1, h1, mj_R1) (f2, h2, mj_R2)) : lw_PJ z1 z2 as (I1, J1, mj_R1) (I2, J2, mj_R2) G := by
  obtain ⟨r, f1, h1, f2, h2, a, b, c⟩ := h
  exact ⟨r, _, _, a, b, hG _ _ _ _ c⟩
theorem AQ.lw {z1 z2 : Nat} {as : List Value} {I1 I2 : Nat → Nat → Int32} {J1 J2 : Nat → Nat → Int64} {P : (Nat → Nat → Int32) → (Nat → Nat → Int64) → (Nat → Nat → Int32) → (Nat → Nat → Int64) → Prop} {G : mj_H → mj_H → Prop} (h : AQ z1 z2 as I1 J1 I2 J2 P) (hG : ∀ f1 h1 f2 h2, P f1 h1 f2 h2 → G (f1, h1, mj_R1) (f2, h2, mj_R2)) : lw_QI z1 z2 as (I1, J1, mj_R1) (I2, J2, mj_R2) G := by
  obtain ⟨r, r2, f1, h1, f2, h2, a, b, c⟩ := h
  exact ⟨r, r2, _, _, a, b, hG _ _ _ _ c⟩
theorem lw_all {n : Nat} {g1 g2 : mj_H} (h : Inv n g1 g2) : lw_All g1 g2 (fun f1 f2 => Inv (n + 1) f1 f2 ∨ Inv (n + 1) (mj_swp f1) f2) := by
  obtain ⟨I1, J1, R1⟩ := g1
  obtain ⟨I2, J2, R2⟩ := g2
  obtain ⟨e1, e2, b, W, Rn, Kn, Tn, Hn, Un, g, h⟩ := h
  have e1 : R1 = mj_R1 := e1
  have e2 : R2 = mj_R2 := e2
  have h : Rl b W Rn Kn Tn Hn Un g I1 J1 I2 J2 := h
  rw [e1, e2]
  have fin : ∀ {g' : Nat} {f1 : Nat → Nat → Int32} {h1 : Nat → Nat → Int64} {f2 : Nat → Nat → Int32} {h2 : Nat → Nat → Int64}, Rl b W Rn Kn Tn Hn Un g' f1 h1 f2 h2 → (Inv (n + 1) (f1, h1, mj_R1) (f2, h2, mj_R2) ∨ Inv (n + 1) (mj_swp (f1, h1, mj_R1)) (f2, h2, mj_R2)) := fun {g' _ _ _ _} q => Or.inl ⟨rfl, rfl, b, W, Rn, Kn, Tn, Hn, Un, g', q⟩
  exact ⟨fun _ _ _ _ _ => (al_feed h).lw (fun _ _ _ _ q => fin q),
    fun _ => (al_end h).lw (fun _ _ _ _ q => fin q),
    al_text h,
    fun _ => (al_fault h).lw (fun _ _ _ _ q => fin q),
    fun _ => (al_has h).lw (fun _ _ _ _ q => fin q),
    fun _ _ _ => (al_letter h).lw (fun _ _ _ _ q => fin q),
    fun _ _ _ => (al_price h).lw (fun _ _ _ _ q => fin q),
    fun _ _ => (al_beats h).lw (fun _ _ _ _ q => fin q),
    fun _ => (al_leads h).lw (fun _ _ _ _ q => fin q),
    fun _ _ _ => (al_change h).lw (fun _ _ _ _ q => fin q),
    fun _ => (al_changed h).lw (fun _ _ _ _ q => fin q),
    (al_rows h).lw (fun _ _ _ _ q => fin q),
    fun _ => (al_unsure h).lw (fun _ _ _ _ q => fin q),
    fun _ _ => (al_maybe h).lw (fun _ _ _ _ q => fin q),
    fun _ _ _ => (al_front h).lw (fun _ _ _ _ q => fin q),
    fun _ _ => (al_loss h).lw (fun _ _ _ _ q => fin q),
    fun _ => (al_who h).lw (fun _ _ _ _ q => fin q),
    fun _ _ => (al_knot h).lw (fun _ _ _ _ q => fin q),
    fun _ => (al_grid h).lw (fun _ _ _ _ ⟨_, q⟩ => fin q),
    fun _ => (al_corner h).lw (fun _ _ _ _ q => fin q),
    fun _ _ => (al_weight h).lw (fun _ _ _ _ q => fin q),
    fun _ => (al_near h).lw (fun _ _ _ _ q => fin q),
    fun _ => (al_standIns h).lw (fun _ _ _ _ q => fin q),
    fun _ => (al_kept h).lw (fun _ _ _ _ q => fin q),
    fun _ _ _ _ => (al_cost h).lw (fun _ _ _ _ q => fin q),
    fun _ => (al_hole h).lw (fun _ _ _ _ q => fin q),
    fun _ _ => (al_rather h).lw (fun _ _ _ _ q => fin q),
    (al_unsay h).lw (fun _ _ _ _ q => fin q),
    (al_agree h).lw (fun _ _ _ _ q => fin q),
    (al_could h).lw (fun _ _ _ _ q => fin q),
    fun _ => (al_question h).lw (fun _ _ _ _ q => fin q),
    (al_quarrel h).lw (fun _ _ _ _ q => fin q),
    fun _ => (al_stop h).lw (fun _ _ _ _ q => fin q),
    fun _ _ _ _ _ => (al_person h).lw (fun _ _ _ _ q => fin q),
    fun _ _ _ => (al_bar h).lw (fun _ _ _ _ q => fin q),
    fun _ => (al_choose h).lw (fun _ _ _ _ q => fin q),
    fun _ => (al_breaks h).lw (fun _ _ _ _ q => fin q),
    fun _ _ => (al_place h).lw (fun _ _ _ _ q => fin q)⟩
theorem whole_start {p : Program} {e : Env} {s : State} {m : MethodId} {below : List Frame} {meth : Method} {c : Code} (l : Launch) (hflags : l.flags = flags0) {b L : Nat} {xs : Nat → Int32} (hL : L ≤ 3072) (C0 : lw_At p s m meth c b L xs) : W p l e room_1 s m #[Value.ref b] below meth c s.heap [] 0 0 (lw_Z below #[Value.ref b] s) (entryFrame m ([Value.ref b] : List Value).toArray 4) := by
  refine lw_begin l C0 (fun Dg T3 ad1 ad2 hK hAd => ?_)
  exact lw_loop C0 hL hK (Inv := Inv) (fun _ _ _ h => h) (fun n g1 g2 _ h => lw_all h) 513 0 (by omega) (by omega) ad1 ad2 hAd rfl h1_0 h2_0 ⟨rfl, rfl, 0, 0, 0, 0, 0, 0, 0, 4, Rl_0⟩
end
