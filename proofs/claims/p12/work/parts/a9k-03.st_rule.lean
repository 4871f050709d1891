section Sa9k_3
variable {n d W Rn Kn Tn Hn Un S F mc : Nat} {x : Nat → Nat} {B1 B2 : Nat → Nat → Int32} {BJ : Nat → Nat → Int64}
variable {D D' E p a t v : Nat} {l : List Nat} {o : Int} {I1 I2 : Nat → Nat → Int32} {J1 J2 : Nat → Nat → Int64}
theorem st_rule (h : RS n x d B1 B2 BJ W Rn Kn Tn Hn Un S F mc p a t v l o I1 I2 J2) (ho : o = (5 : Nat)) (hDD : 39 ≤ D) : STO n x d B1 B2 BJ D D' mc p J1 I1 I2 J2 := by
  have hk := h.1
  have hD := h.2.2.1
  obtain ⟨⟨n0, n1, n2, n3, n4, n5⟩, ⟨m0, m1, m2, m3, m4, m5⟩, hd, b0, b1, b2, b3, b4, b5⟩ := TD_N hD
  have t3 := (tk_w hk (w := 5) (by decide) ho).1
  have h7 := own_n hk (by decide) ho
  obtain ⟨Ia, Ra, Sa, k1, k2⟩ := cnt_both (D := D + 5) (D' := D' + 3) (J1 := J1) (y1 := tf (Un = 12)) (y2 := tf False) h t3 rfl rfl
  have c145' := c145 (D := D + 7) (J1 := J1) hD (k := 5) (by decide)
  have ne : ¬ erl 5 W Rn Tn Hn := by
    rintro (⟨q, -⟩ | ⟨q, -⟩) <;> omega
  rw [tf_f ne] at c145'
  have dead : ∀ {Q : mj_R → Prop}, ¬ Ra 0 8 = 0 → ¬ Ra 0 8 ≤ 0 → E2 17 (D' + 6) Q 296 [(0, .ref 0)] Ra Sa → E2 17 (D' + 6) Q 194 [(0, .ref 0)] Ra Sa := fun {Q} q1 q2 hQ => by
    refine mj_on (s17_194 ?_)
    rw [if_neg q1]
    refine mj_on (s17_227 ?_)
    refine ⟨trivial, _, _, r33_D (D := D' + 5) q2, ?_⟩
    rw [if_neg q1]
    exact r264_D q1 hQ
  rcases k2 with ⟨f, c, q⟩ | ⟨f, e, -⟩ | ⟨f, -, c, -, q⟩
  · exact ⟨Ia, Ra, Sa, c143_full (k := 5) h7 (by decide) n5 mst_5 (by decide) f c, fun r hr => r17_5 hD hk ho k1 (dead (DS_8 q).1 (DS_8 q).2 hr), Or.inr q⟩
  · exact e.elim
  have hlt : Un < 12 := by omega
  have cgo1 : ∀ {Ib Ic : (Nat → Nat → Int32)}, C1 (D + 8) 157 [.ref 11] Ia J1 .null Ib J1 → C1 (D + 8) 169 [.ref 14] Ib J1 .null Ic J1 → C1 (D + 9) 143 [.ref 11] I1 J1 .null Ic J1 := fun c2 c3 => c143_go (k := 5) h7 (by decide) n5 mst_5 (by decide) hlt c145' c (Or.inr (Or.inr (Or.inr (Or.inr (Or.inr ⟨rfl, _, _, c2, c3⟩)))))
  rcases q with ⟨p1, a1, t1, v1, l1, o1, q, hp⟩ | q
  rotate_left
  · obtain ⟨Ib, c2, q2⟩ := e_test (D := D) (J1 := J1) q
    obtain ⟨Ic, c3, q3⟩ := e_end (D := D + 7) (J1 := J1) q2
    exact ⟨Ic, Ra, Sa, cgo1 c2 c3, fun r hr => r17_5 hD hk ho k1 (dead (DS_8 q).1 (DS_8 q).2 hr), Or.inr q3⟩
  have b19 : ¬ oub d 19 (12 * d + Un) := by unfold oub; omega
  obtain ⟨Rb, hRb⟩ : ∃ Rb, Rb = mj_up Ra 19 (12 * d + Un) (nI F) := ⟨_, rfl⟩
  have hDa := q.2.2.1
  have qb := RS_wr2 (q0 := 19) (j0 := 12 * d + Un) (y := nI F) q (by decide) (by unfold inR; omega) b19
  rw [← hRb] at qb
  have r8a := r_8 q.1
  obtain ⟨ka, ⟨fA1, fA2, fA3⟩, hD1, hS1, hF1, hm1, h11⟩ := qb
  obtain ⟨⟨n0, n1, n2, n3, n4, n5⟩, ⟨m0, m1, m2, m3, m4, m5⟩, -⟩ := TD_N hD1
  obtain ⟨h35, h149, hSr, h34, -, hT⟩ := id hD1
  obtain ⟨-, ⟨-, ⟨m0a, m1a, m2a, m3a, m4a, m5a⟩, -⟩⟩ : True ∧ _ := ⟨trivial, TD_N hDa⟩
  have h35a := hDa.1
  have h34a := hDa.2.2.2.1
  have hn1 := tk_n ka
  have vd : vp_in (nI d) 2 := vp_in_nI hd (by decide)
  have v24 : vp_in (nI (12 * d + Un)) 24 := vp_in_nI (by omega) (by decide)
  -- the reference's test begins
  obtain ⟨Rc, hRc⟩ : ∃ Rc, Rc = mj_up (mj_up (mj_up (mj_up Rb 0 41 0) 0 42 0) 0 44 0) 0 45 0 := ⟨_, rfl⟩
  have rc41 : Rc 0 41 = nI 0 := by rw [hRc, up_n (by omega), up_n (by omega), up_n (by omega), up_s]; rfl
  have rc42 : Rc 0 42 = nI 0 := by rw [hRc, up_n (by omega), up_n (by omega), up_s]; rfl
  have rc44 : Rc 0 44 = nI 0 := by rw [hRc, up_n (by omega), up_s]; rfl
  have rc45 : Rc 0 45 = 0 := by rw [hRc, up_s]
  have c34 := r_push (D := D' + 4) (J2 := Sa) (k := 1) rc41 rc44 (by decide)
  obtain ⟨Rd, hRd⟩ : ∃ Rd, Rd = mj_up (mj_up (mj_up (mj_up (mj_up Rc 23 0 (nI 1)) 24 0 0) 25 0 1) 27 0 (nI 0)) 0 41 (nI (0 + 1)) := ⟨_, rfl⟩
  rw [← hRd] at c34
  have fRc : ∀ q j, (q ≠ 0 ∨ (j ≠ 41 ∧ j ≠ 42 ∧ j ≠ 44 ∧ j ≠ 45)) → Rc q j = Rb q j := fun q j z => by
    rw [hRc, up_n (by omega), up_n (by omega), up_n (by omega), up_n (by omega)]
  have fRd : ∀ q j, (q ≠ 0 ∨ j ≠ 41) → (q < 23 ∨ 28 ≤ q) → Rd q j = Rc q j := fun q j z1 z2 => by
    rw [hRd, up_n (by omega), up_n (by omega), up_n (by omega), up_n (by omega), up_n (by omega)]
  have fRb : ∀ q j, (q ≠ 0 ∨ (j ≠ 41 ∧ j ≠ 42 ∧ j ≠ 44 ∧ j ≠ 45)) → (q < 23 ∨ 28 ≤ q) → Rd q j = Rb q j := fun q j z1 z2 => by
    rw [fRd q j (by omega) z2, fRc q j z1]
  have kd : tkR n x p1 a1 t1 v1 l1 o1 Ia Rd Sa := tkR_cg ka (fun _ _ _ => rfl) (fun q j z => fRb q j (by omega) (by omega)) rfl
  have hts : TS n x d S F Ia Rd Sa 0 1 0 0 1 [] Rd [] [] p1 a1 t1 v1 l1 o1 Ia Rd Sa := by
    refine ⟨kd, fun _ _ _ _ _ => rfl, fun _ _ _ _ _ => rfl, fun _ _ _ => rfl, ⟨h149, fun k y z => by simp at z, ?_, fun k y z => by simp at z, by decide, ?_, ?_⟩, ?_, ?_, ?_, ?_, ?_, fun i y z => by simp at z, fun _ _ _ _ _ => rfl, rfl, fun _ _ => rfl, by decide, by decide, Or.inr rfl, fun c hc => by cases hc⟩
    · rw [fRb 0 34 (by omega) (by omega)]; exact h34
    · rw [fRd 0 42 (by omega) (by omega)]; exact rc42
    · rw [fRd 0 44 (by omega) (by omega)]; exact rc44
    · rw [hRd, up_s]
    · rw [hRd, up_n (by omega), up_n (by omega), up_n (by omega), up_n (by omega), up_s]
    · rw [hRd, up_n (by omega), up_n (by omega), up_n (by omega), up_s]; rfl
    · rw [hRd, up_n (by omega), up_n (by omega), up_s]
    · rw [hRd, up_n (by omega), up_s]
  have hS : stc d W Hn Ia Rd Sa := by
    obtain ⟨a1', a2', a3', a4'⟩ := hT.2.2.2.2.1
    exact ⟨hd, b0, b4, n0, n4, by rw [fRb 2 d (by omega) (by omega)]; exact m0, by rw [fRb 6 d (by omega) (by omega)]; exact m4, by rw [fRb 0 35 (by omega) (by omega)]; exact h35, a1', a4'⟩
  have r45 : Rd 0 45 = 0 := by rw [fRd 0 45 (by omega) (by omega)]; exact rc45
  obtain ⟨Ib, c2, hL⟩ := test_all (n := n) (x := x) (d := d) (s0 := S) (f0 := F) (W := W) (H := Hn) (B1 := Ia) (B2 := Rd) (BJ := Sa) (J1 := J1) (E := D') hS 8 (D + 8) 0 1 0 Rd [] [] p1 a1 t1 v1 l1 o1 Ia Rd Sa (by omega) rfl (Or.inl rfl) hts r45 h11 (by show S + 0 ≤ p1; omega) (by show F + 0 + (0 + 0) ≤ p1; omega) (by omega)
  have c33 : ∀ {R : (Nat → Nat → Int32)} {S' : (Nat → Nat → Int64)}, gD D' Rd Sa R S' → C2 (D' + 6) 33 [.ref 0] Rb Sa .null R S' := fun {R S'} g => by
    refine mj_mk (e33 ?_)
    rw [if_pos (by rw [r_8 ka]; decide)]
    refine ⟨Or.inl rfl, mj_on (s33_28 ?_)⟩
    rw [← hRc]
    exact ⟨trivial, _, _, c34, g _ rfl⟩
  have r194 : ∀ {Q : mj_R → Prop} {R : (Nat → Nat → Int32)} {S' : (Nat → Nat → Int64)}, C2 (D' + 6) 33 [.ref 0] Rb Sa .null R S' → (if R 0 8 = 0 then (vp_in (R 0 35) 2 ∧ vp_in ((12 : Int32) * R 0 35 + R 7 (R 0 35).toNatClampNeg) 24 ∧ E2 17 (D' + 6) Q 264 [(0, .ref 0)] (mj_up R 20 ((12 : Int32) * R 0 35 + R 7 (R 0 35).toNatClampNeg).toNatClampNeg (R 0 34)) S') else E2 17 (D' + 6) Q 264 [(0, .ref 0)] R S') → E2 17 (D' + 6) Q 194 [(0, .ref 0)] Ra Sa := fun {Q R S'} g w => by
    refine mj_on (s17_194 ?_)
    rw [if_pos r8a, h35a, nI_clamp (by omega), m5a, show (12 : Int32) = nI 12 from rfl, pk_mul, nI_add, nI_clamp (by omega), h34a, ← hRb]
    refine ⟨vd, v24, mj_on (s17_227 ?_)⟩
    exact ⟨trivial, _, _, g, w⟩
  rcases hL with ⟨p2, a2, t2, v2, l2, o2, ph2, y1, y2, kk, R2, S2, g1, w1, w2, w3, w4, w5, w6, w7, w8, w9, w10, w11, w12⟩ | ⟨R2, S2, g1, w1⟩
  rotate_left
  · -- a fault
    obtain ⟨z1, z2, z3, z4, c', z5, z6, z7⟩ := w1
    have q2 : DS d B1 B2 BJ Ib R2 S2 := by
      refine ⟨z1, ⟨fun q j y1 y2 => ?_, fun q j y1 y2 y3 => ?_, fun q j y1 y2 => ?_⟩, ⟨c', z6, z7⟩, ⟨W, b0, ?_⟩, ⟨Un, b5, ?_⟩⟩
      · rw [z2 q j (Or.inl y1) (by omega) (by omega)]; exact fA1 q j y1 y2
      · rw [z3 q j (by unfold tsz at y1; unfold tsl; omega) (by unfold oub at y3; omega) y2, fRb q j (by unfold tsz at y1; omega) (by omega)]; exact fA2 q j y1 y2 y3
      · rw [z4 q j y1]; exact fA3 q j y1 y2
      · rw [z2 15 0 (by omega) (by omega) (by omega)]; exact n0
      · rw [z2 15 5 (by omega) (by omega) (by omega)]; exact n5
    obtain ⟨Ic, c3, q3⟩ := e_end (D := D + 7) (J1 := J1) q2
    refine ⟨Ic, R2, S2, cgo1 c2 c3, fun r hr => r17_5 hD hk ho k1 (r194 (c33 g1) ?_), Or.inr q3⟩
    rw [if_neg (DS_8 q2).1]
    exact r264_D (DS_8 q2).1 hr
  have hn2 := tk_n w1.1
  have ek : ([] ++ kk : List Nat).length = kk.length := rfl
  have ec2 : ([] ++ y2 : (List (Nat × Nat))).length = y2.length := rfl
  rw [ek, ec2] at w8
  obtain ⟨Re, d1, d2, d3⟩ := ts_join (D := D' + 2) (r := 1) (kk := kk) (K := []) hS (by decide) (fun c hc => by cases hc) w1 w5 (by rw [ec2]; omega) (by show 0 + 0 + kk.length < 500; omega)
  have d41 : C2 (D' + 5) 41 [.ref 0] R2 S2 (.int 0) Re S2 := by
    refine go_385 (D := D' + 3) w1 w11 (fun _ => ⟨w10, w12.2, w12.1⟩) (mj_on (s41_385 _ _ ?_))
    rw [if_pos (show nI 1 = (1 : Int32) from rfl), if_pos (r_8 w1.1)]
    exact ⟨trivial, _, _, d1, Or.inl rfl, rfl⟩
  have gd : gD D' Rd Sa Re S2 := gA_D g1 (g_goD w2 d41 (Or.inr rfl))
  obtain ⟨x1, x2, x3, x4, ⟨x5, x6, x7, x8, -⟩, -⟩ := d2
  have e1 : ([] ++ y1 : (List (Nat × Nat))) = y1 := rfl
  have e2 : ([] ++ y2 ++ pops kk : (List (Nat × Nat))) = y2 ++ pops kk := rfl
  rw [e1] at x5 x6
  rw [e2] at x7 x8
  have el : (y2 ++ pops kk).length = y2.length + kk.length := by rw [List.length_append, pops_len]
  -- the class ends the rule
  have g5 : Ib 15 5 = nI Un := by rw [x2 15 5 (by omega) (by omega) (by omega)]; exact n5
  obtain ⟨Ic, hIc⟩ : ∃ Ic, Ic = mj_up (mj_up Ib 23 Un (nI (S + y1.length))) 15 5 (nI (Un + 1)) := ⟨_, rfl⟩
  have v5 : vp_in (5 : Int32) 6 := vp_in_nI (n := 5) (by decide) (by decide)
  have c169 : C1 (D + 8) 169 [.ref 14] Ib J1 .null Ic J1 := by
    refine mj_mk (e169 ⟨v5, ?_⟩)
    rw [show ((5 : Int32)).toNatClampNeg = 5 from rfl, g5, x5, show (12 : Int32) = nI 12 from rfl, nI_clamp (by omega), nI_1, ← hIc]
    exact if_le (by decide) (by omega) (fun z => absurd z (by omega)) (fun _ => ⟨v5, vp_in_nI (by omega) (by decide), v5, v5, rfl⟩)
  -- the reference ends it
  have r35 : Re 0 35 = nI d := by rw [x3 0 35 (by unfold tsl; omega) (by omega) (by omega), fRb 0 35 (by omega) (by omega)]; exact h35
  have r7 : Re 7 d = nI Un := by rw [x3 7 d (by omega) (by omega) (by omega), fRb 7 d (by omega) (by omega)]; exact m5
  obtain ⟨Rf, hRf⟩ : ∃ Rf, Rf = mj_up Re 20 (12 * d + Un) (nI (F + (y2 ++ pops kk).length)) := ⟨_, rfl⟩
  obtain ⟨Rg, hRg⟩ : ∃ Rg, Rg = mj_up Rf 7 d (nI (Un + 1)) := ⟨_, rfl⟩
  have fR : ∀ q j, (q ≠ 0 ∨ tsl j) → ((q ≠ 21 ∧ q ≠ 22) ∨ j < 900 * d + F ∨ 900 * d + 900 ≤ j) → (q < 23 ∨ 28 < q) → (q ≠ 20 ∨ j ≠ 12 * d + Un) → (q ≠ 7 ∨ j ≠ d) → (q ≠ 0 ∨ (j ≠ 41 ∧ j ≠ 42 ∧ j ≠ 44 ∧ j ≠ 45)) → Rg q j = Rb q j := fun q j z1 z2 z3 z4 z5 z6 => by
    rw [hRg, up_n (by omega), hRf, up_n (by omega), x3 q j z1 z2 z3, fRb q j z6 (by omega)]
  have fC : ∀ q j, (q ≠ 11 ∨ j < 4) → (q ≠ 14 ∨ j ≠ 9) → (q ≠ 22 ∨ j < S) → (q ≠ 23 ∨ j ≠ Un) → (q ≠ 15 ∨ j ≠ 5) → Ic q j = Ia q j := fun q j z1 z2 z3 z4 z5 => by
    rw [hIc, up_n (by omega), up_n (by omega), x2 q j z1 z2 z3]
  refine ⟨Ic, Rg, S2, cgo1 c2 c169, fun r hr => r17_5 hD hk ho k1 (r194 (c33 gd) ?_), Or.inl ⟨W, Rn, Kn, Tn, Hn, Un + 1, S + y1.length, F + (y2 ++ pops kk).length, p2, a2, t2, v2, l2, o2, ⟨tkR_cg x1 (fun q j z => by rw [hIc, up_n (by omega), up_n (by omega)]) (fun q j z => by rw [hRg, up_n (by omega), hRf, up_n (by omega)]) rfl, ⟨fun q j z1 z2 => ?_, fun q j z1 z2 z3 => ?_, fun q j z1 z2 => ?_⟩, ?_, by omega, by rw [el]; omega, ?_, ?_⟩, by omega⟩⟩
  · have r0 : Re 0 8 = 0 := r_8 x1
    rw [if_pos r0, r35, nI_clamp (by omega), r7, show (12 : Int32) = nI 12 from rfl, pk_mul, nI_add, nI_clamp (by omega), x7, ← hRf]
    refine ⟨vd, v24, mj_on (s17_264 ?_)⟩
    have f0 : Rf 0 8 = 0 := by rw [hRf, up_n (by omega)]; exact r0
    have f35 : Rf 0 35 = nI d := by rw [hRf, up_n (by omega)]; exact r35
    have f7 : Rf 7 d = nI Un := by rw [hRf, up_n (by omega)]; exact r7
    rw [if_pos f0, f35, nI_clamp (by omega), f7, nI_1, ← hRg]
    exact ⟨vd, vd, hr⟩
  · rw [hIc, up_n (by omega), up_n (by omega), x2 q j (by omega) (by omega) (by omega)]; exact fA1 q j z1 z2
  · rw [hRg, up_n (by unfold oub at z3; omega), hRf, up_n (by unfold oub at z3; omega), x3 q j (by unfold tsz at z1; unfold tsl; omega) (by unfold oub at z3; omega) z2, fRb q j (by unfold tsz at z1; omega) (by omega)]; exact fA2 q j z1 z2 z3
  · rw [x4 q j z1]; exact fA3 q j z1 z2
  · have hO := TDo_up (I1' := Ic) (I2' := Rg) (J2' := S2) hT b0 (fun q j z => fC q j (by unfold inC at z; omega) (by unfold inC at z; omega) (by unfold inC at z; omega) (by unfold inC at z; omega) (by unfold inC at z; omega)) (fun q j z => fR q j (by unfold inR at z; omega) (by unfold inR at z; omega) (by unfold inR at z; omega) (by unfold inR at z; omega) (by unfold inR at z; omega) (by unfold inR at z; omega)) (fun q j z => x4 q j (by unfold inJ at z; omega))
    have erb : rb Ic 23 Un = S := by
      rw [hSr]
      exact rb_cg fun j hj => fC 23 j (by omega) (by omega) (by omega) (by omega) (by omega)
    have e23 : Ic 23 Un = nI (S + y1.length) := by rw [hIc, up_n (by omega), up_s]
    have e19 : Rg 19 (12 * d + Un) = nI F := by
      rw [fR 19 _ (by omega) (by omega) (by omega) (by omega) (by omega) (by omega), hRb, up_s]
    have e20 : Rg 20 (12 * d + Un) = nI (F + (y2 ++ pops kk).length) := by rw [hRg, up_n (by omega), hRf, up_s]
    refine ⟨?_, ?_, ?_, ?_, ⟨?_, ?_, ?_, ?_, ?_, ?_, ?_, ?_, ?_, ?_, ?_, ?_, hd, b0, b1, b2, b3, b4, by omega⟩, ?_⟩
    · rw [hRg, up_n (by omega), hRf, up_n (by omega)]; exact r35
    · rw [hIc, up_n (by omega), up_n (by omega)]; exact x5
    · show S + y1.length = (Ic 23 Un).toNatClampNeg
      rw [e23, nI_clamp (by omega)]
    · rw [hRg, up_n (by omega), hRf, up_n (by omega)]; exact x7
    · exact (fC 15 0 (by omega) (by omega) (by omega) (by omega) (by omega)).trans n0
    · exact (fC 15 1 (by omega) (by omega) (by omega) (by omega) (by omega)).trans n1
    · exact (fC 15 2 (by omega) (by omega) (by omega) (by omega) (by omega)).trans n2
    · exact (fC 15 3 (by omega) (by omega) (by omega) (by omega) (by omega)).trans n3
    · exact (fC 15 4 (by omega) (by omega) (by omega) (by omega) (by omega)).trans n4
    · show Ic 15 5 = _
      rw [hIc, up_s]
    · exact (fR 2 d (by omega) (by omega) (by omega) (by omega) (by omega) (by omega)).trans m0
    · exact (fR 3 d (by omega) (by omega) (by omega) (by omega) (by omega) (by omega)).trans m1
    · exact (fR 4 d (by omega) (by omega) (by omega) (by omega) (by omega) (by omega)).trans m2
    · exact (fR 5 d (by omega) (by omega) (by omega) (by omega) (by omega) (by omega)).trans m3
    · exact (fR 6 d (by omega) (by omega) (by omega) (by omega) (by omega) (by omega)).trans m4
    · rw [hRg, up_s]
    · obtain ⟨g1, g2, g3, g4, g6, g9⟩ := hO
      refine ⟨g1, g2, g3, g4, g6, fun u hu => ?_⟩
      by_cases e : u = Un
      · rw [e]
        refine ⟨F, y1, y2 ++ pops kk, fr2_sgB w4 (by decide), by rw [e23, erb], by rw [erb]; exact Nat.le_refl _, ?_, e19, e20, Nat.le_refl _, ?_⟩
        · rw [erb]
          intro k y hk2
          rw [hIc, up_n (by omega), up_n (by omega)]
          exact x6 k y hk2
        · intro k y hk2
          rw [hRg, up_n (by omega), up_n (by omega), hRf, up_n (by omega), up_n (by omega)]
          exact x8 k y hk2
      · exact tlV_up g9 (Nat.le_refl _) (Nat.le_refl _) (by omega) (by omega) (fun _ _ _ => rfl) (fun _ _ _ => rfl) u (by omega)
  · rw [fC 14 0 (by omega) (by omega) (by omega) (by omega) (by omega)]; exact hm1
  · rw [hIc, up_n (by omega), up_n (by omega)]; exact w3
end Sa9k_3

