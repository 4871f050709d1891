/-! reading a test: operators on both sides -/
section Sa8g
variable {n d s0 f0 W H : Nat} {x : Nat → Nat} {B1 B2 : Nat → Nat → Int32} {BJ : Nat → Nat → Int64}
variable {D D' E op kd ph bs p a t v u : Nat} {l : List Nat} {o : Int} {bg : Int32} {K : List Nat} {A1 A2 : List (Nat × Nat)} {L I1 I2 : Nat → Nat → Int32} {J1 J2 : Nat → Nat → Int64}
/-- plus, minus, times, over -/
theorem ts_arith {c r : Nat} {kk : List Nat} (hS : stc d W H B1 B2 BJ) (hc : (v = 43 ∧ c = 5 ∧ r = 5) ∨ (v = 45 ∧ c = 6 ∧ r = 5) ∨ (v = 42 ∧ c = 7 ∧ r = 6) ∨ (v = 47 ∧ c = 8 ∧ r = 6)) (ht : t = 1) (hph : ph < 2) (h : TS n x d s0 f0 B1 B2 BJ op kd ph bs bg (K ++ kk) L A1 A2 p a t v l o I1 I2 J2) (h45 : I2 0 45 = 1) (hK : ∀ c ∈ K, rnk c < r) (hk : ∀ c ∈ kk, r ≤ rnk c) (q1 : s0 + A1.length ≤ p) (q2 : f0 + A2.length + (bs + (K ++ kk).length) ≤ p) (q3 : bs + (K ++ kk).length < 499) :
    ∃ Ia Ra Sa, C1 (D + 3) 139 [.ref 11] I1 J1 .null Ia J1 ∧ Ia 11 9 = I1 11 9 ∧ ((gD E I2 J2 Ra Sa ∧ DD d s0 f0 B1 B2 BJ Ia Ra Sa) ∨ (gA E I2 J2 Ra Sa ∧ Ra 0 45 = 0 ∧ ∃ p' a' t' v' l' o', TS n x d s0 f0 B1 B2 BJ op kd ph bs bg (K ++ [c]) L A1 (A2 ++ pops kk) p' a' t' v' l' o' Ia Ra Sa ∧ p < p')) := by
  have hn := tk_n h.1
  have e0 : (K ++ kk).length = K.length + kk.length := List.length_append
  rw [e0] at q2 q3
  have r10 : r < 10 := by omega
  have c17 : c < 17 := by omega
  have r5 : v = 43 ∨ v = 45 → r = 5 := by omega
  have r6 : ¬ v = 43 → ¬ v = 45 → r = 6 := by omega
  have c5 : v = 43 → c = 5 := by omega
  have c6 : v = 45 → c = 6 := by omega
  have c7 : v = 42 → c = 7 := by omega
  have c8 : v ≠ 43 → v ≠ 45 → v ≠ 42 → c = 8 := by omega
  have hv : v = 43 ∨ v = 45 ∨ v = 42 ∨ v = 47 := by omega
  obtain ⟨h1, -, -, -, ⟨-, -, -, -, a5, -, -⟩, ⟨f1, f2, f3, -, -, -, -, -, -, f10, f11, -, -⟩⟩ := id h
  have vp : vp_in (nI op) 20 := vp_in_nI (by omega) (by decide)
  obtain ⟨Ij, j1, j2, j3⟩ := ts_join (D := E + 2) (r := r) (K := K) (kk := kk) hS r10 hK h hk (by omega) (by omega)
  obtain ⟨Ih, b1, b2, b3⟩ := ts_hold (D := E + 3) (c := c) j2 (by omega) c17
  obtain ⟨Ia, Ra, Sa, k1, k2, k3, k4, k5⟩ := ts_adv (D := D) (D' := E + 2) (J1 := J1) b2 (by omega) (by omega)
  have sg : ∀ {c' : Nat} {I : (Nat → Nat → Int32)} {A : (List (Nat × Nat))} {K' : List Nat}, TS n x d s0 f0 B1 B2 BJ op kd ph bs bg K' L A1 A p a t v l o I1 I J2 → c' < 256 → C2 (E + 4) 28 [.ref 0, .int (nI c')] I J2 (.int (tf (t = 1 ∧ v = c'))) I J2 := fun q q2 => sg_r q.1 q2
  have e93 : E2 41 (E + 4) (fun y => y = (.int 1, (mj_up Ra 0 45 0, Sa, mj_R2))) 93 [(0, .ref 0)] Ij J2 := by
    have e140 : E2 41 (E + 4) (fun y => y = (.int 1, (mj_up Ra 0 45 0, Sa, mj_R2))) 140 [(0, .ref 0)] Ih J2 := by
      refine mj_on (s41_140 ?_)
      exact ⟨trivial, _, _, k2, Or.inl rfl, Or.inr rfl, rfl⟩
    refine mj_on (s41_93 ?_)
    refine ⟨trivial, _, _, _, sg (c' := 43) j2 (by decide), if_tf (fun z => ?_) (fun z1 => ?_)⟩
    · rw [c5 z.2] at b1; exact ⟨trivial, _, _, b1, e140⟩
    refine ⟨trivial, _, _, _, sg (c' := 45) j2 (by decide), if_tf (fun z => ?_) (fun z2 => ?_)⟩
    · rw [c6 z.2] at b1; exact ⟨trivial, _, _, b1, e140⟩
    refine ⟨trivial, _, _, _, sg (c' := 42) j2 (by decide), if_tf (fun z => ?_) (fun z3 => ?_)⟩
    · rw [c7 z.2] at b1; exact ⟨trivial, _, _, b1, e140⟩
    · rw [c8 (fun q => z1 ⟨ht, q⟩) (fun q => z2 ⟨ht, q⟩) (fun q => z3 ⟨ht, q⟩)] at b1; exact ⟨trivial, _, _, b1, e140⟩
  have e65 : E2 41 (E + 4) (fun y => y = (.int 1, (mj_up Ra 0 45 0, Sa, mj_R2))) 65 [(0, .ref 0)] I2 J2 := by
    refine mj_on (s41_65 ?_)
    refine ⟨trivial, _, _, _, sg (c' := 43) h (by decide), if_tf (fun z => ?_) (fun z1 => ?_)⟩
    · rw [r5 (Or.inl z.2)] at j1; exact ⟨trivial, _, _, j1, e93⟩
    refine ⟨trivial, _, _, _, sg (c' := 45) h (by decide), if_tf (fun z => ?_) (fun z2 => ?_)⟩
    · rw [r5 (Or.inr z.2)] at j1; exact ⟨trivial, _, _, j1, e93⟩
    · rw [r6 (fun q => z1 ⟨ht, q⟩) (fun q => z2 ⟨ht, q⟩)] at j1; exact ⟨trivial, _, _, j1, e93⟩
  have c41 : C2 (E + 5) 41 [.ref 0] I2 J2 (.int 1) (mj_up Ra 0 45 0) Sa := by
    refine mj_mk (e41 ?_)
    rw [f1, nI_pred, nI_clamp (by omega), f2]
    refine ⟨vp, trivial, _, _, _, r_isTest f10, vp, ?_⟩
    rw [f3, show (2 : Int32) = nI 2 from rfl]
    refine if_le (by decide) (by omega) (fun z => absurd z (by omega)) (fun _ => ?_)
    refine ⟨trivial, _, _, _, sg (c' := 43) h (by decide), if_tf (fun _ => e65) (fun z1 => ?_)⟩
    refine ⟨trivial, _, _, _, sg (c' := 45) h (by decide), if_tf (fun _ => e65) (fun z2 => ?_)⟩
    refine ⟨trivial, _, _, _, sg (c' := 42) h (by decide), if_tf (fun _ => e65) (fun z3 => ?_)⟩
    refine ⟨trivial, _, _, _, sg (c' := 47) h (by decide), if_tf (fun _ => e65) (fun z4 => ?_)⟩
    rcases hv with q | q | q | q
    · exact absurd ⟨ht, q⟩ z1
    · exact absurd ⟨ht, q⟩ z2
    · exact absurd ⟨ht, q⟩ z3
    · exact absurd ⟨ht, q⟩ z4
  refine ⟨Ia, mj_up Ra 0 45 0, Sa, k1, k4, ?_⟩
  rcases k5 with ⟨p', a', t', v', l', o', w1, w2, -⟩ | ⟨w1, -⟩
  · exact Or.inr ⟨g_go h45 c41 (by rw [up_n (by omega)]; exact w1.1.2.2.2.2.2.2.2.2.2.2.2.2.2.1), up_s, p', a', t', v', l', o', TS_45 w1, w2⟩
  · exact Or.inl ⟨g_goD h45 c41 (Or.inl (by rw [up_n (by omega)]; exact (DD_8 w1).1)), DD_45 w1⟩
/-- less, more, like -/
theorem ts_comp {c : Nat} {kk : List Nat} (hS : stc d W H B1 B2 BJ) (hc : (v = 60 ∧ c = 11) ∨ (v = 62 ∧ c = 12) ∨ (v = 61 ∧ c = 13)) (ht : t = 1) (hkd : kd = 1 ∨ kd = 5) (h : TS n x d s0 f0 B1 B2 BJ op kd 0 bs bg (K ++ kk) L A1 A2 p a t v l o I1 I2 J2) (h45 : I2 0 45 = 1) (hK : ∀ c ∈ K, rnk c < 5) (hk : ∀ c ∈ kk, 5 ≤ rnk c) (q1 : s0 + A1.length ≤ p) (q2 : f0 + A2.length + (bs + (K ++ kk).length) ≤ p) (q3 : bs + (K ++ kk).length < 499) :
    ∃ Ia Ra Sa, C1 (D + 3) 139 [.ref 11] I1 J1 .null Ia J1 ∧ Ia 11 9 = I1 11 9 ∧ ((gD E I2 J2 Ra Sa ∧ DD d s0 f0 B1 B2 BJ Ia Ra Sa) ∨ (gA E I2 J2 Ra Sa ∧ Ra 0 45 = 0 ∧ ∃ p' a' t' v' l' o', TS n x d s0 f0 B1 B2 BJ op kd 1 bs bg (K ++ [c]) L A1 (A2 ++ pops kk) p' a' t' v' l' o' Ia Ra Sa ∧ p < p')) := by
  have hn := tk_n h.1
  have e0 : (K ++ kk).length = K.length + kk.length := List.length_append
  rw [e0] at q2 q3
  have c17 : c < 17 := by omega
  have c60 : v = 60 → c = 11 := by omega
  have c62 : v = 62 → c = 12 := by omega
  have c61 : v ≠ 60 → v ≠ 62 → c = 13 := by omega
  have hv : v = 60 ∨ v = 62 ∨ v = 61 := by omega
  have nv : v ≠ 43 ∧ v ≠ 45 ∧ v ≠ 42 ∧ v ≠ 47 := by omega
  obtain ⟨h1, -, -, -, ⟨-, -, -, -, a5, -, -⟩, ⟨f1, f2, f3, -, -, -, -, -, -, f10, f11, -, -⟩⟩ := id h
  have vp : vp_in (nI op) 20 := vp_in_nI (by omega) (by decide)
  obtain ⟨Ij, j1, j2, j3⟩ := ts_join (D := E + 2) (r := 5) (K := K) (kk := kk) hS (by decide) hK h hk (by omega) (by omega)
  obtain ⟨Ih, b1, b2, b3⟩ := ts_hold (D := E + 3) (c := c) j2 (by omega) c17
  have b4 := TS_ph (y := 1) b2 (by decide)
  obtain ⟨Ia, Ra, Sa, k1, k2, k3, k4, k5⟩ := ts_adv (D := D) (D' := E + 2) (J1 := J1) b4 (by omega) (by omega)
  have sg : ∀ {c' : Nat} {I : (Nat → Nat → Int32)} {A : (List (Nat × Nat))} {K' : List Nat}, TS n x d s0 f0 B1 B2 BJ op kd 0 bs bg K' L A1 A p a t v l o I1 I J2 → c' < 256 → C2 (E + 4) 28 [.ref 0, .int (nI c')] I J2 (.int (tf (t = 1 ∧ v = c'))) I J2 := fun q q2 => sg_r q.1 q2
  have e191 : E2 41 (E + 4) (fun y => y = (.int 1, (mj_up Ra 0 45 0, Sa, mj_R2))) 191 [(0, .ref 0), (1, .int (nI op))] I2 J2 := by
    have e230 : E2 41 (E + 4) (fun y => y = (.int 1, (mj_up Ra 0 45 0, Sa, mj_R2))) 230 [(0, .ref 0), (1, .int (nI op))] Ih J2 := by
      refine mj_on (s41_230 _ ?_)
      rw [nI_clamp (by omega)]
      exact ⟨vp, trivial, _, _, k2, Or.inl rfl, Or.inr rfl, rfl⟩
    refine mj_on (s41_191 _ ?_)
    refine ⟨trivial, _, _, j1, trivial, _, _, _, sg (c' := 60) j2 (by decide), if_tf (fun z => ?_) (fun z1 => ?_)⟩
    · rw [c60 z.2] at b1; exact ⟨trivial, _, _, b1, e230⟩
    refine ⟨trivial, _, _, _, sg (c' := 62) j2 (by decide), if_tf (fun z => ?_) (fun z2 => ?_)⟩
    · rw [c62 z.2] at b1; exact ⟨trivial, _, _, b1, e230⟩
    · rw [c61 (fun q => z1 ⟨ht, q⟩) (fun q => z2 ⟨ht, q⟩)] at b1; exact ⟨trivial, _, _, b1, e230⟩
  have c41 : C2 (E + 5) 41 [.ref 0] I2 J2 (.int 1) (mj_up Ra 0 45 0) Sa := by
    refine mj_mk (e41 ?_)
    rw [f1, nI_pred, nI_clamp (by omega), f2]
    refine ⟨vp, trivial, _, _, _, r_isTest f10, vp, ?_⟩
    rw [f3, show (2 : Int32) = nI 2 from rfl]
    refine if_le (by decide) (by omega) (fun z => absurd z (by omega)) (fun _ => ?_)
    refine ⟨trivial, _, _, _, sg (c' := 43) h (by decide), if_tf (fun z => absurd z.2 nv.1) (fun _ => ?_)⟩
    refine ⟨trivial, _, _, _, sg (c' := 45) h (by decide), if_tf (fun z => absurd z.2 nv.2.1) (fun _ => ?_)⟩
    refine ⟨trivial, _, _, _, sg (c' := 42) h (by decide), if_tf (fun z => absurd z.2 nv.2.2.1) (fun _ => ?_)⟩
    refine ⟨trivial, _, _, _, sg (c' := 47) h (by decide), if_tf (fun z => absurd z.2 nv.2.2.2) (fun _ => ?_)⟩
    refine mj_on (s41_151 _ _ _ ?_)
    refine if_tf (fun _ => ?_) (fun z => absurd hkd z)
    rw [nI_clamp (by omega), f3]
    refine ⟨vp, ?_⟩
    rw [if_pos (show nI 0 = 0 from rfl)]
    refine ⟨trivial, _, _, _, sg (c' := 60) h (by decide), if_tf (fun _ => e191) (fun z1 => ?_)⟩
    refine ⟨trivial, _, _, _, sg (c' := 62) h (by decide), if_tf (fun _ => e191) (fun z2 => ?_)⟩
    refine ⟨trivial, _, _, _, sg (c' := 61) h (by decide), if_tf (fun _ => e191) (fun z3 => ?_)⟩
    rcases hv with q | q | q
    · exact absurd ⟨ht, q⟩ z1
    · exact absurd ⟨ht, q⟩ z2
    · exact absurd ⟨ht, q⟩ z3
  refine ⟨Ia, mj_up Ra 0 45 0, Sa, k1, k4, ?_⟩
  rcases k5 with ⟨p', a', t', v', l', o', w1, w2, -⟩ | ⟨w1, -⟩
  · exact Or.inr ⟨g_go h45 c41 (by rw [up_n (by omega)]; exact w1.1.2.2.2.2.2.2.2.2.2.2.2.2.2.1), up_s, p', a', t', v', l', o', TS_45 w1, w2⟩
  · exact Or.inl ⟨g_goD h45 c41 (Or.inl (by rw [up_n (by omega)]; exact (DD_8 w1).1)), DD_45 w1⟩
/-- no comparison where there should be one -/
theorem ts_nocomp (hv : ¬ (t = 1 ∧ (v = 43 ∨ v = 45 ∨ v = 42 ∨ v = 47))) (hw : ¬ (t = 1 ∧ (v = 60 ∨ v = 62 ∨ v = 61))) (hkd : kd = 1 ∨ kd = 5) (h : TS n x d s0 f0 B1 B2 BJ op kd 0 bs bg K L A1 A2 p a t v l o I1 I2 J2) (h45 : I2 0 45 = 1) (q1 : s0 + A1.length ≤ p) :
    ∃ Ia Ra, C1 (D + 1) 144 [.ref 11, .int (nI 1)] I1 J1 .null Ia J1 ∧ gD E I2 J2 Ra J2 ∧ DD d s0 f0 B1 B2 BJ Ia Ra J2 := by
  have hn := tk_n h.1
  obtain ⟨h1, -, -, -, ⟨-, -, -, -, a5, -, -⟩, ⟨f1, f2, f3, -, -, -, -, -, -, f10, f11, -, -⟩⟩ := id h
  have vp : vp_in (nI op) 20 := vp_in_nI (by omega) (by decide)
  obtain ⟨Ia, Ra, m1, m2, m3, m4, m5, m6, m7⟩ := ts_bl (D := D) (D' := E + 3) (J1 := J1) (k := 1) h (by decide) (by decide) (by omega)
  obtain ⟨j, j1, j2, j3⟩ := DD_k m3
  -- whatever comes behind the fault, no further call is made
  have e385 : ∃ R, E2 41 (E + 4) (fun y => y = (.int 0, (R, J2, mj_R2))) 385 [(0, .ref 0), (1, .int (nI op)), (2, .int (nI kd))] Ra J2 ∧ R = Ra := by
    refine ⟨Ra, ?_, rfl⟩
    refine mj_on (s41_385 _ _ ?_)
    rcases hkd with rfl | rfl
    · rw [if_pos (show nI 1 = 1 from rfl), if_neg (DD_8 m3).1]
      exact ⟨Or.inl rfl, rfl⟩
    · rw [if_neg (by decide), if_neg (by decide), if_pos (show nI 5 = 5 from rfl)]
      obtain ⟨y, hy⟩ := sg_any (D := E + 3) (I2 := Ra) (J2 := J2) (y := 93)
      have e487 : E2 41 (E + 4) (fun y => y = (.int 0, (Ra, J2, mj_R2))) 487 [(0, .ref 0), (1, .int (nI op)), (2, .int (nI 5))] Ra J2 := by
        refine mj_on (s41_487 _ _ ?_)
        rw [if_neg (DD_8 m3).2]
        exact ⟨Or.inl rfl, rfl⟩
      exact ⟨trivial, _, _, _, hy, if_i (fun _ => ⟨trivial, _, _, r_blD j3 j1 j2, e487⟩) (fun _ => e487)⟩
  obtain ⟨R, e385, rfl⟩ := e385
  have e272 : E2 41 (E + 4) (fun y => y = (.int 0, (R, J2, mj_R2))) 272 [(0, .ref 0), (1, .int (nI op))] I2 J2 := by
    refine mj_on (s41_272 _ ?_)
    rw [nI_clamp (by omega), f3, if_pos (show nI 0 = 0 from rfl)]
    refine ⟨vp, trivial, _, _, m2, ?_⟩
    refine mj_on (s41_290 _ ?_)
    rw [if_neg (DD_8 m3).2]
    exact ⟨Or.inl rfl, rfl⟩
  have c41 : C2 (E + 5) 41 [.ref 0] I2 J2 (.int 0) R J2 := by
    refine mj_mk (e41 ?_)
    rw [f1, nI_pred, nI_clamp (by omega), f2]
    refine ⟨vp, trivial, _, _, _, r_isTest f10, vp, ?_⟩
    rw [f3, show (2 : Int32) = nI 2 from rfl]
    refine if_le (by decide) (by omega) (fun z => absurd z (by omega)) (fun _ => ?_)
    refine ⟨trivial, _, _, _, sg_r (c := 43) h1 (by decide), if_tf (fun z => absurd ⟨z.1, Or.inl z.2⟩ hv) (fun _ => ?_)⟩
    refine ⟨trivial, _, _, _, sg_r (c := 45) h1 (by decide), if_tf (fun z => absurd ⟨z.1, Or.inr (Or.inl z.2)⟩ hv) (fun _ => ?_)⟩
    refine ⟨trivial, _, _, _, sg_r (c := 42) h1 (by decide), if_tf (fun z => absurd ⟨z.1, Or.inr (Or.inr (Or.inl z.2))⟩ hv) (fun _ => ?_)⟩
    refine ⟨trivial, _, _, _, sg_r (c := 47) h1 (by decide), if_tf (fun z => absurd ⟨z.1, Or.inr (Or.inr (Or.inr z.2))⟩ hv) (fun _ => ?_)⟩
    refine mj_on (s41_151 _ _ _ ?_)
    refine if_tf (fun _ => ?_) (fun z => absurd hkd z)
    rw [nI_clamp (by omega), f3]
    refine ⟨vp, ?_⟩
    rw [if_pos (show nI 0 = 0 from rfl)]
    refine ⟨trivial, _, _, _, sg_r (c := 60) h1 (by decide), if_tf (fun z => absurd ⟨z.1, Or.inl z.2⟩ hw) (fun z1 => ?_)⟩
    refine ⟨trivial, _, _, _, sg_r (c := 62) h1 (by decide), if_tf (fun z => absurd ⟨z.1, Or.inr (Or.inl z.2)⟩ hw) (fun z2 => ?_)⟩
    refine ⟨trivial, _, _, _, sg_r (c := 61) h1 (by decide), if_tf (fun z => absurd ⟨z.1, Or.inr (Or.inr z.2)⟩ hw) (fun z3 => ?_)⟩
    refine mj_on (s41_248 _ _ _ ?_)
    refine if_tf (fun _ => ?_) (fun z => absurd hkd z)
    refine ⟨trivial, _, _, _, wd_r (w := 9) h1 (by decide), if_tf (fun _ => e272) (fun _ => ?_)⟩
    refine ⟨trivial, _, _, _, wd_r (w := 8) h1 (by decide), if_tf (fun _ => e272) (fun _ => ?_)⟩
    refine mj_on (s41_363 _ _ _ ?_)
    refine if_tf (fun _ => ?_) (fun z => absurd hkd z)
    rw [nI_clamp (by omega), f3]
    refine ⟨vp, ?_⟩
    rw [if_pos (show nI 0 = 0 from rfl)]
    exact ⟨trivial, _, _, m2, e385⟩
  exact ⟨Ia, R, m1, g_goD h45 c41 (Or.inr rfl), m3⟩
/-- and, or -/
theorem ts_logic {c r w : Nat} {kk : List Nat} (hS : stc d W H B1 B2 BJ) (hc : (w = 9 ∧ c = 14 ∧ r = 2) ∨ (w = 8 ∧ c = 15 ∧ r = 1)) (ho : o = (w : Nat)) (hkd : kd = 1 ∨ kd = 5) (h0 : ph ≠ 0) (h : TS n x d s0 f0 B1 B2 BJ op kd ph bs bg (K ++ kk) L A1 A2 p a t v l o I1 I2 J2) (h45 : I2 0 45 = 1) (hK : ∀ c ∈ K, rnk c < r) (hk : ∀ c ∈ kk, r ≤ rnk c) (q1 : s0 + A1.length ≤ p) (q2 : f0 + A2.length + (bs + (K ++ kk).length) ≤ p) (q3 : bs + (K ++ kk).length < 499) :
    ∃ Ia Ra Sa, C1 (D + 3) 139 [.ref 11] I1 J1 .null Ia J1 ∧ Ia 11 9 = I1 11 9 ∧ ((gD E I2 J2 Ra Sa ∧ DD d s0 f0 B1 B2 BJ Ia Ra Sa) ∨ (gA E I2 J2 Ra Sa ∧ Ra 0 45 = 0 ∧ ∃ p' a' t' v' l' o', TS n x d s0 f0 B1 B2 BJ op kd 0 bs 1 (K ++ [c]) L A1 (A2 ++ pops kk) p' a' t' v' l' o' Ia Ra Sa ∧ p < p')) := by
  have hn := tk_n h.1
  have e0 : (K ++ kk).length = K.length + kk.length := List.length_append
  rw [e0] at q2 q3
  have r10 : r < 10 := by omega
  have c17 : c < 17 := by omega
  have w17 : w < 17 := by omega
  have t3 : t = 3 := (tk_w h.1 w17 ho).1
  have n1 : ¬ t = 1 := by omega
  have o9 : o = (9 : Nat) → c = 14 ∧ r = 2 := by omega
  have o8 : ¬ o = (9 : Nat) → c = 15 ∧ r = 1 ∧ o = (8 : Nat) := by omega
  obtain ⟨h1, -, -, -, ⟨-, -, -, -, a5, -, -⟩, ⟨f1, f2, f3, -, -, -, -, -, -, f10, f11, -, -⟩⟩ := id h
  have h8 := h1.2.2.2.2.2.2.2.2.2.2.2.2.2.1
  have vp : vp_in (nI op) 20 := vp_in_nI (by omega) (by decide)
  obtain ⟨Ij, j1, j2, j3⟩ := ts_join (D := E + 2) (r := r) (K := K) (kk := kk) hS r10 hK h hk (by omega) (by omega)
  obtain ⟨Ih, b1, b2, b3⟩ := ts_hold (D := E + 3) (c := c) j2 (by omega) c17
  have b4 := TS_bg (y := 1) (TS_ph (y := 0) b2 (by decide)) (Or.inr rfl)
  obtain ⟨Ia, Ra, Sa, k1, k2, k3, k4, k5⟩ := ts_adv (D := D) (D' := E + 2) (J1 := J1) b4 (by omega) (by omega)
  have sg : ∀ {c' : Nat}, c' < 256 → C2 (E + 4) 28 [.ref 0, .int (nI c')] I2 J2 (.int (tf (t = 1 ∧ v = c'))) I2 J2 := fun q => sg_r h1 q
  have pne : ¬ nI ph = 0 := nI_ne0 (by omega) (by omega)
  have e272 : E2 41 (E + 4) (fun y => y = (.int 1, (mj_up Ra 0 45 0, Sa, mj_R2))) 272 [(0, .ref 0), (1, .int (nI op))] I2 J2 := by
    have e338 : E2 41 (E + 4) (fun y => y = (.int 1, (mj_up Ra 0 45 0, Sa, mj_R2))) 338 [(0, .ref 0), (1, .int (nI op))] Ih J2 := by
      refine mj_on (s41_338 _ ?_)
      rw [nI_clamp (by omega)]
      exact ⟨vp, vp, trivial, _, _, k2, Or.inl rfl, Or.inr rfl, rfl⟩
    refine mj_on (s41_272 _ ?_)
    rw [nI_clamp (by omega), f3, if_neg pne]
    refine ⟨vp, ?_⟩
    refine mj_on (s41_290 _ ?_)
    rw [if_pos (by rw [h8]; decide)]
    refine ⟨trivial, _, _, _, wd_r (w := 9) h1 (by decide), if_tf (fun z => ?_) (fun z => ?_)⟩
    · rw [(o9 z).2] at j1
      rw [(o9 z).1] at b1
      refine ⟨trivial, _, _, j1, ?_⟩
      refine mj_on (s41_322 _ _ ?_)
      rw [tf_t z, if_neg (by decide)]
      exact ⟨trivial, _, _, b1, e338⟩
    · rw [(o8 z).2.1] at j1
      rw [(o8 z).1] at b1
      refine ⟨trivial, _, _, j1, ?_⟩
      refine mj_on (s41_322 _ _ ?_)
      rw [tf_f z, if_pos rfl]
      exact ⟨trivial, _, _, b1, e338⟩
  have e151 : E2 41 (E + 4) (fun y => y = (.int 1, (mj_up Ra 0 45 0, Sa, mj_R2))) 151 [(0, .ref 0), (1, .int (nI op)), (2, .int (nI kd)), (3, .int (tf (kd = 1 ∨ kd = 5)))] I2 J2 := by
    refine mj_on (s41_151 _ _ _ ?_)
    refine if_tf (fun _ => ?_) (fun z => absurd hkd z)
    rw [nI_clamp (by omega), f3, if_neg pne]
    refine ⟨vp, ?_⟩
    refine mj_on (s41_248 _ _ _ ?_)
    refine if_tf (fun _ => ?_) (fun z => absurd hkd z)
    refine ⟨trivial, _, _, _, wd_r (w := 9) h1 (by decide), if_tf (fun _ => e272) (fun z => ?_)⟩
    exact ⟨trivial, _, _, _, wd_r (w := 8) h1 (by decide), if_tf (fun _ => e272) (fun y => absurd (o8 z).2.2 y)⟩
  have c41 : C2 (E + 5) 41 [.ref 0] I2 J2 (.int 1) (mj_up Ra 0 45 0) Sa := by
    refine mj_mk (e41 ?_)
    rw [f1, nI_pred, nI_clamp (by omega), f2]
    refine ⟨vp, trivial, _, _, _, r_isTest f10, vp, ?_⟩
    rw [f3, show (2 : Int32) = nI 2 from rfl]
    refine if_le (by decide) (by omega) (fun _ => e151) (fun _ => ?_)
    refine ⟨trivial, _, _, _, sg (c' := 43) (by decide), if_tf (fun z => absurd z.1 n1) (fun _ => ?_)⟩
    refine ⟨trivial, _, _, _, sg (c' := 45) (by decide), if_tf (fun z => absurd z.1 n1) (fun _ => ?_)⟩
    refine ⟨trivial, _, _, _, sg (c' := 42) (by decide), if_tf (fun z => absurd z.1 n1) (fun _ => ?_)⟩
    exact ⟨trivial, _, _, _, sg (c' := 47) (by decide), if_tf (fun z => absurd z.1 n1) (fun _ => e151)⟩
  refine ⟨Ia, mj_up Ra 0 45 0, Sa, k1, k4, ?_⟩
  rcases k5 with ⟨p', a', t', v', l', o', w1, w2, -⟩ | ⟨w1, -⟩
  · exact Or.inr ⟨g_go h45 c41 (by rw [up_n (by omega)]; exact w1.1.2.2.2.2.2.2.2.2.2.2.2.2.2.1), up_s, p', a', t', v', l', o', TS_45 w1, w2⟩
  · exact Or.inl ⟨g_goD h45 c41 (Or.inl (by rw [up_n (by omega)]; exact (DD_8 w1).1)), DD_45 w1⟩
end Sa8g
