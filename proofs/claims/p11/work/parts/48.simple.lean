/-! calls that are soon told -/
section S48
variable {D b W Rn Kn Tn Hn Un g : Nat} {I I1 I2 : Nat → Nat → Int32} {J J1 J2 : Nat → Nat → Int64}
def AI (z1 z2 : Nat) (as : List Value) (I1 : Nat → Nat → Int32) (J1 : Nat → Nat → Int64) (I2 : Nat → Nat → Int32) (J2 : Nat → Nat → Int64) (P : (Nat → Nat → Int32) → (Nat → Nat → Int64) → (Nat → Nat → Int32) → (Nat → Nat → Int64) → Prop) : Prop :=
  ∃ (r : Int32) (f1 : Nat → Nat → Int32) (h1 : Nat → Nat → Int64) (f2 : Nat → Nat → Int32) (h2 : Nat → Nat → Int64), mj_Cl mj_S1 mj_CD 900 z1 (.ref 0 :: as) (I1, J1, mj_R1) (.int r, (f1, h1, mj_R1)) ∧ mj_Cl mj_S2 mj_CD 900 z2 (.ref 0 :: as) (I2, J2, mj_R2) (.int r, (f2, h2, mj_R2)) ∧ P f1 h1 f2 h2
def AJ (z1 z2 : Nat) (as : List Value) (I1 : Nat → Nat → Int32) (J1 : Nat → Nat → Int64) (I2 : Nat → Nat → Int32) (J2 : Nat → Nat → Int64) (P : (Nat → Nat → Int32) → (Nat → Nat → Int64) → (Nat → Nat → Int32) → (Nat → Nat → Int64) → Prop) : Prop :=
  ∃ (r : Int64) (f1 : Nat → Nat → Int32) (h1 : Nat → Nat → Int64) (f2 : Nat → Nat → Int32) (h2 : Nat → Nat → Int64), mj_Cl mj_S1 mj_CD 900 z1 (.ref 0 :: as) (I1, J1, mj_R1) (.long r, (f1, h1, mj_R1)) ∧ mj_Cl mj_S2 mj_CD 900 z2 (.ref 0 :: as) (I2, J2, mj_R2) (.long r, (f2, h2, mj_R2)) ∧ P f1 h1 f2 h2
/-- an answer that changes nothing -/
theorem AI.same {z1 z2 : Nat} {as : List Value} {P : (Nat → Nat → Int32) → (Nat → Nat → Int64) → (Nat → Nat → Int32) → (Nat → Nat → Int64) → Prop} (r : Int32) (h1 : mj_Cl mj_S1 mj_CD 900 z1 (.ref 0 :: as) (I1, J1, mj_R1) (.int r, (I1, J1, mj_R1))) (h2 : mj_Cl mj_S2 mj_CD 900 z2 (.ref 0 :: as) (I2, J2, mj_R2) (.int r, (I2, J2, mj_R2))) (hP : P I1 J1 I2 J2) : AI z1 z2 as I1 J1 I2 J2 P := ⟨r, I1, J1, I2, J2, h1, h2, hP⟩
-- fault
theorem al_fault {x : Int32} (h : Rl b W Rn Kn Tn Hn Un g I1 J1 I2 J2) : AI 189 45 [.int x] I1 J1 I2 J2 (Rl b W Rn Kn Tn Hn Un g) := by
  obtain ⟨e1, e2⟩ := h.2.2.2.1
  by_cases c : x = 0
  · exact AI.same (I1 11 10) (mj_mk (D := 899) (e189 _ (by rw [if_pos c]))) (mj_mk (D := 899) (e45 _ (by rw [if_pos c, e1]))) h
  by_cases d : x = 1
  · exact AI.same (I1 11 11) (mj_mk (D := 899) (e189 _ (by rw [if_neg c, if_pos d]))) (mj_mk (D := 899) (e45 _ (by rw [if_neg c, if_pos d, e2]))) h
  · exact AI.same (-1) (mj_mk (D := 899) (e189 _ (by rw [if_neg c, if_neg d]))) (mj_mk (D := 899) (e45 _ (by rw [if_neg c, if_neg d]))) h
-- end
theorem al_end {x : Int32} (h : Rl b W Rn Kn Tn Hn Un g I1 J1 I2 J2) : AI 135 11 [.int x] I1 J1 I2 J2 (Rl b W Rn Kn Tn Hn Un g) := by
  obtain ⟨e1, e2, t, ht, e3, e4⟩ := id h.2.2.1
  by_cases c : x < 0
  · exact AI.same 0 (mj_mk (D := 899) (e135 _ (by rw [if_pos c]; exact ⟨Or.inl rfl, rfl⟩))) (mj_mk (D := 899) (e11 _ (by rw [if_pos c]; exact ⟨Or.inl rfl, rfl⟩))) h
  by_cases d : x ≤ nI t
  · refine ⟨1, mj_up I1 0 0 x, J1, mj_up I2 0 1 x, J2, mj_mk (D := 899) (e135 _ (by rw [if_neg c, e3, if_pos d]; exact ⟨Or.inr rfl, rfl⟩)), mj_mk (D := 899) (e11 _ (by rw [if_neg c, e4, if_pos d]; exact ⟨Or.inr rfl, rfl⟩)), ?_⟩
    obtain ⟨h1, h2, h3, h4, h5, h6, h7, h8, h9, h10, h11, h12, h13⟩ := h
    obtain ⟨j, hj, rfl⟩ := nI_of2 (n := t) (nI_toInt (by omega)) c d
    refine ⟨h1, h2, ⟨e1, e2, j, by omega, rfl, rfl⟩, h4, h5, h6, h7, h8, h9, h10, h11, h12, ?_⟩
    exact h13
  · exact AI.same 0 (mj_mk (D := 899) (e135 _ (by rw [if_neg c, e3, if_neg d]; exact ⟨Or.inl rfl, rfl⟩))) (mj_mk (D := 899) (e11 _ (by rw [if_neg c, e4, if_neg d]; exact ⟨Or.inl rfl, rfl⟩))) h
-- changed
theorem al_changed {x : Int32} (h : Rl b W Rn Kn Tn Hn Un g I1 J1 I2 J2) : AJ 199 64 [.int x] I1 J1 I2 J2 (Rl b W Rn Kn Tn Hn Un g) := by
  obtain ⟨e1, e2⟩ := h.2.2.2.2.2.2.2.2.2.2.1
  by_cases c : x = 0
  · exact ⟨J1 0 14, I1, J1, I2, J2, mj_mk (D := 899) (e199 _ (by rw [if_pos c])), mj_mk (D := 899) (e64 _ (by rw [if_pos c, e1])), h⟩
  · exact ⟨J1 0 15, I1, J1, I2, J2, mj_mk (D := 899) (e199 _ (by rw [if_neg c])), mj_mk (D := 899) (e64 _ (by rw [if_neg c, e2])), h⟩
/-- what Tl says, by short names -/
theorem Rl.rB (h : Rl b W Rn Kn Tn Hn Un g I1 J1 I2 J2) : rB I2 b W Rn := by
  obtain ⟨h1, ⟨h2, -⟩, -⟩ := h
  obtain ⟨a1, a2, a3, a4, a5, a6, b1, b2, b3, b4, b5, b6, c1, c2, c3, -⟩ := h2
  exact ⟨h1, c1, b1, c2, b2, c3⟩
theorem Rl.N (h : Rl b W Rn Kn Tn Hn Un g I1 J1 I2 J2) : tlN 1 b W Rn Kn Tn Hn Un I1 I2 := h.2.1.1
theorem c_there {n k : Nat} {x : Int32} (hn : I 2 k = nI n) (h40 : n ≤ 40) (hk : k < 6) : mj_Cl mj_S1 mj_CD (D + 1) 192 [.ref 1, .int (nI k), .int x] (I, J, mj_R1) (.int (tf (∃ j, j < n ∧ x = nI j)), (I, J, mj_R1)) := by
  refine mj_mk (e192 _ _ ?_)
  rw [nI_clamp (by omega), hn]
  refine if_i (fun c => mzF fun ⟨j, hj, e⟩ => ?_) (fun c => ⟨vp_in_nI hk (by decide), if_i (fun d => mzF fun ⟨j, hj, e⟩ => ?_) (fun d => ?_)⟩)
  · rw [e] at c; exact nI_pos (by omega) c
  · rw [e] at d; exact nI_ge hj (by omega) d
  · rcases pk_ix x (n := n) (by omega) with h | h | ⟨j, hj, e⟩
    · exact absurd h c
    · exact absurd h d
    · exact mzT ⟨j, hj, e⟩
theorem c_slot {k r w : Nat} : mj_Cl mj_S1 mj_CD (D + 1) 155 [.int (nI k), .int (nI r), .int (nI w)] (I, J, mj_R1) (.int (nI (160 * k + 4 * r + w)), (I, J, mj_R1)) := by
  refine mj_mk (e155 _ _ _ ?_)
  refine mqi ?_
  rw [show (40 : Int32) = nI 40 from rfl, pk_mul, nI_add, show (4 : Int32) = nI 4 from rfl, pk_mul, nI_add]
  congr 1
  omega
-- has
theorem al_has {x : Int32} (h : Rl b W Rn Kn Tn Hn Un g I1 J1 I2 J2) : AI 190 46 [.int x] I1 J1 I2 J2 (Rl b W Rn Kn Tn Hn Un g) := by
  obtain ⟨k1, k2, -⟩ := h.rB
  obtain ⟨a1, a2, a3, a4, a5, a6, b1, b2, b3, b4, b5, b6, c1, c2, c3, -⟩ := h.N
  obtain ⟨n, -, f1, f2, -⟩ := h.2.2.2.2.2.2.2.2.1
  obtain ⟨-, -, g1, g2, -⟩ := h.2.2.2.2.2.2.1
  have ref : ∀ r, (if x = (0 : Int32) then r = nI W else if x = 1 then r = nI Rn else if x = 2 then r = nI Kn else if x = 3 then r = nI Tn else if x = 4 then r = nI Hn else if x = 5 then r = nI Un else if x = 6 then r = nI n else if x = 7 then r = nI g else r = -1) → mj_Cl mj_S2 mj_CD 900 46 [.ref 0, .int x] (I2, J2, mj_R2) (.int r, (I2, J2, mj_R2)) := by
    intro r hr
    refine mj_mk (D := 899) (e46 _ ?_)
    rw [k1, nI_clamp (by omega), b1, b2, b3, b4, b5, b6, f2, g2]
    have hv : vp_in (nI b) 2 := vp_in_nI k2 (by decide)
    by_cases q0 : x = 0
    · rw [if_pos q0] at hr ⊢; rw [hr]; exact ⟨hv, rfl⟩
    rw [if_neg q0] at hr ⊢
    by_cases q1 : x = 1
    · rw [if_pos q1] at hr ⊢; rw [hr]; exact ⟨hv, rfl⟩
    rw [if_neg q1] at hr ⊢
    by_cases q2 : x = 2
    · rw [if_pos q2] at hr ⊢; rw [hr]; exact ⟨hv, rfl⟩
    rw [if_neg q2] at hr ⊢
    by_cases q3 : x = 3
    · rw [if_pos q3] at hr ⊢; rw [hr]; exact ⟨hv, rfl⟩
    rw [if_neg q3] at hr ⊢
    by_cases q4 : x = 4
    · rw [if_pos q4] at hr ⊢; rw [hr]; exact ⟨hv, rfl⟩
    rw [if_neg q4] at hr ⊢
    by_cases q5 : x = 5
    · rw [if_pos q5] at hr ⊢; rw [hr]; exact ⟨hv, rfl⟩
    rw [if_neg q5] at hr ⊢
    by_cases q6 : x = 6
    · rw [if_pos q6] at hr ⊢; rw [hr]
    rw [if_neg q6] at hr ⊢
    by_cases q7 : x = 7
    · rw [if_pos q7] at hr ⊢; rw [hr]
    rw [if_neg q7] at hr ⊢
    rw [hr]
  have far : ∀ r, (if x = 6 then r = nI n else if x = 7 then r = nI g else r = -1) → mj_Ev mj_S1 (mj_CD 190) (mj_Cl mj_S1 mj_CD 899) (fun q => q = (.int r, (I1, J1, mj_R1))) 20 [(0, .ref 0), (1, .int x)] [] (I1, J1, mj_R1) := by
    intro r hr
    refine mj_on (s190_20 _ ?_)
    rw [f1, g1]
    by_cases q6 : x = 6
    · rw [if_pos q6] at hr ⊢; rw [hr]
    rw [if_neg q6] at hr ⊢
    by_cases q7 : x = 7
    · rw [if_pos q7] at hr ⊢; rw [hr]
    rw [if_neg q7] at hr ⊢
    rw [hr]
  by_cases c : x < 0
  · have nx : ∀ m : Nat, m < 8 → x ≠ nI m := fun m hm e => nI_pos (n := m) (by omega) (e ▸ c)
    refine AI.same (-1) (mj_mk (D := 899) (e190 _ (by rw [if_pos c]; exact far _ (by rw [if_neg (show x ≠ 6 from nx 6 (by omega)), if_neg (show x ≠ 7 from nx 7 (by omega))])))) (ref _ ?_) h
    rw [if_neg (show x ≠ 0 from nx 0 (by omega)), if_neg (show x ≠ 1 from nx 1 (by omega)), if_neg (show x ≠ 2 from nx 2 (by omega)), if_neg (show x ≠ 3 from nx 3 (by omega)), if_neg (show x ≠ 4 from nx 4 (by omega)), if_neg (show x ≠ 5 from nx 5 (by omega)), if_neg (show x ≠ 6 from nx 6 (by omega)), if_neg (show x ≠ 7 from nx 7 (by omega))]
  by_cases d : (6 : Int32) ≤ x
  · have nx : ∀ m : Nat, m < 6 → x ≠ nI m := fun m hm e => nI_ge (a := m) (b := 6) hm (by omega) (e ▸ d)
    have cl : ∀ r, (if x = 6 then r = nI n else if x = 7 then r = nI g else r = -1) → AI 190 46 [.int x] I1 J1 I2 J2 (Rl b W Rn Kn Tn Hn Un g) := fun r hr => by
      refine AI.same r (mj_mk (D := 899) (e190 _ (by rw [if_neg c, if_pos d]; exact far _ hr))) (ref _ ?_) h
      rw [if_neg (show x ≠ 0 from nx 0 (by omega)), if_neg (show x ≠ 1 from nx 1 (by omega)), if_neg (show x ≠ 2 from nx 2 (by omega)), if_neg (show x ≠ 3 from nx 3 (by omega)), if_neg (show x ≠ 4 from nx 4 (by omega)), if_neg (show x ≠ 5 from nx 5 (by omega))]
      exact hr
    by_cases q6 : x = 6
    · exact cl (nI n) (by rw [if_pos q6])
    by_cases q7 : x = 7
    · exact cl (nI g) (by rw [if_neg q6, if_pos q7])
    · exact cl (-1) (by rw [if_neg q6, if_neg q7])
  · obtain ⟨m, hm, rfl⟩ : ∃ m, m < 6 ∧ x = nI m := by
      rcases pk_ix x (n := 6) (by omega) with q | q | q
      · exact absurd q c
      · exact absurd q d
      · exact q
    have cls : mj_Cl mj_S1 mj_CD 900 190 [.ref 0, .int (nI m)] (I1, J1, mj_R1) (.int (I1 2 m), (I1, J1, mj_R1)) := by
      refine mj_mk (D := 899) (e190 _ ?_)
      rw [if_neg c, if_neg d, nI_clamp (by omega)]
      exact ⟨vp_in_nI hm (by decide), rfl⟩
    refine AI.same _ cls (ref _ ?_) h
    match m, hm with
    | 0, _ => exact a1
    | 1, _ => exact a2
    | 2, _ => exact a3
    | 3, _ => exact a4
    | 4, _ => exact a5
    | 5, _ => exact a6
-- price
theorem al_price {x y z : Int32} (h : Rl b W Rn Kn Tn Hn Un g I1 J1 I2 J2) : AI 194 52 [.int x, .int y, .int z] I1 J1 I2 J2 (Rl b W Rn Kn Tn Hn Un g) := by
  obtain ⟨a1, a2, a3, a4, a5, a6, b1, b2, b3, b4, b5, b6, c1, c2, c3, -⟩ := h.N
  have hB := h.rB
  have hT := h.2.1.2.2.1
  rcases Classical.em (∃ j, j < Rn ∧ x = nI j) with p | p
  · obtain ⟨r, hr, rfl⟩ := p
    rcases Classical.em (∃ j, j < W ∧ y = nI j) with q | q
    · obtain ⟨w, hw, rfl⟩ := q
      obtain ⟨t1, -, t2, -⟩ := hT r hr w hw
      have hc : ∀ v, (if z = 0 then v = I1 5 (160 + 4 * r + w) else if I1 5 (160 + 4 * r + w) = -1 then v = I1 5 (160 + 4 * r + w) else v = I1 6 (4 * r + w)) → mj_Cl mj_S1 mj_CD 900 194 [.ref 0, .int (nI r), .int (nI w), .int z] (I1, J1, mj_R1) (.int v, (I1, J1, mj_R1)) := by
        intro v hv
        refine mj_mk (D := 899) (e194 _ _ _ ?_)
        refine ⟨trivial, _, _, _, c_there (k := 1) a2 c3 (by omega), if_tf (fun _ => ?_) (fun f => absurd ⟨r, hr, rfl⟩ f)⟩
        refine ⟨trivial, _, _, _, c_there (k := 0) a1 (by omega) (by omega), if_tf (fun _ => ?_) (fun f => absurd ⟨w, hw, rfl⟩ f)⟩
        refine ⟨trivial, _, _, _, c_slot (k := 1), vp_in_nI (by omega) (by decide), ?_⟩
        rw [nI_clamp (by omega), ix4, nI_clamp (by omega)]
        refine if_i (fun e => ?_) (fun e => if_i (fun e2 => ?_) (fun e2 => ⟨vp_in_nI (by omega) (by decide), ?_⟩))
        · rw [if_pos e] at hv; rw [hv]
        · rw [if_neg e, if_pos e2] at hv; rw [hv]
        · rw [if_neg e, if_neg e2] at hv; rw [hv]
      have hr2 : ∀ v, (if z = 0 then v = I1 5 (160 + 4 * r + w) else if I1 5 (160 + 4 * r + w) = -1 then v = I1 5 (160 + 4 * r + w) else v = I1 6 (4 * r + w)) → mj_Cl mj_S2 mj_CD 900 52 [.ref 0, .int (nI r), .int (nI w), .int z] (I2, J2, mj_R2) (.int v, (I2, J2, mj_R2)) := by
        intro v hv
        refine mj_mk (D := 899) (e52 _ _ _ ?_)
        refine ⟨trivial, _, _, _, r_isRow hB, if_tf (fun _ => ?_) (fun f => absurd ⟨r, hr, rfl⟩ f)⟩
        refine ⟨trivial, _, _, _, r_isWish hB, if_tf (fun _ => ?_) (fun f => absurd ⟨w, hw, rfl⟩ f)⟩
        refine ⟨trivial, _, _, _, r_rowAt hB, vp_in_nI (by omega) (by decide), ?_⟩
        rw [nI_clamp (by omega), t1]
        refine if_i (fun e => ?_) (fun e => if_i (fun e2 => ⟨trivial, _, _, _, r_rowAt hB, vp_in_nI (by omega) (by decide), ?_⟩) (fun e2 => ⟨trivial, _, _, _, r_rowAt hB, vp_in_nI (by omega) (by decide), ?_⟩))
        · rw [e] at hv
          rw [show v = -1 by
            by_cases z0 : z = 0
            · rw [if_pos z0] at hv; exact hv
            · rw [if_neg z0, if_pos rfl] at hv; exact hv]
        · rw [if_pos e2] at hv
          rw [nI_clamp (by omega), t1, hv]
        · rw [if_neg e2, if_neg e] at hv
          rw [nI_clamp (by omega), t2, hv]
      by_cases z0 : z = 0
      · exact AI.same _ (hc _ (by rw [if_pos z0])) (hr2 _ (by rw [if_pos z0])) h
      · by_cases z1 : I1 5 (160 + 4 * r + w) = -1
        · exact AI.same _ (hc _ (by rw [if_neg z0, if_pos z1])) (hr2 _ (by rw [if_neg z0, if_pos z1])) h
        · exact AI.same _ (hc _ (by rw [if_neg z0, if_neg z1])) (hr2 _ (by rw [if_neg z0, if_neg z1])) h
    · refine AI.same (-1) (mj_mk (D := 899) (e194 _ _ _ ?_)) (mj_mk (D := 899) (e52 _ _ _ ?_)) h
      · refine ⟨trivial, _, _, _, c_there (k := 1) a2 c3 (by omega), if_tf (fun _ => ?_) (fun f => absurd ⟨r, hr, rfl⟩ f)⟩
        exact ⟨trivial, _, _, _, c_there (k := 0) a1 (by omega) (by omega), if_tf (fun f => absurd f q) (fun _ => rfl)⟩
      · refine ⟨trivial, _, _, _, r_isRow hB, if_tf (fun _ => ?_) (fun f => absurd ⟨r, hr, rfl⟩ f)⟩
        exact ⟨trivial, _, _, _, r_isWish hB, if_tf (fun f => absurd f q) (fun _ => rfl)⟩
  · refine AI.same (-1) (mj_mk (D := 899) (e194 _ _ _ ?_)) (mj_mk (D := 899) (e52 _ _ _ ?_)) h
    · exact ⟨trivial, _, _, _, c_there (k := 1) a2 c3 (by omega), if_tf (fun f => absurd f p) (fun _ => rfl)⟩
    · exact ⟨trivial, _, _, _, r_isRow hB, if_tf (fun f => absurd f p) (fun _ => rfl)⟩
end S48
