/-! the class' table of rows, made anew -/
section S52
variable {D W Rn : Nat} {I : Nat → Nat → Int32} {J : Nat → Nat → Int64}
theorem c_lossFor {w : Nat} {x : Int32} (hw : w < 4) : mj_Cl mj_S1 mj_CD (D + 1) 175 [.ref 1, .int (nI w), .int x] (I, J, mj_R1) (.int (lo (I 4 w) x), (I, J, mj_R1)) := by
  refine mj_mk (e175 _ _ ?_)
  rw [nI_clamp (by omega)]
  refine ⟨vp_in_nI hw (by decide), ?_⟩
  unfold lo
  exact if_i (fun c => mqi (if_pos c).symm) (fun c => mqi (if_neg c).symm)
/-- what takeLoss writes -/
def tkI (I : Nat → Nat → Int32) (r w : Nat) : Nat → Nat → Int32 := mj_up (mj_up (mj_up I 25 (4 * r + w) (lo (I 4 w) (I 5 (160 + 4 * r + w)))) 26 (4 * r + w) (lo (I 4 w) (I 5 (160 + 4 * r + w)) - I 6 (4 * r + w))) 27 (4 * r + w) (lo (I 4 w) (I 5 (160 + 4 * r + w)) + I 6 (4 * r + w))
def tkJ (I : Nat → Nat → Int32) (J : Nat → Nat → Int64) (r w : Nat) : Nat → Nat → Int64 := if I 5 (160 + 4 * r + w) = -1 then mj_up J 24 5 (J 24 5 ||| ((1 : Int64) <<< ((nI r).toInt64 &&& 63))) else J
theorem c_takeLoss {r w : Nat} (hr : r < 40) (hw : w < 4) : mj_Cl mj_S1 mj_CD (D + 2) 174 [.ref 24, .ref 1, .int (nI r), .int (nI w)] (I, J, mj_R1) (.null, (tkI I r w, tkJ I J r w, mj_R1)) := by
  refine mj_mk (e174 _ _ ?_)
  refine ⟨trivial, _, _, _, c_slot (k := 1), vp_in_nI (by omega) (by decide), ?_⟩
  rw [nI_clamp (by omega), ix4, Nat.mul_one]
  have key : ∀ J0 : Nat → Nat → Int64, mj_Ev mj_S1 (mj_CD 174) (mj_Cl mj_S1 mj_CD (D + 1)) (fun x => x = (.null, (tkI I r w, J0, mj_R1))) 38 [(0, .ref 24), (1, .ref 1), (3, .int (nI w)), (4, .int (I 5 (160 + 4 * r + w))), (5, .int (nI (4 * r + w)))] [] (I, J0, mj_R1) := by
    intro J0
    refine mj_on (s174_38 _ _ _ ?_)
    have hv : vp_in (nI (4 * r + w)) 160 := vp_in_nI (by omega) (by decide)
    refine ⟨trivial, _, _, _, c_lossFor hw, hv, hv, hv, hv, hv, hv, hv, ?_⟩
    rw [nI_clamp (by omega), up_s]
    rfl
  unfold tkJ
  refine if_i (fun c => ?_) (fun c => ?_)
  · rw [if_pos c]; exact key _
  · rw [if_neg c]; exact key _
/-- the table up to wish w of row r -/
def tkP (W r w : Nat) (I : Nat → Nat → Int32) (J : Nat → Nat → Int64) : Prop :=
  (∀ i, i < 64 → (lbit (J 24 5) i ↔ (i < r ∧ ∃ u, u < W ∧ I 5 (160 + 4 * i + u) = -1) ∨ (i = r ∧ ∃ u, u < w ∧ I 5 (160 + 4 * i + u) = -1))) ∧
  (∀ i u, u < W → (i < r ∨ (i = r ∧ u < w)) → I 25 (4 * i + u) = lo (I 4 u) (I 5 (160 + 4 * i + u)) ∧ I 26 (4 * i + u) = lo (I 4 u) (I 5 (160 + 4 * i + u)) - I 6 (4 * i + u) ∧ I 27 (4 * i + u) = lo (I 4 u) (I 5 (160 + 4 * i + u)) + I 6 (4 * i + u))
def tkF (I I' : Nat → Nat → Int32) (J J' : Nat → Nat → Int64) : Prop := (∀ q, q ≠ 25 → q ≠ 26 → q ≠ 27 → I' q = I q) ∧ (∀ q j, (q ≠ 24 ∨ (j ≠ 5 ∧ j ≠ 6)) → J' q j = J q j)
theorem tkI_f {r w q : Nat} (h1 : q ≠ 25) (h2 : q ≠ 26) (h3 : q ≠ 27) : tkI I r w q = I q := by
  unfold tkI
  rw [up_c h3, up_c h2, up_c h1]
theorem lbit_or {x : Int64} {r i : Nat} (hr : r < 64) (hi : i < 64) : lbit (x ||| ((1 : Int64) <<< ((nI r).toInt64 &&& 63))) i ↔ lbit x i ∨ i = r := by
  unfold lbit
  rw [Int64.toBitVec_or, sh_1 r hr, BitVec.getLsbD_or, BitVec.getLsbD_twoPow, Bool.or_eq_true, Bool.and_eq_true, decide_eq_true_eq, decide_eq_true_eq]
  exact or_congr Iff.rfl ⟨fun q => q.2.symm, fun q => ⟨by omega, q.symm⟩⟩
theorem tk_step {r w : Nat} (hr : r < 40) (hw : w < W) (hW : W ≤ 4) (h : tkP W r w I J) : tkP W r (w + 1) (tkI I r w) (tkJ I J r w) := by
  obtain ⟨h1, h2⟩ := h
  have e5 : tkI I r w 5 = I 5 := tkI_f (by decide) (by decide) (by decide)
  have e4 : tkI I r w 4 = I 4 := tkI_f (by decide) (by decide) (by decide)
  have e6 : tkI I r w 6 = I 6 := tkI_f (by decide) (by decide) (by decide)
  refine ⟨fun i hi => ?_, fun i u hu hiu => ?_⟩
  · rw [e5]
    have base := h1 i hi
    unfold tkJ
    by_cases c : I 5 (160 + 4 * r + w) = -1
    · rw [if_pos c, up_s, lbit_or (by omega) hi, base]
      constructor
      · rintro ((q | ⟨q1, u, q2, q3⟩) | q)
        · exact Or.inl q
        · exact Or.inr ⟨q1, u, by omega, q3⟩
        · exact Or.inr ⟨q, w, by omega, by rw [q]; exact c⟩
      · rintro (q | ⟨q1, u, q2, q3⟩)
        · exact Or.inl (Or.inl q)
        · exact Or.inr q1
    · rw [if_neg c, base]
      constructor
      · rintro (q | ⟨q1, u, q2, q3⟩)
        · exact Or.inl q
        · exact Or.inr ⟨q1, u, by omega, q3⟩
      · rintro (q | ⟨q1, u, q2, q3⟩)
        · exact Or.inl q
        · by_cases e : u = w
          · subst e; subst q1; exact absurd q3 c
          · exact Or.inr ⟨q1, u, by omega, q3⟩
  · rw [e4, e5, e6]
    by_cases e : i = r ∧ u = w
    · obtain ⟨rfl, rfl⟩ := e
      unfold tkI
      refine ⟨?_, ?_, ?_⟩
      · rw [up_c (by decide), up_c (by decide), up_s]
      · rw [up_c (by decide), up_s]
      · rw [up_s]
    · have hne : 4 * i + u ≠ 4 * r + w := by omega
      have q := h2 i u hu (by omega)
      unfold tkI
      refine ⟨?_, ?_, ?_⟩
      · rw [up_c (by decide), up_c (by decide), up_j hne]; exact q.1
      · rw [up_c (by decide), up_j hne, up_c (by decide)]; exact q.2.1
      · rw [up_j hne, up_c (by decide), up_c (by decide)]; exact q.2.2
theorem c_take (hW : I 2 0 = nI W) (hW4 : W ≤ 4) (hR : I 2 1 = nI Rn) (hR4 : Rn ≤ 40) : ∃ I' J', mj_Cl mj_S1 mj_CD (D + 4) 173 [.ref 24, .ref 1] (I, J, mj_R1) (.null, (I', J', mj_R1)) ∧ rlW W Rn I' J' ∧ (∀ q, q ≠ 24 → q ≠ 25 → q ≠ 26 → q ≠ 27 → I' q = I q) ∧ (∀ q j, (q ≠ 24 ∨ (j ≠ 5 ∧ j ≠ 6)) → J' q j = J q j) := by
  refine mj_cN (e173 ?_)
  rw [show ((1 : Int32)).toNatClampNeg = 1 from rfl, show ((0 : Int32)).toNatClampNeg = 0 from rfl, hW, hR]
  refine ⟨vp_in_nI (n := 1) (by decide) (by decide), vp_in_nI (n := 0) (by decide) (by decide), ?_⟩
  obtain ⟨Ia, hIa⟩ : ∃ Ia, Ia = mj_up (mj_up I 24 0 (nI Rn)) 24 1 (nI W) := ⟨_, rfl⟩
  obtain ⟨Ja, hJa⟩ : ∃ Ja, Ja = mj_up J 24 5 (0 : Int64) := ⟨_, rfl⟩
  rw [← hIa, ← hJa]
  have a0 : Ia 24 0 = nI Rn := by rw [hIa, up_j (by decide), up_s]
  have a1 : Ia 24 1 = nI W := by rw [hIa, up_s]
  have aI : ∀ q, q ≠ 24 → Ia q = I q := fun q hq => by rw [hIa, up_c hq, up_c hq]
  have aJ : ∀ q j, (q ≠ 24 ∨ j ≠ 5) → Ja q j = J q j := fun q j hq => by rw [hJa, up_n hq]
  obtain ⟨Q, hQ⟩ : ∃ Q, Q = qN mj_R1 (fun I' J' => rlW W Rn I' J' ∧ (∀ q, q ≠ 24 → q ≠ 25 → q ≠ 26 → q ≠ 27 → I' q = I q) ∧ (∀ q j, (q ≠ 24 ∨ (j ≠ 5 ∧ j ≠ 6)) → J' q j = J q j)) := ⟨_, rfl⟩
  rw [← hQ]
  have outer := lp_up (n := Rn) (fun r => ∀ I0 J0, tkP W r 0 I0 J0 → tkF Ia I0 Ja J0 → mj_Ev mj_S1 (mj_CD 173) (mj_Cl mj_S1 mj_CD (D + 3)) Q 27 [(0, .ref 24), (1, .ref 1), (2, .int (nI r))] [] (I0, J0, mj_R1)) (fun r hr ih I0 J0 hP hF => ?_) 0 (Nat.zero_le _) Ia Ja
    ⟨fun i hi => by
      rw [hJa, up_s]
      refine ⟨fun q => ?_, fun q => ?_⟩
      · exact absurd q (by unfold lbit; simp)
      · rcases q with ⟨q, -⟩ | ⟨-, u, q, -⟩
        · omega
        · omega, fun i u _ q => by omega⟩ ⟨fun _ _ _ _ => rfl, fun _ _ _ => rfl⟩
  · exact outer
  refine mj_on (s173_27 _ ?_)
  rw [hF.1 24 (by decide) (by decide) (by decide), a0]
  refine if_le (by omega) (by omega) (fun c => ?_) (fun c => ?_)
  · obtain rfl : r = Rn := by omega
    refine ⟨trivial, _, _, _, c_unb_c (by rw [hF.1 24 (by decide) (by decide) (by decide), a1]) hW4 (by rw [hF.1 24 (by decide) (by decide) (by decide), a0]) hR4, ?_⟩
    rw [hQ]
    refine ⟨_, _, rfl, ⟨?_, ?_, ?_, ?_, ?_⟩, ?_, ?_⟩
    · rw [hF.1 24 (by decide) (by decide) (by decide), a0]
    · rw [hF.1 24 (by decide) (by decide) (by decide), a1]
    · intro i hi
      rw [up_j (by decide), hP.1 i (by omega)]
      exact ⟨fun q => by
        rcases q with q | ⟨-, u, q, -⟩
        · exact q.2
        · omega, fun q => Or.inl ⟨hi, q⟩⟩
    · intro i hi u hu
      exact hP.2 i u hu (Or.inl hi)
    · rw [up_s, up_j (by decide)]
    · intro q q1 q2 q3 q4
      rw [hF.1 q q2 q3 q4, aI q q1]
    · intro q j hq
      rw [up_n (by omega), hF.2 q j hq, aJ q j (by omega)]
  · have inner := lp_up (n := W) (fun w => ∀ I0 J0, tkP W r w I0 J0 → tkF Ia I0 Ja J0 → mj_Ev mj_S1 (mj_CD 173) (mj_Cl mj_S1 mj_CD (D + 3)) Q 37 [(0, .ref 24), (1, .ref 1), (2, .int (nI r)), (3, .int (nI w))] [] (I0, J0, mj_R1)) (fun w hw ih2 I0 J0 hP hF => ?_) 0 (Nat.zero_le _) I0 J0 hP hF
    · exact inner
    refine mj_on (s173_37 _ _ ?_)
    rw [hF.1 24 (by decide) (by decide) (by decide), a1, nI_1, nI_1]
    refine if_le (by omega) (by omega) (fun d => ?_) (fun d => ?_)
    · obtain rfl : w = W := by omega
      refine ih c I0 J0 ⟨fun i hi => ?_, fun i u hu q => ?_⟩ hF
      · rw [hP.1 i hi]
        constructor
        · rintro (⟨q1, q2⟩ | ⟨q1, q2⟩)
          · exact Or.inl ⟨by omega, q2⟩
          · exact Or.inl ⟨by omega, q2⟩
        · rintro (⟨q1, q2⟩ | ⟨q1, u, q2, -⟩)
          · by_cases e : i = r
            · exact Or.inr ⟨e, q2⟩
            · exact Or.inl ⟨by omega, q2⟩
          · omega
      · exact hP.2 i u hu (by omega)
    · refine ⟨trivial, _, _, c_takeLoss (by omega) (by omega), ?_⟩
      refine ih2 d _ _ (tk_step (by omega) d hW4 hP) ⟨fun q q1 q2 q3 => ?_, fun q j hq => ?_⟩
      · rw [tkI_f q1 q2 q3, hF.1 q q1 q2 q3]
      · rw [← hF.2 q j hq]
        unfold tkJ
        split
        · rw [up_n (by omega)]
        · rfl
end S52
