/-! class: rows as they are judged -/
def nm (W : Nat) (f g : Nat → Int32) : Prop := ∀ w, w < W → f w ≤ g w
def bt (W : Nat) (f g : Nat → Int32) : Prop := nm W f g ∧ ¬ nm W g f
def lbit (x : Int64) (i : Nat) : Prop := x.toBitVec.getLsbD i = true
/-- those that nobody else outdoes -/
def ub (n : Nat) (as : Nat → Prop) (ou : Nat → Nat → Prop) (r : Nat) : Prop := ¬ as r ∧ ∀ o, o < n → o ≠ r → ¬ as o → ¬ ou o r
theorem c_isIn {D i : Nat} {x : Int64} {I : Nat → Nat → Int32} {J : Nat → Nat → Int64} (hi : i < 64) : mj_Cl mj_S1 mj_CD (D + 1) 178 [.long x, .int (nI i)] (I, J, mj_R1) (.int (tf (lbit x i)), (I, J, mj_R1)) := by
  refine mj_mk (e178 _ _ ?_)
  have hb : ((x.toUInt64 >>> ((nI i).toInt64.toUInt64 &&& Int64.toUInt64 63)).toInt64 &&& (1 : Int64)) = 0 ↔ ¬ lbit x i := by
    unfold lbit
    have e : (x.toUInt64 >>> ((nI i).toInt64.toUInt64 &&& Int64.toUInt64 63)).toInt64.toBitVec = x.toBitVec >>> i := by
      apply BitVec.eq_of_toNat_eq
      show (x.toUInt64 >>> ((nI i).toInt64.toUInt64 &&& Int64.toUInt64 63)).toNat = _
      rw [UInt64.toNat_shiftRight, sh_ub i hi, BitVec.toNat_ushiftRight]
      rfl
    rw [← Int64.toBitVec_inj, Int64.toBitVec_and, e]
    show x.toBitVec >>> i &&& 1#64 = 0#64 ↔ _
    rw [BitVec.and_one_eq_setWidth_ofBool_getLsbD, BitVec.getLsbD_ushiftRight, Nat.add_zero]
    cases x.toBitVec.getLsbD i <;> decide
  refine if_i (fun c => mzF (hb.mp (cmp0.mp c))) (fun c => mzT (Classical.byContradiction fun q => c (cmp0.mpr (hb.mpr q))))
theorem c_judged {D n : Nat} {x : Int32} {I : Nat → Nat → Int32} {J : Nat → Nat → Int64} (hn : I 24 0 = nI n) (h40 : n ≤ 40) :
    mj_Cl mj_S1 mj_CD (D + 2) 177 [.ref 24, .int x] (I, J, mj_R1) (.int (tf (∃ j, j < n ∧ x = nI j ∧ ¬ lbit (J 24 5) j)), (I, J, mj_R1)) := by
  refine mj_mk (e177 _ ?_)
  rw [hn]
  refine if_rg (by omega) (fun j hj e => ?_) (fun h => mzF fun ⟨j, hj, e, _⟩ => h j hj e)
  subst e
  refine ⟨trivial, _, _, _, c_isIn (by omega), ?_⟩
  refine if_tf (fun c => mzF fun ⟨k, hk, e, q⟩ => ?_) (fun c => mzT ⟨j, hj, rfl, c⟩)
  rw [(nI_eq (by omega) (by omega)).mp e] at c
  exact q c
theorem c_jud {n r : Nat} {p : Nat → Prop} (hr : r < n) (hn : n ≤ 40 := by omega) : (∃ j, j < n ∧ nI r = nI j ∧ ¬ p j) ↔ ¬ p r :=
  ⟨fun ⟨j, hj, e, q⟩ => by rw [(nI_eq (by omega) (by omega)).mp e]; exact q, fun q => ⟨r, hr, rfl, q⟩⟩
theorem c_nm_a {D a b W : Nat} {I : Nat → Nat → Int32} {J : Nat → Nat → Int64} (ha : a + W ≤ 400) (hb : b + W ≤ 26244) (hW : W ≤ 4) :
    mj_Cl mj_S1 mj_CD (D + 1) 180 [.ref 45, .int (nI a), .ref 30, .int (nI b), .int (nI W)] (I, J, mj_R1) (.int (tf (nm W (fun w => I 45 (a + w)) (fun w => I 30 (b + w)))), (I, J, mj_R1)) := by
  refine mj_mk (e180_b _ _ _ ?_)
  have key : ∀ k i, W = i + k → (∀ w, w < i → I 45 (a + w) ≤ I 30 (b + w)) → mj_Ev mj_S1 (mj_CD 180) (mj_Cl mj_S1 mj_CD D) (fun x => x = (.int (tf (nm W (fun w => I 45 (a + w)) (fun w => I 30 (b + w)))), (I, J, mj_R1))) 3 [(0, .ref 45), (1, .int (nI a)), (2, .ref 30), (3, .int (nI b)), (4, .int (nI W)), (5, .int (nI i))] [] (I, J, mj_R1) := by
    intro k
    induction k with
    | zero =>
      intro i hi h
      refine mj_on (s180_3_b _ _ _ _ ?_)
      refine if_le (by omega) (by omega) (fun _ => mzT fun w hw => h w (by omega)) (fun c => absurd c (by omega))
    | succ k ih =>
      intro i hi h
      refine mj_on (s180_3_b _ _ _ _ ?_)
      refine if_le (by omega) (by omega) (fun c => absurd c (by omega)) (fun _ => ?_)
      rw [nI_add, nI_add, nI_clamp (by omega), nI_clamp (by omega), nI_1]
      refine ⟨vp_in_nI (by omega) (by decide), vp_in_nI (by omega) (by decide), if_i (fun c => ?_) (fun c => ?_)⟩
      · refine ih (i + 1) (by omega) fun w hw => ?_
        by_cases e : w = i
        · rw [e]; exact c
        · exact h w (by omega)
      · exact mzF fun q => c (q i (by omega))
  exact key W 0 (by omega) (fun w hw => absurd hw (Nat.not_lt_zero w))
theorem c_nm_b {D a b W : Nat} {I : Nat → Nat → Int32} {J : Nat → Nat → Int64} (ha : a + W ≤ 400) (hb : b + W ≤ 26244) (hW : W ≤ 4) :
    mj_Cl mj_S1 mj_CD (D + 1) 180 [.ref 42, .int (nI a), .ref 30, .int (nI b), .int (nI W)] (I, J, mj_R1) (.int (tf (nm W (fun w => I 42 (a + w)) (fun w => I 30 (b + w)))), (I, J, mj_R1)) := by
  refine mj_mk (e180_a _ _ _ ?_)
  have key : ∀ k i, W = i + k → (∀ w, w < i → I 42 (a + w) ≤ I 30 (b + w)) → mj_Ev mj_S1 (mj_CD 180) (mj_Cl mj_S1 mj_CD D) (fun x => x = (.int (tf (nm W (fun w => I 42 (a + w)) (fun w => I 30 (b + w)))), (I, J, mj_R1))) 3 [(0, .ref 42), (1, .int (nI a)), (2, .ref 30), (3, .int (nI b)), (4, .int (nI W)), (5, .int (nI i))] [] (I, J, mj_R1) := by
    intro k
    induction k with
    | zero =>
      intro i hi h
      refine mj_on (s180_3_a _ _ _ _ ?_)
      refine if_le (by omega) (by omega) (fun _ => mzT fun w hw => h w (by omega)) (fun c => absurd c (by omega))
    | succ k ih =>
      intro i hi h
      refine mj_on (s180_3_a _ _ _ _ ?_)
      refine if_le (by omega) (by omega) (fun c => absurd c (by omega)) (fun _ => ?_)
      rw [nI_add, nI_add, nI_clamp (by omega), nI_clamp (by omega), nI_1]
      refine ⟨vp_in_nI (by omega) (by decide), vp_in_nI (by omega) (by decide), if_i (fun c => ?_) (fun c => ?_)⟩
      · refine ih (i + 1) (by omega) fun w hw => ?_
        by_cases e : w = i
        · rw [e]; exact c
        · exact h w (by omega)
      · exact mzF fun q => c (q i (by omega))
  exact key W 0 (by omega) (fun w hw => absurd hw (Nat.not_lt_zero w))
theorem c_nm_c {D a b W : Nat} {I : Nat → Nat → Int32} {J : Nat → Nat → Int64} (ha : a + W ≤ 160) (hb : b + W ≤ 160) (hW : W ≤ 4) :
    mj_Cl mj_S1 mj_CD (D + 1) 180 [.ref 27, .int (nI a), .ref 26, .int (nI b), .int (nI W)] (I, J, mj_R1) (.int (tf (nm W (fun w => I 27 (a + w)) (fun w => I 26 (b + w)))), (I, J, mj_R1)) := by
  refine mj_mk (e180_c _ _ _ ?_)
  have key : ∀ k i, W = i + k → (∀ w, w < i → I 27 (a + w) ≤ I 26 (b + w)) → mj_Ev mj_S1 (mj_CD 180) (mj_Cl mj_S1 mj_CD D) (fun x => x = (.int (tf (nm W (fun w => I 27 (a + w)) (fun w => I 26 (b + w)))), (I, J, mj_R1))) 3 [(0, .ref 27), (1, .int (nI a)), (2, .ref 26), (3, .int (nI b)), (4, .int (nI W)), (5, .int (nI i))] [] (I, J, mj_R1) := by
    intro k
    induction k with
    | zero =>
      intro i hi h
      refine mj_on (s180_3_c _ _ _ _ ?_)
      refine if_le (by omega) (by omega) (fun _ => mzT fun w hw => h w (by omega)) (fun c => absurd c (by omega))
    | succ k ih =>
      intro i hi h
      refine mj_on (s180_3_c _ _ _ _ ?_)
      refine if_le (by omega) (by omega) (fun c => absurd c (by omega)) (fun _ => ?_)
      rw [nI_add, nI_add, nI_clamp (by omega), nI_clamp (by omega), nI_1]
      refine ⟨vp_in_nI (by omega) (by decide), vp_in_nI (by omega) (by decide), if_i (fun c => ?_) (fun c => ?_)⟩
      · refine ih (i + 1) (by omega) fun w hw => ?_
        by_cases e : w = i
        · rw [e]; exact c
        · exact h w (by omega)
      · exact mzF fun q => c (q i (by omega))
  exact key W 0 (by omega) (fun w hw => absurd hw (Nat.not_lt_zero w))
theorem c_nm_d {D a b W : Nat} {I : Nat → Nat → Int32} {J : Nat → Nat → Int64} (ha : a + W ≤ 160) (hb : b + W ≤ 160) (hW : W ≤ 4) :
    mj_Cl mj_S1 mj_CD (D + 1) 180 [.ref 26, .int (nI a), .ref 27, .int (nI b), .int (nI W)] (I, J, mj_R1) (.int (tf (nm W (fun w => I 26 (a + w)) (fun w => I 27 (b + w)))), (I, J, mj_R1)) := by
  refine mj_mk (e180_d _ _ _ ?_)
  have key : ∀ k i, W = i + k → (∀ w, w < i → I 26 (a + w) ≤ I 27 (b + w)) → mj_Ev mj_S1 (mj_CD 180) (mj_Cl mj_S1 mj_CD D) (fun x => x = (.int (tf (nm W (fun w => I 26 (a + w)) (fun w => I 27 (b + w)))), (I, J, mj_R1))) 3 [(0, .ref 26), (1, .int (nI a)), (2, .ref 27), (3, .int (nI b)), (4, .int (nI W)), (5, .int (nI i))] [] (I, J, mj_R1) := by
    intro k
    induction k with
    | zero =>
      intro i hi h
      refine mj_on (s180_3_d _ _ _ _ ?_)
      refine if_le (by omega) (by omega) (fun _ => mzT fun w hw => h w (by omega)) (fun c => absurd c (by omega))
    | succ k ih =>
      intro i hi h
      refine mj_on (s180_3_d _ _ _ _ ?_)
      refine if_le (by omega) (by omega) (fun c => absurd c (by omega)) (fun _ => ?_)
      rw [nI_add, nI_add, nI_clamp (by omega), nI_clamp (by omega), nI_1]
      refine ⟨vp_in_nI (by omega) (by decide), vp_in_nI (by omega) (by decide), if_i (fun c => ?_) (fun c => ?_)⟩
      · refine ih (i + 1) (by omega) fun w hw => ?_
        by_cases e : w = i
        · rw [e]; exact c
        · exact h w (by omega)
      · exact mzF fun q => c (q i (by omega))
  exact key W 0 (by omega) (fun w hw => absurd hw (Nat.not_lt_zero w))
theorem c_nm_e {D a b W : Nat} {I : Nat → Nat → Int32} {J : Nat → Nat → Int64} (ha : a + W ≤ 160) (hb : b + W ≤ 160) (hW : W ≤ 4) :
    mj_Cl mj_S1 mj_CD (D + 1) 180 [.ref 25, .int (nI a), .ref 25, .int (nI b), .int (nI W)] (I, J, mj_R1) (.int (tf (nm W (fun w => I 25 (a + w)) (fun w => I 25 (b + w)))), (I, J, mj_R1)) := by
  refine mj_mk (e180_e _ _ _ ?_)
  have key : ∀ k i, W = i + k → (∀ w, w < i → I 25 (a + w) ≤ I 25 (b + w)) → mj_Ev mj_S1 (mj_CD 180) (mj_Cl mj_S1 mj_CD D) (fun x => x = (.int (tf (nm W (fun w => I 25 (a + w)) (fun w => I 25 (b + w)))), (I, J, mj_R1))) 3 [(0, .ref 25), (1, .int (nI a)), (2, .ref 25), (3, .int (nI b)), (4, .int (nI W)), (5, .int (nI i))] [] (I, J, mj_R1) := by
    intro k
    induction k with
    | zero =>
      intro i hi h
      refine mj_on (s180_3_e _ _ _ _ ?_)
      refine if_le (by omega) (by omega) (fun _ => mzT fun w hw => h w (by omega)) (fun c => absurd c (by omega))
    | succ k ih =>
      intro i hi h
      refine mj_on (s180_3_e _ _ _ _ ?_)
      refine if_le (by omega) (by omega) (fun c => absurd c (by omega)) (fun _ => ?_)
      rw [nI_add, nI_add, nI_clamp (by omega), nI_clamp (by omega), nI_1]
      refine ⟨vp_in_nI (by omega) (by decide), vp_in_nI (by omega) (by decide), if_i (fun c => ?_) (fun c => ?_)⟩
      · refine ih (i + 1) (by omega) fun w hw => ?_
        by_cases e : w = i
        · rw [e]; exact c
        · exact h w (by omega)
      · exact mzF fun q => c (q i (by omega))
  exact key W 0 (by omega) (fun w hw => absurd hw (Nat.not_lt_zero w))
theorem c_out_a {D a b W : Nat} {I : Nat → Nat → Int32} {J : Nat → Nat → Int64} (hw : I 24 1 = nI W) (hW : W ≤ 4) (ha : a < 40) (hb : b < 40) :
    mj_Cl mj_S1 mj_CD (D + 2) 179 [.ref 24, .int (nI a), .ref 26, .int (nI b), .ref 27] (I, J, mj_R1) (.int (tf (bt W (fun w => I 26 (4 * a + w)) (fun w => I 27 (4 * b + w)))), (I, J, mj_R1)) := by
  refine mj_mk (e179_a _ _ ?_)
  rw [ix4m, ix4m, hw]
  refine ⟨trivial, _, _, _, c_nm_d (by omega) (by omega) hW, ?_⟩
  refine if_tf (fun c => ?_) (fun c => mzF fun q => c q.1)
  rw [hw]
  refine ⟨trivial, _, _, _, c_nm_c (by omega) (by omega) hW, ?_⟩
  exact if_tf (fun d => mzF fun q => q.2 d) (fun d => mzT ⟨c, d⟩)
theorem c_out_b {D a b W : Nat} {I : Nat → Nat → Int32} {J : Nat → Nat → Int64} (hw : I 24 1 = nI W) (hW : W ≤ 4) (ha : a < 40) (hb : b < 40) :
    mj_Cl mj_S1 mj_CD (D + 2) 179 [.ref 24, .int (nI a), .ref 27, .int (nI b), .ref 26] (I, J, mj_R1) (.int (tf (bt W (fun w => I 27 (4 * a + w)) (fun w => I 26 (4 * b + w)))), (I, J, mj_R1)) := by
  refine mj_mk (e179_b _ _ ?_)
  rw [ix4m, ix4m, hw]
  refine ⟨trivial, _, _, _, c_nm_c (by omega) (by omega) hW, ?_⟩
  refine if_tf (fun c => ?_) (fun c => mzF fun q => c q.1)
  rw [hw]
  refine ⟨trivial, _, _, _, c_nm_d (by omega) (by omega) hW, ?_⟩
  exact if_tf (fun d => mzF fun q => q.2 d) (fun d => mzT ⟨c, d⟩)
theorem c_out_c {D a b W : Nat} {I : Nat → Nat → Int32} {J : Nat → Nat → Int64} (hw : I 24 1 = nI W) (hW : W ≤ 4) (ha : a < 40) (hb : b < 40) :
    mj_Cl mj_S1 mj_CD (D + 2) 179 [.ref 24, .int (nI a), .ref 25, .int (nI b), .ref 25] (I, J, mj_R1) (.int (tf (bt W (fun w => I 25 (4 * a + w)) (fun w => I 25 (4 * b + w)))), (I, J, mj_R1)) := by
  refine mj_mk (e179_c _ _ ?_)
  rw [ix4m, ix4m, hw]
  refine ⟨trivial, _, _, _, c_nm_e (by omega) (by omega) hW, ?_⟩
  refine if_tf (fun c => ?_) (fun c => mzF fun q => c q.1)
  rw [hw]
  refine ⟨trivial, _, _, _, c_nm_e (by omega) (by omega) hW, ?_⟩
  exact if_tf (fun d => mzF fun q => q.2 d) (fun d => mzT ⟨c, d⟩)
theorem c_unb_a {D W Rn : Nat} {I : Nat → Nat → Int32} {J : Nat → Nat → Int64} (hw : I 24 1 = nI W) (hW : W ≤ 4) (hr : I 24 0 = nI Rn) (hR : Rn ≤ 40) :
    mj_Cl mj_S1 mj_CD (D + 3) 176 [.ref 24, .ref 27, .ref 26] (I, J, mj_R1) (.long (bs Rn (ub Rn (lbit (J 24 5)) (fun o r => bt W (fun w => I 27 (4 * o + w)) (fun w => I 26 (4 * r + w))))), (I, J, mj_R1)) := by
  refine mj_mk (e176_a ?_)
  have inner : ∀ (B : Int64) (r : Nat), r < Rn → (∀ Q : mj_R → Prop, ∀ k o, Rn = o + k → ∀ P : Prop, (P ↔ ¬ lbit (J 24 5) r ∧ ∀ u, u < o → u ≠ r → ¬ lbit (J 24 5) u → ¬ bt W (fun w => I 27 (4 * u + w)) (fun w => I 26 (4 * r + w))) →
      (∀ P' : Prop, (P' ↔ (ub Rn (lbit (J 24 5)) (fun o r => bt W (fun w => I 27 (4 * o + w)) (fun w => I 26 (4 * r + w)))) r) → mj_Ev mj_S1 (mj_CD 176) (mj_Cl mj_S1 mj_CD (D + 2)) Q 81 [(0, .ref 24), (1, .ref 27), (2, .ref 26), (3, .long B), (5, .int (nI r)), (6, .int (tf P'))] [] (I, J, mj_R1)) →
      mj_Ev mj_S1 (mj_CD 176) (mj_Cl mj_S1 mj_CD (D + 2)) Q 25 [(0, .ref 24), (1, .ref 27), (2, .ref 26), (3, .long B), (5, .int (nI r)), (6, .int (tf P)), (7, .int (nI o))] [] (I, J, mj_R1)) := by
    intro B r hrr Q k
    induction k with
    | zero =>
      intro o ho P hP K
      refine mj_on (s176_25_a _ _ _ _ ?_)
      rw [hr]
      refine if_le (by omega) (by omega) (fun _ => ?_) (fun c => absurd c (by omega))
      refine K P ?_
      rw [hP]
      exact ⟨fun q => ⟨q.1, fun u hu e ha => q.2 u (by omega) e ha⟩, fun q => ⟨q.1, fun u hu e ha => q.2 u (by omega) e ha⟩⟩
    | succ k ih =>
      intro o ho P hP K
      refine mj_on (s176_25_a _ _ _ _ ?_)
      rw [hr]
      refine if_le (by omega) (by omega) (fun c => absurd c (by omega)) (fun _ => ?_)
      refine if_tf (fun c => ?_) (fun c => ?_)
      · rw [nI_1]
        have c2 := hP.mp c
        refine if_eq (by omega) (by omega) (fun e => ?_) (fun e => ?_)
        · rw [← tf_t trivial]
          refine ih (o + 1) (by omega) True ⟨fun _ => ⟨c2.1, fun u hu hne ha => c2.2 u (by omega) hne ha⟩, fun _ => trivial⟩ K
        · refine ⟨trivial, _, _, _, c_judged (n := Rn) hr hR, ?_⟩
          refine if_tf (fun d => ?_) (fun d => ?_)
          · refine ⟨trivial, _, _, _, c_out_b hw hW (by omega) (by omega), ?_⟩
            refine if_tf (fun f => ?_) (fun f => ?_)
            · rw [← tf_f (P := False) id]
              refine ih (o + 1) (by omega) False ⟨fun q => q.elim, fun q => q.2 o (by omega) e ((c_jud (by omega)).mp d) f⟩ K
            · rw [← tf_t trivial]
              refine ih (o + 1) (by omega) True ⟨fun _ => ⟨c2.1, fun u hu hne ha => ?_⟩, fun _ => trivial⟩ K
              by_cases e2 : u = o
              · rw [e2]; exact f
              · exact c2.2 u (by omega) hne ha
          · rw [← tf_t trivial]
            refine ih (o + 1) (by omega) True ⟨fun _ => ⟨c2.1, fun u hu hne ha => ?_⟩, fun _ => trivial⟩ K
            by_cases e2 : u = o
            · rw [e2] at ha; exact absurd ((c_jud (by omega)).mpr ha) d
            · exact c2.2 u (by omega) hne ha
      · refine K P ?_
        constructor
        · intro q
          exact absurd q c
        · intro q
          exact absurd (hP.mpr ⟨q.1, fun u hu e ha => q.2 u (by omega) e ha⟩) c
  have outer : ∀ k r, Rn = r + k → mj_Ev mj_S1 (mj_CD 176) (mj_Cl mj_S1 mj_CD (D + 2)) (fun x => x = (.long (bs Rn (ub Rn (lbit (J 24 5)) (fun o r => bt W (fun w => I 27 (4 * o + w)) (fun w => I 26 (4 * r + w))))), (I, J, mj_R1))) 5 [(0, .ref 24), (1, .ref 27), (2, .ref 26), (3, .long (bs r (ub Rn (lbit (J 24 5)) (fun o r => bt W (fun w => I 27 (4 * o + w)) (fun w => I 26 (4 * r + w)))))), (5, .int (nI r))] [] (I, J, mj_R1) := by
    intro k
    induction k with
    | zero =>
      intro r h
      refine mj_on (s176_5_a _ _ ?_)
      rw [hr]
      refine if_le (by omega) (by omega) (fun _ => ?_) (fun c => absurd c (by omega))
      rw [h]
      rfl
    | succ k ih =>
      intro r h
      refine mj_on (s176_5_a _ _ ?_)
      rw [hr]
      refine if_le (by omega) (by omega) (fun c => absurd c (by omega)) (fun _ => ?_)
      refine ⟨trivial, _, _, _, c_judged (n := Rn) hr hR, ?_⟩
      refine inner _ r (by omega) _ Rn 0 (by omega) _ ?_ ?_
      · rw [c_jud (by omega)]
        exact ⟨fun q => ⟨q, fun u hu => absurd hu (Nat.not_lt_zero u)⟩, fun q => q.1⟩
      · intro P' hP'
        refine mj_on (s176_81_a _ _ _ ?_)
        rw [nI_1]
        refine if_tf (fun c => ?_) (fun c => ?_)
        · rw [← bs_t (hP'.mp c)]
          exact ih (r + 1) (by omega)
        · rw [← bs_f0 (n := r) (fun q => c (hP'.mpr q))]
          exact ih (r + 1) (by omega)
  exact outer Rn 0 (by omega)
theorem c_unb_b {D W Rn : Nat} {I : Nat → Nat → Int32} {J : Nat → Nat → Int64} (hw : I 24 1 = nI W) (hW : W ≤ 4) (hr : I 24 0 = nI Rn) (hR : Rn ≤ 40) :
    mj_Cl mj_S1 mj_CD (D + 3) 176 [.ref 24, .ref 26, .ref 27] (I, J, mj_R1) (.long (bs Rn (ub Rn (lbit (J 24 5)) (fun o r => bt W (fun w => I 26 (4 * o + w)) (fun w => I 27 (4 * r + w))))), (I, J, mj_R1)) := by
  refine mj_mk (e176_b ?_)
  have inner : ∀ (B : Int64) (r : Nat), r < Rn → (∀ Q : mj_R → Prop, ∀ k o, Rn = o + k → ∀ P : Prop, (P ↔ ¬ lbit (J 24 5) r ∧ ∀ u, u < o → u ≠ r → ¬ lbit (J 24 5) u → ¬ bt W (fun w => I 26 (4 * u + w)) (fun w => I 27 (4 * r + w))) →
      (∀ P' : Prop, (P' ↔ (ub Rn (lbit (J 24 5)) (fun o r => bt W (fun w => I 26 (4 * o + w)) (fun w => I 27 (4 * r + w)))) r) → mj_Ev mj_S1 (mj_CD 176) (mj_Cl mj_S1 mj_CD (D + 2)) Q 81 [(0, .ref 24), (1, .ref 26), (2, .ref 27), (3, .long B), (5, .int (nI r)), (6, .int (tf P'))] [] (I, J, mj_R1)) →
      mj_Ev mj_S1 (mj_CD 176) (mj_Cl mj_S1 mj_CD (D + 2)) Q 25 [(0, .ref 24), (1, .ref 26), (2, .ref 27), (3, .long B), (5, .int (nI r)), (6, .int (tf P)), (7, .int (nI o))] [] (I, J, mj_R1)) := by
    intro B r hrr Q k
    induction k with
    | zero =>
      intro o ho P hP K
      refine mj_on (s176_25_b _ _ _ _ ?_)
      rw [hr]
      refine if_le (by omega) (by omega) (fun _ => ?_) (fun c => absurd c (by omega))
      refine K P ?_
      rw [hP]
      exact ⟨fun q => ⟨q.1, fun u hu e ha => q.2 u (by omega) e ha⟩, fun q => ⟨q.1, fun u hu e ha => q.2 u (by omega) e ha⟩⟩
    | succ k ih =>
      intro o ho P hP K
      refine mj_on (s176_25_b _ _ _ _ ?_)
      rw [hr]
      refine if_le (by omega) (by omega) (fun c => absurd c (by omega)) (fun _ => ?_)
      refine if_tf (fun c => ?_) (fun c => ?_)
      · rw [nI_1]
        have c2 := hP.mp c
        refine if_eq (by omega) (by omega) (fun e => ?_) (fun e => ?_)
        · rw [← tf_t trivial]
          refine ih (o + 1) (by omega) True ⟨fun _ => ⟨c2.1, fun u hu hne ha => c2.2 u (by omega) hne ha⟩, fun _ => trivial⟩ K
        · refine ⟨trivial, _, _, _, c_judged (n := Rn) hr hR, ?_⟩
          refine if_tf (fun d => ?_) (fun d => ?_)
          · refine ⟨trivial, _, _, _, c_out_a hw hW (by omega) (by omega), ?_⟩
            refine if_tf (fun f => ?_) (fun f => ?_)
            · rw [← tf_f (P := False) id]
              refine ih (o + 1) (by omega) False ⟨fun q => q.elim, fun q => q.2 o (by omega) e ((c_jud (by omega)).mp d) f⟩ K
            · rw [← tf_t trivial]
              refine ih (o + 1) (by omega) True ⟨fun _ => ⟨c2.1, fun u hu hne ha => ?_⟩, fun _ => trivial⟩ K
              by_cases e2 : u = o
              · rw [e2]; exact f
              · exact c2.2 u (by omega) hne ha
          · rw [← tf_t trivial]
            refine ih (o + 1) (by omega) True ⟨fun _ => ⟨c2.1, fun u hu hne ha => ?_⟩, fun _ => trivial⟩ K
            by_cases e2 : u = o
            · rw [e2] at ha; exact absurd ((c_jud (by omega)).mpr ha) d
            · exact c2.2 u (by omega) hne ha
      · refine K P ?_
        constructor
        · intro q
          exact absurd q c
        · intro q
          exact absurd (hP.mpr ⟨q.1, fun u hu e ha => q.2 u (by omega) e ha⟩) c
  have outer : ∀ k r, Rn = r + k → mj_Ev mj_S1 (mj_CD 176) (mj_Cl mj_S1 mj_CD (D + 2)) (fun x => x = (.long (bs Rn (ub Rn (lbit (J 24 5)) (fun o r => bt W (fun w => I 26 (4 * o + w)) (fun w => I 27 (4 * r + w))))), (I, J, mj_R1))) 5 [(0, .ref 24), (1, .ref 26), (2, .ref 27), (3, .long (bs r (ub Rn (lbit (J 24 5)) (fun o r => bt W (fun w => I 26 (4 * o + w)) (fun w => I 27 (4 * r + w)))))), (5, .int (nI r))] [] (I, J, mj_R1) := by
    intro k
    induction k with
    | zero =>
      intro r h
      refine mj_on (s176_5_b _ _ ?_)
      rw [hr]
      refine if_le (by omega) (by omega) (fun _ => ?_) (fun c => absurd c (by omega))
      rw [h]
      rfl
    | succ k ih =>
      intro r h
      refine mj_on (s176_5_b _ _ ?_)
      rw [hr]
      refine if_le (by omega) (by omega) (fun c => absurd c (by omega)) (fun _ => ?_)
      refine ⟨trivial, _, _, _, c_judged (n := Rn) hr hR, ?_⟩
      refine inner _ r (by omega) _ Rn 0 (by omega) _ ?_ ?_
      · rw [c_jud (by omega)]
        exact ⟨fun q => ⟨q, fun u hu => absurd hu (Nat.not_lt_zero u)⟩, fun q => q.1⟩
      · intro P' hP'
        refine mj_on (s176_81_b _ _ _ ?_)
        rw [nI_1]
        refine if_tf (fun c => ?_) (fun c => ?_)
        · rw [← bs_t (hP'.mp c)]
          exact ih (r + 1) (by omega)
        · rw [← bs_f0 (n := r) (fun q => c (hP'.mpr q))]
          exact ih (r + 1) (by omega)
  exact outer Rn 0 (by omega)
theorem c_unb_c {D W Rn : Nat} {I : Nat → Nat → Int32} {J : Nat → Nat → Int64} (hw : I 24 1 = nI W) (hW : W ≤ 4) (hr : I 24 0 = nI Rn) (hR : Rn ≤ 40) :
    mj_Cl mj_S1 mj_CD (D + 3) 176 [.ref 24, .ref 25, .ref 25] (I, J, mj_R1) (.long (bs Rn (ub Rn (lbit (J 24 5)) (fun o r => bt W (fun w => I 25 (4 * o + w)) (fun w => I 25 (4 * r + w))))), (I, J, mj_R1)) := by
  refine mj_mk (e176_c ?_)
  have inner : ∀ (B : Int64) (r : Nat), r < Rn → (∀ Q : mj_R → Prop, ∀ k o, Rn = o + k → ∀ P : Prop, (P ↔ ¬ lbit (J 24 5) r ∧ ∀ u, u < o → u ≠ r → ¬ lbit (J 24 5) u → ¬ bt W (fun w => I 25 (4 * u + w)) (fun w => I 25 (4 * r + w))) →
      (∀ P' : Prop, (P' ↔ (ub Rn (lbit (J 24 5)) (fun o r => bt W (fun w => I 25 (4 * o + w)) (fun w => I 25 (4 * r + w)))) r) → mj_Ev mj_S1 (mj_CD 176) (mj_Cl mj_S1 mj_CD (D + 2)) Q 81 [(0, .ref 24), (1, .ref 25), (2, .ref 25), (3, .long B), (5, .int (nI r)), (6, .int (tf P'))] [] (I, J, mj_R1)) →
      mj_Ev mj_S1 (mj_CD 176) (mj_Cl mj_S1 mj_CD (D + 2)) Q 25 [(0, .ref 24), (1, .ref 25), (2, .ref 25), (3, .long B), (5, .int (nI r)), (6, .int (tf P)), (7, .int (nI o))] [] (I, J, mj_R1)) := by
    intro B r hrr Q k
    induction k with
    | zero =>
      intro o ho P hP K
      refine mj_on (s176_25_c _ _ _ _ ?_)
      rw [hr]
      refine if_le (by omega) (by omega) (fun _ => ?_) (fun c => absurd c (by omega))
      refine K P ?_
      rw [hP]
      exact ⟨fun q => ⟨q.1, fun u hu e ha => q.2 u (by omega) e ha⟩, fun q => ⟨q.1, fun u hu e ha => q.2 u (by omega) e ha⟩⟩
    | succ k ih =>
      intro o ho P hP K
      refine mj_on (s176_25_c _ _ _ _ ?_)
      rw [hr]
      refine if_le (by omega) (by omega) (fun c => absurd c (by omega)) (fun _ => ?_)
      refine if_tf (fun c => ?_) (fun c => ?_)
      · rw [nI_1]
        have c2 := hP.mp c
        refine if_eq (by omega) (by omega) (fun e => ?_) (fun e => ?_)
        · rw [← tf_t trivial]
          refine ih (o + 1) (by omega) True ⟨fun _ => ⟨c2.1, fun u hu hne ha => c2.2 u (by omega) hne ha⟩, fun _ => trivial⟩ K
        · refine ⟨trivial, _, _, _, c_judged (n := Rn) hr hR, ?_⟩
          refine if_tf (fun d => ?_) (fun d => ?_)
          · refine ⟨trivial, _, _, _, c_out_c hw hW (by omega) (by omega), ?_⟩
            refine if_tf (fun f => ?_) (fun f => ?_)
            · rw [← tf_f (P := False) id]
              refine ih (o + 1) (by omega) False ⟨fun q => q.elim, fun q => q.2 o (by omega) e ((c_jud (by omega)).mp d) f⟩ K
            · rw [← tf_t trivial]
              refine ih (o + 1) (by omega) True ⟨fun _ => ⟨c2.1, fun u hu hne ha => ?_⟩, fun _ => trivial⟩ K
              by_cases e2 : u = o
              · rw [e2]; exact f
              · exact c2.2 u (by omega) hne ha
          · rw [← tf_t trivial]
            refine ih (o + 1) (by omega) True ⟨fun _ => ⟨c2.1, fun u hu hne ha => ?_⟩, fun _ => trivial⟩ K
            by_cases e2 : u = o
            · rw [e2] at ha; exact absurd ((c_jud (by omega)).mpr ha) d
            · exact c2.2 u (by omega) hne ha
      · refine K P ?_
        constructor
        · intro q
          exact absurd q c
        · intro q
          exact absurd (hP.mpr ⟨q.1, fun u hu e ha => q.2 u (by omega) e ha⟩) c
  have outer : ∀ k r, Rn = r + k → mj_Ev mj_S1 (mj_CD 176) (mj_Cl mj_S1 mj_CD (D + 2)) (fun x => x = (.long (bs Rn (ub Rn (lbit (J 24 5)) (fun o r => bt W (fun w => I 25 (4 * o + w)) (fun w => I 25 (4 * r + w))))), (I, J, mj_R1))) 5 [(0, .ref 24), (1, .ref 25), (2, .ref 25), (3, .long (bs r (ub Rn (lbit (J 24 5)) (fun o r => bt W (fun w => I 25 (4 * o + w)) (fun w => I 25 (4 * r + w)))))), (5, .int (nI r))] [] (I, J, mj_R1) := by
    intro k
    induction k with
    | zero =>
      intro r h
      refine mj_on (s176_5_c _ _ ?_)
      rw [hr]
      refine if_le (by omega) (by omega) (fun _ => ?_) (fun c => absurd c (by omega))
      rw [h]
      rfl
    | succ k ih =>
      intro r h
      refine mj_on (s176_5_c _ _ ?_)
      rw [hr]
      refine if_le (by omega) (by omega) (fun c => absurd c (by omega)) (fun _ => ?_)
      refine ⟨trivial, _, _, _, c_judged (n := Rn) hr hR, ?_⟩
      refine inner _ r (by omega) _ Rn 0 (by omega) _ ?_ ?_
      · rw [c_jud (by omega)]
        exact ⟨fun q => ⟨q, fun u hu => absurd hu (Nat.not_lt_zero u)⟩, fun q => q.1⟩
      · intro P' hP'
        refine mj_on (s176_81_c _ _ _ ?_)
        rw [nI_1]
        refine if_tf (fun c => ?_) (fun c => ?_)
        · rw [← bs_t (hP'.mp c)]
          exact ih (r + 1) (by omega)
        · rw [← bs_f0 (n := r) (fun q => c (hP'.mpr q))]
          exact ih (r + 1) (by omega)
  exact outer Rn 0 (by omega)
