/-! reference: rows -/
theorem lp_up {n : Nat} (M : Nat → Prop) (h : ∀ i, i ≤ n → (i < n → M (i + 1)) → M i) : ∀ i, i ≤ n → M i := by
  have key : ∀ k i, i + k = n → M i := by
    intro k
    induction k with
    | zero => exact fun i hi => h i (by omega) (fun c => absurd c (by omega))
    | succ k ih => exact fun i hi => h i (by omega) (fun _ => ih (i + 1) (by omega))
  exact fun i hi => key (n - i) i (by omega)
def lo (m x : Int32) : Int32 := if m = 0 then x else -x
def rB (I : Nat → Nat → Int32) (b W Rn : Nat) : Prop := I 0 12 = nI b ∧ b < 2 ∧ I 2 b = nI W ∧ W ≤ 4 ∧ I 3 b = nI Rn ∧ Rn ≤ 40
def rL (I : Nat → Nat → Int32) (b r w : Nat) : Int32 := lo (I 9 (4 * b + w)) (I 11 (4 * (40 * b + r) + w))
def rA (I : Nat → Nat → Int32) (b W r : Nat) : Prop := ∃ w, w < W ∧ I 11 (4 * (40 * b + r) + w) = -1
section R62
variable {D b W Rn : Nat} {I : Nat → Nat → Int32} {J : Nat → Nat → Int64}
/-- x is a number from l to h, both ints -/
theorem r_is {x l h : Int32} : mj_Cl mj_S2 mj_CD (D + 1) 49 [.int x, .int l, .int h] (I, J, mj_R2) (.int (tf (¬ x < l ∧ ¬ h < x)), (I, J, mj_R2)) := by
  refine mj_mk (e49 _ _ _ ?_)
  exact if_i (fun c => mzF fun q => q.1 c) (fun c => if_i (fun d => mzF fun q => q.2 d) (fun d => mzT ⟨c, d⟩))
theorem r_rg {x : Int32} {n : Nat} (hn : n < 2 ^ 30) : (¬ x < 0 ∧ ¬ nI n - 1 < x) ↔ ∃ j, j < n ∧ x = nI j := by
  have e1 : (nI n - 1).toInt = (n : Int) - 1 := pk_sub_toInt (b := 1) (by omega) (by omega)
  constructor
  · rintro ⟨h1, h2⟩
    rcases pk_ix x (n := n) (by omega) with h | h | ⟨j, hj, e⟩
    · exact absurd h h1
    · refine absurd ?_ h2
      rw [Int32.lt_iff_toInt_lt, e1]
      rw [Int32.le_iff_toInt_le, nI_toInt (by omega)] at h
      omega
    · exact ⟨j, hj, e⟩
  · rintro ⟨j, hj, rfl⟩
    refine ⟨nI_pos (by omega), fun h => ?_⟩
    rw [Int32.lt_iff_toInt_lt, e1, nI_toInt (by omega)] at h
    omega
theorem r_isWish {x : Int32} (h : rB I b W Rn) : mj_Cl mj_S2 mj_CD (D + 2) 48 [.ref 0, .int x] (I, J, mj_R2) (.int (tf (∃ j, j < W ∧ x = nI j)), (I, J, mj_R2)) := by
  obtain ⟨h1, h2, h3, h4, h5, h6⟩ := h
  refine mj_mk (e48 _ ?_)
  rw [h1, nI_clamp (by omega), h3]
  refine ⟨vp_in_nI h2 (by decide), trivial, _, _, _, r_is, tf_01 _, ?_⟩
  exact mqi (tf_iff (r_rg (by omega)))
theorem r_isRow {x : Int32} (h : rB I b W Rn) : mj_Cl mj_S2 mj_CD (D + 2) 51 [.ref 0, .int x] (I, J, mj_R2) (.int (tf (∃ j, j < Rn ∧ x = nI j)), (I, J, mj_R2)) := by
  obtain ⟨h1, h2, h3, h4, h5, h6⟩ := h
  refine mj_mk (e51 _ ?_)
  rw [h1, nI_clamp (by omega), h5]
  refine ⟨vp_in_nI h2 (by decide), trivial, _, _, _, r_is, tf_01 _, ?_⟩
  exact mqi (tf_iff (r_rg (by omega)))
theorem r_rowAt {r w : Nat} (h : rB I b W Rn) : mj_Cl mj_S2 mj_CD (D + 1) 53 [.ref 0, .int (nI r), .int (nI w)] (I, J, mj_R2) (.int (nI (4 * (40 * b + r) + w)), (I, J, mj_R2)) := by
  refine mj_mk (e53 _ _ ?_)
  rw [h.1, ix40, ix4']
theorem r_lossOf {w : Nat} {x : Int32} (h : rB I b W Rn) (hw : w < W) : mj_Cl mj_S2 mj_CD (D + 1) 58 [.ref 0, .int (nI w), .int x] (I, J, mj_R2) (.int (lo (I 9 (4 * b + w)) x), (I, J, mj_R2)) := by
  obtain ⟨h1, h2, h3, h4, h5, h6⟩ := h
  refine mj_mk (e58 _ _ ?_)
  rw [h1, ix4', nI_clamp (by omega)]
  refine ⟨vp_in_nI (by omega) (by decide), ?_⟩
  unfold lo
  exact if_i (fun c => mqi (if_pos c).symm) (fun c => mqi (if_neg c).symm)
theorem r_rowLoss {r w : Nat} (h : rB I b W Rn) (hr : r < 40) (hw : w < W) : mj_Cl mj_S2 mj_CD (D + 2) 57 [.ref 0, .int (nI r), .int (nI w)] (I, J, mj_R2) (.int (rL I b r w), (I, J, mj_R2)) := by
  obtain ⟨h1, h2, h3, h4, h5, h6⟩ := id h
  refine mj_mk (e57 _ _ ?_)
  refine ⟨trivial, _, _, _, r_rowAt h, vp_in_nI (by omega) (by decide), ?_⟩
  rw [nI_clamp (by omega)]
  exact ⟨trivial, _, _, _, r_lossOf h hw, rfl⟩
theorem r_isAside {r : Nat} (h : rB I b W Rn) (hr : r < 40) : mj_Cl mj_S2 mj_CD (D + 2) 56 [.ref 0, .int (nI r)] (I, J, mj_R2) (.int (tf (rA I b W r)), (I, J, mj_R2)) := by
  obtain ⟨h1, h2, h3, h4, h5, h6⟩ := id h
  refine mj_mk (e56 _ ?_)
  refine lp_up (n := W) (fun i => (∀ w, w < i → I 11 (4 * (40 * b + r) + w) ≠ -1) → mj_Ev mj_S2 (mj_CD 56) (mj_Cl mj_S2 mj_CD (D + 1)) (fun x => x = (.int (tf (rA I b W r)), (I, J, mj_R2))) 2 [(0, .ref 0), (1, .int (nI r)), (2, .int (nI i))] [] (I, J, mj_R2)) (fun i hi ih hw => ?_) 0 (Nat.zero_le _) (fun w hw => absurd hw (Nat.not_lt_zero w))
  refine mj_on (s56_2 _ _ ?_)
  rw [h1, nI_clamp (by omega), h3]
  refine ⟨vp_in_nI h2 (by decide), if_le (by omega) (by omega) (fun c => mzF fun ⟨w, hw1, e⟩ => hw w (by omega) e) (fun c => ?_)⟩
  refine ⟨trivial, _, _, _, r_rowAt h, vp_in_nI (by omega) (by decide), ?_⟩
  rw [nI_clamp (by omega), nI_1]
  refine if_i (fun e => mzT ⟨i, c, e⟩) (fun e => ih c fun w hw2 => ?_)
  by_cases e2 : w = i
  · rw [e2]; exact e
  · exact hw w (by omega)
theorem nbt {f g : Nat → Int32} : bt W f g ↔ nm W f g ∧ ∃ w, w < W ∧ f w < g w := by
  unfold bt
  refine and_congr_right fun _ => ⟨fun h => ?_, fun ⟨w, hw, h⟩ q => ?_⟩
  · refine Classical.byContradiction fun q => h fun w hw => ?_
    exact Int32.not_lt.mp fun z => q ⟨w, hw, z⟩
  · exact absurd (q w hw) (Int32.not_le.mpr h)
theorem r_doesBeat {x y : Nat} (h : rB I b W Rn) (hx : x < 40) (hy : y < 40) : mj_Cl mj_S2 mj_CD (D + 3) 55 [.ref 0, .int (nI x), .int (nI y)] (I, J, mj_R2) (.int (tf (¬ rA I b W x ∧ ¬ rA I b W y ∧ bt W (rL I b x) (rL I b y))), (I, J, mj_R2)) := by
  obtain ⟨h1, h2, h3, h4, h5, h6⟩ := id h
  refine mj_mk (e55 _ _ ?_)
  refine ⟨trivial, _, _, _, r_isAside h hx, if_tf (fun c => mzF fun q => q.1 c) (fun cx => ?_)⟩
  refine ⟨trivial, _, _, _, r_isAside h hy, if_tf (fun c => mzF fun q => q.2.1 c) (fun cy => ?_)⟩
  have key := lp_up (n := W) (fun i => ∀ P : Prop, (P ↔ ∃ w, w < i ∧ rL I b x w < rL I b y w) → (∀ w, w < i → rL I b x w ≤ rL I b y w) → mj_Ev mj_S2 (mj_CD 55) (mj_Cl mj_S2 mj_CD (D + 2)) (fun q => q = (.int (tf (¬ rA I b W x ∧ ¬ rA I b W y ∧ bt W (rL I b x) (rL I b y))), (I, J, mj_R2))) 23 [(0, .ref 0), (1, .int (nI x)), (2, .int (nI y)), (3, .int (tf P)), (4, .int (nI i))] [] (I, J, mj_R2)) (fun i hi ih P hP hw => ?_) 0 (Nat.zero_le _) False
    ⟨fun q => q.elim, fun ⟨w, hw, _⟩ => absurd hw (Nat.not_lt_zero w)⟩ (fun w hw => absurd hw (Nat.not_lt_zero w))
  · rw [tf_f id] at key
    exact key
  refine mj_on (s55_23 _ _ _ _ ?_)
  rw [h1, nI_clamp (by omega), h3, nI_1]
  refine ⟨vp_in_nI h2 (by decide), if_le (by omega) (by omega) (fun c => ⟨tf_01 _, mqi (tf_iff ?_)⟩) (fun c => ?_)⟩
  · obtain rfl : i = W := by omega
    rw [hP, nbt]
    exact ⟨fun q => ⟨cx, cy, hw, q⟩, fun q => q.2.2.2⟩
  · refine ⟨trivial, _, _, _, r_rowLoss h hx c, trivial, _, _, _, r_rowLoss h hy c, if_i (fun d => ?_) (fun d => mzF fun q => d (q.2.2.1 i c))⟩
    have hw2 : ∀ w, w < i + 1 → rL I b x w ≤ rL I b y w := fun w hw3 => by
      by_cases e : w = i
      · rw [e]; exact d
      · exact hw w (by omega)
    refine if_tf (fun p => ?_) (fun p => ?_)
    · rw [← tf_t trivial]
      obtain ⟨w, q1, q2⟩ := hP.mp p
      exact ih c True ⟨fun _ => ⟨w, by omega, q2⟩, fun _ => trivial⟩ hw2
    · refine ⟨trivial, _, _, _, r_rowLoss h hx c, trivial, _, _, _, r_rowLoss h hy c, if_i (fun f => ?_) (fun f => ?_)⟩
      · rw [← tf_f (P := False) id]
        refine ih c False ⟨fun q => q.elim, fun ⟨w, q1, q2⟩ => ?_⟩ hw2
        by_cases e : w = i
        · rw [e] at q2; exact absurd f (Int32.not_le.mpr q2)
        · exact p (hP.mpr ⟨w, by omega, q2⟩)
      · rw [← tf_t trivial]
        exact ih c True ⟨fun _ => ⟨i, by omega, Int32.not_le.mp f⟩, fun _ => trivial⟩ hw2
theorem r_rowFront (h : rB I b W Rn) : mj_Cl mj_S2 mj_CD (D + 4) 60 [.ref 0] (I, J, mj_R2) (.long (bs Rn (ub Rn (rA I b W) (fun o r => bt W (rL I b o) (rL I b r)))), (I, J, mj_R2)) := by
  obtain ⟨h1, h2, h3, h4, h5, h6⟩ := id h
  refine mj_mk (e60 ?_)
  refine lp_up (n := Rn) (fun r => mj_Ev mj_S2 (mj_CD 60) (mj_Cl mj_S2 mj_CD (D + 3)) (fun q => q = (.long (bs Rn (ub Rn (rA I b W) (fun o r => bt W (rL I b o) (rL I b r)))), (I, J, mj_R2))) 4 [(0, .ref 0), (1, .long (bs r (ub Rn (rA I b W) (fun o r => bt W (rL I b o) (rL I b r))))), (3, .int (nI r))] [] (I, J, mj_R2)) (fun r hr ih => ?_) 0 (Nat.zero_le _)
  refine mj_on (s60_4 _ _ ?_)
  rw [h1, nI_clamp (by omega), h5]
  refine ⟨vp_in_nI h2 (by decide), if_le (by omega) (by omega) (fun c => ?_) (fun c => ?_)⟩
  · obtain rfl : r = Rn := by omega
    rfl
  have inner := lp_up (n := Rn) (fun o => ∀ P : Prop, (P ↔ ¬ rA I b W r ∧ ∀ u, u < o → u ≠ r → ¬ rA I b W u → ¬ bt W (rL I b u) (rL I b r)) → mj_Ev mj_S2 (mj_CD 60) (mj_Cl mj_S2 mj_CD (D + 3)) (fun q => q = (.long (bs Rn (ub Rn (rA I b W) (fun o r => bt W (rL I b o) (rL I b r)))), (I, J, mj_R2))) 35 [(0, .ref 0), (1, .long (bs r (ub Rn (rA I b W) (fun o r => bt W (rL I b o) (rL I b r))))), (3, .int (nI r)), (4, .int (tf P)), (5, .int (nI o))] [] (I, J, mj_R2)) (fun o ho ih2 P hP => ?_) 0 (Nat.zero_le _)
  · refine ⟨trivial, _, _, _, r_isAside h (by omega), if_tf (fun d => ?_) (fun d => ?_)⟩
    · refine mj_on (s60_32 _ _ _ ?_)
      have z := inner False ⟨fun q => q.elim, fun q => q.1 d⟩
      rw [tf_f id] at z
      exact z
    · refine mj_on (s60_32 _ _ _ ?_)
      rw [← tf_t trivial]
      exact inner True ⟨fun _ => ⟨d, fun u hu => absurd hu (Nat.not_lt_zero u)⟩, fun _ => trivial⟩
  have fin : (P ↔ ub Rn (rA I b W) (fun o r => bt W (rL I b o) (rL I b r)) r) → mj_Ev mj_S2 (mj_CD 60) (mj_Cl mj_S2 mj_CD (D + 3)) (fun q => q = (.long (bs Rn (ub Rn (rA I b W) (fun o r => bt W (rL I b o) (rL I b r)))), (I, J, mj_R2))) 77 [(0, .ref 0), (1, .long (bs r (ub Rn (rA I b W) (fun o r => bt W (rL I b o) (rL I b r))))), (3, .int (nI r)), (4, .int (tf P))] [] (I, J, mj_R2) := by
    intro hP2
    refine mj_on (s60_77 _ _ _ ?_)
    rw [nI_1]
    refine if_tf (fun d => ?_) (fun d => ?_)
    · rw [← bs_t (hP2.mp d)]; exact ih c
    · rw [← bs_f (fun q => d (hP2.mpr q))]; exact ih c
  refine mj_on (s60_35 _ _ _ _ ?_)
  rw [h1, nI_clamp (by omega), h5, nI_1]
  refine ⟨vp_in_nI h2 (by decide), if_le (by omega) (by omega) (fun d => fin ?_) (fun d => ?_)⟩
  · rw [hP]
    exact ⟨fun q => ⟨q.1, fun u hu e a => q.2 u (by omega) e a⟩, fun q => ⟨q.1, fun u hu e a => q.2 u (by omega) e a⟩⟩
  refine if_tf (fun p => ?_) (fun p => fin ⟨fun q => absurd q p, fun q => absurd (hP.mpr ⟨q.1, fun u hu e a => q.2 u (by omega) e a⟩) p⟩)
  have p2 := hP.mp p
  have irr : ¬ bt W (rL I b r) (rL I b r) := fun q => q.2 q.1
  refine ⟨trivial, _, _, _, r_doesBeat h (by omega) (by omega), if_tf (fun q => ?_) (fun q => ?_)⟩
  · rw [← tf_f (P := False) id]
    refine ih2 d False ⟨fun q => q.elim, fun z => ?_⟩
    by_cases e : o = r
    · rw [e] at q; exact irr q.2.2
    · exact z.2 o (by omega) e q.1 q.2.2
  · rw [← tf_t trivial]
    refine ih2 d True ⟨fun _ => ⟨p2.1, fun u hu e a z => ?_⟩, fun _ => trivial⟩
    by_cases e2 : u = o
    · rw [e2] at a z; exact q ⟨a, p2.1, z⟩
    · exact p2.2 u (by omega) e a z
end R62
