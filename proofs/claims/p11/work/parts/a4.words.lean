/-! signs and words of the language, on both sides -/
theorem owL_inj : ∀ n, n < 17 → ∀ m, m < 17 → owL.getD n [] = owL.getD m [] → n = m := by decide
def owK : List Int64 := [2003399528, 7499639, 1802399604, 7629157, 499967946343, 1920298085, 1818588019, 1836020325, 28530, 6385252, 7237492, 6384748, 6840691, 1835101817, 28518, 7170414, 7168376]
theorem owK_at : ∀ w, w < 17 → owK.getD w 0 = lN (nmR (owL.getD w [])) := by decide
theorem lN_inj {y z : Nat} (hy : y < 2 ^ 62) (hz : z < 2 ^ 62) (h : lN y = lN z) : y = z := by
  have := congrArg Int64.toInt h
  rw [lNtI hy, lNtI hz] at this
  omega
theorem lxo_at {l : List Nat} {o : Int} (h : lxo l o) {w : Nat} (hw : w < 17) : o = w ↔ owL.getD w [] = l := by
  rcases h with ⟨rfl, q⟩ | ⟨n, hn, rfl, rfl⟩
  · exact ⟨fun z => by omega, fun z => absurd z (q w hw)⟩
  · exact ⟨fun z => by rw [show n = w by omega], fun z => by rw [owL_inj w hw n hn z]⟩
section Sa4
variable {D n a p t v : Nat} {x : Nat → Nat} {l : List Nat} {o : Int} {I1 I2 : Nat → Nat → Int32} {J1 J2 : Nat → Nat → Int64}
theorem tkS_t (h : tkS n x p a t v l o I1 I2 J2) : t ≤ 3 := by
  rcases h with ⟨q, -⟩ | ⟨q, -⟩ | ⟨q, -⟩ | ⟨q, -⟩ <;> omega
theorem sg_c (h : tkR n x p a t v l o I1 I2 J2) {c : Nat} (hc : c < 256) : C1 (D + 1) 160 [.ref 11, .int (nI c)] I1 J1 (.int (tf (t = 1 ∧ v = c))) I1 J1 := by
  obtain ⟨-, -, -, -, -, -, -, -, -, c5, -, -, -, -, -, -, hS⟩ := h
  have t3 := tkS_t hS
  refine mj_mk (e160 _ ?_)
  rw [c5]
  refine if_i (fun e => ?_) (fun e => mzF fun q => e (by rw [q.1]; rfl))
  have e := (nI_eq (b := 1) (by omega) (by decide)).mp e
  rcases hS with ⟨q, -⟩ | ⟨q1, q2, q3, q4, q5, q6, q7, -⟩ | ⟨q, -⟩ | ⟨q, -⟩
  · omega
  · rw [q7]
    exact if_eq (by omega) (by omega) (fun z => mzT ⟨e, z⟩) (fun z => mzF fun q => z q.2)
  · omega
  · omega
theorem sg_r (h : tkR n x p a t v l o I1 I2 J2) {c : Nat} (hc : c < 256) : C2 (D + 1) 28 [.ref 0, .int (nI c)] I2 J2 (.int (tf (t = 1 ∧ v = c))) I2 J2 := by
  obtain ⟨-, -, -, -, -, -, -, -, -, -, r3, -, -, -, -, -, hS⟩ := h
  have t3 := tkS_t hS
  refine mj_mk (e28 _ ?_)
  rw [r3]
  have tk : tkr t < 2 ^ 31 := by unfold tkr; split <;> omega
  refine if_i (fun e => ?_) (fun e => mzF fun q => e (by rw [q.1]; rfl))
  have e := (nI_eq (b := 3) tk (by decide)).mp e
  have e : t = 1 := by unfold tkr at e; split at e <;> omega
  rcases hS with ⟨q, -⟩ | ⟨q1, q2, q3, q4, q5, q6, q7, q8, -⟩ | ⟨q, -⟩ | ⟨q, -⟩
  · omega
  · rw [q8]
    exact if_eq (by omega) (by omega) (fun z => mzT ⟨e, z⟩) (fun z => mzF fun q => z q.2)
  · omega
  · omega
theorem sg_d (h : I1 11 5 = nI 4) {c : Int32} : C1 (D + 1) 160 [.ref 11, .int c] I1 J1 (.int (tf False)) I1 J1 := by
  refine mj_mk (e160 _ ?_)
  rw [h, if_neg (by decide)]
  exact mzF id
theorem wd_cmp (hl : lxl l) (ho : lxo l o) {w : Nat} (hw : w < 17) : lg_cmp (lN (nmR l)) (owK.getD w 0) = 0 ↔ o = w := by
  obtain ⟨w1, w2, w3⟩ := owL_ok w hw
  rw [owK_at w hw, cmp0, lxo_at ho hw]
  have b1 := nmR_le6 hl.2.2 hl.2.1
  have b2 := nmR_le6 w3 w2
  exact ⟨fun z => (nmR_inj hl.2.2 w3 (lN_inj (by omega) (by omega) z)).symm, fun z => by rw [z]⟩
theorem wd_r (h : tkR n x p a t v l o I1 I2 J2) {w : Nat} (hw : w < 17) : C2 (D + 1) 18 [.ref 0, .long (owK.getD w 0)] I2 J2 (.int (tf (o = w))) I2 J2 := by
  obtain ⟨-, -, -, -, -, -, -, -, -, -, r3, -, -, -, -, -, hS⟩ := h
  have t3 := tkS_t hS
  refine mj_mk (e18 _ ?_)
  rw [r3]
  have tk : tkr t < 2 ^ 31 := by unfold tkr; split <;> omega
  rcases hS with ⟨rfl, -, -, q⟩ | ⟨rfl, -, -, -, -, -, -, -, q⟩ | ⟨rfl, -, -, -, -, -, -, q⟩ | ⟨rfl, -, -, -, q1, -, q2, q3⟩
  · rw [if_neg (by decide)]
    exact mzF fun z => by omega
  · rw [if_neg (by decide)]
    exact mzF fun z => by omega
  · rw [if_neg (by decide)]
    exact mzF fun z => by omega
  · rw [if_pos (by decide), q2]
    exact if_i (fun z => mzT ((wd_cmp q1 q3 hw).mp z)) (fun z => mzF fun y => z ((wd_cmp q1 q3 hw).mpr y))
theorem wd_own (h : tkR n x p a t v l o I1 I2 J2) (h3 : t = 3) : C2 (D + 1) 22 [.ref 0, .long (J2 0 7)] I2 J2 (.int (tf (o ≠ -1))) I2 J2 := by
  obtain ⟨-, -, -, -, -, -, -, -, -, -, -, -, -, -, -, -, hS⟩ := h
  rcases hS with ⟨q, -⟩ | ⟨q, -⟩ | ⟨q, -⟩ | ⟨-, -, -, -, q1, -, q2, q3⟩
  · omega
  · omega
  · omega
  rw [q2]
  refine mj_mk (e22 _ ?_)
  have yes : ∀ w, w < 17 → lg_cmp (lN (nmR l)) (owK.getD w 0) = 0 → o ≠ -1 := fun w hw z => by
    have := (wd_cmp q1 q3 hw).mp z
    omega
  have no : ∀ w, w < 17 → ¬ lg_cmp (lN (nmR l)) (owK.getD w 0) = 0 → ¬ o = w := fun w hw z y => z ((wd_cmp q1 q3 hw).mpr y)
  refine if_i (fun z => mzT (yes 0 (by decide) z)) (fun z0 => if_i (fun z => mzT (yes 6 (by decide) z)) (fun z6 => if_i (fun z => mzT (yes 7 (by decide) z)) (fun z7 => if_i (fun z => mzT (yes 1 (by decide) z)) (fun z1 => if_i (fun z => mzT (yes 2 (by decide) z)) (fun z2 => if_i (fun z => mzT (yes 3 (by decide) z)) (fun z3 => if_i (fun z => mzT (yes 4 (by decide) z)) (fun z4 => if_i (fun z => mzT (yes 5 (by decide) z)) (fun z5 => if_i (fun z => mzT (yes 8 (by decide) z)) (fun z8 => if_i (fun z => mzT (yes 9 (by decide) z)) (fun z9 => if_i (fun z => mzT (yes 10 (by decide) z)) (fun z10 => if_i (fun z => mzT (yes 11 (by decide) z)) (fun z11 => if_i (fun z => mzT (yes 12 (by decide) z)) (fun z12 => if_i (fun z => mzT (yes 13 (by decide) z)) (fun z13 => if_i (fun z => mzT (yes 14 (by decide) z)) (fun z14 => if_i (fun z => mzT (yes 15 (by decide) z)) (fun z15 => if_i (fun z => mzT (yes 16 (by decide) z)) (fun z16 => mzF fun y => ?_)))))))))))))))))
  rcases q3 with ⟨e, -⟩ | ⟨w, hw, e, -⟩
  · exact y e
  have m0 := no 0 (by decide) z0
  have m1 := no 1 (by decide) z1
  have m2 := no 2 (by decide) z2
  have m3 := no 3 (by decide) z3
  have m4 := no 4 (by decide) z4
  have m5 := no 5 (by decide) z5
  have m6 := no 6 (by decide) z6
  have m7 := no 7 (by decide) z7
  have m8 := no 8 (by decide) z8
  have m9 := no 9 (by decide) z9
  have m10 := no 10 (by decide) z10
  have m11 := no 11 (by decide) z11
  have m12 := no 12 (by decide) z12
  have m13 := no 13 (by decide) z13
  have m14 := no 14 (by decide) z14
  have m15 := no 15 (by decide) z15
  have m16 := no 16 (by decide) z16
  omega
/-- a word that may be a name -/
theorem nm_c (h : tkR n x p a t v l o I1 I2 J2) : C1 (D + 1) 148 [.ref 11] I1 J1 (.int (tf (t = 3 ∧ o = -1))) I1 J1 := by
  obtain ⟨-, -, -, -, -, -, -, -, -, c5, -, c7, -, -, -, -, hS⟩ := h
  have t3 := tkS_t hS
  refine mj_mk (e148 ?_)
  rw [c5, c7]
  have ho : -1 ≤ o ∧ o ≤ 16 := by
    rcases hS with ⟨-, -, -, q⟩ | ⟨-, -, -, -, -, -, -, -, q⟩ | ⟨-, -, -, -, -, -, -, q⟩ | ⟨-, -, -, -, -, -, -, q⟩
    · omega
    · omega
    · omega
    · rcases q with ⟨q, -⟩ | ⟨w, hw, q, -⟩ <;> omega
  refine if_i (fun e => ?_) (fun e => mzF fun q => e (by rw [q.1]; rfl))
  have e := (nI_eq (b := 3) (by omega) (by decide)).mp e
  refine if_i (fun z => mzT ⟨e, ?_⟩) (fun z => mzF fun q => z (by rw [q.2]; rfl))
  have z := congrArg Int32.toInt z
  rw [iI_toInt (by omega) (by omega)] at z
  exact z
theorem nm_d (h : I1 11 5 = nI 4) : C1 (D + 1) 148 [.ref 11] I1 J1 (.int (tf False)) I1 J1 := by
  refine mj_mk (e148 ?_)
  rw [h, if_neg (by decide)]
  exact mzF id
/-- the class tells a fault -/
theorem c_bl0 {k : Int32} (h : I1 11 10 = 0) : C1 (D + 1) 144 [.ref 11, .int k] I1 J1 .null (mj_up (mj_up (mj_up (mj_up I1 11 10 k) 11 11 (I1 11 8)) 11 5 4) 11 7 (-1)) J1 := by
  refine mj_mk (e144 _ ?_)
  rw [h, if_pos rfl]
  exact mj_on (s144_20 rfl)
theorem c_bl1 {k : Int32} (h : ¬ I1 11 10 = 0) : C1 (D + 1) 144 [.ref 11, .int k] I1 J1 .null (mj_up (mj_up I1 11 5 4) 11 7 (-1)) J1 := by
  refine mj_mk (e144 _ ?_)
  rw [if_neg h]
  exact mj_on (s144_20 rfl)
end Sa4
