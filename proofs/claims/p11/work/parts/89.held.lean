/-! numbers of a test: the reference's and the class' bounds -/
def lZ (z : Int) : Int64 := Int64.ofInt z
theorem lZ_toInt {z : Int} (h1 : -2 ^ 62 < z) (h2 : z < 2 ^ 62) : (lZ z).toInt = z := Int64.toInt_ofInt_of_le (by omega) (by omega)
theorem lZ_add (y z : Int) : lZ y + lZ z = lZ (y + z) := (Int64.ofInt_add y z).symm
theorem lZ_sub (y z : Int) : lZ y - lZ z = lZ (y - z) := (Int64.ofInt_sub y z).symm
theorem lZ_mul (y z : Int) : lZ y * lZ z = lZ (y * z) := (Int64.ofInt_mul y z).symm
theorem lZ_of (x : Int64) : x = lZ x.toInt := (Int64.ofInt_toInt x).symm
theorem iI_lZ {z : Int} (h1 : -2147483648 ≤ z) (h2 : z < 2147483648) : (iI z).toInt64 = lZ z := by
  rw [← Int64.toInt_inj, Int32.toInt_toInt64, iI_toInt h1 h2, lZ_toInt (by omega) (by omega)]
theorem lZ_iI {z : Int} (h1 : -2147483648 ≤ z) (h2 : z < 2147483648) : (lZ z).toInt32 = iI z := by
  rw [← iI_lZ h1 h2, Int32.toInt32_toInt64]
section S89
variable {D : Nat} {I : Nat → Nat → Int32} {J : Nat → Nat → Int64}
theorem r_held {z : Int} (h1 : -2 ^ 62 < z) (h2 : z < 2 ^ 62) : C2 (D + 1) 81 [.long (lZ z)] I J (.long (lZ (bnd z))) I J := by
  refine mj_mk (e81 _ ?_)
  have e1 : (lg_cmp (lZ z) 1000000000 ≤ 0) ↔ z ≤ 1000000000 := by
    rw [cmp_lt.2, lZ_toInt h1 h2]
    exact Iff.rfl
  have e2 : (lg_cmp (lZ z) (-1000000000) < 0) ↔ z < -1000000000 := by
    rw [cmp_lt.1, lZ_toInt h1 h2]
    exact Iff.rfl
  unfold bnd
  refine if_i (fun c => if_i (fun d => ?_) (fun d => ?_)) (fun c => ?_)
  · rw [e1] at c
    rw [e2] at d
    rw [if_neg (by omega), if_pos (by omega)]
    rfl
  · rw [e1] at c
    rw [e2] at d
    rw [if_neg (by omega), if_neg (by omega)]
  · rw [e1] at c
    rw [if_pos (by omega)]
    rfl
theorem c_bounded {z : Int} (h1 : -2 ^ 62 < z) (h2 : z < 2 ^ 62) : C1 (D + 2) 228 [.long (lZ z)] I J (.int (iI (bnd z))) I J := by
  refine mj_mk (e228 _ ?_)
  have e1 : (lg_cmp 1000000000 (lZ z) ≤ 0) ↔ 1000000000 ≤ z := by
    rw [cmp_lt.2, lZ_toInt h1 h2]
    exact Iff.rfl
  have m4 : ∃ y : Int, C1 (D + 1) 4 [.long 1000000000, .long (lZ z)] I J (.long (lZ y)) I J ∧ (1000000000 ≤ z → y = 1000000000) ∧ (z < 1000000000 → y = z) := by
    by_cases c : 1000000000 ≤ z
    · exact ⟨1000000000, mj_mk (e4 _ _ (by rw [if_pos (e1.mpr c)]; rfl)), fun _ => rfl, fun q => absurd q (by omega)⟩
    · exact ⟨z, mj_mk (e4 _ _ (by rw [if_neg (fun q => c (e1.mp q))])), fun q => absurd q c, fun _ => rfl⟩
  obtain ⟨y, hc, y1, y2⟩ := m4
  have hy1 : -2 ^ 62 < y := by
    by_cases c : 1000000000 ≤ z
    · rw [y1 c]; decide
    · rw [y2 (by omega)]; exact h1
  have hy2 : y ≤ 1000000000 := by
    by_cases c : 1000000000 ≤ z
    · rw [y1 c]; decide
    · rw [y2 (by omega)]; omega
  have e2 : (lg_cmp (-1000000000) (lZ y) < 0) ↔ -1000000000 < y := by
    rw [cmp_lt.1, lZ_toInt hy1 (by omega)]
    exact Iff.rfl
  have m5 : C1 (D + 1) 5 [.long (-1000000000), .long (lZ y)] I J (.long (lZ (bnd z))) I J := by
    refine mj_mk (e5 _ _ ?_)
    unfold bnd
    refine if_i (fun d => ?_) (fun d => ?_)
    · rw [e2] at d
      by_cases c : 1000000000 ≤ z
      · rw [y1 c]
        by_cases c2 : z > 1000000000
        · rw [if_pos c2]
        · rw [if_neg c2, if_neg (by omega), show z = 1000000000 by omega]
      · rw [y2 (by omega)] at d ⊢
        rw [if_neg (by omega), if_neg (by omega)]
    · rw [e2] at d
      have c : ¬ 1000000000 ≤ z := fun q => by rw [y1 q] at d; exact d (by decide)
      rw [y2 (by omega)] at d
      by_cases c2 : z < -1000000000
      · rw [if_neg (by omega), if_pos c2]
        rfl
      · rw [if_neg (by omega), if_neg c2, show z = -1000000000 by omega]
        rfl
  refine ⟨trivial, _, _, _, hc, trivial, _, _, _, m5, ?_⟩
  have hb : -1000000000 ≤ bnd z ∧ bnd z ≤ 1000000000 := by
    unfold bnd
    split
    · omega
    · split <;> omega
  rw [lZ_iI (by omega) (by omega)]
end S89
