/-! unsure, the class' table anew, change -/
theorem iI_neg (z : Int) : -iI z = iI (-z) := (Int32.ofInt_neg z).symm
theorem iI_sub (y z : Int) : iI y - iI z = iI (y - z) := (Int32.ofInt_sub y z).symm
theorem iI_add (y z : Int) : iI y + iI z = iI (y + z) := (Int32.ofInt_add y z).symm
theorem iI_mul (y z : Int) : iI y * iI z = iI (y * z) := (Int32.ofInt_mul y z).symm
section S51
variable {D b W Rn Kn Tn Hn Un g : Nat} {I I1 I2 : Nat → Nat → Int32} {J J1 J2 : Nat → Nat → Int64}
theorem lo_rng {m x : Int32} (hx : x = -1 ∨ amt x) : -9999 ≤ (lo m x).toInt ∧ (lo m x).toInt ≤ 9999 := by
  have h1 : ∃ z : Int, -1 ≤ z ∧ z ≤ 9999 ∧ x = iI z := by
    rcases hx with rfl | ⟨n, hn, rfl⟩
    · exact ⟨-1, by omega, by omega, rfl⟩
    · exact ⟨n, by omega, by omega, rfl⟩
  obtain ⟨z, z1, z2, rfl⟩ := h1
  unfold lo
  by_cases c : m = 0
  · rw [if_pos c, iI_toInt (by omega) (by omega)]; omega
  · rw [if_neg c, iI_neg, iI_toInt (by omega) (by omega)]; omega
theorem spr_le {L s : Int32} (h1 : -9999 ≤ L.toInt) (h2 : L.toInt ≤ 9999) (hs : amt s) : L - s ≤ L + s := by
  obtain ⟨n, hn, rfl⟩ := hs
  obtain ⟨z, hz⟩ : ∃ z, L.toInt = z := ⟨_, rfl⟩
  have e : L = iI z := by rw [← hz]; exact iI_of L
  rw [hz] at h1 h2
  rw [e, ← iI_nI, iI_sub, iI_add, Int32.le_iff_toInt_le, iI_toInt (by omega) (by omega), iI_toInt (by omega) (by omega)]
  omega
theorem Rl.lowhigh (h : Rl b W Rn Kn Tn Hn Un g I1 J1 I2 J2) {r w : Nat} (hr : r < Rn) (hw : w < W) : I1 26 (4 * r + w) ≤ I1 27 (4 * r + w) := by
  obtain ⟨-, t1, -, t2⟩ := h.2.1.2.2.1 r hr w hw
  obtain ⟨-, -, -, h4, -⟩ := h.2.2.2.2.1
  obtain ⟨-, q2, q3⟩ := h4 r hr w hw
  rw [q2, q3]
  exact spr_le (lo_rng t1).1 (lo_rng t1).2 t2
theorem r_unsure (h : Rl b W Rn Kn Tn Hn Un g I1 J1 I2 J2) {z : Int32} : C2 (D + 5) 69 [.ref 0, .int z] I2 J2 (.long (bs Rn (ub Rn (lbit (J1 24 5)) (fun o r => if z = 0 then bt W (fun w => I1 27 (4 * o + w)) (fun w => I1 26 (4 * r + w)) else bt W (fun w => I1 26 (4 * o + w)) (fun w => I1 27 (4 * r + w)))))) I2 J2 := by
  have hB := h.rB
  obtain ⟨h1, h2, h3, h4, h5, h6⟩ := id hB
  obtain ⟨ou, hou⟩ : ∃ ou : Nat → Nat → Prop, ou = fun o r => if z = 0 then bt W (fun w => I1 27 (4 * o + w)) (fun w => I1 26 (4 * r + w)) else bt W (fun w => I1 26 (4 * o + w)) (fun w => I1 27 (4 * r + w)) := ⟨_, rfl⟩
  rw [← hou]
  obtain ⟨as, has⟩ : ∃ as : Nat → Prop, as = lbit (J1 24 5) := ⟨_, rfl⟩
  rw [← has]
  have hasd : ∀ {r}, r < Rn → (rA I2 b W r ↔ as r) := fun hr => by rw [has]; exact h.asd hr
  refine mj_mk (e69 _ ?_)
  refine lp_up (n := Rn) (fun r => E2 69 (D + 4) (fun q => q = (.long (bs Rn (ub Rn as ou)), (I2, J2, mj_R2))) 5 [(0, .ref 0), (1, .int z), (2, .long (bs r (ub Rn as ou))), (4, .int (nI r))] I2 J2) (fun r hr ih => ?_) 0 (Nat.zero_le _)
  refine mj_on (s69_5 _ _ _ ?_)
  rw [h1, nI_clamp (by omega), h5]
  refine ⟨vp_in_nI h2 (by decide), if_le (by omega) (by omega) (fun c => ?_) (fun c => ?_)⟩
  · obtain rfl : r = Rn := by omega
    rfl
  have inner := lp_up (n := Rn) (fun o => ∀ P : Prop, (P ↔ ¬ as r ∧ ∀ u, u < o → u ≠ r → ¬ as u → ¬ ou u r) → E2 69 (D + 4) (fun q => q = (.long (bs Rn (ub Rn as ou)), (I2, J2, mj_R2))) 38 [(0, .ref 0), (1, .int z), (2, .long (bs r (ub Rn as ou))), (4, .int (nI r)), (5, .int (tf P)), (6, .int (nI o))] I2 J2) (fun o ho ih2 P hP => ?_) 0 (Nat.zero_le _)
  · refine ⟨trivial, _, _, _, r_isAside hB (by omega), if_tf (fun d => ?_) (fun d => ?_)⟩
    · refine mj_on (s69_35 _ _ _ _ ?_)
      have y := inner False ⟨fun q => q.elim, fun q => q.1 ((hasd c).mp d)⟩
      rw [tf_f id] at y
      exact y
    · refine mj_on (s69_35 _ _ _ _ ?_)
      have y := inner True ⟨fun _ => ⟨fun q => d ((hasd c).mpr q), fun u hu => absurd hu (Nat.not_lt_zero u)⟩, fun _ => trivial⟩
      rw [tf_t trivial] at y
      exact y
  have fin : (P ↔ ub Rn as ou r) → E2 69 (D + 4) (fun q => q = (.long (bs Rn (ub Rn as ou)), (I2, J2, mj_R2))) 106 [(0, .ref 0), (1, .int z), (2, .long (bs r (ub Rn as ou))), (4, .int (nI r)), (5, .int (tf P))] I2 J2 := by
    intro hP2
    refine mj_on (s69_106 _ _ _ _ ?_)
    rw [nI_1]
    refine if_tf (fun d => ?_) (fun d => ?_)
    · rw [← bs_t (hP2.mp d)]; exact ih c
    · rw [← bs_f (fun q => d (hP2.mpr q))]; exact ih c
  refine mj_on (s69_38 _ _ _ _ _ ?_)
  rw [h1, nI_clamp (by omega), h5, nI_1]
  refine ⟨vp_in_nI h2 (by decide), if_le (by omega) (by omega) (fun d => fin ?_) (fun d => ?_)⟩
  · rw [hP]
    exact ⟨fun q => ⟨q.1, fun u hu e a => q.2 u (by omega) e a⟩, fun q => ⟨q.1, fun u hu e a => q.2 u (by omega) e a⟩⟩
  refine if_tf (fun p => ?_) (fun p => fin ⟨fun q => absurd q p, fun q => absurd (hP.mpr ⟨q.1, fun u hu e a => q.2 u (by omega) e a⟩) p⟩)
  have p2 := hP.mp p
  have go1 : (o = r ∨ as o ∨ ¬ ou o r) → E2 69 (D + 4) (fun q => q = (.long (bs Rn (ub Rn as ou)), (I2, J2, mj_R2))) 38 [(0, .ref 0), (1, .int z), (2, .long (bs r (ub Rn as ou))), (4, .int (nI r)), (5, .int 1), (6, .int (nI (o + 1)))] I2 J2 := by
    intro ho2
    have y := ih2 d True ⟨fun _ => ⟨p2.1, fun u hu e a q => by
      by_cases e2 : u = o
      · rw [e2] at a e q
        rcases ho2 with z | z | z
        · exact e z
        · exact a z
        · exact z q
      · exact p2.2 u (by omega) e a q⟩, fun _ => trivial⟩
    rw [tf_t trivial] at y
    exact y
  have go0 : o ≠ r → ¬ as o → ou o r → E2 69 (D + 4) (fun q => q = (.long (bs Rn (ub Rn as ou)), (I2, J2, mj_R2))) 38 [(0, .ref 0), (1, .int z), (2, .long (bs r (ub Rn as ou))), (4, .int (nI r)), (5, .int 0), (6, .int (nI (o + 1)))] I2 J2 := by
    intro ho1 ho2 ho3
    have y := ih2 d False ⟨fun q => q.elim, fun q => q.2 o (by omega) ho1 ho2 ho3⟩
    rw [tf_f id] at y
    exact y
  refine if_eq (by omega) (by omega) (fun e => go1 (Or.inl e)) (fun e => ?_)
  refine ⟨trivial, _, _, _, r_isAside hB (by omega), if_tf (fun f => go1 (Or.inr (Or.inl ((hasd d).mp f)))) (fun f => ?_)⟩
  have f2 : ¬ as o := fun q => f ((hasd d).mpr q)
  refine ⟨trivial, _, _, _, r_mayBeat h d c, ?_⟩
  have imp : bt W (fun w => I1 27 (4 * o + w)) (fun w => I1 26 (4 * r + w)) → bt W (fun w => I1 26 (4 * o + w)) (fun w => I1 27 (4 * r + w)) := by
    rw [nbt, nbt]
    rintro ⟨q1, w, hw, q2⟩
    refine ⟨fun u hu => Int32.le_trans (h.lowhigh d hu) (Int32.le_trans (q1 u hu) (h.lowhigh c hu)), w, hw, ?_⟩
    exact Int32.lt_of_le_of_lt (h.lowhigh d hw) (Int32.lt_of_lt_of_le q2 (h.lowhigh c hw))
  refine if_i (fun e0 => ?_) (fun e0 => ?_)
  · have oe : ou o r ↔ bt W (fun w => I1 27 (4 * o + w)) (fun w => I1 26 (4 * r + w)) := by rw [hou]; simp only [e0, if_true]
    rcases Classical.em (bt W (fun w => I1 27 (4 * o + w)) (fun w => I1 26 (4 * r + w))) with q | q
    · rw [t2_a q]
      exact go0 e f2 (oe.mpr q)
    · rw [t2_b q, if_neg (by rcases tf_01 (bt W (fun w => I1 26 (4 * o + w)) (fun w => I1 27 (4 * r + w))) with y | y <;> rw [y] <;> decide)]
      exact go1 (Or.inr (Or.inr fun y => q (oe.mp y)))
  · have oe : ou o r ↔ bt W (fun w => I1 26 (4 * o + w)) (fun w => I1 27 (4 * r + w)) := by rw [hou]; simp only [e0, if_false]
    rcases Classical.em (bt W (fun w => I1 27 (4 * o + w)) (fun w => I1 26 (4 * r + w))) with q | q
    · rw [t2_a q]
      exact go0 e f2 (oe.mpr (imp q))
    · rw [t2_b q]
      rcases Classical.em (bt W (fun w => I1 26 (4 * o + w)) (fun w => I1 27 (4 * r + w))) with y | y
      · rw [tf_t y]
        exact go0 e f2 (oe.mpr y)
      · rw [tf_f y]
        exact go1 (Or.inr (Or.inr fun x => y (oe.mp x)))
theorem al_unsure {z : Int32} (h : Rl b W Rn Kn Tn Hn Un g I1 J1 I2 J2) : AJ 201 69 [.int z] I1 J1 I2 J2 (Rl b W Rn Kn Tn Hn Un g) := by
  obtain ⟨w1, w2, w3, w4⟩ := h.W24
  refine ⟨_, I1, J1, I2, J2, mj_mk (D := 899) (e201 _ ?_), r_unsure (D := 895) h, h⟩
  refine if_i (fun e => ?_) (fun e => ?_)
  · simp only [e, if_true]
    exact ⟨trivial, _, _, _, c_unb_a w3 w4 w1 w2, rfl⟩
  · simp only [e, if_false]
    exact ⟨trivial, _, _, _, c_unb_b w3 w4 w1 w2, rfl⟩
end S51
