section Sa9j_1
variable {n d W Rn Kn Tn Hn Un S F mc : Nat} {x : Nat → Nat} {B1 B2 : Nat → Nat → Int32} {BJ : Nat → Nat → Int64}
variable {D D' E p a t v : Nat} {l : List Nat} {o : Int} {I1 I2 : Nat → Nat → Int32} {J1 J2 : Nat → Nat → Int64}
theorem DS_u2 {q0 j0 : Nat} {y : Int32} (h : DS d B1 B2 BJ I1 I2 J2) (hq : q0 ≠ 0) (hb : ¬ oub d q0 j0) : DS d B1 B2 BJ I1 (mj_up I2 q0 j0 y) J2 := by
  obtain ⟨⟨k, p, hk⟩, ⟨fA1, fA2, fA3⟩, hB⟩ := h
  refine ⟨⟨k, p, tkD_u2 hk hq⟩, ⟨fA1, fun q j z1 z2 z3 => ?_, fA3⟩, hB⟩
  have e : q ≠ q0 ∨ j ≠ j0 := by
    refine Classical.byContradiction fun w => hb ?_
    have e1 : q = q0 := by omega
    have e2 : j = j0 := by omega
    rw [← e1, ← e2]
    exact z3
  rw [up_n e]; exact fA2 q j z1 z2 z3
end Sa9j_1

