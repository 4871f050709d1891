section Sa9j_3
variable {n d W Rn Kn Tn Hn Un S F mc : Nat} {x : Nat → Nat} {B1 B2 : Nat → Nat → Int32} {BJ : Nat → Nat → Int64}
variable {D D' E p a t v : Nat} {l : List Nat} {o : Int} {I1 I2 : Nat → Nat → Int32} {J1 J2 : Nat → Nat → Int64}
theorem r31_D {y : Int32} (h : ¬ I2 0 8 ≤ 0) : C2 (D + 1) 31 [.ref 0, .int y] I2 J2 (.int 0) I2 J2 := by
  refine mj_mk (e31 _ ?_)
  rw [if_neg h]
end Sa9j_3

