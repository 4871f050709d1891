section Sa9k_2
variable {n d W Rn Kn Tn Hn Un S F mc : Nat} {x : Nat → Nat} {B1 B2 : Nat → Nat → Int32} {BJ : Nat → Nat → Int64}
variable {D D' E p a t v : Nat} {l : List Nat} {o : Int} {I1 I2 : Nat → Nat → Int32} {J1 J2 : Nat → Nat → Int64}
theorem r264_D {Q : mj_R → Prop} (h : ¬ I2 0 8 = 0) (hQ : E2 17 D Q 296 [(0, .ref 0)] I2 J2) : E2 17 D Q 264 [(0, .ref 0)] I2 J2 := by
  refine mj_on (s17_264 ?_)
  rw [if_neg h]
  exact hQ
end Sa9k_2

