section Sa8i_8
variable {n d s0 f0 W H : Nat} {x : Nat → Nat} {B1 B2 : Nat → Nat → Int32} {BJ : Nat → Nat → Int64}
variable {D D' E op kd ph bs p a t v u : Nat} {l : List Nat} {o : Int} {bg : Int32} {K : List Nat} {A1 A2 : List (Nat × Nat)} {L I1 I2 : Nat → Nat → Int32} {J1 J2 : Nat → Nat → Int64}
theorem lpD_both {Q : mj_R → Prop} {y : Int32} (h : DD d s0 f0 B1 B2 BJ I1 I2 J2) (hQ : Q (.null, (I1, J1, mj_R1))) : E1 158 D Q 6 [(0, .ref 11), (1, .int y)] I1 J1 := by
  refine mj_on (s158_6 _ ?_)
  refine if_i (fun _ => hQ) (fun _ => ?_)
  rw [(d_tok h).2, if_neg (by decide)]
  exact hQ
end Sa8i_8

