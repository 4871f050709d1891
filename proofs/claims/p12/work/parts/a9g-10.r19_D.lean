section Sa9g_10
variable {n d W Rn Kn Tn Hn Un S F mc : Nat} {x : Nat → Nat} {B1 B2 : Nat → Nat → Int32} {BJ : Nat → Nat → Int64}
variable {D D' E p a t v : Nat} {l : List Nat} {o : Int} {I1 I2 : Nat → Nat → Int32} {J1 J2 : Nat → Nat → Int64}
theorem r19_D {Q : mj_R → Prop} (h8 : ¬ I2 0 8 = 0) (h8' : ¬ I2 0 8 ≤ 0) (hQ : Q (.null, (I2, J2, mj_R2))) : E2 19 (D + 1) Q 59 [(0, .ref 0)] I2 J2 := by
  refine mj_on (s19_59 ?_)
  refine ⟨trivial, _, _, _, r21_D h8', ?_⟩
  rw [if_neg h8]
  refine mj_on (s19_100 _ ?_)
  rw [if_neg h8']
  exact hQ
end Sa9g_10

