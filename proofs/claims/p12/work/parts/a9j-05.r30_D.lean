section Sa9j_5
variable {n d W Rn Kn Tn Hn Un S F mc : Nat} {x : Nat → Nat} {B1 B2 : Nat → Nat → Int32} {BJ : Nat → Nat → Int64}
variable {D D' E p a t v : Nat} {l : List Nat} {o : Int} {I1 I2 : Nat → Nat → Int32} {J1 J2 : Nat → Nat → Int64}
theorem r30_D {Q : mj_R → Prop} {y z : Int32} (h8 : ¬ I2 0 8 = 0) (hd : d < 2) (h35 : I2 0 35 = nI d) (hQ : Q (.null, (I2, J2, mj_R2))) : E2 30 (D + 1) Q 95 [(0, .ref 0), (1, .int y), (2, .int z)] I2 J2 := by
  have e135 : E2 30 (D + 1) Q 135 [(0, .ref 0)] I2 J2 := by
    refine mj_on (s30_135 ?_)
    rw [if_neg h8]
    exact hQ
  refine mj_on (s30_95 _ _ ?_)
  rw [h35, if_neg h8]
  exact ⟨vp_in_nI hd (by decide), if_i (fun _ => e135) (fun _ => e135)⟩
end Sa9j_5

