section Sa9h_1
variable {n d W Rn Kn Tn Hn Un S F mc : Nat} {x : Nat → Nat} {B1 B2 : Nat → Nat → Int32} {BJ : Nat → Nat → Int64}
variable {D D' E p a t v : Nat} {l : List Nat} {o : Int} {I1 I2 : Nat → Nat → Int32} {J1 J2 : Nat → Nat → Int64}
theorem r27_D {Q : mj_R → Prop} {y z : Int32} (h8 : ¬ I2 0 8 = 0) (hd : d < 2) (h35 : I2 0 35 = nI d) (hQ : Q (.null, (I2, J2, mj_R2))) : E2 27 (D + 1) Q 78 [(0, .ref 0), (1, .int y), (2, .int z)] I2 J2 := by
  have e193 : E2 27 (D + 1) Q 193 [(0, .ref 0)] I2 J2 := by
    refine mj_on (s27_193 ?_)
    rw [if_neg h8]
    exact hQ
  refine mj_on (s27_78 _ _ ?_)
  rw [h35, if_neg h8]
  exact ⟨vp_in_nI hd (by decide), if_i (fun _ => e193) (fun _ => e193)⟩
end Sa9h_1

