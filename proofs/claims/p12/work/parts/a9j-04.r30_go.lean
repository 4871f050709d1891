section Sa9j_4
variable {n d W Rn Kn Tn Hn Un S F mc : Nat} {x : Nat → Nat} {B1 B2 : Nat → Nat → Int32} {BJ : Nat → Nat → Int64}
variable {D D' E p a t v : Nat} {l : List Nat} {o : Int} {I1 I2 : Nat → Nat → Int32} {J1 J2 : Nat → Nat → Int64}
theorem r30_go {Q : mj_R → Prop} {r1 r2 : Int32} {Rb Rc : (Nat → Nat → Int32)} {Sb Sc : (Nat → Nat → Int64)} (h8 : I2 0 8 ≤ 0) (hd : d < 2) (hT : Tn < 24) (h35 : I2 0 35 = nI d) (h5 : I2 5 d = nI Tn) (c1 : C2 D 31 [.ref 0, .int (-1)] I2 J2 (.int r1) Rb Sb) (c2 : C2 D 31 [.ref 0, .int r1] (mj_up Rb 14 (24 * d + Tn) r1) Sb (.int r2) Rc Sc) (k : E2 30 D Q 95 [(0, .ref 0), (1, .int (nI (24 * d + Tn))), (2, .int (nI 0))] (mj_up Rc 15 (24 * d + Tn) r2) Sc) : E2 30 D Q 40 [(0, .ref 0)] I2 J2 := by
  have vd : vp_in (nI d) 2 := vp_in_nI hd (by decide)
  have v48 : vp_in (nI (24 * d + Tn)) 48 := vp_in_nI (by omega) (by decide)
  refine mj_on (s30_40 ?_)
  rw [if_pos h8, h35, nI_clamp (by omega), h5, show (24 : Int32) = nI 24 from rfl, pk_mul, nI_add, nI_clamp (by omega)]
  refine ⟨vd, trivial, _, _, _, c1, v48, v48, trivial, _, _, _, ?_, v48, k⟩
  rw [up_s]
  exact c2
end Sa9j_4

