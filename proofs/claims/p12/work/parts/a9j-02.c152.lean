section Sa9j_2
variable {n d W Rn Kn Tn Hn Un S F mc : Nat} {x : Nat → Nat} {B1 B2 : Nat → Nat → Int32} {BJ : Nat → Nat → Int64}
variable {D D' E p a t v : Nat} {l : List Nat} {o : Int} {I1 I2 : Nat → Nat → Int32} {J1 J2 : Nat → Nat → Int64}
theorem c152 {N : Nat} {r1 r2 : Int32} {Ib Ic Id : (Nat → Nat → Int32)} (hN : I1 15 3 = nI N) (hN2 : N < 24) (c1 : C1 D 153 [.ref 11, .int (nI 2), .int (-1)] I1 J1 (.int r1) Ib J1) (c2 : C1 D 153 [.ref 11, .int (nI 2), .int r1] (mj_up Ib 20 N r1) J1 (.int r2) Ic J1) (c3 : C1 D 154 [.ref 11, .int (nI 3), .int (nI N)] (mj_up Ic 21 N r2) J1 .null Id J1) : C1 (D + 1) 152 [.ref 11] I1 J1 .null (mj_up Id 15 3 (Id 15 3 + 1)) J1 := by
  refine mj_mk (e152 ?_)
  have v3 : vp_in (3 : Int32) 6 := vp_in_nI (n := 3) (by decide) (by decide)
  have vN : vp_in (nI N) 24 := vp_in_nI hN2 (by decide)
  rw [show ((3 : Int32)).toNatClampNeg = 3 from rfl, hN, nI_clamp (by omega)]
  refine ⟨v3, trivial, _, _, _, c1, vN, vN, trivial, _, _, _, ?_, vN, trivial, _, _, c3, v3, v3, rfl⟩
  rw [up_s]
  exact c2
end Sa9j_2

