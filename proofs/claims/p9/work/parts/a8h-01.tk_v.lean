section Sa8h_1
variable {n d s0 f0 W H : Nat} {x : Nat → Nat} {B1 B2 : Nat → Nat → Int32} {BJ : Nat → Nat → Int64}
variable {D D' E op kd ph bs p a t v u : Nat} {l : List Nat} {o : Int} {bg : Int32} {K : List Nat} {A1 A2 : List (Nat × Nat)} {L I1 I2 : Nat → Nat → Int32} {J1 J2 : Nat → Nat → Int64}
theorem tk_v (h : tkR n x p a t v l o I1 I2 J2) (ht : t = 1) : I1 11 6 = nI v := by
  rcases h.2.2.2.2.2.2.2.2.2.2.2.2.2.2.2.2 with ⟨q, -⟩ | ⟨-, -, -, -, -, -, q, -⟩ | ⟨q, -⟩ | ⟨q, -⟩
  · omega
  · exact q
  · omega
  · omega
end Sa8h_1

