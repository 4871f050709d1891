section Sa9a_21
variable {n d W Rn Kn Tn Hn Un S F mc : Nat} {x : Nat → Nat} {B1 B2 : Nat → Nat → Int32} {BJ : Nat → Nat → Int64}
variable {D D' E p a t v : Nat} {l : List Nat} {o : Int} {I1 I2 : Nat → Nat → Int32} {J1 J2 : Nat → Nat → Int64}
theorem lxf_F {I I' : (Nat → Nat → Int32)} (h : lxf I I') : lxF I I' := fun q j z => h q j (by omega)
end Sa9a_21

