section Sa9a_15
variable {n d W Rn Kn Tn Hn Un S F mc : Nat} {x : Nat → Nat} {B1 B2 : Nat → Nat → Int32} {BJ : Nat → Nat → Int64}
variable {D D' E p a t v : Nat} {l : List Nat} {o : Int} {I1 I2 : Nat → Nat → Int32} {J1 J2 : Nat → Nat → Int64}
theorem rb_cg {I I' : (Nat → Nat → Int32)} {c : Nat} : ∀ {u : Nat}, (∀ j, j < u → I' c j = I c j) → rb I' c u = rb I c u
  | 0, _ => rfl
  | u + 1, h => by
    show (I' c u).toNatClampNeg = (I c u).toNatClampNeg
    rw [h u (by omega)]
end Sa9a_15

