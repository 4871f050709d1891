section Sa9a_18
variable {n d W Rn Kn Tn Hn Un S F mc : Nat} {x : Nat → Nat} {B1 B2 : Nat → Nat → Int32} {BJ : Nat → Nat → Int64}
variable {D D' E p a t v : Nat} {l : List Nat} {o : Int} {I1 I2 : Nat → Nat → Int32} {J1 J2 : Nat → Nat → Int64}
theorem sgB_up {W W' H H' : Nat} {a1 a2 : (List (Nat × Nat))} (hW : W ≤ W') (hH : H ≤ H') (h : sgB 64 950 W H a1 a2) : sgB 64 950 W' H' a1 a2 := ⟨tyc_up hW hH h.1, tyc_up hW hH h.2.1, h.2.2⟩
end Sa9a_18

