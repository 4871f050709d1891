section Sa9g_2
variable {n d W Rn Kn Tn Hn Un S F mc : Nat} {x : Nat → Nat} {B1 B2 : Nat → Nat → Int32} {BJ : Nat → Nat → Int64}
variable {D D' E p a t v : Nat} {l : List Nat} {o : Int} {I1 I2 : Nat → Nat → Int32} {J1 J2 : Nat → Nat → Int64}
theorem TD_new {W' Rn' Kn' Tn' Hn' : Nat} {I1' I2' : (Nat → Nat → Int32)} {J2' : (Nat → Nat → Int64)} (h : TD d W Rn Kn Tn Hn Un S F I1 I2 J2) (a9 : I1' 14 9 = I1 14 9) (e35 : I2' 0 35 = I2 0 35) (e34 : I2' 0 34 = I2 0 34) (er : ∀ j, I1' 23 j = I1 23 j) (hN : tlN 14 d W' Rn' Kn' Tn' Hn' Un I1' I2') (ho : TDo d W' Rn' Kn' Tn' Hn' Un S F I1' I2' J2') : TD d W' Rn' Kn' Tn' Hn' Un S F I1' I2' J2' :=
  ⟨by rw [e35]; exact h.1, by rw [a9]; exact h.2.1, by rw [rb_cg fun j _ => er j]; exact h.2.2.1, by rw [e34]; exact h.2.2.2.1, hN, ho⟩
end Sa9g_2

