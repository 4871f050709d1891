section Sa9a_29
variable {n d W Rn Kn Tn Hn Un S F mc : Nat} {x : Nat → Nat} {B1 B2 : Nat → Nat → Int32} {BJ : Nat → Nat → Int64}
variable {D D' E p a t v : Nat} {l : List Nat} {o : Int} {I1 I2 : Nat → Nat → Int32} {J1 J2 : Nat → Nat → Int64}
theorem DS_lx {I1' : (Nat → Nat → Int32)} (h : DS d B1 B2 BJ I1 I2 J2) (e1 : lxF I1 I1') (hd : ∃ k p, tkD k p I1' I2) : DS d B1 B2 BJ I1' I2 J2 := DS_mk h.2.1 h.2.2 e1 lxg_rf lxgJ_rf hd
end Sa9a_29

