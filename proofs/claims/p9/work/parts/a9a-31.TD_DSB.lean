section Sa9a_31
variable {n d W Rn Kn Tn Hn Un S F mc : Nat} {x : Nat → Nat} {B1 B2 : Nat → Nat → Int32} {BJ : Nat → Nat → Int64}
variable {D D' E p a t v : Nat} {l : List Nat} {o : Int} {I1 I2 : Nat → Nat → Int32} {J1 J2 : Nat → Nat → Int64}
theorem TD_DSB (h : TD d W Rn Kn Tn Hn Un S F I1 I2 J2) (hS : S ≤ 900) : DSB I1 := by
  obtain ⟨⟨a1, -, -, -, -, a6⟩, -, -, c1, -, -, -, -, c6⟩ := TD_N h
  exact ⟨⟨S, hS, h.2.1⟩, ⟨W, c1, a1⟩, ⟨Un, c6, a6⟩⟩
end Sa9a_31

