section Sa9a_30
variable {n d W Rn Kn Tn Hn Un S F mc : Nat} {x : Nat → Nat} {B1 B2 : Nat → Nat → Int32} {BJ : Nat → Nat → Int64}
variable {D D' E p a t v : Nat} {l : List Nat} {o : Int} {I1 I2 : Nat → Nat → Int32} {J1 J2 : Nat → Nat → Int64}
theorem TD_N (h : TD d W Rn Kn Tn Hn Un S F I1 I2 J2) : (I1 15 0 = nI W ∧ I1 15 1 = nI Rn ∧ I1 15 2 = nI Kn ∧ I1 15 3 = nI Tn ∧ I1 15 4 = nI Hn ∧ I1 15 5 = nI Un) ∧ (I2 2 d = nI W ∧ I2 3 d = nI Rn ∧ I2 4 d = nI Kn ∧ I2 5 d = nI Tn ∧ I2 6 d = nI Hn ∧ I2 7 d = nI Un) ∧ d < 2 ∧ W ≤ 4 ∧ Rn ≤ 40 ∧ Kn ≤ 10 ∧ Tn ≤ 24 ∧ Hn ≤ 12 ∧ Un ≤ 12 := by
  obtain ⟨a1, a2, a3, a4, a5, a6, b1, b2, b3, b4, b5, b6, c⟩ := h.2.2.2.2.1
  exact ⟨⟨a1, a2, a3, a4, a5, a6⟩, ⟨b1, b2, b3, b4, b5, b6⟩, c⟩
end Sa9a_30

