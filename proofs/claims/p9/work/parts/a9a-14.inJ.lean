def inJ (d W Rn Kn Hn q j : Nat) : Prop := (q = 8 ∧ j < 4 * d + W) ∨ (q = 10 ∧ j < 40 * d + Rn) ∨ (q = 13 ∧ j < 10 * d + Kn) ∨ (q = 17 ∧ j < 12 * d + Hn)
