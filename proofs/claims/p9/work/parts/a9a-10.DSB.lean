/-- what the class needs behind a fault -/
def DSB (I : (Nat → Nat → Int32)) : Prop := (∃ c, c ≤ 900 ∧ I 14 9 = nI c) ∧ (∃ w, w ≤ 4 ∧ I 15 0 = nI w) ∧ ∃ u, u ≤ 12 ∧ I 15 5 = nI u
