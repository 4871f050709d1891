def tsz (j : Nat) : Prop := (j = 1 ∨ 10 ≤ j) ∧ j ≠ 34 ∧ j ≠ 35 ∧ j ≠ 41 ∧ j ≠ 42 ∧ j ≠ 44 ∧ j ≠ 45
