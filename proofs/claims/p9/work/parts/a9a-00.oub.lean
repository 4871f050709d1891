/-! statements: the two states while a text is read -/
/-- outside of what bank d holds -/
def oub (d q j : Nat) : Prop := ((q < 2 ∨ 7 < q) ∨ j ≠ d) ∧ ((q ≠ 8 ∧ q ≠ 9) ∨ j < 4 * d ∨ 4 * d + 4 ≤ j) ∧ (q ≠ 10 ∨ j < 40 * d ∨ 40 * d + 40 ≤ j) ∧ ((q ≠ 11 ∧ q ≠ 12) ∨ j < 160 * d ∨ 160 * d + 160 ≤ j) ∧ (q ≠ 13 ∨ j < 10 * d ∨ 10 * d + 10 ≤ j) ∧ ((q ≠ 14 ∧ q ≠ 15) ∨ j < 24 * d ∨ 24 * d + 24 ≤ j) ∧ (q ≠ 16 ∨ j < 96 * d ∨ 96 * d + 96 ≤ j) ∧ ((q ≠ 17 ∧ q ≠ 19 ∧ q ≠ 20) ∨ j < 12 * d ∨ 12 * d + 12 ≤ j) ∧ (q ≠ 18 ∨ j < 48 * d ∨ 48 * d + 48 ≤ j) ∧ ((q ≠ 21 ∧ q ≠ 22) ∨ j < 900 * d ∨ 900 * d + 900 ≤ j)
