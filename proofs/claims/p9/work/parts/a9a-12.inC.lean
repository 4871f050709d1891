/-- where data lie -/
def inC (W Rn Kn Tn Hn Un S q j : Nat) : Prop := (q = 16 ∧ (j < W ∨ (40 ≤ j ∧ j < 40 + Rn) ∨ (80 ≤ j ∧ j < 80 + Kn) ∨ (160 ≤ j ∧ j < 160 + Hn))) ∨ (q = 17 ∧ j < W) ∨ (q = 18 ∧ ((160 ≤ j ∧ j < 160 + 4 * Rn) ∨ (480 ≤ j ∧ j < 480 + 4 * Tn) ∨ (640 ≤ j ∧ j < 640 + 4 * Hn))) ∨ (q = 19 ∧ j < 4 * Rn) ∨ ((q = 20 ∨ q = 21) ∧ j < Tn) ∨ (q = 22 ∧ j < S) ∨ (q = 23 ∧ j < Un)
