/-- the rules that have been read -/
def tlV (d W Hn Un S F : Nat) (I1 I2 : (Nat → Nat → Int32)) : Prop := ∀ u, u < Un → ∃ (f : Nat) (a1 a2 : (List (Nat × Nat))), sgB 64 950 W Hn a1 a2 ∧ I1 23 u = nI (rb I1 23 u + a1.length) ∧ rb I1 23 u + a1.length ≤ S ∧ cdC I1 22 (rb I1 23 u) a1 ∧
  I2 19 (12 * d + u) = nI f ∧ I2 20 (12 * d + u) = nI (f + a2.length) ∧ f + a2.length ≤ F ∧ cdR I2 (900 * d + f) a2
