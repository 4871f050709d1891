section Sa9a_16
variable {n d W Rn Kn Tn Hn Un S F mc : Nat} {x : Nat → Nat} {B1 B2 : Nat → Nat → Int32} {BJ : Nat → Nat → Int64}
variable {D D' E p a t v : Nat} {l : List Nat} {o : Int} {I1 I2 : Nat → Nat → Int32} {J1 J2 : Nat → Nat → Int64}
theorem tys1_up {W W' H H' : Nat} {c : Nat × Nat} {st s' : List Bool} (hW : W ≤ W') (hH : H ≤ H') (h : tys1 W H c st = some s') : tys1 W' H' c st = some s' := by
  unfold tys1 at h ⊢
  by_cases c4 : c.1 ≤ 4
  · rw [if_pos c4] at h ⊢
    by_cases q : (c.1 = 0 → c.2 ≤ 9999) ∧ (c.1 = 2 → c.2 < W) ∧ (c.1 = 4 → c.2 < H) ∧ (c.1 = 1 ∨ c.1 = 3 → c.2 = 0)
    · rw [if_pos q] at h
      rw [if_pos ⟨q.1, fun z => Nat.lt_of_lt_of_le (q.2.1 z) hW, fun z => Nat.lt_of_lt_of_le (q.2.2.1 z) hH, q.2.2.2⟩]
      exact h
    · rw [if_neg q] at h
      cases h
  · rw [if_neg c4] at h ⊢
    exact h
end Sa9a_16

