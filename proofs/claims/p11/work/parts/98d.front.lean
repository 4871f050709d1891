/-! front, of every kind -/
section S98d
variable {b W Rn Kn Tn Hn Un g : Nat} {I1 I2 : Nat → Nat → Int32} {J1 J2 : Nat → Nat → Int64}
theorem al_front {x1 x2 x3 : Int32} (h : Rl b W Rn Kn Tn Hn Un g I1 J1 I2 J2) : AI 203 70 [.int x1, .int x2, .int x3] I1 J1 I2 J2 (Rl b W Rn Kn Tn Hn Un g) := by
  by_cases hW : W = 0
  · exact al_front0 h (Or.inr hW)
  · by_cases e1 : x1 = 1
    · subst e1; exact al_front1 h hW
    · by_cases e2 : x1 = 2
      · subst e2; exact al_front2 h hW
      · exact al_front0 h (Or.inl ⟨e1, e2⟩)
end S98d
