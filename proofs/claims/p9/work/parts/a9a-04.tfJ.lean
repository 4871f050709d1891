def tfJ (d : Nat) (B J : (Nat → Nat → Int64)) : Prop := ∀ q j, (q ≠ 0 ∨ j ≠ 7) → oub d q j → J q j = B q j
