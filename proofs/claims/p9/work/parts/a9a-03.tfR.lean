def tfR (d : Nat) (B I : (Nat → Nat → Int32)) : Prop := ∀ q j, (q ≠ 0 ∨ tsz j) → (q < 23 ∨ 28 < q) → oub d q j → I q j = B q j
