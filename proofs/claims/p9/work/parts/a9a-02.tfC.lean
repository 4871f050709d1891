/-- what stays while a text is read -/
def tfC (B I : (Nat → Nat → Int32)) : Prop := ∀ q j, q ≠ 11 → (q < 14 ∨ 23 < q) → I q j = B q j
