theorem rmA_e {g W x : Nat} (h : mA g W < x) : rmA g W x = [] := by
  unfold rmA
  rw [show mA g W + 1 - x = 0 by omega]
  rfl
