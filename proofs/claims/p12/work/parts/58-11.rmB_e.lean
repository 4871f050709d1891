theorem rmB_e {g W x y : Nat} (h : mB g W x < y) : rmB g W x y = [] := by
  unfold rmB
  rw [show mB g W x + 1 - y = 0 by omega]
  rfl
