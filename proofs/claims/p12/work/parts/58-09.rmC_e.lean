theorem rmC_e {g W x y z : Nat} (h : mC g W x y < z) : rmC g W x y z = [] := by
  unfold rmC
  rw [show mC g W x y + 1 - z = 0 by omega]
  rfl
