theorem rmB_s {g W x y : Nat} (h : y ≤ mB g W x) : rmB g W x y = rmC g W x y 0 ++ rmB g W x (y + 1) := by
  unfold rmB
  rw [show mB g W x + 1 - y = (mB g W x + 1 - (y + 1)) + 1 by omega, List.range'_succ, List.flatMap_cons]
