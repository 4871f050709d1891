theorem rmC_s {g W x y z : Nat} (h : z ≤ mC g W x y) : rmC g W x y z = wtl g W x y z ++ rmC g W x y (z + 1) := by
  unfold rmC
  rw [show mC g W x y + 1 - z = (mC g W x y + 1 - (z + 1)) + 1 by omega, List.range'_succ, List.flatMap_cons]
