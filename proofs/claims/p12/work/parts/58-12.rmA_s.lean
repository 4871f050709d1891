theorem rmA_s {g W x : Nat} (h : x ≤ mA g W) : rmA g W x = rmB g W x 0 ++ rmA g W (x + 1) := by
  unfold rmA
  rw [show mA g W + 1 - x = (mA g W + 1 - (x + 1)) + 1 by omega, List.range'_succ, List.flatMap_cons]
