def rmC (g W x y z : Nat) : List (List Nat) := (List.range' z (mC g W x y + 1 - z)).flatMap (wtl g W x y)
