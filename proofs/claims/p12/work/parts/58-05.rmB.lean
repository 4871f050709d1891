def rmB (g W x y : Nat) : List (List Nat) := (List.range' y (mB g W x + 1 - y)).flatMap (fun y => rmC g W x y 0)
