def rmA (g W x : Nat) : List (List Nat) := (List.range' x (mA g W + 1 - x)).flatMap (fun x => rmB g W x 0)
