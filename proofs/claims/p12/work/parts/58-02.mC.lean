def mC (g W x y : Nat) : Nat := if 1 < W then g - x - y else 0
