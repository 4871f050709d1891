def mB (g W x : Nat) : Nat := if 2 < W then g - x else 0
