def mA (g W : Nat) : Nat := if 3 < W then g else 0
