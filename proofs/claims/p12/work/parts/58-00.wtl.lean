/-! grid: the weighings made anew -/
/-- one weighing out of three loops' numbers -/
def wtl (g W x y z : Nat) : List (List Nat) := if W = 0 then [] else [([x, y, z, g - x - y - z] : List Nat).drop (4 - W)]
