def lw_ad (aM : Nat) (l : List Nat) (k : Nat) : Nat := match Nat.beq k 900 with
  | true => aM
  | false => l.getD k 0
