def DS (d : Nat) (B1 B2 : (Nat → Nat → Int32)) (BJ : (Nat → Nat → Int64)) (I1 I2 : (Nat → Nat → Int32)) (J2 : (Nat → Nat → Int64)) : Prop := (∃ k p, tkD k p I1 I2) ∧ tfA d B1 B2 BJ I1 I2 J2 ∧ DSB I1
