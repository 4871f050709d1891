def tfA (d : Nat) (B1 B2 : (Nat → Nat → Int32)) (BJ : (Nat → Nat → Int64)) (I1 I2 : (Nat → Nat → Int32)) (J2 : (Nat → Nat → Int64)) : Prop := tfC B1 I1 ∧ tfR d B2 I2 ∧ tfJ d BJ J2
