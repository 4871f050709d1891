def h2_I : Nat → Nat → Int32 := fun q => h2_L.getD q (fun _ => 0)
