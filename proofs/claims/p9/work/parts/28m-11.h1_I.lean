def h1_I : Nat → Nat → Int32 := fun q => h1_L.getD q (fun _ => 0)
