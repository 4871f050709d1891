def h1_0 : mj_H := (h1_I, fun _ _ => 0, mj_R1)
