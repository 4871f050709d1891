def h2_0 : mj_H := (h2_I, fun _ _ => 0, mj_R2)
