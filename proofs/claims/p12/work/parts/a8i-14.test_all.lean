section Sa8i_14
variable {n d s0 f0 W H : Nat} {x : Nat → Nat} {B1 B2 : Nat → Nat → Int32} {BJ : Nat → Nat → Int64}
variable {D D' E op kd ph bs p a t v u : Nat} {l : List Nat} {o : Int} {bg : Int32} {K : List Nat} {A1 A2 : List (Nat × Nat)} {L I1 I2 : Nat → Nat → Int32} {J1 J2 : Nat → Nat → Int64}
theorem test_all (hS : stc d W H B1 B2 BJ) : ∀ u, TestOK n x d s0 f0 W H B1 B2 BJ J1 E u
  | 0 => fun D op kd bs L A1 A2 p a t v l o I1 I2 J2 hD hu hkd h h45 h9 q1 q2 q3 => lv_test hS (fun w q => by omega) hD hu hkd h h45 h9 (fun c hc => by cases hc) q1 q2 q3
  | u + 1 => fun D op kd bs L A1 A2 p a t v l o I1 I2 J2 hD hu hkd h h45 h9 q1 q2 q3 => lv_test hS (fun w q => by
      obtain rfl : w = u := by omega
      exact test_all hS w) hD hu hkd h h45 h9 (fun c hc => by cases hc) q1 q2 q3
end Sa8i_14

