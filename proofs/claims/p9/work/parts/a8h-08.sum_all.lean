section Sa8h_8
variable {n d s0 f0 W H : Nat} {x : Nat → Nat} {B1 B2 : Nat → Nat → Int32} {BJ : Nat → Nat → Int64}
variable {D D' E op kd ph bs p a t v u : Nat} {l : List Nat} {o : Int} {bg : Int32} {K : List Nat} {A1 A2 : List (Nat × Nat)} {L I1 I2 : Nat → Nat → Int32} {J1 J2 : Nat → Nat → Int64}
theorem sum_all (hS : stc d W H B1 B2 BJ) : ∀ u, SumOK n x d s0 f0 W H B1 B2 BJ J1 E u
  | 0 => fun D op kd ph bs bg K L A1 A2 p a t v l o I1 I2 J2 hD hu h h45 h9 hph hb hK q1 q2 q3 => lv_sum hS (fun w q => by omega) hD hu h h45 h9 hph hb hK q1 q2 q3
  | u + 1 => fun D op kd ph bs bg K L A1 A2 p a t v l o I1 I2 J2 hD hu h h45 h9 hph hb hK q1 q2 q3 => lv_sum hS (fun w q => by
      obtain rfl : w = u := by omega
      exact sum_all hS w) hD hu h h45 h9 hph hb hK q1 q2 q3
end Sa8h_8

