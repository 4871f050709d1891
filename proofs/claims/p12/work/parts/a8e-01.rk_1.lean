section Sa8e_1
variable {n d s0 f0 W H : Nat} {x : Nat → Nat} {B1 B2 : Nat → Nat → Int32} {BJ : Nat → Nat → Int64}
variable {D D' E op kd ph bs p a t v u : Nat} {l : List Nat} {o : Int} {bg : Int32} {K : List Nat} {A1 A2 : List (Nat × Nat)} {L I1 I2 : Nat → Nat → Int32} {J1 J2 : Nat → Nat → Int64}
theorem rk_1 (c : Nat) : 1 ≤ rnk c := by
  unfold rnk
  split
  · omega
  · split
    · omega
    · split
      · omega
      · split
        · omega
        · split <;> omega
end Sa8e_1

