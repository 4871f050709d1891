section Sa8i_2
variable {n d s0 f0 W H : Nat} {x : Nat → Nat} {B1 B2 : Nat → Nat → Int32} {BJ : Nat → Nat → Int64}
variable {D D' E op kd ph bs p a t v u : Nat} {l : List Nat} {o : Int} {bg : Int32} {K : List Nat} {A1 A2 : List (Nat × Nat)} {L I1 I2 : Nat → Nat → Int32} {J1 J2 : Nat → Nat → Int64}
/-- the reference at the head of a fact -/
theorem part_tst {r : Value} {I' : (Nat → Nat → Int32)} {J' : (Nat → Nat → Int64)} (hkd : kd = 1 ∨ kd = 5) (h : TS n x d s0 f0 B1 B2 BJ op kd ph bs 1 K L A1 A2 p a t v l o I1 I2 J2) (hq : E2 35 (D + 1) (fun y => y = (r, (I', J', mj_R2))) 34 [(0, .ref 0), (1, .int (nI op)), (2, .int 1)] I2 J2) : mj_Cl mj_S2 mj_CD (D + 2) 35 [.ref 0] (I2, J2, mj_R2) (r, (I', J', mj_R2)) := by
  refine part_in h ?_
  rw [tf_t (show fst1 kd 1 from ⟨hkd, rfl⟩)]
  exact hq
end Sa8i_2

