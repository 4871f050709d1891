section Sa8e_4
variable {n d s0 f0 W H : Nat} {x : Nat → Nat} {B1 B2 : Nat → Nat → Int32} {BJ : Nat → Nat → Int64}
variable {D D' E op kd ph bs p a t v u : Nat} {l : List Nat} {o : Int} {bg : Int32} {K : List Nat} {A1 A2 : List (Nat × Nat)} {L I1 I2 : Nat → Nat → Int32} {J1 J2 : Nat → Nat → Int64}
theorem c_takeN {c : Nat} {Ia : (Nat → Nat → Int32)} (h : tkR n x p a t v l o I1 I2 J2) (hc : c < 256) (e : ¬ (t = 1 ∧ v = c)) (k : C1 D 144 [.ref 11, .int (nI 1)] I1 J1 .null Ia J1) (hD : 1 ≤ D) : C1 (D + 1) 162 [.ref 11, .int (nI c)] I1 J1 .null Ia J1 := by
  obtain ⟨D, rfl⟩ : ∃ D0, D = D0 + 1 := ⟨D - 1, by omega⟩
  exact mj_mk (e162 _ ⟨trivial, _, _, _, sg_c h hc, if_tf (fun z => absurd z e) (fun _ => ⟨trivial, _, _, k, rfl⟩)⟩)
end Sa8e_4

