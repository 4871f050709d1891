section Sa8i_3
variable {n d s0 f0 W H : Nat} {x : Nat → Nat} {B1 B2 : Nat → Nat → Int32} {BJ : Nat → Nat → Int64}
variable {D D' E op kd ph bs p a t v u : Nat} {l : List Nat} {o : Int} {bg : Int32} {K : List Nat} {A1 A2 : List (Nat × Nat)} {L I1 I2 : Nat → Nat → Int32} {J1 J2 : Nat → Nat → Int64}
theorem part_60 {Q : mj_R → Prop} (h : TS n x d s0 f0 B1 B2 BJ op kd ph bs bg K L A1 A2 p a t v l o I1 I2 J2) (ho : o ≠ (10 : Nat)) (hq : (t = 1 ∧ v = 91) → ∃ I' J', C2 (D + 1) 38 [.ref 0, .int 5] (mj_up I2 25 op 0) J2 .null I' J' ∧ Q (.int 0, (I', J', mj_R2))) (hq2 : ¬ (t = 1 ∧ v = 91) → E2 35 (D + 1) Q 87 [(0, .ref 0), (1, .int (nI op)), (2, .int 1)] (mj_up I2 25 op 0) J2) : E2 35 (D + 1) Q 34 [(0, .ref 0), (1, .int (nI op)), (2, .int 1)] I2 J2 := by
  have a5 := h.2.2.2.2.1.2.2.2.2.1
  have vp : vp_in (nI op) 20 := vp_in_nI (by omega) (by decide)
  have h' := (TS_bg (y := 0) h (Or.inl rfl)).1
  refine mj_on (s35_34 _ _ ?_)
  rw [if_neg (by decide)]
  refine ⟨trivial, _, _, _, wd_r (w := 10) h.1 (by decide), if_tf (fun y => absurd y ho) (fun _ => ?_)⟩
  refine mj_on (s35_60 _ _ ?_)
  rw [nI_clamp (by omega), if_neg (by decide)]
  refine ⟨vp, trivial, _, _, _, sg_r (c := 91) h' (by decide), if_tf (fun y => ?_) hq2⟩
  obtain ⟨I', J', q1, q2⟩ := hq y
  exact ⟨trivial, _, _, q1, Or.inl rfl, q2⟩
end Sa8i_3

