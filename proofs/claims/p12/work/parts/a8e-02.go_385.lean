section Sa8e_2
variable {n d s0 f0 W H : Nat} {x : Nat → Nat} {B1 B2 : Nat → Nat → Int32} {BJ : Nat → Nat → Int64}
variable {D D' E op kd ph bs p a t v u : Nat} {l : List Nat} {o : Int} {bg : Int32} {K : List Nat} {A1 A2 : List (Nat × Nat)} {L I1 I2 : Nat → Nat → Int32} {J1 J2 : Nat → Nat → Int64}
theorem go_385 {r : Value} {I' : (Nat → Nat → Int32)} {J' : (Nat → Nat → Int64)} (h : TS n x d s0 f0 B1 B2 BJ op kd ph bs bg K L A1 A2 p a t v l o I1 I2 J2) (hp : ph = 2 ∨ ¬ (t = 1 ∧ (v = 43 ∨ v = 45 ∨ v = 42 ∨ v = 47))) (ht : (kd = 1 ∨ kd = 5) → ph ≠ 0 ∧ o ≠ 8 ∧ o ≠ 9) (hq : E2 41 (D + 1) (fun y => y = (r, (I', J', mj_R2))) 385 [(0, .ref 0), (1, .int (nI op)), (2, .int (nI kd))] I2 J2) : mj_Cl mj_S2 mj_CD (D + 2) 41 [.ref 0] (I2, J2, mj_R2) (r, (I', J', mj_R2)) := by
  obtain ⟨h1, -, -, -, ⟨-, -, -, -, a5, -, -⟩, ⟨f1, f2, f3, -, -, -, -, -, -, f10, f11, -, -⟩⟩ := id h
  have vp : vp_in (nI op) 20 := vp_in_nI (by omega) (by decide)
  have e151 : E2 41 (D + 1) (fun y => y = (r, (I', J', mj_R2))) 151 [(0, .ref 0), (1, .int (nI op)), (2, .int (nI kd)), (3, .int (tf (kd = 1 ∨ kd = 5)))] I2 J2 := by
    have e248 : E2 41 (D + 1) (fun y => y = (r, (I', J', mj_R2))) 248 [(0, .ref 0), (1, .int (nI op)), (2, .int (nI kd)), (3, .int (tf (kd = 1 ∨ kd = 5)))] I2 J2 := by
      have e363 : E2 41 (D + 1) (fun y => y = (r, (I', J', mj_R2))) 363 [(0, .ref 0), (1, .int (nI op)), (2, .int (nI kd)), (3, .int (tf (kd = 1 ∨ kd = 5)))] I2 J2 := by
        refine mj_on (s41_363 _ _ _ ?_)
        refine if_tf (fun z => ?_) (fun _ => hq)
        rw [nI_clamp (by omega), f3]
        refine ⟨vp, ?_⟩
        rw [if_neg (show ¬ nI ph = 0 from nI_ne0 (by have := (ht z).1; omega) (by omega))]
        exact hq
      refine mj_on (s41_248 _ _ _ ?_)
      refine if_tf (fun z => ?_) (fun _ => e363)
      refine ⟨trivial, _, _, _, wd_r (w := 9) h1 (by decide), if_tf (fun y => absurd y (ht z).2.2) (fun _ => ?_)⟩
      exact ⟨trivial, _, _, _, wd_r (w := 8) h1 (by decide), if_tf (fun y => absurd y (ht z).2.1) (fun _ => e363)⟩
    refine mj_on (s41_151 _ _ _ ?_)
    refine if_tf (fun z => ?_) (fun _ => e248)
    rw [nI_clamp (by omega), f3]
    refine ⟨vp, ?_⟩
    rw [if_neg (show ¬ nI ph = 0 from nI_ne0 (by have := (ht z).1; omega) (by omega))]
    exact e248
  refine mj_mk (e41 ?_)
  rw [f1, nI_pred, nI_clamp (by omega), f2]
  refine ⟨vp, trivial, _, _, _, r_isTest f10, vp, ?_⟩
  rw [f3, show (2 : Int32) = nI 2 from rfl]
  refine if_le (by decide) (by omega) (fun _ => e151) (fun z => ?_)
  have hv : ¬ (t = 1 ∧ (v = 43 ∨ v = 45 ∨ v = 42 ∨ v = 47)) := hp.resolve_left (by omega)
  refine ⟨trivial, _, _, _, sg_r (c := 43) h1 (by decide), if_tf (fun y => absurd ⟨y.1, Or.inl y.2⟩ hv) (fun _ => ?_)⟩
  refine ⟨trivial, _, _, _, sg_r (c := 45) h1 (by decide), if_tf (fun y => absurd ⟨y.1, Or.inr (Or.inl y.2)⟩ hv) (fun _ => ?_)⟩
  refine ⟨trivial, _, _, _, sg_r (c := 42) h1 (by decide), if_tf (fun y => absurd ⟨y.1, Or.inr (Or.inr (Or.inl y.2))⟩ hv) (fun _ => ?_)⟩
  exact ⟨trivial, _, _, _, sg_r (c := 47) h1 (by decide), if_tf (fun y => absurd ⟨y.1, Or.inr (Or.inr (Or.inr y.2))⟩ hv) (fun _ => e151)⟩
end Sa8e_2

