section Sa9i_3
variable {n d W Rn Kn Tn Hn Un S F mc : Nat} {x : Nat → Nat} {B1 B2 : Nat → Nat → Int32} {BJ : Nat → Nat → Int64}
variable {D D' E p a t v : Nat} {l : List Nat} {o : Int} {I1 I2 : Nat → Nat → Int32} {J1 J2 : Nat → Nat → Int64}
theorem RS_wr2 {q0 j0 : Nat} {y : Int32} (h : RS n x d B1 B2 BJ W Rn Kn Tn Hn Un S F mc p a t v l o I1 I2 J2) (hq : 9 ≤ q0 ∧ q0 ≤ 20) (hi : ¬ inR d W Rn Tn Hn Un F q0 j0) (hb : ¬ oub d q0 j0) : RS n x d B1 B2 BJ W Rn Kn Tn Hn Un S F mc p a t v l o I1 (mj_up I2 q0 j0 y) J2 := by
  obtain ⟨hk, ⟨fA1, fA2, fA3⟩, hD, hS, hF, hm⟩ := h
  have hW := (TD_N hD).2.2.2.1
  have fR : ∀ q j, (q ≠ q0 ∨ j ≠ j0) → mj_up I2 q0 j0 y q j = I2 q j := fun q j z => up_n z
  refine ⟨tkR_cg hk (fun _ _ _ => rfl) (fun q j z => fR q j (by omega)) rfl, ⟨fA1, fun q j z1 z2 z3 => ?_, fA3⟩, TD_new hD rfl (fR 0 35 (by omega)) (fR 0 34 (by omega)) (fun _ => rfl) ?_ (TDo_up hD.2.2.2.2.2 hW (fun _ _ _ => rfl) (fun q j z => fR q j ?_) (fun _ _ _ => rfl)), hS, hF, hm⟩
  · have e : q ≠ q0 ∨ j ≠ j0 := by
      refine Classical.byContradiction fun w => hb ?_
      have e1 : q = q0 := by omega
      have e2 : j = j0 := by omega
      rw [← e1, ← e2]
      exact z3
    rw [fR q j e]; exact fA2 q j z1 z2 z3
  · have hN := hD.2.2.2.2.1
    unfold tlN at hN ⊢
    rw [fR 2 d (by omega), fR 3 d (by omega), fR 4 d (by omega), fR 5 d (by omega), fR 6 d (by omega), fR 7 d (by omega)]
    exact hN
  · refine Classical.byContradiction fun w => hi ?_
    have e1 : q = q0 := by omega
    have e2 : j = j0 := by omega
    rw [← e1, ← e2]
    exact z
end Sa9i_3

