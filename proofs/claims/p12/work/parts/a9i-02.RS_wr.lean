section Sa9i_2
variable {n d W Rn Kn Tn Hn Un S F mc : Nat} {x : Nat → Nat} {B1 B2 : Nat → Nat → Int32} {BJ : Nat → Nat → Int64}
variable {D D' E p a t v : Nat} {l : List Nat} {o : Int} {I1 I2 : Nat → Nat → Int32} {J1 J2 : Nat → Nat → Int64}
/-- a write beyond what has been read -/
theorem RS_wr {q0 j0 : Nat} {y : Int32} (h : RS n x d B1 B2 BJ W Rn Kn Tn Hn Un S F mc p a t v l o I1 I2 J2) (hq : 16 ≤ q0 ∧ q0 ≤ 23) (hi : ¬ inC W Rn Kn Tn Hn Un S q0 j0) (h23 : q0 ≠ 23) : RS n x d B1 B2 BJ W Rn Kn Tn Hn Un S F mc p a t v l o (mj_up I1 q0 j0 y) I2 J2 := by
  obtain ⟨hk, ⟨fA1, fA2⟩, hD, hS, hF, hm⟩ := h
  have hW := (TD_N hD).2.2.2.1
  have fC : ∀ q j, (q ≠ q0 ∨ j ≠ j0) → mj_up I1 q0 j0 y q j = I1 q j := fun q j z => up_n z
  refine ⟨tkR_cg hk (fun q j z => fC q j (by omega)) (fun _ _ _ => rfl) rfl, ⟨fun q j z1 z2 => ?_, fA2⟩, TD_new hD (fC 14 9 (by omega)) rfl rfl (fun j => fC 23 j (by omega)) ?_ (TDo_up hD.2.2.2.2.2 hW (fun q j z => fC q j ?_) (fun _ _ _ => rfl) (fun _ _ _ => rfl)), hS, hF, by rw [fC 14 0 (by omega)]; exact hm.1, by rw [fC 11 9 (by omega)]; exact hm.2⟩
  · rw [fC q j (by omega)]; exact fA1 q j z1 z2
  · have hN := hD.2.2.2.2.1
    unfold tlN at hN ⊢
    rw [fC (14 + 1) 0 (by omega), fC (14 + 1) 1 (by omega), fC (14 + 1) 2 (by omega), fC (14 + 1) 3 (by omega), fC (14 + 1) 4 (by omega), fC (14 + 1) 5 (by omega)]
    exact hN
  · refine Classical.byContradiction fun w => hi ?_
    have e1 : q = q0 := by omega
    have e2 : j = j0 := by omega
    rw [← e1, ← e2]
    exact z
end Sa9i_2

