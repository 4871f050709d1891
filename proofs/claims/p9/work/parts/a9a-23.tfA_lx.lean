section Sa9a_23
variable {n d W Rn Kn Tn Hn Un S F mc : Nat} {x : Nat → Nat} {B1 B2 : Nat → Nat → Int32} {BJ : Nat → Nat → Int64}
variable {D D' E p a t v : Nat} {l : List Nat} {o : Int} {I1 I2 : Nat → Nat → Int32} {J1 J2 : Nat → Nat → Int64}
theorem tfA_lx {I1' I2' : (Nat → Nat → Int32)} {J2' : (Nat → Nat → Int64)} (h : tfA d B1 B2 BJ I1 I2 J2) (e1 : lxF I1 I1') (e2 : lxg I2 I2') (e3 : lxgJ J2 J2') : tfA d B1 B2 BJ I1' I2' J2' := by
  obtain ⟨h1, h2, h3⟩ := h
  refine ⟨fun q j z1 z2 => ?_, fun q j z1 z2 z3 => ?_, fun q j z1 z2 => ?_⟩
  · rw [e1 q j (Or.inl z1)]; exact h1 q j z1 z2
  · rw [e2 q j (by unfold tsz at z1; omega)]; exact h2 q j z1 z2 z3
  · rw [e3 q j z1]; exact h3 q j z1 z2
end Sa9a_23

