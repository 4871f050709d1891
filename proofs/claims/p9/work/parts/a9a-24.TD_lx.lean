section Sa9a_24
variable {n d W Rn Kn Tn Hn Un S F mc : Nat} {x : Nat → Nat} {B1 B2 : Nat → Nat → Int32} {BJ : Nat → Nat → Int64}
variable {D D' E p a t v : Nat} {l : List Nat} {o : Int} {I1 I2 : Nat → Nat → Int32} {J1 J2 : Nat → Nat → Int64}
theorem TD_lx {I1' I2' : (Nat → Nat → Int32)} {J2' : (Nat → Nat → Int64)} (h : TD d W Rn Kn Tn Hn Un S F I1 I2 J2) (e1 : lxF I1 I1') (e2 : lxg I2 I2') (e3 : lxgJ J2 J2') : TD d W Rn Kn Tn Hn Un S F I1' I2' J2' := by
  obtain ⟨h1, h2, h3, h4, h5, h6⟩ := h
  have hW : W ≤ 4 := by
    obtain ⟨-, -, -, -, -, -, -, -, -, -, -, -, -, q, -⟩ := h5
    exact q
  have c1 : ∀ q j, q ≠ 11 → I1' q j = I1 q j := fun q j z => e1 q j (Or.inl z)
  refine ⟨?_, ?_, ?_, ?_, ?_, TDo_up h6 hW (fun q j z => c1 q j (by unfold inC at z; omega)) (fun q j z => e2 q j (by unfold inR at z; omega)) (fun q j z => e3 q j (by unfold inJ at z; omega))⟩
  · rw [e2 0 35 (by decide)]; exact h1
  · rw [c1 14 9 (by decide)]; exact h2
  · rw [h3]; exact (rb_cg fun j _ => c1 23 j (by decide)).symm
  · rw [e2 0 34 (by decide)]; exact h4
  · unfold tlN at h5 ⊢
    rw [c1 (14 + 1) 0 (by decide), c1 (14 + 1) 1 (by decide), c1 (14 + 1) 2 (by decide), c1 (14 + 1) 3 (by decide), c1 (14 + 1) 4 (by decide), c1 (14 + 1) 5 (by decide), e2 2 d (Or.inl (by decide)), e2 3 d (Or.inl (by decide)), e2 4 d (Or.inl (by decide)), e2 5 d (Or.inl (by decide)), e2 6 d (Or.inl (by decide)), e2 7 d (Or.inl (by decide))]
    exact h5
end Sa9a_24

