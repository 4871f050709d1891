section Sa9a_19
variable {n d W Rn Kn Tn Hn Un S F mc : Nat} {x : Nat → Nat} {B1 B2 : Nat → Nat → Int32} {BJ : Nat → Nat → Int64}
variable {D D' E p a t v : Nat} {l : List Nat} {o : Int} {I1 I2 : Nat → Nat → Int32} {J1 J2 : Nat → Nat → Int64}
theorem tlV_up {W' Hn' S' F' : Nat} {I1' I2' : (Nat → Nat → Int32)} (h : tlV d W Hn Un S F I1 I2) (hW : W ≤ W') (hH : Hn ≤ Hn') (hS : S ≤ S') (hF : F ≤ F') (e1 : ∀ q j, (q = 22 ∧ j < S) ∨ (q = 23 ∧ j < Un) → I1' q j = I1 q j) (e2 : ∀ q j, ((q = 19 ∨ q = 20) ∧ j < 12 * d + Un) ∨ ((q = 21 ∨ q = 22) ∧ j < 900 * d + F) → I2' q j = I2 q j) : tlV d W' Hn' Un S' F' I1' I2' := fun u hu => by
  obtain ⟨f, a1, a2, g1, g2, g3, g4, g5, g6, g7, g8⟩ := h u hu
  have eb : rb I1' 23 u = rb I1 23 u := rb_cg fun j hj => e1 23 j (Or.inr ⟨rfl, by omega⟩)
  refine ⟨f, a1, a2, sgB_up hW hH g1, ?_, ?_, ?_, ?_, ?_, by omega, fun k y hk => ?_⟩
  · rw [eb, e1 23 u (Or.inr ⟨rfl, hu⟩)]; exact g2
  · rw [eb]; omega
  · rw [eb]
    intro k y hk
    have hl := (List.getElem?_eq_some_iff.mp hk).1
    rw [e1 22 _ (Or.inl ⟨rfl, by omega⟩)]
    exact g4 k y hk
  · rw [e2 19 _ (Or.inl ⟨Or.inl rfl, by omega⟩)]; exact g5
  · rw [e2 20 _ (Or.inl ⟨Or.inr rfl, by omega⟩)]; exact g6
  · have hl := (List.getElem?_eq_some_iff.mp hk).1
    rw [e2 21 _ (Or.inr ⟨Or.inl rfl, by omega⟩), e2 22 _ (Or.inr ⟨Or.inr rfl, by omega⟩)]
    exact g8 k y hk
end Sa9a_19

