theorem lw_inj {S : mj_S} {TY : Nat → Nat → FieldType} {T3 : Nat × Nat × Nat} {ad : Nat → Nat} {g : mj_H} {A : Nat → Prop} (h : va_D A (mj_W S TY T3 ad g)) : (∀ i j, i < S.length → j < S.length → ad i = ad j → i = j) ∧ ∀ i, i < S.length → A (ad i) := by
  have at' : ∀ i, i < S.length → (mj_W S TY T3 ad g)[i]? = some (ad i, mj_ce TY T3 ad g i (S.getD i (0, 0))) := fun i hi => mj_W_at (by rw [List.getD_eq_getElem?_getD, List.getElem?_eq_getElem hi]; rfl)
  exact ⟨fun i j hi hj e => h.1 i j _ _ (at' i hi) (at' j hj) e, fun i hi => h.2 i _ (at' i hi)⟩
