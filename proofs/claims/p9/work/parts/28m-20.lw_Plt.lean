theorem lw_Plt {S : mj_S} {TY : Nat → Nat → FieldType} {Dg : va_G} {T3 : Nat × Nat × Nat} {ad : Nat → Nat} {g : mj_H} {H : Heap} (h : va_P Dg mj_CL (mj_W S TY T3 ad g) H) {i : Nat} (hi : i < S.length) : ad i < H.size := by
  have e := mj_W_at (TY := TY) (T3 := T3) (ad := ad) (h := g) (q := i) (z := S.getD i (0, 0)) (S := S) (by rw [List.getD_eq_getElem?_getD, List.getElem?_eq_getElem hi]; rfl)
  exact (h i _ e).lt
