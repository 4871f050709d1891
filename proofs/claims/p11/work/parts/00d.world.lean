/-! THE SMALL MACHINE'S WORLD on the real heap, and what is to be checked of a code table -/
def mj_tr (ad : Nat → Nat) : Value → Value
  | .ref q => .ref (ad q)
  | v => v
def mj_tl (ad : Nat → Nat) (L : mj_L) : List (Nat × Value) := L.map (fun q => (q.1, mj_tr ad q.2))
def mj_rv (ad : Nat → Nat) : Value → Option Value
  | .null => none
  | v => some (mj_tr ad v)
def mj_fv (ad : Nat → Nat) (h : mj_H) (q k : Nat) : Nat → Value
  | 1 => .long (h.2.1 q k)
  | 2 => .ref (ad (h.2.2 q k))
  | _ => .int (h.1 q k)
def mj_ce (TY : Nat → Nat → FieldType) (T3 : Nat × Nat × Nat) (ad : Nat → Nat) (h : mj_H) (q : Nat) : Nat × Nat → va_E
  | (0, n) => .inl (T3.1, n, .inl (h.1 q))
  | (1, n) => .inl (T3.2.1, n, .inr (.inl (h.2.1 q)))
  | (2, n) => .inl (T3.2.2, n, .inl (h.1 q))
  | (t + 3, n) => .inr (t, (List.range n).map (fun k => mj_fv ad h q k (mj_tc (TY t k))))
def mj_W (S : mj_S) (TY : Nat → Nat → FieldType) (T3 : Nat × Nat × Nat) (ad : Nat → Nat) (h : mj_H) : va_W :=
  (List.range S.length).map (fun q => (ad q, mj_ce TY T3 ad h q (S.getD q (0, 0))))
def mj_A (ad : Nat → Nat) (n sz : Nat) : Nat → Prop := fun q => (∃ k, k < n ∧ q = ad k) ∨ sz ≤ q
def mj_tys (T3 : Nat × Nat × Nat) : List (ClassId × FieldType) := [(T3.1, .int), (T3.2.1, .long), (T3.2.2, .boolean)]
def mj_nest : Cond → Bool
  | .fieldLinkNest _ _ _ _ _ _ => true
  | .methodLinkNest _ _ _ _ => true
  | _ => false
/-- Met.ofW for a class of which no method of this name is the machine's own -/
theorem mj_ofW {l : Launch} {y : MethodName} {ws ws' : List Cond} {rm : Room} {Pc : Array Value → State → Prop} {Qc : Array Value → State → Outcome → State → Prop} {mc ms : Nat} {free : Addr → Prop} {cc : ByteArray} {maxL : Nat} {ret : Option FieldType}
    (hy : plainFor y = true) (hw : ws = Cond.code y cc maxL ret :: ws')
    (body : ∀ p e s m args below meth c s₁, BodyLoose p l y (headSpec ws rm) cc maxL ret e s m args below meth c s₁ → c.maxLocals = maxL → Pc args s →
      W p l e (headSpec ws rm).room s m args below meth c s.heap [] 0 0 (MQ below Qc args s mc ms free) (entryFrame m args maxL)) : Met l y ws rm Pc Qc mc ms free := by
  refine MetFree.of_bodySF (code := cc) (maxLocals := maxL) (ret := ret) hy ?_ ?_
  · intro args s m h hn
    obtain ⟨meth, c, h1, h2, h3, h4, h5, h6, -, -⟩ := Cond.code_spec hn (atoms_spec (ws := ws) h _ (by rw [hw]; exact List.mem_cons_self))
    exact ⟨meth, c, h1, h2, h3, h4, h5, h6⟩
  · intro p e s m args below meth c s₁ B hml hP _
    have hh0 : s₁.heap = s.heap := by rw [B.state]; rfl
    obtain ⟨t, a1, o, b1, b2, b3⟩ := body p e s m args below meth c s₁ B hml hP s₁ hh0 (Stand.of_body B)
    exact ⟨t, o, a1, b1, b2, ⟨b3.1, b3.2⟩⟩
-- small facts
theorem mj_sub {ls : Array Slot} {n : Nat} {l l' : List (Nat × Value)} (h : lv_has ls n l) (hs : ∀ q ∈ l', q ∈ l) : lv_has ls n l' := ⟨h.1, h.2.1, fun q hq => h.2.2 q (hs q hq)⟩
theorem mj_tl_mem {ad : Nat → Nat} {L : mj_L} {i : Nat} {v : Value} (h : (i, v) ∈ L) : (i, mj_tr ad v) ∈ mj_tl ad L := List.mem_map.mpr ⟨(i, v), h, rfl⟩
theorem mj_at {ls : Array Slot} {n : Nat} {ad : Nat → Nat} {L : mj_L} (h : lv_has ls n (mj_tl ad L)) {i : Nat} {v : Value} (hv : (i, v) ∈ L) : ls[i]? = some (.val (mj_tr ad v)) := h.2.2 (i, mj_tr ad v) (mj_tl_mem hv)
theorem mj_cat (ad : Nat → Nat) (v : Value) : (mj_tr ad v).category = v.category := by cases v <;> rfl
theorem mj_sz_eq (ad : Nat → Nat) : ∀ s : List Value, ((s.map (mj_tr ad)).map fun v => v.category).sum = mj_sz s
  | [] => rfl
  | v :: r => by
    simp only [List.map_cons, List.sum_cons, mj_sz, mj_cat]
    rw [mj_sz_eq ad r]
theorem mj_s1_has {ls : Array Slot} {nL i : Nat} {ad : Nat → Nat} {L : mj_L} {v : Value} (h : lv_has ls nL ((i, mj_tr ad v) :: (mj_tl ad L).filter (fun q => !(q.1 == i) && !(q.1 + 1 == i && q.2.category == 2)))) : lv_has ls nL (mj_tl ad (mj_s1 i v L)) := by
  refine mj_sub h fun q hq => ?_
  obtain ⟨x, hx, rfl⟩ := List.mem_map.mp hq
  rcases mj_in_e hx with rfl | hx
  · exact List.mem_cons_self
  · obtain ⟨h1, h2⟩ := List.mem_filter.mp hx
    refine List.mem_cons_of_mem _ (List.mem_filter.mpr ⟨mj_tl_mem h1, ?_⟩)
    simpa [mj_cat] using h2
theorem mj_s2_has {ls : Array Slot} {nL i : Nat} {ad : Nat → Nat} {L : mj_L} {v : Value} (h : lv_has ls nL ((i, mj_tr ad v) :: (mj_tl ad L).filter (fun q => !(q.1 == i) && (!(q.1 == i + 1) && !(q.1 + 1 == i && q.2.category == 2))))) : lv_has ls nL (mj_tl ad (mj_s2 i v L)) := by
  refine mj_sub h fun q hq => ?_
  obtain ⟨x, hx, rfl⟩ := List.mem_map.mp hq
  rcases mj_in_e hx with rfl | hx
  · exact List.mem_cons_self
  · obtain ⟨h1, h2⟩ := List.mem_filter.mp hx
    refine List.mem_cons_of_mem _ (List.mem_filter.mpr ⟨mj_tl_mem h1, ?_⟩)
    simpa [mj_cat] using h2
theorem mj_tm_has {ls : Array Slot} {nL : Nat} {ad : Nat → Nat} {L : mj_L} {ks : List Nat} (h : lv_has ls nL (mj_tl ad L)) : lv_has ls nL (mj_tl ad (mj_tm ks L)) := by
  refine mj_sub h fun q hq => ?_
  obtain ⟨x, hx, rfl⟩ := List.mem_map.mp hq
  exact List.mem_map.mpr ⟨x, (List.mem_filter.mp hx).1, rfl⟩
theorem mj_a0_eq (ad : Nat → Nat) : ∀ (vs : List Value) (i : Nat), lv_args i (vs.map (mj_tr ad)) = mj_tl ad (mj_a0 i vs)
  | [], _ => rfl
  | v :: vs, i => by
    show (i, mj_tr ad v) :: lv_args _ (vs.map (mj_tr ad)) = (i, mj_tr ad v) :: mj_tl ad (mj_a0 _ vs)
    rw [mj_cat, mj_a0_eq ad vs]
-- the world's cells
section MJW
variable {S : mj_S} {TY : Nat → Nat → FieldType} {T3 : Nat × Nat × Nat} {ad : Nat → Nat} {h h' : mj_H} {q n t : Nat}
theorem mj_W_at {z : Nat × Nat} (hq : S[q]? = some z) : (mj_W S TY T3 ad h)[q]? = some (ad q, mj_ce TY T3 ad h q z) := by
  have hl : q < S.length := (List.getElem?_eq_some_iff.mp hq).1
  have e : S.getD q (0, 0) = z := by simp [List.getD, hq]
  unfold mj_W
  rw [List.getElem?_map, List.getElem?_range hl]
  simp only [Option.map_some, e]
theorem mj_W_inv {e : Nat × va_E} (hq : (mj_W S TY T3 ad h)[q]? = some e) : q < S.length ∧ e = (ad q, mj_ce TY T3 ad h q (S.getD q (0, 0))) := by
  unfold mj_W at hq
  rw [List.getElem?_map] at hq
  cases h1 : (List.range S.length)[q]? with
  | none => rw [h1] at hq; cases hq
  | some j =>
    rw [h1] at hq
    obtain ⟨h2, h3⟩ := List.getElem?_eq_some_iff.mp h1
    simp only [List.length_range] at h2
    simp only [List.getElem_range] at h3
    subst h3
    simp only [Option.map_some, Option.some.injEq] at hq
    exact ⟨h2, hq.symm⟩
theorem mj_W_set {z : Nat × Nat} (hq : S[q]? = some z) (hk : ∀ k, k ≠ q → ∀ y, mj_ce TY T3 ad h' k y = mj_ce TY T3 ad h k y) : (mj_W S TY T3 ad h).set q (ad q, mj_ce TY T3 ad h' q z) = mj_W S TY T3 ad h' := by
  apply List.ext_getElem?
  intro k
  by_cases e : k = q
  · subst e
    rw [List.getElem?_set_self (by
      have := (List.getElem?_eq_some_iff.mp (mj_W_at (TY := TY) (T3 := T3) (ad := ad) (h := h) hq)).1
      exact this), mj_W_at hq]
  · rw [List.getElem?_set_ne (Ne.symm e)]
    unfold mj_W
    rw [List.getElem?_map, List.getElem?_map]
    cases h1 : (List.range S.length)[k]? with
    | none => rfl
    | some j =>
      obtain ⟨h2, h3⟩ := List.getElem?_eq_some_iff.mp h1
      simp only [List.getElem_range] at h3
      subst h3
      simp only [Option.map_some, hk _ e]
theorem mj_W_D {sz : Nat} (hinj : ∀ i j, i < S.length → j < S.length → ad i = ad j → i = j) : va_D (mj_A ad S.length sz) (mj_W S TY T3 ad h) := by
  refine ⟨fun i j x y hi hj e => ?_, fun k x hk => ?_⟩
  · obtain ⟨h1, rfl⟩ := mj_W_inv hi
    obtain ⟨h2, rfl⟩ := mj_W_inv hj
    exact hinj _ _ h1 h2 e
  · obtain ⟨h1, rfl⟩ := mj_W_inv hk
    exact Or.inl ⟨k, h1, rfl⟩
theorem mj_ce_up1 {k j : Nat} {x : Int32} (hk : k ≠ q) (y : Nat × Nat) : mj_ce TY T3 ad (mj_up h.1 q j x, h.2.1, h.2.2) k y = mj_ce TY T3 ad h k y := by
  have e : (mj_up h.1 q j x) k = h.1 k := by funext i; simp [mj_up, hk]
  obtain ⟨t, n⟩ := y
  match t with
  | 0 => simp only [mj_ce, e]
  | 1 => rfl
  | 2 => simp only [mj_ce, e]
  | t + 3 =>
    simp only [mj_ce, Sum.inr.injEq, Prod.mk.injEq, true_and]
    refine List.map_congr_left fun i _ => ?_
    unfold mj_fv
    split
    · rfl
    · rfl
    · simp only [e]
theorem mj_ce_up2 {k j : Nat} {x : Int64} (hk : k ≠ q) (y : Nat × Nat) : mj_ce TY T3 ad (h.1, mj_up h.2.1 q j x, h.2.2) k y = mj_ce TY T3 ad h k y := by
  have e : (mj_up h.2.1 q j x) k = h.2.1 k := by funext i; simp [mj_up, hk]
  obtain ⟨t, n⟩ := y
  match t with
  | 0 => rfl
  | 1 => simp only [mj_ce, e]
  | 2 => rfl
  | t + 3 =>
    simp only [mj_ce, Sum.inr.injEq, Prod.mk.injEq, true_and]
    refine List.map_congr_left fun i _ => ?_
    unfold mj_fv
    split
    · simp only [e]
    · rfl
    · rfl
theorem mj_ce_up3 {k j : Nat} {x : Nat} (hk : k ≠ q) (y : Nat × Nat) : mj_ce TY T3 ad (h.1, h.2.1, mj_up h.2.2 q j x) k y = mj_ce TY T3 ad h k y := by
  have e : (mj_up h.2.2 q j x) k = h.2.2 k := by funext i; simp [mj_up, hk]
  obtain ⟨t, n⟩ := y
  match t with
  | 0 => rfl
  | 1 => rfl
  | 2 => rfl
  | t + 3 =>
    simp only [mj_ce, Sum.inr.injEq, Prod.mk.injEq, true_and]
    refine List.map_congr_left fun i _ => ?_
    unfold mj_fv
    split
    · rfl
    · simp only [e]
    · rfl
theorem mj_fs_at {f : Nat → Value} {b : Nat} (hb : b < n) : ((List.range n).map f)[b]? = some (f b) := by
  rw [List.getElem?_map, List.getElem?_range hb]
  rfl
theorem mj_fs_set {f g : Nat → Value} {b : Nat} {v : Value} (hv : g b = v) (hk : ∀ k, k ≠ b → g k = f k) : ((List.range n).map f).set b v = (List.range n).map g := by
  apply List.ext_getElem?
  intro k
  by_cases e : k = b
  · subst e
    by_cases hl : k < n
    · rw [List.getElem?_set_self (by simpa using hl), mj_fs_at hl, hv]
    · rw [List.getElem?_eq_none (by simpa using Nat.le_of_not_lt hl), List.getElem?_eq_none (by simpa using Nat.le_of_not_lt hl)]
  · rw [List.getElem?_set_ne (Ne.symm e), List.getElem?_map, List.getElem?_map]
    cases h1 : (List.range n)[k]? with
    | none => rfl
    | some j =>
      obtain ⟨h2, h3⟩ := List.getElem?_eq_some_iff.mp h1
      simp only [List.getElem_range] at h3
      subst h3
      simp only [Option.map_some, hk _ e]
end MJW
