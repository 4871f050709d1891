/-! tests: what rows of steps come to, piece by piece -/
def rnk (c : Nat) : Nat := if c = 15 then 1 else if c = 14 then 2 else if c = 16 then 3 else if c = 11 ∨ c = 12 ∨ c = 13 then 4 else if c = 5 ∨ c = 6 then 5 else 6
/-- operators held back, as they are laid down: the last one first -/
def pops (K : List Nat) : List (Nat × Nat) := K.reverse.map (fun c => (c, 0))
theorem pops_app {K k : List Nat} : pops (K ++ k) = pops k ++ pops K := by
  unfold pops
  rw [List.reverse_append, List.map_append]
theorem pops_one {c : Nat} : pops [c] = [(c, 0)] := rfl
theorem pops_nil : pops [] = [] := rfl
theorem pops_len {K : List Nat} : (pops K).length = K.length := by
  unfold pops
  rw [List.length_map, List.length_reverse]
/-- pieces that push one number, or one test, on both sides the same one -/
def fr2 (W H : Nat) (b : Bool) (h : Nat) (a1 a2 : List (Nat × Nat)) : Prop := (∀ M st, st.length + h ≤ M → tyc M W H a1 st = some (b :: st) ∧ tyc M W H a2 st = some (b :: st)) ∧ ∃ v : (Nat → Nat) → Nat → Int, ∀ hs m st, ev hs m a1 st = v hs m :: st ∧ ev hs m a2 st = v hs m :: st
section Sa8a
variable {W H : Nat}
theorem tyc_app {M : Nat} : ∀ {a b : List (Nat × Nat)} {st s' : List Bool}, tyc M W H a st = some s' → tyc M W H (a ++ b) st = tyc M W H b s'
  | [], b, st, s', h => by
    have h : some st = some s' := h
    injection h with h
    rw [h]; rfl
  | c :: r, b, st, s', h => by
    obtain ⟨s1, h1, h2, h3⟩ := tyc_cons h
    show (match tys1 W H c st with
      | some st' => if st'.length ≤ M then tyc M W H (r ++ b) st' else none
      | none => none) = _
    rw [h1]
    show (if s1.length ≤ M then tyc M W H (r ++ b) s1 else none) = _
    rw [if_pos h2, tyc_app h3]
theorem ev_app {hs : Nat → Nat} {m : Nat} {a b : List (Nat × Nat)} {st : List Int} : ev hs m (a ++ b) st = ev hs m b (ev hs m a st) := by
  unfold ev
  rw [List.foldl_append]
theorem tyc_one {M : Nat} {c : Nat × Nat} {st s' : List Bool} (h : tys1 W H c st = some s') (hl : s'.length ≤ M) : tyc M W H [c] st = some s' := by
  show (match tys1 W H c st with
    | some st' => if st'.length ≤ M then tyc M W H [] st' else none
    | none => none) = _
  rw [h]
  show (if s'.length ≤ M then tyc M W H [] s' else none) = _
  rw [if_pos hl]
  rfl
theorem tys1_num {op : Nat} {st : List Bool} (h5 : 5 ≤ op) (h13 : op ≤ 13) : tys1 W H (op, 0) (false :: false :: st) = some (decide (11 ≤ op) :: st) := by
  rcases (by omega : op = 5 ∨ op = 6 ∨ op = 7 ∨ op = 8 ∨ op = 9 ∨ op = 10 ∨ op = 11 ∨ op = 12 ∨ op = 13) with rfl | rfl | rfl | rfl | rfl | rfl | rfl | rfl | rfl <;> rfl
theorem tys1_log {op : Nat} {st : List Bool} (h : op = 14 ∨ op = 15) : tys1 W H (op, 0) (true :: true :: st) = some (true :: st) := by
  rcases h with rfl | rfl <;> rfl
theorem tys1_not {st : List Bool} : tys1 W H (16, 0) (true :: st) = some (true :: st) := rfl
theorem ev1_two {hs : Nat → Nat} {m op : Nat} {a c : Int} {st : List Int} (h5 : 5 ≤ op) (h16 : op ≠ 16) : ev1 hs m (c :: a :: st) (op, 0) = twov op a c :: st := by
  show (if op ≤ 4 then leafv hs m op 0 :: c :: a :: st else if op = 16 then (1 - c) :: a :: st else twov op a c :: st) = _
  rw [if_neg (by omega), if_neg h16]
theorem fr2_leaf {c v : Nat} (h1 : c ≤ 4) (hc : (c = 0 → v ≤ 9999) ∧ (c = 2 → v < W) ∧ (c = 4 → v < H) ∧ (c = 1 ∨ c = 3 → v = 0)) : fr2 W H (decide (3 ≤ c)) 1 [(c, v)] [(c, v)] := by
  have e : ∀ st, tys1 W H (c, v) st = some (decide (3 ≤ c) :: st) := fun st => by
    show (if c ≤ 4 then (if (c = 0 → v ≤ 9999) ∧ (c = 2 → v < W) ∧ (c = 4 → v < H) ∧ (c = 1 ∨ c = 3 → v = 0) then some (decide (3 ≤ c) :: st) else none) else _) = _
    rw [if_pos h1, if_pos hc]
  have e2 : ∀ (hs : Nat → Nat) (m : Nat) (st : List Int), ev hs m [(c, v)] st = leafv hs m c v :: st := fun hs m st => by
    show (if c ≤ 4 then leafv hs m c v :: st else _) = _
    rw [if_pos h1]
  exact ⟨fun M st hl => ⟨tyc_one (e st) hl, tyc_one (e st) hl⟩, fun hs m => leafv hs m c v, fun hs m st => ⟨e2 hs m st, e2 hs m st⟩⟩
theorem fr2_up {b : Bool} {h h' : Nat} {a1 a2 : List (Nat × Nat)} (q : fr2 W H b h a1 a2) (hh : h ≤ h') : fr2 W H b h' a1 a2 := ⟨fun M st hl => q.1 M st (by omega), q.2⟩
theorem fr2_two {b b' : Bool} {op h h' h3 : Nat} {a1 a2 c1 c2 : List (Nat × Nat)} (h5 : 5 ≤ op) (h16 : op ≠ 16) (ht : ∀ st, tys1 W H (op, 0) (b :: b :: st) = some (b' :: st)) (qa : fr2 W H b h a1 a2) (qc : fr2 W H b h' c1 c2) (h1 : h ≤ h3) (h2 : h' + 1 ≤ h3) : fr2 W H b' h3 (a1 ++ (c1 ++ [(op, 0)])) (a2 ++ (c2 ++ [(op, 0)])) := by
  obtain ⟨ta, va, ea⟩ := qa
  obtain ⟨tc, vc, ec⟩ := qc
  refine ⟨fun M st hl => ?_, fun hs m => twov op (va hs m) (vc hs m), fun hs m st => ?_⟩
  · have l1 : (b :: st).length + h' ≤ M := by show st.length + 1 + h' ≤ M; omega
    have l2 : (b' :: st).length ≤ M := by show st.length + 1 ≤ M; omega
    have l0 : st.length + h ≤ M := by omega
    exact ⟨by rw [tyc_app (ta M st l0).1, tyc_app (tc M _ l1).1, tyc_one (ht st) l2], by rw [tyc_app (ta M st l0).2, tyc_app (tc M _ l1).2, tyc_one (ht st) l2]⟩
  · exact ⟨by rw [ev_app, ev_app, (ea hs m st).1, (ec hs m _).1]; exact ev1_two h5 h16, by rw [ev_app, ev_app, (ea hs m st).2, (ec hs m _).2]; exact ev1_two h5 h16⟩
theorem fr2_num {op h h' h3 : Nat} {a1 a2 c1 c2 : List (Nat × Nat)} (h5 : 5 ≤ op) (h10 : op ≤ 10) (qa : fr2 W H false h a1 a2) (qc : fr2 W H false h' c1 c2) (h1 : h ≤ h3) (h2 : h' + 1 ≤ h3) : fr2 W H false h3 (a1 ++ (c1 ++ [(op, 0)])) (a2 ++ (c2 ++ [(op, 0)])) :=
  fr2_two h5 (by omega) (fun st => by rw [tys1_num h5 (by omega), decide_eq_false (by omega)]) qa qc h1 h2
theorem fr2_cmp {op h h' h3 : Nat} {a1 a2 c1 c2 : List (Nat × Nat)} (h11 : 11 ≤ op) (h13 : op ≤ 13) (qa : fr2 W H false h a1 a2) (qc : fr2 W H false h' c1 c2) (h1 : h ≤ h3) (h2 : h' + 1 ≤ h3) : fr2 W H true h3 (a1 ++ (c1 ++ [(op, 0)])) (a2 ++ (c2 ++ [(op, 0)])) :=
  fr2_two (by omega) (by omega) (fun st => by rw [tys1_num (by omega) h13, decide_eq_true h11]) qa qc h1 h2
theorem fr2_log {op h h' h3 : Nat} {a1 a2 c1 c2 : List (Nat × Nat)} (ho : op = 14 ∨ op = 15) (qa : fr2 W H true h a1 a2) (qc : fr2 W H true h' c1 c2) (h1 : h ≤ h3) (h2 : h' + 1 ≤ h3) : fr2 W H true h3 (a1 ++ (c1 ++ [(op, 0)])) (a2 ++ (c2 ++ [(op, 0)])) :=
  fr2_two (by omega) (by omega) (fun st => tys1_log ho) qa qc h1 h2
theorem nots_ty {M : Nat} {st : List Bool} (hl : st.length + 1 ≤ M) : ∀ j, tyc M W H (List.replicate j (16, 0)) (true :: st) = some (true :: st)
  | 0 => rfl
  | j + 1 => by
    rw [List.replicate_succ, ← List.singleton_append, tyc_app (tyc_one tys1_not hl), nots_ty hl j]
theorem nots_ev {hs : Nat → Nat} {m : Nat} : ∀ (j : Nat) (y : Int) (st : List Int), ev hs m (List.replicate j (16, 0)) (y :: st) = (if j % 2 = 1 then 1 - y else y) :: st
  | 0, _, _ => rfl
  | j + 1, y, st => by
    rw [List.replicate_succ, ← List.singleton_append, ev_app]
    show ev hs m (List.replicate j (16, 0)) ((1 - y) :: st) = _
    rw [nots_ev j]
    by_cases h : j % 2 = 1
    · rw [if_pos h, if_neg (by omega)]
      congr 1
      omega
    · rw [if_neg h, if_pos (by omega)]
theorem fr2_not {h : Nat} {a1 a2 : List (Nat × Nat)} (q : fr2 W H true h a1 a2) (h0 : 1 ≤ h) (j : Nat) : fr2 W H true h (a1 ++ List.replicate (j % 2) (16, 0)) (a2 ++ List.replicate j (16, 0)) := by
  obtain ⟨t, v, e⟩ := q
  refine ⟨fun M st hl => ⟨by rw [tyc_app (t M st hl).1, nots_ty (by omega)], by rw [tyc_app (t M st hl).2, nots_ty (by omega)]⟩, fun hs m => if j % 2 = 1 then 1 - v hs m else v hs m, fun hs m st => ⟨?_, ?_⟩⟩
  · rw [ev_app, (e hs m st).1, nots_ev, Nat.mod_mod]
  · rw [ev_app, (e hs m st).2, nots_ev]
theorem pops_not (j : Nat) : pops (List.replicate j 16) = List.replicate j (16, 0) := by
  unfold pops
  rw [List.reverse_replicate, List.map_replicate]
theorem fr2_sgB {h : Nat} {a1 a2 : List (Nat × Nat)} (q : fr2 W H true h a1 a2) (hh : h ≤ 64) : sgB 64 950 W H a1 a2 := by
  obtain ⟨t, v, e⟩ := q
  exact ⟨(t 64 [] (by show 0 + h ≤ 64; omega)).1, (t 950 [] (by show 0 + h ≤ 950; omega)).2, fun hs m => by rw [(e hs m []).1, (e hs m []).2]⟩
end Sa8a
/-! codes laid down, one more -/
theorem cdC_app {I I' : Nat → Nat → Int32} {c p : Nat} {a : List (Nat × Nat)} {y : Nat × Nat} (h : cdC I c p a) (he : ∀ j, j < p + a.length → I' c j = I c j) (hy : I' c (p + a.length) = nI (opc y.1 * 16384 + y.2)) : cdC I' c p (a ++ [y]) := fun k z hz => by
  by_cases hk : k < a.length
  · rw [List.getElem?_append_left hk] at hz
    rw [he _ (by omega)]
    exact h k z hz
  · rw [List.getElem?_append_right (by omega)] at hz
    by_cases e : k = a.length
    · subst e
      rw [Nat.sub_self] at hz
      have hz : y = z := Option.some.inj hz
      rw [← hz]; exact hy
    · rw [List.getElem?_eq_none (by show 1 ≤ k - a.length; omega)] at hz
      cases hz
theorem cdR_app {I I' : Nat → Nat → Int32} {p : Nat} {a : List (Nat × Nat)} {y : Nat × Nat} (h : cdR I p a) (he : ∀ j, j < p + a.length → I' 21 j = I 21 j ∧ I' 22 j = I 22 j) (hy : I' 21 (p + a.length) = nI y.1 ∧ I' 22 (p + a.length) = nI y.2) : cdR I' p (a ++ [y]) := fun k z hz => by
  by_cases hk : k < a.length
  · rw [List.getElem?_append_left hk] at hz
    rw [(he _ (by omega)).1, (he _ (by omega)).2]
    exact h k z hz
  · rw [List.getElem?_append_right (by omega)] at hz
    by_cases e : k = a.length
    · subst e
      rw [Nat.sub_self] at hz
      have hz : y = z := Option.some.inj hz
      rw [← hz]; exact hy
    · rw [List.getElem?_eq_none (by show 1 ≤ k - a.length; omega)] at hz
      cases hz
theorem ops_app {f g : Nat → Int32} {b c : Nat} {K : List Nat} (h : ∀ i y, K[i]? = some y → f (b + i) = nI y) (he : ∀ j, j < b + K.length → g j = f j) (hy : g (b + K.length) = nI c) : ∀ i y, (K ++ [c])[i]? = some y → g (b + i) = nI y := fun k z hz => by
  by_cases hk : k < K.length
  · rw [List.getElem?_append_left hk] at hz
    rw [he _ (by omega)]
    exact h k z hz
  · rw [List.getElem?_append_right (by omega)] at hz
    by_cases e : k = K.length
    · subst e
      rw [Nat.sub_self] at hz
      have hz : c = z := Option.some.inj hz
      rw [← hz]; exact hy
    · rw [List.getElem?_eq_none (by show 1 ≤ k - K.length; omega)] at hz
      cases hz
