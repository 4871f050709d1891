/-! SOUNDNESS: what the small machine comes to, the method comes to -/
def mj_mf (j : Nat) : Value := .int (mj_most j)
/-- the static row MOST lies at ad 900, and nobody writes it -/
def mj_MO (ad : Nat → Nat) (A : Nat → Prop) (U : State) (H : Heap) : Prop := va_Z "UnbeatenHouse" "MOST" "[I" (.ref (ad 900)) A U H ∧ va_T .int (ad 900) 6 mj_mf A U H
theorem mj_MO.moved {ad : Nat → Nat} {A : Nat → Prop} {u U : State} {H : Heap} (hvm : u.vm.Alike U.vm) (h : mj_MO ad A u H) : mj_MO ad A U H := ⟨va_Z.moved hvm h.1, va_T.moved hvm h.2⟩
theorem mj_MO.kept {ad : Nat → Nat} {A : Nat → Prop} {U : State} {H H1 : Heap} (h : mj_MO ad A U H) (hq : ∀ a : Nat, a < H.size → ¬ A a → H1[a]? = H[a]?) : mj_MO ad A U H1 := ⟨h.1.kept hq, h.2.kept hq⟩
theorem mj_MO.narrow {ad : Nat → Nat} {A B : Nat → Prop} {U : State} {H : Heap} (h : mj_MO ad A U H) (hAB : ∀ q, B q → A q) : mj_MO ad B U H := ⟨h.1.narrow hAB, h.2.narrow hAB⟩
def mj_Pc (TB : List Cond) (CL : List vw_C) (TY : Nat → Nat → FieldType) (S : mj_S) (Dg : va_G) (T3 : Nat × Nat × Nat) (ad : Nat → Nat) (as : List Value) (h : mj_H) (sz : Nat) : Array Value → State → Prop :=
  va_Pc (as.map (mj_tr ad)) (fun U => U.heap.size = sz ∧ va_P Dg CL (mj_W S TY T3 ad h) U.heap ∧ va_K Dg CL (mj_tys T3) U ∧ (∀ w ∈ TB, mj_nest w = true → va_Nw w U) ∧ mj_MO ad (mj_A ad S.length sz) U U.heap)
def mj_Qc (CL : List vw_C) (TY : Nat → Nat → FieldType) (S : mj_S) (Dg : va_G) (T3 : Nat × Nat × Nat) (ad : Nat → Nat) (r : mj_R) (sz : Nat) : Array Value → State → Outcome → State → Prop :=
  fun _ st oc t => oc = .returned (mj_rv ad r.1) ∧ va_P Dg CL (mj_W S TY T3 ad r.2) t.heap ∧ va_F (mj_A ad S.length sz) st t
def mj_ws (TB : List Cond) (y : mj_M) : List Cond := Cond.code y.1 y.2.1 y.2.2.1 y.2.2.2 :: TB.filter goodWord
def mj_rm (D : Nat) : Room := { frames := D, cells := 0, slots := 0, locals := 64 * D }
/-- the contract that the small machine's answer r is -/
def mj_Met (l : Launch) (TB : List Cond) (CL : List vw_C) (TY : Nat → Nat → FieldType) (S : mj_S) (Dg : va_G) (T3 : Nat × Nat × Nat) (ad : Nat → Nat) (D : Nat) (y : mj_M) (as : List Value) (h : mj_H) (r : mj_R) : Prop :=
  ∀ sz, Met l y.1 (mj_ws TB y) (mj_rm D) (mj_Pc TB CL TY S Dg T3 ad as h sz) (mj_Qc CL TY S Dg T3 ad r sz) 0 0 (mj_A ad S.length sz)
theorem mj_good_in {TB : List Cond} {w : Cond} (h : w ∈ TB) (hg : goodWord w = true) : w ∈ TB.filter goodWord := List.mem_filter.mpr ⟨h, hg⟩
theorem mj_nw {TB : List Cond} {s U : State} (hW : s.WarmedH U.vm) (h : ∀ w ∈ TB, mj_nest w = true → va_Nw w s) : ∀ w ∈ TB, mj_nest w = true → va_Nw w U := by
  intro w hw hn
  have h1 := h w hw hn
  cases w <;> first | exact va_Nw.warmF hW h1 | exact va_Nw.warmM hW h1 | exact absurd (show false = true from hn) (by decide)
theorem mj_goodIn {TB : List Cond} {y : mj_M} (h : mj_okY TB y) : GoodIn (TB.filter goodWord) (mj_ws TB y) := by
  intro w hw
  rcases List.mem_cons.mp hw with rfl | hw
  · exact ⟨mj_good_in h.1 rfl, good_of_word rfl⟩
  · exact ⟨hw, good_of_word (List.mem_filter.mp hw).2⟩
theorem mj_blind {TB : List Cond} {CL : List vw_C} {TY : Nat → Nat → FieldType} {S : mj_S} {Dg : va_G} {T3 : Nat × Nat × Nat} {ad : Nat → Nat} {as : List Value} {h : mj_H} {sz : Nat} : FrameBlind (mj_Pc TB CL TY S Dg T3 ad as h sz) := by
  intro a U g mk q
  obtain ⟨q0, q1, q2, q3, q4, q5⟩ := q
  refine ⟨q0, q1, q2, va_K.moved (u := U) (U := U.calling g mk a) (Vm.Alike.refl U.vm) q3, fun w hw hn => ?_, mj_MO.moved (u := U) (U := U.calling g mk a) (Vm.Alike.refl U.vm) q5⟩
  have h1 := q4 w hw hn
  cases w <;> first | exact va_Nw.same (u := U) rfl rfl h1 | exact absurd (show false = true from hn) (by decide)
section MJS
variable {p : Program} {l : Launch} {e : Env} {s : State} {m : MethodId} {args : Array Value} {below : List Frame} {meth : Method} {c : Code}
variable {TB : List Cond} {CL : List vw_C} {TY : Nat → Nat → FieldType} {MS : Nat → mj_M} {S : mj_S} {Dg : va_G} {T3 : Nat × Nat × Nat} {ad : Nat → Nat} {cc : ByteArray} {nL D : Nat} {own : String} {rr : mj_R} {rt : Option FieldType}
/-- what holds all along a method's walk -/
def mj_Cx (p : Program) (s : State) (m : MethodId) (args : Array Value) (meth : Method) (c : Code) (TB : List Cond) (CL : List vw_C) (S : mj_S) (Dg : va_G) (T3 : Nat × Nat × Nat) (ad : Nat → Nat) (cc : ByteArray) (nL : Nat) (own : String) (rt : Option FieldType) : Prop :=
  p.tables.exec = Jvm.exec ∧ c.code = cc ∧ c.maxLocals = nL ∧ s.vm.findClass own = some m.cls ∧ (∀ w ∈ TB.filter goodWord, w.before args s = true) ∧ va_K Dg CL (mj_tys T3) s ∧ (∀ w ∈ TB, mj_nest w = true → va_Nw w s) ∧ (∀ i j, i < S.length → j < S.length → ad i = ad j → i = j) ∧ meth.locks = false ∧ meth.sig.returnType = rt ∧ mj_MO ad (mj_A ad S.length s.heap.size) s s.heap
/-- what the tables of classes keep -/
def mj_Cs (TB : List Cond) (CL : List vw_C) (TY : Nat → Nat → FieldType) (S : mj_S) : Prop :=
  (∀ (ci : Nat) (C : String) (T : u_T) (N : Nat), CL[ci]? = some (C, T, N) → (∀ w ∈ u_ws C T N, w ∈ TB) ∧ (∀ k, k < N → parseFieldDescriptor (T k).2.2.1 = some (TY ci k)) ∧ (∀ a, a < N → ∀ b, b < N → a ≠ b → (T a).2.1 ≠ (T b).2.1)) ∧
  (∀ (q t n : Nat), S[q]? = some (t + 3, n) → ∃ (C : String) (T : u_T), CL[t]? = some (C, T, n))
def mj_Go (p : Program) (l : Launch) (e : Env) (s : State) (m : MethodId) (args : Array Value) (below : List Frame) (meth : Method) (c : Code) (CL : List vw_C) (TY : Nat → Nat → FieldType) (S : mj_S) (Dg : va_G) (T3 : Nat × Nat × Nat) (ad : Nat → Nat) (nL D : Nat) (rr : mj_R) (pc : Nat) (L : mj_L) (st : List Value) (h : mj_H) : Prop :=
  ∀ (H : Heap) (locs : List Loc) (ls : Array Slot), va_P Dg CL (mj_W S TY T3 ad h) H → va_S (mj_A ad S.length s.heap.size) s.heap H locs → lv_has ls nL (mj_tl ad L) →
    W p l e (mj_rm D) s m args below meth c H locs 0 0 (MQ below (mj_Qc CL TY S Dg T3 ad rr s.heap.size) args s 0 0 (mj_A ad S.length s.heap.size)) (F0 m pc ls (st.map (mj_tr ad)))
theorem mj_lays {C : String} {T : u_T} {N : Nat} (h : ∀ w ∈ u_ws C T N, w ∈ TB) : ∀ w ∈ u_ws C T N, w ∈ TB.filter goodWord := by
  intro w hw
  refine mj_good_in (h w hw) ?_
  obtain ⟨k, -, rfl⟩ := List.mem_map.mp hw
  unfold u_lay
  split <;> rfl
theorem mj_getf (X : mj_Cx p s m args meth c TB CL S Dg T3 ad cc nL own rt) (Y : mj_Cs TB CL TY S) {x a b n q pc : Nat} {L : mj_L} {r : List Value} {h : mj_H} {u : Value}
    (hF : mj_okF TB CL own x a b) (hq : S[q]? = some (a + 3, n)) (hb : b < n) (hdg : decode cc pc = .ok (.getfield x, 3)) (hu : mj_tr ad u = mj_fv ad h q b (mj_tc (TY a b)))
    (k : mj_Go p l e s m args below meth c CL TY S Dg T3 ad nL D rr (pc + 3) L (u :: r) h) : mj_Go p l e s m args below meth c CL TY S Dg T3 ad nL D rr pc L (.ref q :: r) h := by
  intro H locs ls hP hS hl
  obtain ⟨hx, hbc, hml, hown, hts, hK, hN, hinj, -⟩ := X
  obtain ⟨C, T, N, hc, hbN, hlk⟩ := hF
  have hk := k H locs ls hP hS hl
  have he := mj_W_at (TY := TY) (T3 := T3) (ad := ad) (h := h) hq
  have hv : ((List.range n).map (fun k => mj_fv ad h q k (mj_tc (TY a k))))[b]? = some (mj_tr ad u) := by rw [hu]; exact mj_fs_at hb
  rcases hlk with hlk | ⟨host, hlk⟩
  · exact va_get hx hbc hts (mj_lays (Y.1 a C T N hc).1) hown hK hP q he hc b hbN (hts _ (mj_good_in hlk rfl)) (fun _ h9 => h9) hv hdg hk
  · exact va_getN hx hbc hts (mj_lays (Y.1 a C T N hc).1) hown hK hP q he hc b hbN (va_Nw.use rfl (hN _ hlk rfl)) (fun _ h9 => h9) hv hdg hk
theorem mj_putf (X : mj_Cx p s m args meth c TB CL S Dg T3 ad cc nL own rt) (Y : mj_Cs TB CL TY S) {x a b n q pc : Nat} {L : mj_L} {r : List Value} {h h' : mj_H} {u : Value}
    (hF : mj_okF TB CL own x a b) (hfin : ∃ q, CL[a]? = some q ∧ (q.2.1 b).2.2.2 = false) (hq : S[q]? = some (a + 3, n)) (hb : b < n) (hdg : decode cc pc = .ok (.putfield x, 3))
    (hnar : narrow (TY a b) (mj_tr ad u) = mj_tr ad u) (hfit : fits (TY a b) (mj_tr ad u) = true)
    (hu : ∀ k, mj_fv ad h' q k (mj_tc (TY a k)) = if k = b then mj_tr ad u else mj_fv ad h q k (mj_tc (TY a k))) (ho : ∀ k, k ≠ q → ∀ y, mj_ce TY T3 ad h' k y = mj_ce TY T3 ad h k y)
    (k : mj_Go p l e s m args below meth c CL TY S Dg T3 ad nL D rr (pc + 3) L r h') : mj_Go p l e s m args below meth c CL TY S Dg T3 ad nL D rr pc L (u :: .ref q :: r) h := by
  intro H locs ls hP hS hl
  obtain ⟨hx, hbc, hml, hown, hts, hK, hN, hinj, -⟩ := X
  obtain ⟨C, T, N, hc, hbN, hlk⟩ := hF
  obtain ⟨q9, hq9, hfin⟩ := hfin
  have e9 : q9 = (C, T, N) := Option.some.inj (hq9.symm.trans hc)
  subst e9
  have he := mj_W_at (TY := TY) (T3 := T3) (ad := ad) (h := h) hq
  have hD := mj_W_D (S := S) (TY := TY) (T3 := T3) (ad := ad) (h := h) (sz := s.heap.size) hinj
  have hlen : b < ((List.range n).map (fun k => mj_fv ad h q k (mj_tc (TY a k)))).length := by simpa using hb
  have hset : (mj_W S TY T3 ad h).set q (ad q, .inr (a, ((List.range n).map (fun k => mj_fv ad h q k (mj_tc (TY a k)))).set b (mj_tr ad u))) = mj_W S TY T3 ad h' := by
    rw [mj_fs_set (g := fun k => mj_fv ad h' q k (mj_tc (TY a k))) (by rw [hu b, if_pos rfl]) (fun k hk => by rw [hu k, if_neg hk])]
    exact mj_W_set (z := (a + 3, n)) hq ho
  have kk : ∀ (H1 : Heap) (locs1 : List Loc), va_P Dg CL ((mj_W S TY T3 ad h).set q (ad q, .inr (a, ((List.range n).map (fun k => mj_fv ad h q k (mj_tc (TY a k)))).set b (mj_tr ad u)))) H1 → va_D (mj_A ad S.length s.heap.size) ((mj_W S TY T3 ad h).set q (ad q, .inr (a, ((List.range n).map (fun k => mj_fv ad h q k (mj_tc (TY a k)))).set b (mj_tr ad u)))) → va_S (mj_A ad S.length s.heap.size) s.heap H1 locs1 → W p l e (mj_rm D) s m args below meth c H1 locs1 0 0 (MQ below (mj_Qc CL TY S Dg T3 ad rr s.heap.size) args s 0 0 (mj_A ad S.length s.heap.size)) (F0 m (pc + 3) ls (r.map (mj_tr ad))) :=
    fun H1 locs1 g1 g2 g3 => k H1 locs1 ls (hset ▸ g1) g3 hl
  rcases hlk with hlk | ⟨host, hlk⟩
  · exact va_put hx hbc hts (mj_lays (Y.1 a C T N hc).1) (TY a) (Y.1 a C T N hc).2.1 (Y.1 a C T N hc).2.2 hown hK hP hD hS q he hc b hbN (hts _ (mj_good_in hlk rfl)) (fun _ h9 => h9) hfin ((Y.1 a C T N hc).2.1 b hbN) hnar hfit hlen hdg kk
  · exact va_putN hx hbc hts (mj_lays (Y.1 a C T N hc).1) (TY a) (Y.1 a C T N hc).2.1 (Y.1 a C T N hc).2.2 hown hK hP hD hS q he hc b hbN (va_Nw.use rfl (hN _ hlk rfl)) (fun _ h9 => h9) hfin ((Y.1 a C T N hc).2.1 b hbN) hnar hfit hlen hdg kk
/-- behind a call -/
theorem mj_back {rc : mj_R} {H : Heap} {locs : List Loc} {pc : Nat} {ls : Array Slot} {st0 rest : List Value} {a : Array Value}
    (hr : va_Run p l e (mj_rm D) s m args below meth c H locs 0 0 0 0 (F0 m pc ls st0) rest (mj_Qc CL TY S Dg T3 ad rc H.size a) (mj_A ad S.length H.size)) (hS : va_S (mj_A ad S.length s.heap.size) s.heap H locs)
    (kk : ∀ (H1 : Heap) (locs1 : List Loc), va_P Dg CL (mj_W S TY T3 ad rc.2) H1 → va_S (mj_A ad S.length s.heap.size) s.heap H1 locs1 → W p l e (mj_rm D) s m args below meth c H1 locs1 0 0 (MQ below (mj_Qc CL TY S Dg T3 ad rr s.heap.size) args s 0 0 (mj_A ad S.length s.heap.size)) (F0 m (pc + 3) ls ((mj_rv ad rc.1).toList ++ rest))) :
    W p l e (mj_rm D) s m args below meth c H locs 0 0 (MQ below (mj_Qc CL TY S Dg T3 ad rr s.heap.size) args s 0 0 (mj_A ad S.length s.heap.size)) (F0 m pc ls st0) := by
  have hA : ∀ q, q < H.size → mj_A ad S.length H.size q → mj_A ad S.length s.heap.size q := by
    intro q hq h
    rcases h with h | h
    · exact Or.inl h
    · omega
  have hf : ∀ q, mj_A ad S.length H.size q → mj_A ad S.length s.heap.size q := by
    intro q h
    rcases h with h | h
    · exact Or.inl h
    · exact Or.inr (Nat.le_trans hS.1 h)
  intro T hT X
  obtain ⟨v, st₀, t, T', L, h0, X', hL, e1, e2, ⟨hv, hp, hz, hk⟩, st⟩ := hr T hT X
  cases hv
  rw [h0] at hz hk
  obtain ⟨t2, a1, b1⟩ := kk T'.heap (locs ++ L) (by rw [e1]; exact hp)
    ⟨Nat.le_trans hS.1 (by rw [e1]; exact hz), fun q h1 h2 => by rw [e1, hk q (Nat.lt_of_lt_of_le h1 hS.1) (fun z => h2 (hA q (Nat.lt_of_lt_of_le h1 hS.1) z))]; exact hS.2.1 q h1 h2, fun q hq => by
      rcases List.mem_append.mp hq with h | h
      · exact hS.2.2 q h
      · exact hf _ (hL q h)⟩ T' rfl X'
  exact ⟨t2, st t2 a1, b1⟩
theorem mj_room {D nL : Nat} (h : nL ≤ 40) : (mj_rm D).frames + 1 ≤ (mj_rm (D + 1)).frames ∧ 8 + (nL + 11) + (mj_rm D).locals ≤ (mj_rm (D + 1)).locals := by
  simp only [mj_rm]
  omega
theorem mj_pre {z : mj_M} (X : mj_Cx p s m args meth c TB CL S Dg T3 ad cc nL own rt) {as : List Value} {h : mj_H} {H : Heap} {locs : List Loc} (hP : va_P Dg CL (mj_W S TY T3 ad h) H) (hS : va_S (mj_A ad S.length s.heap.size) s.heap H locs) : ∀ U : State, U.heap = H → s.WarmedH U.vm → mj_Pc TB CL TY S Dg T3 ad as h H.size (as.map (mj_tr ad)).toArray U := by
  obtain ⟨hx, hbc, hml, hown, hts, hK, hN, hinj, hlk, hrt, hMO⟩ := X
  exact fun U hU hW => ⟨rfl, by rw [hU], by rw [hU]; exact hP, va_K.moved hW.alike hK, mj_nw hW hN, by
    rw [hU]
    exact mj_MO.moved hW.alike ((hMO.kept hS.2.1).narrow fun q h => by
      rcases h with h | h
      · exact Or.inl h
      · exact Or.inr (Nat.le_trans hS.1 h))⟩
end MJS
