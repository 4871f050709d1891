/-! a code table is checked by a program -/
/-- what a class' pool holds: fields (place, class, slot, final), virtual calls (place, method, arguments, receiver's class + 1), static calls (place, method, arguments), ints, longs, copies of arrays -/
abbrev mj_Q : Type := List (Nat × Nat × Nat × Bool) × List (Nat × Nat × Nat × Nat) × List (Nat × Nat × Nat) × List (Nat × Int32) × List (Nat × Int64) × List Nat
def mj_okQ (TB : List Cond) (CL : List vw_C) (MS : Nat → mj_M) (own : String) (P : mj_Q) : Prop :=
  (∀ r ∈ P.1, mj_okF TB CL own r.1 r.2.1 r.2.2.1 ∧ (r.2.2.2 = false → ∃ q, CL[r.2.1]? = some q ∧ (q.2.1 r.2.2.1).2.2.2 = false)) ∧
  (∀ r ∈ P.2.1, mj_okV TB CL own r.1 (MS r.2.1) r.2.2.1 r.2.2.2) ∧ (∀ r ∈ P.2.2.1, mj_okS TB own r.1 (MS r.2.1) r.2.2) ∧ (∀ r ∈ P.2.2.2.1, Cond.constant own r.1 r.2 ∈ TB) ∧ (∀ r ∈ P.2.2.2.2.1, Cond.constantLong own r.1 r.2 ∈ TB) ∧ (∀ x ∈ P.2.2.2.2.2, mj_okC TB own x)
def mj_ckT (pc : Nat) (lo hi : Int) (offs : Array Int) (sw : List (Int32 × Nat)) : Bool :=
  decide (lo + sw.length = hi + 1) && (List.range sw.length).all (fun k => decide ((sw.getD k (0, 0)).1.toInt = lo + k) && decide (offs[k]? = some (((sw.getD k (0, 0)).2 : Int) - pc)))
def mj_ckI (TY : Nat → Nat → FieldType) (P : mj_Q) (nL : Nat) (rt : Option FieldType) (pc : Nat) (e : mj_E) : Bool :=
  match e.1 with
  | .iconst n => decide (e.2.1 = 1 ∧ Int32.ofInt n = e.2.2.2.1)
  | .bipush n => decide (e.2.1 = 2 ∧ (Int8.ofInt n).toInt32 = e.2.2.2.1)
  | .sipush n => decide (e.2.1 = 3 ∧ (Int16.ofInt n).toInt32 = e.2.2.2.1)
  | .ldc x => decide (e.2.1 = 2) && P.2.2.2.1.any (fun r => decide (r = (x, e.2.2.2.1)))
  | .ldc_w x => decide (e.2.1 = 3) && P.2.2.2.1.any (fun r => decide (r = (x, e.2.2.2.1)))
  | .lconst n => decide (e.2.1 = 1 ∧ Int64.ofNat n.val = e.2.2.2.2.1)
  | .ldc2_w x => decide (e.2.1 = 3) && P.2.2.2.2.1.any (fun r => decide (r = (x, e.2.2.2.2.1)))
  | .iload _ => decide (e.2.1 = 2)
  | .lload _ => decide (e.2.1 = 2)
  | .aload _ => decide (e.2.1 = 2)
  | .istore_n n => decide (e.2.1 = 1 ∧ n.val < nL)
  | .astore_n n => decide (e.2.1 = 1 ∧ n.val < nL)
  | .lstore_n n => decide (e.2.1 = 1 ∧ n.val + 1 < nL)
  | .istore n => decide (e.2.1 = 2 ∧ n < nL)
  | .astore n => decide (e.2.1 = 2 ∧ n < nL)
  | .lstore n => decide (e.2.1 = 2 ∧ n + 1 < nL)
  | .iinc n x => decide (e.2.1 = 3 ∧ n < nL ∧ Int32.ofInt x = e.2.2.2.1)
  | .getfield x => decide (e.2.1 = 3 ∧ mj_tc (TY e.2.2.1.1 e.2.2.1.2.1) = e.2.2.1.2.2.1) && P.1.any (fun r => decide (r.1 = x ∧ r.2.1 = e.2.2.1.1 ∧ r.2.2.1 = e.2.2.1.2.1))
  | .putfield x => decide (e.2.1 = 3 ∧ mj_tc (TY e.2.2.1.1 e.2.2.1.2.1) = e.2.2.1.2.2.1 ∧ e.2.2.1.2.2.1 < 4) && P.1.any (fun r => decide (r.1 = x ∧ r.2.1 = e.2.2.1.1 ∧ r.2.2.1 = e.2.2.1.2.1 ∧ r.2.2.2 = false))
  | .goto off => decide (e.2.1 = 3 ∧ (pc : Int) + off = (e.2.2.1.1 : Int))
  | .ifCond _ off => decide (e.2.1 = 3 ∧ (pc : Int) + off = (e.2.2.1.1 : Int))
  | .if_icmp _ off => decide (e.2.1 = 3 ∧ (pc : Int) + off = (e.2.2.1.1 : Int))
  | .tableswitch df lo hi offs => decide ((pc : Int) + df = (e.2.2.1.1 : Int)) && mj_ckT pc lo hi offs e.2.2.2.2.2
  | .lookupswitch df ps => decide ((pc : Int) + df = (e.2.2.1.1 : Int)) && ((ps.toList.zip (ps.toList.drop 1)).all (fun (a, next) => a.1 < next.1) && decide (ps.toList = e.2.2.2.2.2.map (fun q => (q.1.toInt, (q.2 : Int) - pc))))
  | .invokevirtual x => decide (e.2.1 = 3) && P.2.1.any (fun r => decide (r = (x, e.2.2.1.1, e.2.2.1.2.1, e.2.2.1.2.2.2)))
  | .invokestatic x => decide (e.2.1 = 3) && ((decide (e.2.2.1.1 = 999) && P.2.2.2.2.2.any (fun r => decide (r = x))) || (decide (e.2.2.1.1 ≠ 999) && P.2.2.1.any (fun r => decide (r = (x, e.2.2.1.1, e.2.2.1.2.1)))))
  | .ireturn => decide (e.2.1 = 1 ∧ rt = some (match e.2.2.1.1 with | 0 => .int | _ => .boolean))
  | .lreturn => decide (e.2.1 = 1 ∧ rt = some .long)
  | .areturn => decide (e.2.1 = 1) && (match rt with | some (.object _) => true | _ => false)
  | .return_ => decide (e.2.1 = 1 ∧ rt = none)
  | _ => decide (e.2.1 = 1)
def mj_ckB (TY : Nat → Nat → FieldType) (P : mj_Q) (cc : ByteArray) (nL : Nat) (rt : Option FieldType) : List mj_E → Nat → Bool
  | [], _ => true
  | e :: r, pc => (decide (decode cc pc = .ok (e.1, e.2.1)) && mj_ckI TY P nL rt pc e) && mj_ckB TY P cc nL rt r (pc + e.2.1)
def mj_ckM (TY : Nat → Nat → FieldType) (P : mj_Q) (cc : ByteArray) (nL : Nat) (rt : Option FieldType) (C : mj_C) : Bool :=
  decide (C.2.2 = nL) && C.1.all (fun b => mj_ckB TY P cc nL rt b.2 b.1)
theorem mj_any {α : Type} {L : List α} {f : α → Bool} (h : L.any f = true) : ∃ r ∈ L, f r = true := by
  simpa using h
set_option maxHeartbeats 4000000 in
theorem mj_ckI_ok {TB : List Cond} {CL : List vw_C} {TY : Nat → Nat → FieldType} {MS : Nat → mj_M} {P : mj_Q} {own : String} {nL : Nat} {rt : Option FieldType} {pc : Nat} {e : mj_E} (hP : mj_okQ TB CL MS own P) (h : mj_ckI TY P nL rt pc e = true) : mj_okI TB CL TY MS own nL rt pc e := by
  obtain ⟨i, len, ⟨a, b, c, d⟩, v, w, sw⟩ := e
  obtain ⟨hF, hV, hSt, hC, hL, hA⟩ := hP
  cases i with
  | ldc x =>
    simp only [mj_ckI, Bool.and_eq_true, decide_eq_true_eq] at h
    obtain ⟨h1, h2⟩ := h
    obtain ⟨r, hr, h3⟩ := mj_any h2
    have h4 := hC r hr
    rw [of_decide_eq_true h3] at h4
    exact ⟨h1, h4⟩
  | ldc_w x =>
    simp only [mj_ckI, Bool.and_eq_true, decide_eq_true_eq] at h
    obtain ⟨h1, h2⟩ := h
    obtain ⟨r, hr, h3⟩ := mj_any h2
    have h4 := hC r hr
    rw [of_decide_eq_true h3] at h4
    exact ⟨h1, h4⟩
  | ldc2_w x =>
    simp only [mj_ckI, Bool.and_eq_true, decide_eq_true_eq] at h
    obtain ⟨h1, h2⟩ := h
    obtain ⟨r, hr, h3⟩ := mj_any h2
    have h4 := hL r hr
    rw [of_decide_eq_true h3] at h4
    exact ⟨h1, h4⟩
  | getfield x =>
    simp only [mj_ckI, Bool.and_eq_true, decide_eq_true_eq] at h
    obtain ⟨⟨h1, h2⟩, h3⟩ := h
    obtain ⟨r, hr, h4⟩ := mj_any h3
    obtain ⟨e1, e2, e3⟩ := of_decide_eq_true h4
    have h5 := (hF r hr).1
    rw [e1, e2, e3] at h5
    exact ⟨h1, h5, h2⟩
  | putfield x =>
    simp only [mj_ckI, Bool.and_eq_true, decide_eq_true_eq] at h
    obtain ⟨⟨h1, h2, h6⟩, h3⟩ := h
    obtain ⟨r, hr, h4⟩ := mj_any h3
    obtain ⟨e1, e2, e3, e4⟩ := of_decide_eq_true h4
    have h5 := hF r hr
    rw [e1, e2, e3] at h5
    exact ⟨h1, h5.1, h2, h6, h5.2 e4⟩
  | tableswitch df lo hi offs =>
    simp only [mj_ckI, mj_ckT, Bool.and_eq_true, decide_eq_true_eq, List.all_eq_true] at h
    exact ⟨h.1, h.2.1, fun k hk => h.2.2 k (List.mem_range.mpr hk)⟩
  | lookupswitch df ps =>
    simp only [mj_ckI, Bool.and_eq_true, decide_eq_true_eq] at h
    exact ⟨h.1, h.2.1, h.2.2⟩
  | invokevirtual x =>
    simp only [mj_ckI, Bool.and_eq_true, decide_eq_true_eq] at h
    obtain ⟨h1, h2⟩ := h
    obtain ⟨r, hr, h3⟩ := mj_any h2
    have h4 := hV r hr
    rw [of_decide_eq_true h3] at h4
    exact ⟨h1, h4⟩
  | invokestatic x =>
    simp only [mj_ckI, Bool.and_eq_true, Bool.or_eq_true, decide_eq_true_eq] at h
    obtain ⟨h1, ⟨h2, h3⟩ | ⟨h2, h3⟩⟩ := h
    · obtain ⟨r, hr, h4⟩ := mj_any h3
      have h5 := hA r hr
      rw [of_decide_eq_true h4] at h5
      exact ⟨h1, Or.inl ⟨h2, h5⟩⟩
    · obtain ⟨r, hr, h4⟩ := mj_any h3
      have h5 := hSt r hr
      rw [of_decide_eq_true h4] at h5
      exact ⟨h1, Or.inr ⟨h2, h5⟩⟩
  | areturn =>
    simp only [mj_ckI, Bool.and_eq_true, decide_eq_true_eq] at h
    obtain ⟨h1, h2⟩ := h
    refine ⟨h1, ?_⟩
    split at h2
    · exact ⟨_, rfl⟩
    · cases h2
  | _ =>
    simp only [mj_ckI, decide_eq_true_eq] at h
    exact h
theorem mj_ckB_ok {TB : List Cond} {CL : List vw_C} {TY : Nat → Nat → FieldType} {MS : Nat → mj_M} {P : mj_Q} {own : String} {cc : ByteArray} {nL : Nat} {rt : Option FieldType} (hP : mj_okQ TB CL MS own P) : ∀ (b : List mj_E) (pc : Nat), mj_ckB TY P cc nL rt b pc = true → mj_okB TB CL TY MS own cc nL rt b pc
  | [], _, _ => trivial
  | e :: r, pc, h => by
    simp only [mj_ckB, Bool.and_eq_true, decide_eq_true_eq] at h
    exact ⟨⟨h.1.1, mj_ckI_ok hP h.1.2⟩, mj_ckB_ok hP r _ h.2⟩
theorem mj_ckM_ok {TB : List Cond} {CL : List vw_C} {TY : Nat → Nat → FieldType} {MS : Nat → mj_M} {P : mj_Q} {y : mj_M} {C : mj_C} (hP : mj_okQ TB CL MS y.1.cls P) (hY : mj_okY TB y) (h : mj_ckM TY P y.2.1 y.2.2.1 y.2.2.2 C = true) : mj_okM TB CL TY MS y C := by
  simp only [mj_ckM, Bool.and_eq_true, decide_eq_true_eq, List.all_eq_true] at h
  exact ⟨hY, h.1, fun b hb => mj_ckB_ok hP _ _ (h.2 b hb)⟩
-- short forms for the tables
def o0 (i : Jvm.ClassFile.Instr) (len : Nat) : mj_E := (i, len, (0, 0, 0, 0), 0, 0, [])
def oV (i : Jvm.ClassFile.Instr) (len : Nat) (v : Int32) : mj_E := (i, len, (0, 0, 0, 0), v, 0, [])
def oW (i : Jvm.ClassFile.Instr) (len : Nat) (w : Int64) : mj_E := (i, len, (0, 0, 0, 0), 0, w, [])
def oA (i : Jvm.ClassFile.Instr) (len a : Nat) : mj_E := (i, len, (a, 0, 0, 0), 0, 0, [])
def oF (i : Jvm.ClassFile.Instr) (len a b c : Nat) : mj_E := (i, len, (a, b, c, 0), 0, 0, [])
def oM (i : Jvm.ClassFile.Instr) (len a b c d : Nat) : mj_E := (i, len, (a, b, c, d), 0, 0, [])
def oT (i : Jvm.ClassFile.Instr) (len a : Nat) (sw : List (Int32 × Nat)) : mj_E := (i, len, (a, 0, 0, 0), 0, 0, sw)
