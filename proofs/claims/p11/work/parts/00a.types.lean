/-! THE SMALL MACHINE: what its tables are, and what is checked of them -/
abbrev mj_H : Type := (Nat → Nat → Int32) × (Nat → Nat → Int64) × (Nat → Nat → Nat)
abbrev mj_L : Type := List (Nat × Value)
abbrev mj_R : Type := Value × mj_H
abbrev mj_S : Type := List (Nat × Nat)
/-- an instruction as decoded, its length, four operands, an int, a long, the cases of a switch -/
abbrev mj_E : Type := Jvm.ClassFile.Instr × Nat × (Nat × Nat × Nat × Nat) × Int32 × Int64 × List (Int32 × Nat)
/-- a method's blocks by their first pc; the pcs where a walk halts, with the locals that go on living; how many locals -/
abbrev mj_C : Type := List (Nat × List mj_E) × List (Nat × List Nat) × Nat
abbrev mj_M : Type := MethodName × ByteArray × Nat × Option FieldType
/-- a field's kind: 0 int, 1 long, 2 a cell, 3 boolean -/
def mj_tc : FieldType → Nat
  | .int => 0
  | .long => 1
  | .object _ => 2
  | .array _ => 2
  | .boolean => 3
  | _ => 9
def mj_floatDescs : List String := ["(D)D", "(DD)D", "(DDD)D", "(F)F", "(FF)F", "(FFF)F"]
theorem mj_mathRows : (Jvm.natives.all fun r => r.cls != "java/lang/Math" || mj_floatDescs.contains r.desc) = true := by decide +kernel
theorem mj_mathPlain {x : MethodName} (hc : x.cls = "java/lang/Math") (hd : mj_floatDescs.contains x.desc = false) : plainFor x = true := by
  unfold plainFor
  rw [Bool.or_eq_true]; right
  rw [Option.isNone_iff_eq_none, NativeRow.find?, List.find?_eq_none]
  intro r hr h
  have := List.all_eq_true.mp mj_mathRows r hr
  simp only [Bool.and_eq_true, beq_iff_eq] at h
  rw [h.1.2, h.2, hc, hd] at this
  simp at this
-- what a table must keep
def mj_okF (TB : List Cond) (CL : List vw_C) (own : String) (x ci k : Nat) : Prop :=
  ∃ (C : String) (T : u_T) (N : Nat), CL[ci]? = some (C, T, N) ∧ k < N ∧ (Cond.fieldLink own x (T k).1 (T k).2.1 (T k).2.2.1 ∈ TB ∨ ∃ host : String, Cond.fieldLinkNest own x (T k).1 (T k).2.1 (T k).2.2.1 host ∈ TB)
def mj_okY (TB : List Cond) (y : mj_M) : Prop := Cond.code y.1 y.2.1 y.2.2.1 y.2.2.2 ∈ TB ∧ Cond.initialized y.1.cls ∈ TB ∧ y.2.2.1 ≤ 40 ∧ plainFor y.1 = true ∧ y.1.cls ≠ "java/lang/invoke/MethodHandle" ∧ y.1.cls ≠ "java/lang/invoke/VarHandle"
def mj_okV (TB : List Cond) (CL : List vw_C) (own : String) (x : Nat) (y : mj_M) (n d : Nat) : Prop :=
  (Cond.methodLink own x y.1 ∈ TB ∨ ∃ host : String, Cond.methodLinkNest own x y.1 host ∈ TB) ∧ Cond.instanceMethod y.1 ∈ TB ∧ Cond.selects y.1.cls y.1 y.1 ∈ TB ∧ (∃ (ci : Nat) (T : u_T) (N : Nat), d = ci + 1 ∧ CL[ci]? = some (y.1.cls, T, N)) ∧ (∃ k, n = k + 1 ∧ (parseMethodDescriptor y.1.desc).map (fun d => d.parameters.length) = some k) ∧ mj_okY TB y
def mj_okS (TB : List Cond) (own : String) (x : Nat) (y : mj_M) (n : Nat) : Prop :=
  (Cond.methodLink own x y.1 ∈ TB ∨ ∃ host : String, Cond.methodLinkNest own x y.1 host ∈ TB) ∧ Cond.static y.1 ∈ TB ∧ (parseMethodDescriptor y.1.desc).map (fun d => d.parameters.length) = some n ∧ mj_okY TB y
def mj_okC (TB : List Cond) (own : String) (x : Nat) : Prop := Cond.methodLink own x arraycopyName ∈ TB ∧ Cond.native arraycopyName ∈ TB ∧ Cond.static arraycopyName ∈ TB ∧ Cond.initialized "java/lang/System" ∈ TB
def mj_okG (TB : List Cond) (own : String) (x : Nat) : Prop := Cond.fieldLink own x "UnbeatenHouse" "MOST" "[I" ∈ TB ∨ ∃ host : String, Cond.fieldLinkNest own x "UnbeatenHouse" "MOST" "[I" host ∈ TB
def mj_okI (TB : List Cond) (CL : List vw_C) (TY : Nat → Nat → FieldType) (MS : Nat → mj_M) (own : String) (nL : Nat) (rt : Option FieldType) (pc : Nat) (e : mj_E) : Prop :=
  match e.1, e.2.1, e.2.2.1.1, e.2.2.1.2.1, e.2.2.1.2.2.1, e.2.2.1.2.2.2, e.2.2.2.1, e.2.2.2.2.1, e.2.2.2.2.2 with
  | .iconst n, len, _, _, _, _, v, _, _ => len = 1 ∧ Int32.ofInt n = v
  | .bipush n, len, _, _, _, _, v, _, _ => len = 2 ∧ (Int8.ofInt n).toInt32 = v
  | .sipush n, len, _, _, _, _, v, _, _ => len = 3 ∧ (Int16.ofInt n).toInt32 = v
  | .ldc x, len, _, _, _, _, v, _, _ => len = 2 ∧ Cond.constant own x v ∈ TB
  | .ldc_w x, len, _, _, _, _, v, _, _ => len = 3 ∧ Cond.constant own x v ∈ TB
  | .lconst n, len, _, _, _, _, _, w, _ => len = 1 ∧ Int64.ofNat n.val = w
  | .ldc2_w x, len, _, _, _, _, _, w, _ => len = 3 ∧ Cond.constantLong own x w ∈ TB
  | .iload _, len, _, _, _, _, _, _, _ => len = 2
  | .lload _, len, _, _, _, _, _, _, _ => len = 2
  | .aload _, len, _, _, _, _, _, _, _ => len = 2
  | .istore_n n, len, _, _, _, _, _, _, _ => len = 1 ∧ n.val < nL
  | .astore_n n, len, _, _, _, _, _, _, _ => len = 1 ∧ n.val < nL
  | .lstore_n n, len, _, _, _, _, _, _, _ => len = 1 ∧ n.val + 1 < nL
  | .istore n, len, _, _, _, _, _, _, _ => len = 2 ∧ n < nL
  | .astore n, len, _, _, _, _, _, _, _ => len = 2 ∧ n < nL
  | .lstore n, len, _, _, _, _, _, _, _ => len = 2 ∧ n + 1 < nL
  | .iinc n x, len, _, _, _, _, v, _, _ => len = 3 ∧ n < nL ∧ Int32.ofInt x = v
  | .getfield x, len, a, b, c, _, _, _, _ => len = 3 ∧ mj_okF TB CL own x a b ∧ mj_tc (TY a b) = c
  | .putfield x, len, a, b, c, _, _, _, _ => len = 3 ∧ mj_okF TB CL own x a b ∧ mj_tc (TY a b) = c ∧ c < 4 ∧ (∃ q, CL[a]? = some q ∧ (q.2.1 b).2.2.2 = false)
  | .getstatic x, len, _, _, _, _, _, _, _ => len = 3 ∧ mj_okG TB own x
  | .goto off, len, a, _, _, _, _, _, _ => len = 3 ∧ (pc : Int) + off = (a : Int)
  | .ifCond _ off, len, a, _, _, _, _, _, _ => len = 3 ∧ (pc : Int) + off = (a : Int)
  | .if_icmp _ off, len, a, _, _, _, _, _, _ => len = 3 ∧ (pc : Int) + off = (a : Int)
  | .tableswitch df lo hi offs, _, a, _, _, _, _, _, sw => (pc : Int) + df = (a : Int) ∧ lo + sw.length = hi + 1 ∧ ∀ k, k < sw.length → (sw.getD k (0, 0)).1.toInt = lo + k ∧ offs[k]? = some (((sw.getD k (0, 0)).2 : Int) - pc)
  | .lookupswitch df ps, _, a, _, _, _, _, _, sw => (pc : Int) + df = (a : Int) ∧ (ps.toList.zip (ps.toList.drop 1)).all (fun (a, next) => a.1 < next.1) = true ∧ ps.toList = sw.map (fun q => (q.1.toInt, (q.2 : Int) - pc))
  | .invokevirtual x, len, a, b, _, d, _, _, _ => len = 3 ∧ mj_okV TB CL own x (MS a) b d
  | .invokestatic x, len, a, b, _, _, _, _, _ => len = 3 ∧ ((a = 999 ∧ mj_okC TB own x) ∨ (a ≠ 999 ∧ mj_okS TB own x (MS a) b))
  | .ireturn, len, a, _, _, _, _, _, _ => len = 1 ∧ rt = some (match a with | 0 => .int | _ => .boolean)
  | .lreturn, len, _, _, _, _, _, _, _ => len = 1 ∧ rt = some .long
  | .areturn, len, _, _, _, _, _, _, _ => len = 1 ∧ ∃ n, rt = some (.object n)
  | .return_, len, _, _, _, _, _, _, _ => len = 1 ∧ rt = none
  | _, len, _, _, _, _, _, _, _ => len = 1
/-- every instruction of a block, from its pc on -/
def mj_okB (TB : List Cond) (CL : List vw_C) (TY : Nat → Nat → FieldType) (MS : Nat → mj_M) (own : String) (cc : ByteArray) (nL : Nat) (rt : Option FieldType) : List mj_E → Nat → Prop
  | [], _ => True
  | e :: r, pc => (decode cc pc = .ok (e.1, e.2.1) ∧ mj_okI TB CL TY MS own nL rt pc e) ∧ mj_okB TB CL TY MS own cc nL rt r (pc + e.2.1)
def mj_okM (TB : List Cond) (CL : List vw_C) (TY : Nat → Nat → FieldType) (MS : Nat → mj_M) (y : mj_M) (C : mj_C) : Prop :=
  mj_okY TB y ∧ C.2.2 = y.2.2.1 ∧ ∀ b ∈ C.1, mj_okB TB CL TY MS y.1.cls y.2.1 y.2.2.1 y.2.2.2 b.2 b.1
/-- what a class' pool holds: fields (place, class, slot, final), virtual calls (place, method, arguments, receiver's class + 1), static calls (place, method, arguments), ints, longs, copies of arrays -/
abbrev mj_Q : Type := List (Nat × Nat × Nat × Bool) × List (Nat × Nat × Nat × Nat) × List (Nat × Nat × Nat) × List (Nat × Int32) × List (Nat × Int64) × List Nat × List Nat
def mj_okQ (TB : List Cond) (CL : List vw_C) (MS : Nat → mj_M) (own : String) (P : mj_Q) : Prop :=
  (∀ r ∈ P.1, mj_okF TB CL own r.1 r.2.1 r.2.2.1 ∧ (r.2.2.2 = false → ∃ q, CL[r.2.1]? = some q ∧ (q.2.1 r.2.2.1).2.2.2 = false)) ∧
  (∀ r ∈ P.2.1, mj_okV TB CL own r.1 (MS r.2.1) r.2.2.1 r.2.2.2) ∧ (∀ r ∈ P.2.2.1, mj_okS TB own r.1 (MS r.2.1) r.2.2) ∧ (∀ r ∈ P.2.2.2.1, Cond.constant own r.1 r.2 ∈ TB) ∧ (∀ r ∈ P.2.2.2.2.1, Cond.constantLong own r.1 r.2 ∈ TB) ∧ (∀ x ∈ P.2.2.2.2.2.1, mj_okC TB own x) ∧ (∀ x ∈ P.2.2.2.2.2.2, mj_okG TB own x)
def mj_ckT (pc : Nat) (lo hi : Int) (offs : Array Int) (sw : List (Int32 × Nat)) : Bool :=
  decide (lo + sw.length = hi + 1) && (List.range sw.length).all (fun k => decide ((sw.getD k (0, 0)).1.toInt = lo + k) && decide (offs[k]? = some (((sw.getD k (0, 0)).2 : Int) - pc)))
def mj_ckI (TY : Nat → Nat → FieldType) (P : mj_Q) (nL : Nat) (rt : Option FieldType) (pc : Nat) (e : mj_E) : Bool :=
  match e.1 with
  | .iconst n => decide (e.2.1 = 1 ∧ Int32.ofInt n = e.2.2.2.1)
  | .bipush n => decide (e.2.1 = 2 ∧ (Int8.ofInt n).toInt32 = e.2.2.2.1)
  | .sipush n => decide (e.2.1 = 3 ∧ (Int16.ofInt n).toInt32 = e.2.2.2.1)
  | .ldc x => decide (e.2.1 = 2) && P.2.2.2.1.any (fun r => decide (r = (x, e.2.2.2.1)))
  | .ldc_w x => decide (e.2.1 = 3) && P.2.2.2.1.any (fun r => decide (r = (x, e.2.2.2.1)))
  | .lconst n => decide (e.2.1 = 1 ∧ Int64.ofNat n.val = e.2.2.2.2.1)
  | .ldc2_w x => decide (e.2.1 = 3) && P.2.2.2.2.1.any (fun r => decide (r = (x, e.2.2.2.2.1)))
  | .iload _ => decide (e.2.1 = 2)
  | .lload _ => decide (e.2.1 = 2)
  | .aload _ => decide (e.2.1 = 2)
  | .istore_n n => decide (e.2.1 = 1 ∧ n.val < nL)
  | .astore_n n => decide (e.2.1 = 1 ∧ n.val < nL)
  | .lstore_n n => decide (e.2.1 = 1 ∧ n.val + 1 < nL)
  | .istore n => decide (e.2.1 = 2 ∧ n < nL)
  | .astore n => decide (e.2.1 = 2 ∧ n < nL)
  | .lstore n => decide (e.2.1 = 2 ∧ n + 1 < nL)
  | .iinc n x => decide (e.2.1 = 3 ∧ n < nL ∧ Int32.ofInt x = e.2.2.2.1)
  | .getfield x => decide (e.2.1 = 3 ∧ mj_tc (TY e.2.2.1.1 e.2.2.1.2.1) = e.2.2.1.2.2.1) && P.1.any (fun r => decide (r.1 = x ∧ r.2.1 = e.2.2.1.1 ∧ r.2.2.1 = e.2.2.1.2.1))
  | .putfield x => decide (e.2.1 = 3 ∧ mj_tc (TY e.2.2.1.1 e.2.2.1.2.1) = e.2.2.1.2.2.1 ∧ e.2.2.1.2.2.1 < 4) && P.1.any (fun r => decide (r.1 = x ∧ r.2.1 = e.2.2.1.1 ∧ r.2.2.1 = e.2.2.1.2.1 ∧ r.2.2.2 = false))
  | .getstatic x => decide (e.2.1 = 3) && P.2.2.2.2.2.2.any (fun r => decide (r = x))
  | .goto off => decide (e.2.1 = 3 ∧ (pc : Int) + off = (e.2.2.1.1 : Int))
  | .ifCond _ off => decide (e.2.1 = 3 ∧ (pc : Int) + off = (e.2.2.1.1 : Int))
  | .if_icmp _ off => decide (e.2.1 = 3 ∧ (pc : Int) + off = (e.2.2.1.1 : Int))
  | .tableswitch df lo hi offs => decide ((pc : Int) + df = (e.2.2.1.1 : Int)) && mj_ckT pc lo hi offs e.2.2.2.2.2
  | .lookupswitch df ps => decide ((pc : Int) + df = (e.2.2.1.1 : Int)) && ((ps.toList.zip (ps.toList.drop 1)).all (fun (a, next) => a.1 < next.1) && decide (ps.toList = e.2.2.2.2.2.map (fun q => (q.1.toInt, (q.2 : Int) - pc))))
  | .invokevirtual x => decide (e.2.1 = 3) && P.2.1.any (fun r => decide (r = (x, e.2.2.1.1, e.2.2.1.2.1, e.2.2.1.2.2.2)))
  | .invokestatic x => decide (e.2.1 = 3) && ((decide (e.2.2.1.1 = 999) && P.2.2.2.2.2.1.any (fun r => decide (r = x))) || (decide (e.2.2.1.1 ≠ 999) && P.2.2.1.any (fun r => decide (r = (x, e.2.2.1.1, e.2.2.1.2.1)))))
  | .ireturn => decide (e.2.1 = 1 ∧ rt = some (match e.2.2.1.1 with | 0 => .int | _ => .boolean))
  | .lreturn => decide (e.2.1 = 1 ∧ rt = some .long)
  | .areturn => decide (e.2.1 = 1) && (match rt with | some (.object _) => true | _ => false)
  | .return_ => decide (e.2.1 = 1 ∧ rt = none)
  | _ => decide (e.2.1 = 1)
def mj_ckB (TY : Nat → Nat → FieldType) (P : mj_Q) (cc : ByteArray) (nL : Nat) (rt : Option FieldType) : List mj_E → Nat → List UInt8 → Bool
  | [], _, _ => true
  | e :: r, pc, l => fd_o (fd_at cc pc l e.1 e.2.1) (fun l2 => mj_ckI TY P nL rt pc e && mj_ckB TY P cc nL rt r (pc + e.2.1) l2)
def mj_ckC (TY : Nat → Nat → FieldType) (P : mj_Q) (cc : ByteArray) (nL : Nat) (rt : Option FieldType) : List (Nat × List mj_E) → Nat → List UInt8 → Bool
  | [], _, _ => true
  | b :: r, p, l => cond (Nat.ble p b.1) (fd_skip (b.1 - p) l (fun l2 => mj_ckB TY P cc nL rt b.2 b.1 l2 && mj_ckC TY P cc nL rt r b.1 l2)) false
def mj_ckM (TY : Nat → Nat → FieldType) (P : mj_Q) (cc : ByteArray) (nL : Nat) (rt : Option FieldType) (C : mj_C) : Bool :=
  decide (C.2.2 = nL) && mj_ckC TY P cc nL rt C.1 0 cc.data.toList
theorem mj_any {α : Type} {L : List α} {f : α → Bool} (h : L.any f = true) : ∃ r ∈ L, f r = true := by
  simpa using h
set_option maxHeartbeats 4000000 in
theorem mj_ckI_ok {TB : List Cond} {CL : List vw_C} {TY : Nat → Nat → FieldType} {MS : Nat → mj_M} {P : mj_Q} {own : String} {nL : Nat} {rt : Option FieldType} {pc : Nat} {e : mj_E} (hP : mj_okQ TB CL MS own P) (h : mj_ckI TY P nL rt pc e = true) : mj_okI TB CL TY MS own nL rt pc e := by
  obtain ⟨i, len, ⟨a, b, c, d⟩, v, w, sw⟩ := e
  obtain ⟨hF, hV, hSt, hC, hL, hA, hG⟩ := hP
  cases i with
  | ldc x =>
    simp only [mj_ckI, Bool.and_eq_true, decide_eq_true_eq] at h
    obtain ⟨h1, h2⟩ := h
    obtain ⟨r, hr, h3⟩ := mj_any h2
    have h4 := hC r hr
    rw [of_decide_eq_true h3] at h4
    exact ⟨h1, h4⟩
  | ldc_w x =>
    simp only [mj_ckI, Bool.and_eq_true, decide_eq_true_eq] at h
    obtain ⟨h1, h2⟩ := h
    obtain ⟨r, hr, h3⟩ := mj_any h2
    have h4 := hC r hr
    rw [of_decide_eq_true h3] at h4
    exact ⟨h1, h4⟩
  | ldc2_w x =>
    simp only [mj_ckI, Bool.and_eq_true, decide_eq_true_eq] at h
    obtain ⟨h1, h2⟩ := h
    obtain ⟨r, hr, h3⟩ := mj_any h2
    have h4 := hL r hr
    rw [of_decide_eq_true h3] at h4
    exact ⟨h1, h4⟩
  | getfield x =>
    simp only [mj_ckI, Bool.and_eq_true, decide_eq_true_eq] at h
    obtain ⟨⟨h1, h2⟩, h3⟩ := h
    obtain ⟨r, hr, h4⟩ := mj_any h3
    obtain ⟨e1, e2, e3⟩ := of_decide_eq_true h4
    have h5 := (hF r hr).1
    rw [e1, e2, e3] at h5
    exact ⟨h1, h5, h2⟩
  | putfield x =>
    simp only [mj_ckI, Bool.and_eq_true, decide_eq_true_eq] at h
    obtain ⟨⟨h1, h2, h6⟩, h3⟩ := h
    obtain ⟨r, hr, h4⟩ := mj_any h3
    obtain ⟨e1, e2, e3, e4⟩ := of_decide_eq_true h4
    have h5 := hF r hr
    rw [e1, e2, e3] at h5
    exact ⟨h1, h5.1, h2, h6, h5.2 e4⟩
  | tableswitch df lo hi offs =>
    simp only [mj_ckI, mj_ckT, Bool.and_eq_true, decide_eq_true_eq, List.all_eq_true] at h
    exact ⟨h.1, h.2.1, fun k hk => h.2.2 k (List.mem_range.mpr hk)⟩
  | lookupswitch df ps =>
    simp only [mj_ckI, Bool.and_eq_true, decide_eq_true_eq] at h
    exact ⟨h.1, h.2.1, h.2.2⟩
  | invokevirtual x =>
    simp only [mj_ckI, Bool.and_eq_true, decide_eq_true_eq] at h
    obtain ⟨h1, h2⟩ := h
    obtain ⟨r, hr, h3⟩ := mj_any h2
    have h4 := hV r hr
    rw [of_decide_eq_true h3] at h4
    exact ⟨h1, h4⟩
  | invokestatic x =>
    simp only [mj_ckI, Bool.and_eq_true, Bool.or_eq_true, decide_eq_true_eq] at h
    obtain ⟨h1, ⟨h2, h3⟩ | ⟨h2, h3⟩⟩ := h
    · obtain ⟨r, hr, h4⟩ := mj_any h3
      have h5 := hA r hr
      rw [of_decide_eq_true h4] at h5
      exact ⟨h1, Or.inl ⟨h2, h5⟩⟩
    · obtain ⟨r, hr, h4⟩ := mj_any h3
      have h5 := hSt r hr
      rw [of_decide_eq_true h4] at h5
      exact ⟨h1, Or.inr ⟨h2, h5⟩⟩
  | getstatic x =>
    simp only [mj_ckI, Bool.and_eq_true, decide_eq_true_eq] at h
    obtain ⟨h1, h2⟩ := h
    obtain ⟨r, hr, h3⟩ := mj_any h2
    have h4 := hG r hr
    rw [of_decide_eq_true h3] at h4
    exact ⟨h1, h4⟩
  | areturn =>
    simp only [mj_ckI, Bool.and_eq_true, decide_eq_true_eq] at h
    obtain ⟨h1, h2⟩ := h
    refine ⟨h1, ?_⟩
    split at h2
    · exact ⟨_, rfl⟩
    · cases h2
  | _ =>
    simp only [mj_ckI, decide_eq_true_eq] at h
    exact h
theorem mj_ckB_ok {TB : List Cond} {CL : List vw_C} {TY : Nat → Nat → FieldType} {MS : Nat → mj_M} {P : mj_Q} {own : String} {cc : ByteArray} {nL : Nat} {rt : Option FieldType} (hP : mj_okQ TB CL MS own P) : ∀ (b : List mj_E) (pc : Nat) (l : List UInt8), l = cc.data.toList.drop pc → mj_ckB TY P cc nL rt b pc l = true → mj_okB TB CL TY MS own cc nL rt b pc
  | [], _, _, _, _ => trivial
  | e :: r, pc, l, hl, h => by
    have h : fd_o (fd_at cc pc l e.1 e.2.1) (fun l2 => mj_ckI TY P nL rt pc e && mj_ckB TY P cc nL rt r (pc + e.2.1) l2) = true := h
    cases e2 : fd_at cc pc l e.1 e.2.1 with
    | none => rw [e2] at h; cases h
    | some l2 =>
      rw [e2] at h
      have h : (mj_ckI TY P nL rt pc e && mj_ckB TY P cc nL rt r (pc + e.2.1) l2) = true := h
      obtain ⟨w1, w2⟩ := fd_at_ok hl e2
      simp only [Bool.and_eq_true] at h
      exact ⟨⟨w1, mj_ckI_ok hP h.1⟩, mj_ckB_ok hP r _ l2 w2 h.2⟩
theorem mj_ckC_ok {TB : List Cond} {CL : List vw_C} {TY : Nat → Nat → FieldType} {MS : Nat → mj_M} {P : mj_Q} {own : String} {cc : ByteArray} {nL : Nat} {rt : Option FieldType} (hP : mj_okQ TB CL MS own P) : ∀ (L : List (Nat × List mj_E)) (p : Nat) (l : List UInt8), l = cc.data.toList.drop p → mj_ckC TY P cc nL rt L p l = true → ∀ b ∈ L, mj_okB TB CL TY MS own cc nL rt b.2 b.1
  | [], _, _, _, _ => fun _ h => absurd h List.not_mem_nil
  | b :: r, p, l, hl, h => by
    have h : cond (Nat.ble p b.1) (fd_skip (b.1 - p) l (fun l2 => mj_ckB TY P cc nL rt b.2 b.1 l2 && mj_ckC TY P cc nL rt r b.1 l2)) false = true := h
    cases e : Nat.ble p b.1 with
    | false => rw [e] at h; cases h
    | true =>
      rw [e] at h
      have h : fd_skip (b.1 - p) l (fun l2 => mj_ckB TY P cc nL rt b.2 b.1 l2 && mj_ckC TY P cc nL rt r b.1 l2) = true := h
      have hl2 : l.drop (b.1 - p) = cc.data.toList.drop b.1 := by
        rw [hl, List.drop_drop, Nat.add_sub_cancel' (Nat.le_of_ble_eq_true e)]
      rw [fd_skip_eq, hl2] at h
      have h : (mj_ckB TY P cc nL rt b.2 b.1 (cc.data.toList.drop b.1) && mj_ckC TY P cc nL rt r b.1 (cc.data.toList.drop b.1)) = true := h
      simp only [Bool.and_eq_true] at h
      exact List.forall_mem_cons.mpr ⟨mj_ckB_ok hP _ _ _ rfl h.1, mj_ckC_ok hP r _ _ rfl h.2⟩
theorem mj_ckM_ok {TB : List Cond} {CL : List vw_C} {TY : Nat → Nat → FieldType} {MS : Nat → mj_M} {P : mj_Q} {y : mj_M} {C : mj_C} (hP : mj_okQ TB CL MS y.1.cls P) (hY : mj_okY TB y) (h : mj_ckM TY P y.2.1 y.2.2.1 y.2.2.2 C = true) : mj_okM TB CL TY MS y C := by
  simp only [mj_ckM, Bool.and_eq_true, decide_eq_true_eq, List.all_eq_true] at h
  exact ⟨hY, h.1, mj_ckC_ok hP _ 0 _ rfl h.2⟩
-- short forms for the tables
def o0 (i : Jvm.ClassFile.Instr) (len : Nat) : mj_E := (i, len, (0, 0, 0, 0), 0, 0, [])
def oV (i : Jvm.ClassFile.Instr) (len : Nat) (v : Int32) : mj_E := (i, len, (0, 0, 0, 0), v, 0, [])
def oW (i : Jvm.ClassFile.Instr) (len : Nat) (w : Int64) : mj_E := (i, len, (0, 0, 0, 0), 0, w, [])
def oA (i : Jvm.ClassFile.Instr) (len a : Nat) : mj_E := (i, len, (a, 0, 0, 0), 0, 0, [])
def oF (i : Jvm.ClassFile.Instr) (len a b c : Nat) : mj_E := (i, len, (a, b, c, 0), 0, 0, [])
def oM (i : Jvm.ClassFile.Instr) (len a b c d : Nat) : mj_E := (i, len, (a, b, c, d), 0, 0, [])
def oT (i : Jvm.ClassFile.Instr) (len a : Nat) (sw : List (Int32 × Nat)) : mj_E := (i, len, (a, 0, 0, 0), 0, 0, sw)
