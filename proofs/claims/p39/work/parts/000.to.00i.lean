section
/-! decoding along a list of bytes: what the kernel evaluates in place of decode, shown to say the same -/
abbrev fd_I : Type := Jvm.ClassFile.Instr
abbrev fd_E : Type := Nat × Nat × (Nat → Nat → Jvm.ClassFile.Instr)
def fd_T0 : List fd_E := [(2, 0, fun _ _ => .iconst (-1)), (3, 0, fun _ _ => .iconst 0), (4, 0, fun _ _ => .iconst 1), (5, 0, fun _ _ => .iconst 2), (6, 0, fun _ _ => .iconst 3), (7, 0, fun _ _ => .iconst 4), (8, 0, fun _ _ => .iconst 5), (9, 0, fun _ _ => .lconst 0), (10, 0, fun _ _ => .lconst 1)]
def fd_T1 : List fd_E := [(16, 1, fun x _ => .bipush (Jvm.ClassFile.Reader.signed 8 x)), (17, 2, fun x y => .sipush (Jvm.ClassFile.Reader.signed 16 (x * 256 + y))), (18, 1, fun x _ => .ldc x), (19, 2, fun x y => .ldc_w (x * 256 + y)), (20, 2, fun x y => .ldc2_w (x * 256 + y)), (21, 1, fun x _ => .iload x), (22, 1, fun x _ => .lload x), (25, 1, fun x _ => .aload x), (26, 0, fun _ _ => .iload_n 0), (27, 0, fun _ _ => .iload_n 1), (28, 0, fun _ _ => .iload_n 2), (29, 0, fun _ _ => .iload_n 3), (30, 0, fun _ _ => .lload_n 0), (31, 0, fun _ _ => .lload_n 1)]
def fd_T2 : List fd_E := [(32, 0, fun _ _ => .lload_n 2), (33, 0, fun _ _ => .lload_n 3), (42, 0, fun _ _ => .aload_n 0), (43, 0, fun _ _ => .aload_n 1), (44, 0, fun _ _ => .aload_n 2), (45, 0, fun _ _ => .aload_n 3), (46, 0, fun _ _ => .iaload), (47, 0, fun _ _ => .laload)]
def fd_T3 : List fd_E := [(51, 0, fun _ _ => .baload), (54, 1, fun x _ => .istore x), (55, 1, fun x _ => .lstore x), (58, 1, fun x _ => .astore x), (59, 0, fun _ _ => .istore_n 0), (60, 0, fun _ _ => .istore_n 1), (61, 0, fun _ _ => .istore_n 2), (62, 0, fun _ _ => .istore_n 3), (63, 0, fun _ _ => .lstore_n 0)]
def fd_T4 : List fd_E := [(64, 0, fun _ _ => .lstore_n 1), (65, 0, fun _ _ => .lstore_n 2), (66, 0, fun _ _ => .lstore_n 3), (75, 0, fun _ _ => .astore_n 0), (76, 0, fun _ _ => .astore_n 1), (77, 0, fun _ _ => .astore_n 2), (78, 0, fun _ _ => .astore_n 3), (79, 0, fun _ _ => .iastore)]
def fd_T5 : List fd_E := [(80, 0, fun _ _ => .lastore), (84, 0, fun _ _ => .bastore), (87, 0, fun _ _ => .pop), (88, 0, fun _ _ => .pop2), (89, 0, fun _ _ => .dup), (92, 0, fun _ _ => .dup2)]
def fd_T6 : List fd_E := [(96, 0, fun _ _ => .iadd), (97, 0, fun _ _ => .ladd), (100, 0, fun _ _ => .isub), (101, 0, fun _ _ => .lsub), (104, 0, fun _ _ => .imul), (105, 0, fun _ _ => .lmul), (108, 0, fun _ _ => .idiv), (109, 0, fun _ _ => .ldiv)]
def fd_T7 : List fd_E := [(112, 0, fun _ _ => .irem), (113, 0, fun _ _ => .lrem), (116, 0, fun _ _ => .ineg), (120, 0, fun _ _ => .ishl), (121, 0, fun _ _ => .lshl), (122, 0, fun _ _ => .ishr), (123, 0, fun _ _ => .lshr), (124, 0, fun _ _ => .iushr), (125, 0, fun _ _ => .lushr), (126, 0, fun _ _ => .iand), (127, 0, fun _ _ => .land)]
def fd_T8 : List fd_E := [(128, 0, fun _ _ => .ior), (129, 0, fun _ _ => .lor), (130, 0, fun _ _ => .ixor), (131, 0, fun _ _ => .lxor), (132, 2, fun x y => .iinc x (Jvm.ClassFile.Reader.signed 8 y)), (133, 0, fun _ _ => .i2l), (136, 0, fun _ _ => .l2i)]
def fd_T9 : List fd_E := [(146, 0, fun _ _ => .i2c), (148, 0, fun _ _ => .lcmp), (153, 2, fun x y => .ifCond .eq (Jvm.ClassFile.Reader.signed 16 (x * 256 + y))), (154, 2, fun x y => .ifCond .ne (Jvm.ClassFile.Reader.signed 16 (x * 256 + y))), (155, 2, fun x y => .ifCond .lt (Jvm.ClassFile.Reader.signed 16 (x * 256 + y))), (156, 2, fun x y => .ifCond .ge (Jvm.ClassFile.Reader.signed 16 (x * 256 + y))), (157, 2, fun x y => .ifCond .gt (Jvm.ClassFile.Reader.signed 16 (x * 256 + y))), (158, 2, fun x y => .ifCond .le (Jvm.ClassFile.Reader.signed 16 (x * 256 + y))), (159, 2, fun x y => .if_icmp .eq (Jvm.ClassFile.Reader.signed 16 (x * 256 + y)))]
def fd_T10 : List fd_E := [(160, 2, fun x y => .if_icmp .ne (Jvm.ClassFile.Reader.signed 16 (x * 256 + y))), (161, 2, fun x y => .if_icmp .lt (Jvm.ClassFile.Reader.signed 16 (x * 256 + y))), (162, 2, fun x y => .if_icmp .ge (Jvm.ClassFile.Reader.signed 16 (x * 256 + y))), (163, 2, fun x y => .if_icmp .gt (Jvm.ClassFile.Reader.signed 16 (x * 256 + y))), (164, 2, fun x y => .if_icmp .le (Jvm.ClassFile.Reader.signed 16 (x * 256 + y))), (167, 2, fun x y => .goto (Jvm.ClassFile.Reader.signed 16 (x * 256 + y))), (172, 0, fun _ _ => .ireturn), (173, 0, fun _ _ => .lreturn)]
def fd_T11 : List fd_E := [(176, 0, fun _ _ => .areturn), (177, 0, fun _ _ => .return_), (178, 2, fun x y => .getstatic (x * 256 + y)), (180, 2, fun x y => .getfield (x * 256 + y)), (181, 2, fun x y => .putfield (x * 256 + y)), (182, 2, fun x y => .invokevirtual (x * 256 + y)), (183, 2, fun x y => .invokespecial (x * 256 + y)), (184, 2, fun x y => .invokestatic (x * 256 + y)), (187, 2, fun x y => .new (x * 256 + y)), (190, 0, fun _ _ => .arraylength)]
def fd_T : List (List fd_E) := [fd_T0, fd_T1, fd_T2, fd_T3, fd_T4, fd_T5, fd_T6, fd_T7, fd_T8, fd_T9, fd_T10, fd_T11]
def fd_look : List fd_E → Nat → Option (Nat × (Nat → Nat → Jvm.ClassFile.Instr))
  | [], _ => none
  | q :: r, k => cond (Nat.beq q.1 k) (some q.2) (fd_look r k)
def fd_arg : Nat → (Nat → Nat → Jvm.ClassFile.Instr) → List UInt8 → Option (Jvm.ClassFile.Instr × Nat × List UInt8)
  | 0, f, r => some (f 0 0, 1, r)
  | 1, f, x :: r => some (f x.toNat 0, 2, r)
  | 2, f, x :: y :: r => some (f x.toNat y.toNat, 3, r)
  | _, _, _ => none
def fd_op (o : Option (Nat × (Nat → Nat → Jvm.ClassFile.Instr))) (r : List UInt8) : Option (Jvm.ClassFile.Instr × Nat × List UInt8) :=
  match o with
  | none => none
  | some q => fd_arg q.1 q.2 r
def fd : List UInt8 → Option (Jvm.ClassFile.Instr × Nat × List UInt8)
  | [] => none
  | b :: r => fd_op (fd_look (fd_T.getD (b.toNat / 16) []) b.toNat) r
theorem fd_byte {cc : ByteArray} {p : Nat} {x : UInt8} {t : List UInt8} (h : cc.data.toList.drop p = x :: t) : ∃ hp : p < cc.size, cc[p]'hp = x ∧ t = cc.data.toList.drop (p + 1) := by
  by_cases hp : p < cc.data.toList.length
  · rw [List.drop_eq_getElem_cons hp] at h
    injection h with h1 h2
    exact ⟨hp, h1, h2.symm⟩
  · rw [List.drop_eq_nil_of_le (Nat.le_of_not_lt hp)] at h
    cases h
section Sfd
variable {α β : Type} {cc : ByteArray} {p op : Nat}
theorem fd_bind (x : Jvm.ClassFile.Decoder α) (G : α → Jvm.ClassFile.Decoder β) (cc : ByteArray) (p : Nat) (v : α) (p' : Nat) (e : x cc p = Except.ok (v, p')) : (x >>= G) cc p = G v cc p' := by
  have h : (x >>= G) cc p = Except.bind (x cc p) (fun w => G w.1 cc w.2) := rfl
  rw [h, e]
  first | done | rfl
theorem fd_u1 (hp : p < cc.size) : (Jvm.ClassFile.Reader.u1 : Jvm.ClassFile.Decoder Nat) cc p = Except.ok ((cc[p]'hp).toNat, p + 1) := by
  show ((if h : p < cc.size then (do set (p + 1); Pure.pure (cc[p]'h).toNat : Jvm.ClassFile.Decoder Nat) else throw _) : Jvm.ClassFile.Decoder Nat) cc p = _
  rw [dif_pos hp]
  first | done | rfl
theorem fd_s1 (hp : p < cc.size) : (Jvm.ClassFile.Reader.s1 : Jvm.ClassFile.Decoder Int) cc p = Except.ok (Jvm.ClassFile.Reader.signed 8 (cc[p]'hp).toNat, p + 1) := by
  have h : (Jvm.ClassFile.Reader.s1 : Jvm.ClassFile.Decoder Int) cc p = Except.bind ((Jvm.ClassFile.Reader.u1 : Jvm.ClassFile.Decoder Nat) cc p) (fun w => Except.ok (Jvm.ClassFile.Reader.signed 8 w.1, w.2)) := rfl
  rw [h, fd_u1 hp]
  first | done | rfl
theorem fd_u2 (h1 : p < cc.size) (h2 : p + 1 < cc.size) : (Jvm.ClassFile.Reader.u2 : Jvm.ClassFile.Decoder Nat) cc p = Except.ok ((cc[p]'h1).toNat * 256 + (cc[p + 1]'h2).toNat, p + 2) := by
  show ((Jvm.ClassFile.Reader.u1 : Jvm.ClassFile.Decoder Nat) >>= fun hi => (Jvm.ClassFile.Reader.u1 : Jvm.ClassFile.Decoder Nat) >>= fun lo => Pure.pure (hi * 256 + lo)) cc p = _
  rw [fd_bind _ _ cc p _ _ (fd_u1 h1), fd_bind _ _ cc (p + 1) _ _ (fd_u1 h2)]
  first | done | rfl
theorem fd_s2 (h1 : p < cc.size) (h2 : p + 1 < cc.size) : (Jvm.ClassFile.Reader.s2 : Jvm.ClassFile.Decoder Int) cc p = Except.ok (Jvm.ClassFile.Reader.signed 16 ((cc[p]'h1).toNat * 256 + (cc[p + 1]'h2).toNat), p + 2) := by
  have h : (Jvm.ClassFile.Reader.s2 : Jvm.ClassFile.Decoder Int) cc p = Except.bind ((Jvm.ClassFile.Reader.u2 : Jvm.ClassFile.Decoder Nat) cc p) (fun w => Except.ok (Jvm.ClassFile.Reader.signed 16 w.1, w.2)) := rfl
  rw [h, fd_u2 h1 h2]
  first | done | rfl
/-- what an entry of the table says of the arm of its opcode -/
def fd_sp (a : Nat × (Nat → Nat → Jvm.ClassFile.Instr)) (D : Jvm.ClassFile.Decoder Jvm.ClassFile.Instr) : Prop := ∀ (cc : ByteArray) (p : Nat) (i : Jvm.ClassFile.Instr) (n : Nat) (r : List UInt8), fd_arg a.1 a.2 (cc.data.toList.drop (p + 1)) = some (i, n, r) → D cc (p + 1) = Except.ok (i, p + n) ∧ r = cc.data.toList.drop (p + n)
theorem fd_sp0 {f : Nat → Nat → Jvm.ClassFile.Instr} : fd_sp (0, f) (Pure.pure (f 0 0)) := by
  intro cc p i n r e
  have e : some (f 0 0, 1, cc.data.toList.drop (p + 1)) = some (i, n, r) := e
  cases e
  exact ⟨rfl, rfl⟩
theorem fd_sp1 {D : Jvm.ClassFile.Decoder Jvm.ClassFile.Instr} {f : Nat → Nat → Jvm.ClassFile.Instr} (h : ∀ (cc : ByteArray) (p : Nat) (hp : p < cc.size), D cc p = Except.ok (f (cc[p]'hp).toNat 0, p + 1)) : fd_sp (1, f) D := by
  intro cc p i n r e
  cases e1 : cc.data.toList.drop (p + 1) with
  | nil =>
    have e : fd_arg 1 f (cc.data.toList.drop (p + 1)) = some (i, n, r) := e
    rw [e1] at e
    cases e
  | cons x t =>
    have e : fd_arg 1 f (cc.data.toList.drop (p + 1)) = some (i, n, r) := e
    rw [e1] at e
    obtain ⟨hp, hb, ht⟩ := fd_byte e1
    have e : some (f x.toNat 0, 2, t) = some (i, n, r) := e
    cases e
    have z := h cc (p + 1) hp
    rw [hb] at z
    exact ⟨z, ht⟩
theorem fd_sp2 {D : Jvm.ClassFile.Decoder Jvm.ClassFile.Instr} {f : Nat → Nat → Jvm.ClassFile.Instr} (h : ∀ (cc : ByteArray) (p : Nat) (h1 : p < cc.size) (h2 : p + 1 < cc.size), D cc p = Except.ok (f (cc[p]'h1).toNat (cc[p + 1]'h2).toNat, p + 2)) : fd_sp (2, f) D := by
  intro cc p i n r e
  have e : fd_arg 2 f (cc.data.toList.drop (p + 1)) = some (i, n, r) := e
  cases e1 : cc.data.toList.drop (p + 1) with
  | nil =>
    rw [e1] at e
    cases e
  | cons x t =>
    rw [e1] at e
    obtain ⟨hp, hb, ht⟩ := fd_byte e1
    cases e2 : t with
    | nil =>
      rw [e2] at e
      cases e
    | cons y t2 =>
      rw [e2] at e ht
      obtain ⟨hq, hc, hu⟩ := fd_byte ht.symm
      have e : some (f x.toNat y.toNat, 3, t2) = some (i, n, r) := e
      cases e
      have z := h cc (p + 1) hp hq
      rw [hb, hc] at z
      exact ⟨z, hu⟩
theorem fd_u1k {g : Nat → Jvm.ClassFile.Instr} (cc : ByteArray) (p : Nat) (hp : p < cc.size) : ((Jvm.ClassFile.Reader.u1 : Jvm.ClassFile.Decoder Nat) >>= fun x => Pure.pure (g x)) cc p = Except.ok ((fun x _ => g x) (cc[p]'hp).toNat 0, p + 1) := by
  rw [fd_bind _ _ cc p _ _ (fd_u1 hp)]
  first | done | rfl
theorem fd_s1k {g : Int → Jvm.ClassFile.Instr} (cc : ByteArray) (p : Nat) (hp : p < cc.size) : ((Jvm.ClassFile.Reader.s1 : Jvm.ClassFile.Decoder Int) >>= fun x => Pure.pure (g x)) cc p = Except.ok ((fun x _ => g (Jvm.ClassFile.Reader.signed 8 x)) (cc[p]'hp).toNat 0, p + 1) := by
  rw [fd_bind _ _ cc p _ _ (fd_s1 hp)]
  first | done | rfl
theorem fd_u2k {g : Nat → Jvm.ClassFile.Instr} (cc : ByteArray) (p : Nat) (h1 : p < cc.size) (h2 : p + 1 < cc.size) : ((Jvm.ClassFile.Reader.u2 : Jvm.ClassFile.Decoder Nat) >>= fun x => Pure.pure (g x)) cc p = Except.ok ((fun x y => g (x * 256 + y)) (cc[p]'h1).toNat (cc[p + 1]'h2).toNat, p + 2) := by
  rw [fd_bind _ _ cc p _ _ (fd_u2 h1 h2)]
  first | done | rfl
theorem fd_s2k {g : Int → Jvm.ClassFile.Instr} (cc : ByteArray) (p : Nat) (h1 : p < cc.size) (h2 : p + 1 < cc.size) : ((Jvm.ClassFile.Reader.s2 : Jvm.ClassFile.Decoder Int) >>= fun x => Pure.pure (g x)) cc p = Except.ok ((fun x y => g (Jvm.ClassFile.Reader.signed 16 (x * 256 + y))) (cc[p]'h1).toNat (cc[p + 1]'h2).toNat, p + 2) := by
  rw [fd_bind _ _ cc p _ _ (fd_s2 h1 h2)]
  first | done | rfl
theorem fd_iik {g : Nat → Int → Jvm.ClassFile.Instr} (cc : ByteArray) (p : Nat) (h1 : p < cc.size) (h2 : p + 1 < cc.size) : ((Jvm.ClassFile.Reader.u1 : Jvm.ClassFile.Decoder Nat) >>= fun x => (Jvm.ClassFile.Reader.s1 : Jvm.ClassFile.Decoder Int) >>= fun y => Pure.pure (g x y)) cc p = Except.ok ((fun x y => g x (Jvm.ClassFile.Reader.signed 8 y)) (cc[p]'h1).toNat (cc[p + 1]'h2).toNat, p + 2) := by
  rw [fd_bind _ _ cc p _ _ (fd_u1 h1), fd_bind _ _ cc (p + 1) _ _ (fd_s1 h2)]
  first | done | rfl
/-- what is looked up for x holds of this arm -/
def fd_S (x : Nat) (D : Jvm.ClassFile.Decoder Jvm.ClassFile.Instr) : Prop := ∀ a, fd_look (fd_T.getD (x / 16) []) x = some a → fd_sp a D
theorem fd_Sk {x : Nat} {D : Jvm.ClassFile.Decoder Jvm.ClassFile.Instr} {a : Nat × (Nat → Nat → Jvm.ClassFile.Instr)} (h : fd_look (fd_T.getD (x / 16) []) x = some a) (hs : fd_sp a D) : fd_S x D := fun b hb => by
  rw [h] at hb
  cases hb
  exact hs
theorem fd_Sn {x : Nat} {D : Jvm.ClassFile.Decoder Jvm.ClassFile.Instr} (h : fd_look (fd_T.getD (x / 16) []) x = none) : fd_S x D := fun b hb => by
  rw [h] at hb
  cases hb
theorem fd_S9 {x : Nat} {D : Jvm.ClassFile.Decoder Jvm.ClassFile.Instr} (h : 203 ≤ x) : fd_S x D := fd_Sn (by
  have h1 : fd_T.length ≤ x / 16 := by
    show 12 ≤ x / 16
    omega
  rw [List.getD_eq_getElem?_getD, List.getElem?_eq_none h1]
  rfl)
theorem fd_step {x k : Nat} {t : x = k → Jvm.ClassFile.Decoder Jvm.ClassFile.Instr} {e : ¬ x = k → Jvm.ClassFile.Decoder Jvm.ClassFile.Instr} (hk : k ≤ x) (h1 : ∀ h : x = k, fd_S x (t h)) (h2 : ∀ h : ¬ x = k, k + 1 ≤ x → fd_S x (e h)) : fd_S x (dite (x = k) t e) := by
  by_cases h : x = k
  · rw [dif_pos h]
    exact h1 h
  · rw [dif_neg h]
    exact h2 h (Nat.lt_of_le_of_ne hk (fun q => h q.symm))
end Sfd
set_option maxRecDepth 100000 in
set_option maxHeartbeats 16000000 in
theorem fd_K (pc : Nat) : ∃ K : Nat → Jvm.ClassFile.Decoder Jvm.ClassFile.Instr, Jvm.ClassFile.Decoder.instr pc = ((Jvm.ClassFile.Reader.u1 : Jvm.ClassFile.Decoder Nat) >>= K) ∧ ∀ x, fd_S x (K x) := by
  refine ⟨_, rfl, fun x => ?_⟩
  delta Jvm.ClassFile.Decoder.instr.match_1
  have hk : 0 ≤ x := Nat.zero_le x
  refine fd_step hk (fun h => by subst h; exact fd_Sn rfl) (fun _ hk => ?_)
  refine fd_step hk (fun h => by subst h; exact fd_Sn rfl) (fun _ hk => ?_)
  refine fd_step hk (fun h => by subst h; exact fd_Sk rfl (fd_sp0 (f := fun _ _ => .iconst (-1)))) (fun _ hk => ?_)
  refine fd_step hk (fun h => by subst h; exact fd_Sk rfl (fd_sp0 (f := fun _ _ => .iconst 0))) (fun _ hk => ?_)
  refine fd_step hk (fun h => by subst h; exact fd_Sk rfl (fd_sp0 (f := fun _ _ => .iconst 1))) (fun _ hk => ?_)
  refine fd_step hk (fun h => by subst h; exact fd_Sk rfl (fd_sp0 (f := fun _ _ => .iconst 2))) (fun _ hk => ?_)
  refine fd_step hk (fun h => by subst h; exact fd_Sk rfl (fd_sp0 (f := fun _ _ => .iconst 3))) (fun _ hk => ?_)
  refine fd_step hk (fun h => by subst h; exact fd_Sk rfl (fd_sp0 (f := fun _ _ => .iconst 4))) (fun _ hk => ?_)
  refine fd_step hk (fun h => by subst h; exact fd_Sk rfl (fd_sp0 (f := fun _ _ => .iconst 5))) (fun _ hk => ?_)
  refine fd_step hk (fun h => by subst h; exact fd_Sk rfl (fd_sp0 (f := fun _ _ => .lconst 0))) (fun _ hk => ?_)
  refine fd_step hk (fun h => by subst h; exact fd_Sk rfl (fd_sp0 (f := fun _ _ => .lconst 1))) (fun _ hk => ?_)
  refine fd_step hk (fun h => by subst h; exact fd_Sn rfl) (fun _ hk => ?_)
  refine fd_step hk (fun h => by subst h; exact fd_Sn rfl) (fun _ hk => ?_)
  refine fd_step hk (fun h => by subst h; exact fd_Sn rfl) (fun _ hk => ?_)
  refine fd_step hk (fun h => by subst h; exact fd_Sn rfl) (fun _ hk => ?_)
  refine fd_step hk (fun h => by subst h; exact fd_Sn rfl) (fun _ hk => ?_)
  refine fd_step hk (fun h => by subst h; exact fd_Sk rfl (fd_sp1 (fd_s1k (g := fun x => .bipush x)))) (fun _ hk => ?_)
  refine fd_step hk (fun h => by subst h; exact fd_Sk rfl (fd_sp2 (fd_s2k (g := fun x => .sipush x)))) (fun _ hk => ?_)
  refine fd_step hk (fun h => by subst h; exact fd_Sk rfl (fd_sp1 (fd_u1k (g := fun x => .ldc x)))) (fun _ hk => ?_)
  refine fd_step hk (fun h => by subst h; exact fd_Sk rfl (fd_sp2 (fd_u2k (g := fun x => .ldc_w x)))) (fun _ hk => ?_)
  refine fd_step hk (fun h => by subst h; exact fd_Sk rfl (fd_sp2 (fd_u2k (g := fun x => .ldc2_w x)))) (fun _ hk => ?_)
  refine fd_step hk (fun h => by subst h; exact fd_Sk rfl (fd_sp1 (fd_u1k (g := fun x => .iload x)))) (fun _ hk => ?_)
  refine fd_step hk (fun h => by subst h; exact fd_Sk rfl (fd_sp1 (fd_u1k (g := fun x => .lload x)))) (fun _ hk => ?_)
  refine fd_step hk (fun h => by subst h; exact fd_Sn rfl) (fun _ hk => ?_)
  refine fd_step hk (fun h => by subst h; exact fd_Sn rfl) (fun _ hk => ?_)
  refine fd_step hk (fun h => by subst h; exact fd_Sk rfl (fd_sp1 (fd_u1k (g := fun x => .aload x)))) (fun _ hk => ?_)
  refine fd_step hk (fun h => by subst h; exact fd_Sk rfl (fd_sp0 (f := fun _ _ => .iload_n 0))) (fun _ hk => ?_)
  refine fd_step hk (fun h => by subst h; exact fd_Sk rfl (fd_sp0 (f := fun _ _ => .iload_n 1))) (fun _ hk => ?_)
  refine fd_step hk (fun h => by subst h; exact fd_Sk rfl (fd_sp0 (f := fun _ _ => .iload_n 2))) (fun _ hk => ?_)
  refine fd_step hk (fun h => by subst h; exact fd_Sk rfl (fd_sp0 (f := fun _ _ => .iload_n 3))) (fun _ hk => ?_)
  refine fd_step hk (fun h => by subst h; exact fd_Sk rfl (fd_sp0 (f := fun _ _ => .lload_n 0))) (fun _ hk => ?_)
  refine fd_step hk (fun h => by subst h; exact fd_Sk rfl (fd_sp0 (f := fun _ _ => .lload_n 1))) (fun _ hk => ?_)
  refine fd_step hk (fun h => by subst h; exact fd_Sk rfl (fd_sp0 (f := fun _ _ => .lload_n 2))) (fun _ hk => ?_)
  refine fd_step hk (fun h => by subst h; exact fd_Sk rfl (fd_sp0 (f := fun _ _ => .lload_n 3))) (fun _ hk => ?_)
  refine fd_step hk (fun h => by subst h; exact fd_Sn rfl) (fun _ hk => ?_)
  refine fd_step hk (fun h => by subst h; exact fd_Sn rfl) (fun _ hk => ?_)
  refine fd_step hk (fun h => by subst h; exact fd_Sn rfl) (fun _ hk => ?_)
  refine fd_step hk (fun h => by subst h; exact fd_Sn rfl) (fun _ hk => ?_)
  refine fd_step hk (fun h => by subst h; exact fd_Sn rfl) (fun _ hk => ?_)
  refine fd_step hk (fun h => by subst h; exact fd_Sn rfl) (fun _ hk => ?_)
  refine fd_step hk (fun h => by subst h; exact fd_Sn rfl) (fun _ hk => ?_)
  refine fd_step hk (fun h => by subst h; exact fd_Sn rfl) (fun _ hk => ?_)
  refine fd_step hk (fun h => by subst h; exact fd_Sk rfl (fd_sp0 (f := fun _ _ => .aload_n 0))) (fun _ hk => ?_)
  refine fd_step hk (fun h => by subst h; exact fd_Sk rfl (fd_sp0 (f := fun _ _ => .aload_n 1))) (fun _ hk => ?_)
  refine fd_step hk (fun h => by subst h; exact fd_Sk rfl (fd_sp0 (f := fun _ _ => .aload_n 2))) (fun _ hk => ?_)
  refine fd_step hk (fun h => by subst h; exact fd_Sk rfl (fd_sp0 (f := fun _ _ => .aload_n 3))) (fun _ hk => ?_)
  refine fd_step hk (fun h => by subst h; exact fd_Sk rfl (fd_sp0 (f := fun _ _ => .iaload))) (fun _ hk => ?_)
  refine fd_step hk (fun h => by subst h; exact fd_Sk rfl (fd_sp0 (f := fun _ _ => .laload))) (fun _ hk => ?_)
  refine fd_step hk (fun h => by subst h; exact fd_Sn rfl) (fun _ hk => ?_)
  refine fd_step hk (fun h => by subst h; exact fd_Sn rfl) (fun _ hk => ?_)
  refine fd_step hk (fun h => by subst h; exact fd_Sn rfl) (fun _ hk => ?_)
  refine fd_step hk (fun h => by subst h; exact fd_Sk rfl (fd_sp0 (f := fun _ _ => .baload))) (fun _ hk => ?_)
  refine fd_step hk (fun h => by subst h; exact fd_Sn rfl) (fun _ hk => ?_)
  refine fd_step hk (fun h => by subst h; exact fd_Sn rfl) (fun _ hk => ?_)
  refine fd_step hk (fun h => by subst h; exact fd_Sk rfl (fd_sp1 (fd_u1k (g := fun x => .istore x)))) (fun _ hk => ?_)
  refine fd_step hk (fun h => by subst h; exact fd_Sk rfl (fd_sp1 (fd_u1k (g := fun x => .lstore x)))) (fun _ hk => ?_)
  refine fd_step hk (fun h => by subst h; exact fd_Sn rfl) (fun _ hk => ?_)
  refine fd_step hk (fun h => by subst h; exact fd_Sn rfl) (fun _ hk => ?_)
  refine fd_step hk (fun h => by subst h; exact fd_Sk rfl (fd_sp1 (fd_u1k (g := fun x => .astore x)))) (fun _ hk => ?_)
  refine fd_step hk (fun h => by subst h; exact fd_Sk rfl (fd_sp0 (f := fun _ _ => .istore_n 0))) (fun _ hk => ?_)
  refine fd_step hk (fun h => by subst h; exact fd_Sk rfl (fd_sp0 (f := fun _ _ => .istore_n 1))) (fun _ hk => ?_)
  refine fd_step hk (fun h => by subst h; exact fd_Sk rfl (fd_sp0 (f := fun _ _ => .istore_n 2))) (fun _ hk => ?_)
  refine fd_step hk (fun h => by subst h; exact fd_Sk rfl (fd_sp0 (f := fun _ _ => .istore_n 3))) (fun _ hk => ?_)
  refine fd_step hk (fun h => by subst h; exact fd_Sk rfl (fd_sp0 (f := fun _ _ => .lstore_n 0))) (fun _ hk => ?_)
  refine fd_step hk (fun h => by subst h; exact fd_Sk rfl (fd_sp0 (f := fun _ _ => .lstore_n 1))) (fun _ hk => ?_)
  refine fd_step hk (fun h => by subst h; exact fd_Sk rfl (fd_sp0 (f := fun _ _ => .lstore_n 2))) (fun _ hk => ?_)
  refine fd_step hk (fun h => by subst h; exact fd_Sk rfl (fd_sp0 (f := fun _ _ => .lstore_n 3))) (fun _ hk => ?_)
  refine fd_step hk (fun h => by subst h; exact fd_Sn rfl) (fun _ hk => ?_)
  refine fd_step hk (fun h => by subst h; exact fd_Sn rfl) (fun _ hk => ?_)
  refine fd_step hk (fun h => by subst h; exact fd_Sn rfl) (fun _ hk => ?_)
  refine fd_step hk (fun h => by subst h; exact fd_Sn rfl) (fun _ hk => ?_)
  refine fd_step hk (fun h => by subst h; exact fd_Sn rfl) (fun _ hk => ?_)
  refine fd_step hk (fun h => by subst h; exact fd_Sn rfl) (fun _ hk => ?_)
  refine fd_step hk (fun h => by subst h; exact fd_Sn rfl) (fun _ hk => ?_)
  refine fd_step hk (fun h => by subst h; exact fd_Sn rfl) (fun _ hk => ?_)
  refine fd_step hk (fun h => by subst h; exact fd_Sk rfl (fd_sp0 (f := fun _ _ => .astore_n 0))) (fun _ hk => ?_)
  refine fd_step hk (fun h => by subst h; exact fd_Sk rfl (fd_sp0 (f := fun _ _ => .astore_n 1))) (fun _ hk => ?_)
  refine fd_step hk (fun h => by subst h; exact fd_Sk rfl (fd_sp0 (f := fun _ _ => .astore_n 2))) (fun _ hk => ?_)
  refine fd_step hk (fun h => by subst h; exact fd_Sk rfl (fd_sp0 (f := fun _ _ => .astore_n 3))) (fun _ hk => ?_)
  refine fd_step hk (fun h => by subst h; exact fd_Sk rfl (fd_sp0 (f := fun _ _ => .iastore))) (fun _ hk => ?_)
  refine fd_step hk (fun h => by subst h; exact fd_Sk rfl (fd_sp0 (f := fun _ _ => .lastore))) (fun _ hk => ?_)
  refine fd_step hk (fun h => by subst h; exact fd_Sn rfl) (fun _ hk => ?_)
  refine fd_step hk (fun h => by subst h; exact fd_Sn rfl) (fun _ hk => ?_)
  refine fd_step hk (fun h => by subst h; exact fd_Sn rfl) (fun _ hk => ?_)
  refine fd_step hk (fun h => by subst h; exact fd_Sk rfl (fd_sp0 (f := fun _ _ => .bastore))) (fun _ hk => ?_)
  refine fd_step hk (fun h => by subst h; exact fd_Sn rfl) (fun _ hk => ?_)
  refine fd_step hk (fun h => by subst h; exact fd_Sn rfl) (fun _ hk => ?_)
  refine fd_step hk (fun h => by subst h; exact fd_Sk rfl (fd_sp0 (f := fun _ _ => .pop))) (fun _ hk => ?_)
  refine fd_step hk (fun h => by subst h; exact fd_Sk rfl (fd_sp0 (f := fun _ _ => .pop2))) (fun _ hk => ?_)
  refine fd_step hk (fun h => by subst h; exact fd_Sk rfl (fd_sp0 (f := fun _ _ => .dup))) (fun _ hk => ?_)
  refine fd_step hk (fun h => by subst h; exact fd_Sn rfl) (fun _ hk => ?_)
  refine fd_step hk (fun h => by subst h; exact fd_Sn rfl) (fun _ hk => ?_)
  refine fd_step hk (fun h => by subst h; exact fd_Sk rfl (fd_sp0 (f := fun _ _ => .dup2))) (fun _ hk => ?_)
  refine fd_step hk (fun h => by subst h; exact fd_Sn rfl) (fun _ hk => ?_)
  refine fd_step hk (fun h => by subst h; exact fd_Sn rfl) (fun _ hk => ?_)
  refine fd_step hk (fun h => by subst h; exact fd_Sn rfl) (fun _ hk => ?_)
  refine fd_step hk (fun h => by subst h; exact fd_Sk rfl (fd_sp0 (f := fun _ _ => .iadd))) (fun _ hk => ?_)
  refine fd_step hk (fun h => by subst h; exact fd_Sk rfl (fd_sp0 (f := fun _ _ => .ladd))) (fun _ hk => ?_)
  refine fd_step hk (fun h => by subst h; exact fd_Sn rfl) (fun _ hk => ?_)
  refine fd_step hk (fun h => by subst h; exact fd_Sn rfl) (fun _ hk => ?_)
  refine fd_step hk (fun h => by subst h; exact fd_Sk rfl (fd_sp0 (f := fun _ _ => .isub))) (fun _ hk => ?_)
  refine fd_step hk (fun h => by subst h; exact fd_Sk rfl (fd_sp0 (f := fun _ _ => .lsub))) (fun _ hk => ?_)
  refine fd_step hk (fun h => by subst h; exact fd_Sn rfl) (fun _ hk => ?_)
  refine fd_step hk (fun h => by subst h; exact fd_Sn rfl) (fun _ hk => ?_)
  refine fd_step hk (fun h => by subst h; exact fd_Sk rfl (fd_sp0 (f := fun _ _ => .imul))) (fun _ hk => ?_)
  refine fd_step hk (fun h => by subst h; exact fd_Sk rfl (fd_sp0 (f := fun _ _ => .lmul))) (fun _ hk => ?_)
  refine fd_step hk (fun h => by subst h; exact fd_Sn rfl) (fun _ hk => ?_)
  refine fd_step hk (fun h => by subst h; exact fd_Sn rfl) (fun _ hk => ?_)
  refine fd_step hk (fun h => by subst h; exact fd_Sk rfl (fd_sp0 (f := fun _ _ => .idiv))) (fun _ hk => ?_)
  refine fd_step hk (fun h => by subst h; exact fd_Sk rfl (fd_sp0 (f := fun _ _ => .ldiv))) (fun _ hk => ?_)
  refine fd_step hk (fun h => by subst h; exact fd_Sn rfl) (fun _ hk => ?_)
  refine fd_step hk (fun h => by subst h; exact fd_Sn rfl) (fun _ hk => ?_)
  refine fd_step hk (fun h => by subst h; exact fd_Sk rfl (fd_sp0 (f := fun _ _ => .irem))) (fun _ hk => ?_)
  refine fd_step hk (fun h => by subst h; exact fd_Sk rfl (fd_sp0 (f := fun _ _ => .lrem))) (fun _ hk => ?_)
  refine fd_step hk (fun h => by subst h; exact fd_Sn rfl) (fun _ hk => ?_)
  refine fd_step hk (fun h => by subst h; exact fd_Sn rfl) (fun _ hk => ?_)
  refine fd_step hk (fun h => by subst h; exact fd_Sk rfl (fd_sp0 (f := fun _ _ => .ineg))) (fun _ hk => ?_)
  refine fd_step hk (fun h => by subst h; exact fd_Sn rfl) (fun _ hk => ?_)
  refine fd_step hk (fun h => by subst h; exact fd_Sn rfl) (fun _ hk => ?_)
  refine fd_step hk (fun h => by subst h; exact fd_Sn rfl) (fun _ hk => ?_)
  refine fd_step hk (fun h => by subst h; exact fd_Sk rfl (fd_sp0 (f := fun _ _ => .ishl))) (fun _ hk => ?_)
  refine fd_step hk (fun h => by subst h; exact fd_Sk rfl (fd_sp0 (f := fun _ _ => .lshl))) (fun _ hk => ?_)
  refine fd_step hk (fun h => by subst h; exact fd_Sk rfl (fd_sp0 (f := fun _ _ => .ishr))) (fun _ hk => ?_)
  refine fd_step hk (fun h => by subst h; exact fd_Sk rfl (fd_sp0 (f := fun _ _ => .lshr))) (fun _ hk => ?_)
  refine fd_step hk (fun h => by subst h; exact fd_Sk rfl (fd_sp0 (f := fun _ _ => .iushr))) (fun _ hk => ?_)
  refine fd_step hk (fun h => by subst h; exact fd_Sk rfl (fd_sp0 (f := fun _ _ => .lushr))) (fun _ hk => ?_)
  refine fd_step hk (fun h => by subst h; exact fd_Sk rfl (fd_sp0 (f := fun _ _ => .iand))) (fun _ hk => ?_)
  refine fd_step hk (fun h => by subst h; exact fd_Sk rfl (fd_sp0 (f := fun _ _ => .land))) (fun _ hk => ?_)
  refine fd_step hk (fun h => by subst h; exact fd_Sk rfl (fd_sp0 (f := fun _ _ => .ior))) (fun _ hk => ?_)
  refine fd_step hk (fun h => by subst h; exact fd_Sk rfl (fd_sp0 (f := fun _ _ => .lor))) (fun _ hk => ?_)
  refine fd_step hk (fun h => by subst h; exact fd_Sk rfl (fd_sp0 (f := fun _ _ => .ixor))) (fun _ hk => ?_)
  refine fd_step hk (fun h => by subst h; exact fd_Sk rfl (fd_sp0 (f := fun _ _ => .lxor))) (fun _ hk => ?_)
  refine fd_step hk (fun h => by subst h; exact fd_Sk rfl (fd_sp2 (fd_iik (g := fun x y => .iinc x y)))) (fun _ hk => ?_)
  refine fd_step hk (fun h => by subst h; exact fd_Sk rfl (fd_sp0 (f := fun _ _ => .i2l))) (fun _ hk => ?_)
  refine fd_step hk (fun h => by subst h; exact fd_Sn rfl) (fun _ hk => ?_)
  refine fd_step hk (fun h => by subst h; exact fd_Sn rfl) (fun _ hk => ?_)
  refine fd_step hk (fun h => by subst h; exact fd_Sk rfl (fd_sp0 (f := fun _ _ => .l2i))) (fun _ hk => ?_)
  refine fd_step hk (fun h => by subst h; exact fd_Sn rfl) (fun _ hk => ?_)
  refine fd_step hk (fun h => by subst h; exact fd_Sn rfl) (fun _ hk => ?_)
  refine fd_step hk (fun h => by subst h; exact fd_Sn rfl) (fun _ hk => ?_)
  refine fd_step hk (fun h => by subst h; exact fd_Sn rfl) (fun _ hk => ?_)
  refine fd_step hk (fun h => by subst h; exact fd_Sn rfl) (fun _ hk => ?_)
  refine fd_step hk (fun h => by subst h; exact fd_Sn rfl) (fun _ hk => ?_)
  refine fd_step hk (fun h => by subst h; exact fd_Sn rfl) (fun _ hk => ?_)
  refine fd_step hk (fun h => by subst h; exact fd_Sn rfl) (fun _ hk => ?_)
  refine fd_step hk (fun h => by subst h; exact fd_Sn rfl) (fun _ hk => ?_)
  refine fd_step hk (fun h => by subst h; exact fd_Sk rfl (fd_sp0 (f := fun _ _ => .i2c))) (fun _ hk => ?_)
  refine fd_step hk (fun h => by subst h; exact fd_Sn rfl) (fun _ hk => ?_)
  refine fd_step hk (fun h => by subst h; exact fd_Sk rfl (fd_sp0 (f := fun _ _ => .lcmp))) (fun _ hk => ?_)
  refine fd_step hk (fun h => by subst h; exact fd_Sn rfl) (fun _ hk => ?_)
  refine fd_step hk (fun h => by subst h; exact fd_Sn rfl) (fun _ hk => ?_)
  refine fd_step hk (fun h => by subst h; exact fd_Sn rfl) (fun _ hk => ?_)
  refine fd_step hk (fun h => by subst h; exact fd_Sn rfl) (fun _ hk => ?_)
  refine fd_step hk (fun h => by subst h; exact fd_Sk rfl (fd_sp2 (fd_s2k (g := fun x => .ifCond .eq x)))) (fun _ hk => ?_)
  refine fd_step hk (fun h => by subst h; exact fd_Sk rfl (fd_sp2 (fd_s2k (g := fun x => .ifCond .ne x)))) (fun _ hk => ?_)
  refine fd_step hk (fun h => by subst h; exact fd_Sk rfl (fd_sp2 (fd_s2k (g := fun x => .ifCond .lt x)))) (fun _ hk => ?_)
  refine fd_step hk (fun h => by subst h; exact fd_Sk rfl (fd_sp2 (fd_s2k (g := fun x => .ifCond .ge x)))) (fun _ hk => ?_)
  refine fd_step hk (fun h => by subst h; exact fd_Sk rfl (fd_sp2 (fd_s2k (g := fun x => .ifCond .gt x)))) (fun _ hk => ?_)
  refine fd_step hk (fun h => by subst h; exact fd_Sk rfl (fd_sp2 (fd_s2k (g := fun x => .ifCond .le x)))) (fun _ hk => ?_)
  refine fd_step hk (fun h => by subst h; exact fd_Sk rfl (fd_sp2 (fd_s2k (g := fun x => .if_icmp .eq x)))) (fun _ hk => ?_)
  refine fd_step hk (fun h => by subst h; exact fd_Sk rfl (fd_sp2 (fd_s2k (g := fun x => .if_icmp .ne x)))) (fun _ hk => ?_)
  refine fd_step hk (fun h => by subst h; exact fd_Sk rfl (fd_sp2 (fd_s2k (g := fun x => .if_icmp .lt x)))) (fun _ hk => ?_)
  refine fd_step hk (fun h => by subst h; exact fd_Sk rfl (fd_sp2 (fd_s2k (g := fun x => .if_icmp .ge x)))) (fun _ hk => ?_)
  refine fd_step hk (fun h => by subst h; exact fd_Sk rfl (fd_sp2 (fd_s2k (g := fun x => .if_icmp .gt x)))) (fun _ hk => ?_)
  refine fd_step hk (fun h => by subst h; exact fd_Sk rfl (fd_sp2 (fd_s2k (g := fun x => .if_icmp .le x)))) (fun _ hk => ?_)
  refine fd_step hk (fun h => by subst h; exact fd_Sn rfl) (fun _ hk => ?_)
  refine fd_step hk (fun h => by subst h; exact fd_Sn rfl) (fun _ hk => ?_)
  refine fd_step hk (fun h => by subst h; exact fd_Sk rfl (fd_sp2 (fd_s2k (g := fun x => .goto x)))) (fun _ hk => ?_)
  refine fd_step hk (fun h => by subst h; exact fd_Sn rfl) (fun _ hk => ?_)
  refine fd_step hk (fun h => by subst h; exact fd_Sn rfl) (fun _ hk => ?_)
  refine fd_step hk (fun h => by subst h; exact fd_Sn rfl) (fun _ hk => ?_)
  refine fd_step hk (fun h => by subst h; exact fd_Sn rfl) (fun _ hk => ?_)
  refine fd_step hk (fun h => by subst h; exact fd_Sk rfl (fd_sp0 (f := fun _ _ => .ireturn))) (fun _ hk => ?_)
  refine fd_step hk (fun h => by subst h; exact fd_Sk rfl (fd_sp0 (f := fun _ _ => .lreturn))) (fun _ hk => ?_)
  refine fd_step hk (fun h => by subst h; exact fd_Sn rfl) (fun _ hk => ?_)
  refine fd_step hk (fun h => by subst h; exact fd_Sn rfl) (fun _ hk => ?_)
  refine fd_step hk (fun h => by subst h; exact fd_Sk rfl (fd_sp0 (f := fun _ _ => .areturn))) (fun _ hk => ?_)
  refine fd_step hk (fun h => by subst h; exact fd_Sk rfl (fd_sp0 (f := fun _ _ => .return_))) (fun _ hk => ?_)
  refine fd_step hk (fun h => by subst h; exact fd_Sk rfl (fd_sp2 (fd_u2k (g := fun x => .getstatic x)))) (fun _ hk => ?_)
  refine fd_step hk (fun h => by subst h; exact fd_Sn rfl) (fun _ hk => ?_)
  refine fd_step hk (fun h => by subst h; exact fd_Sk rfl (fd_sp2 (fd_u2k (g := fun x => .getfield x)))) (fun _ hk => ?_)
  refine fd_step hk (fun h => by subst h; exact fd_Sk rfl (fd_sp2 (fd_u2k (g := fun x => .putfield x)))) (fun _ hk => ?_)
  refine fd_step hk (fun h => by subst h; exact fd_Sk rfl (fd_sp2 (fd_u2k (g := fun x => .invokevirtual x)))) (fun _ hk => ?_)
  refine fd_step hk (fun h => by subst h; exact fd_Sk rfl (fd_sp2 (fd_u2k (g := fun x => .invokespecial x)))) (fun _ hk => ?_)
  refine fd_step hk (fun h => by subst h; exact fd_Sk rfl (fd_sp2 (fd_u2k (g := fun x => .invokestatic x)))) (fun _ hk => ?_)
  refine fd_step hk (fun h => by subst h; exact fd_Sn rfl) (fun _ hk => ?_)
  refine fd_step hk (fun h => by subst h; exact fd_Sn rfl) (fun _ hk => ?_)
  refine fd_step hk (fun h => by subst h; exact fd_Sk rfl (fd_sp2 (fd_u2k (g := fun x => .new x)))) (fun _ hk => ?_)
  refine fd_step hk (fun h => by subst h; exact fd_Sn rfl) (fun _ hk => ?_)
  refine fd_step hk (fun h => by subst h; exact fd_Sn rfl) (fun _ hk => ?_)
  refine fd_step hk (fun h => by subst h; exact fd_Sk rfl (fd_sp0 (f := fun _ _ => .arraylength))) (fun _ hk => ?_)
  refine fd_step hk (fun h => by subst h; exact fd_Sn rfl) (fun _ hk => ?_)
  refine fd_step hk (fun h => by subst h; exact fd_Sn rfl) (fun _ hk => ?_)
  refine fd_step hk (fun h => by subst h; exact fd_Sn rfl) (fun _ hk => ?_)
  refine fd_step hk (fun h => by subst h; exact fd_Sn rfl) (fun _ hk => ?_)
  refine fd_step hk (fun h => by subst h; exact fd_Sn rfl) (fun _ hk => ?_)
  refine fd_step hk (fun h => by subst h; exact fd_Sn rfl) (fun _ hk => ?_)
  refine fd_step hk (fun h => by subst h; exact fd_Sn rfl) (fun _ hk => ?_)
  refine fd_step hk (fun h => by subst h; exact fd_Sn rfl) (fun _ hk => ?_)
  refine fd_step hk (fun h => by subst h; exact fd_Sn rfl) (fun _ hk => ?_)
  refine fd_step hk (fun h => by subst h; exact fd_Sn rfl) (fun _ hk => ?_)
  refine fd_step hk (fun h => by subst h; exact fd_Sn rfl) (fun _ hk => ?_)
  refine fd_step hk (fun h => by subst h; exact fd_Sn rfl) (fun _ hk => ?_)
  exact fd_S9 hk
theorem fd_dec {cc : ByteArray} {pc q : Nat} {i : Jvm.ClassFile.Instr} (h : Jvm.ClassFile.Decoder.instr pc cc pc = Except.ok (i, q)) : decode cc pc = .ok (i, q - pc) := by
  have h1 : decode cc pc = Except.bind (Jvm.ClassFile.Decoder.instr pc cc pc) (fun w => Except.ok (w.1, w.2 - pc)) := rfl
  rw [h1, h]
  first | done | rfl
theorem fd_ok {cc : ByteArray} {pc n : Nat} {i : Jvm.ClassFile.Instr} {r : List UInt8} (h : fd (cc.data.toList.drop pc) = some (i, n, r)) : decode cc pc = .ok (i, n) ∧ r = cc.data.toList.drop (pc + n) := by
  cases e : cc.data.toList.drop pc with
  | nil => rw [e] at h; cases h
  | cons b t =>
    rw [e] at h
    obtain ⟨hp, hb, ht⟩ := fd_byte e
    obtain ⟨K, hK, hs⟩ := fd_K pc
    have h1 : fd_op (fd_look (fd_T.getD (b.toNat / 16) []) b.toNat) t = some (i, n, r) := h
    cases e2 : fd_look (fd_T.getD (b.toNat / 16) []) b.toNat with
    | none => rw [e2] at h1; cases h1
    | some q =>
      rw [e2] at h1
      have h2 : fd_arg q.1 q.2 t = some (i, n, r) := h1
      rw [ht] at h2
      obtain ⟨w1, w2⟩ := hs b.toNat q e2 cc pc i n r h2
      have w3 : Jvm.ClassFile.Decoder.instr pc cc pc = Except.ok (i, pc + n) := by
        rw [hK, fd_bind _ _ cc pc _ _ (fd_u1 hp), hb]
        exact w1
      have w4 := fd_dec w3
      rw [Nat.add_sub_cancel_left] at w4
      exact ⟨w4, w2⟩
-- one instruction, held against what the table says of it; the rest of the list
def fd_at (cc : ByteArray) (pc : Nat) (l : List UInt8) (i : Jvm.ClassFile.Instr) (n : Nat) : Option (List UInt8) :=
  match fd l with
  | some q => cond (decide (q.1 = i)) (cond (Nat.beq q.2.1 n) (some q.2.2) none) none
  | none => cond (decide (decode cc pc = .ok (i, n))) (some (l.drop n)) none
theorem fd_at_ok {cc : ByteArray} {pc n : Nat} {l r : List UInt8} {i : Jvm.ClassFile.Instr} (hl : l = cc.data.toList.drop pc) (h : fd_at cc pc l i n = some r) : decode cc pc = .ok (i, n) ∧ r = cc.data.toList.drop (pc + n) := by
  subst hl
  unfold fd_at at h
  cases e : fd (cc.data.toList.drop pc) with
  | some q =>
    rw [e] at h
    obtain ⟨q1, q2, q3⟩ := q
    obtain ⟨w1, w2⟩ := fd_ok e
    have h : cond (decide (q1 = i)) (cond (Nat.beq q2 n) (some q3) none) none = some r := h
    cases e1 : decide (q1 = i) with
    | false => rw [e1] at h; cases h
    | true =>
      rw [e1] at h
      have h : cond (Nat.beq q2 n) (some q3) none = some r := h
      cases e2 : Nat.beq q2 n with
      | false => rw [e2] at h; cases h
      | true =>
        rw [e2] at h
        have h3 : q3 = r := Option.some.inj h
        have h4 : q1 = i := of_decide_eq_true e1
        have h5 : q2 = n := Nat.eq_of_beq_eq_true e2
        subst h3
        subst h4
        subst h5
        exact ⟨w1, w2⟩
  | none =>
    rw [e] at h
    have h : cond (decide (decode cc pc = .ok (i, n))) (some ((cc.data.toList.drop pc).drop n)) none = some r := h
    cases e1 : decide (decode cc pc = .ok (i, n)) with
    | false => rw [e1] at h; cases h
    | true =>
      rw [e1] at h
      have h3 : (cc.data.toList.drop pc).drop n = r := Option.some.inj h
      refine ⟨of_decide_eq_true e1, ?_⟩
      rw [← h3, List.drop_drop]
/-- n bytes further on -/
def fd_skip : Nat → List UInt8 → (List UInt8 → Bool) → Bool
  | 0, l, k => k l
  | n + 1, [], k => k []
  | n + 1, _ :: l, k => fd_skip n l k
theorem fd_skip_eq : ∀ (n : Nat) (l : List UInt8) (k : List UInt8 → Bool), fd_skip n l k = k (l.drop n)
  | 0, l, k => rfl
  | n + 1, [], k => rfl
  | n + 1, _ :: l, k => fd_skip_eq n l k
def fd_P (cc : ByteArray) : List (Nat × Jvm.ClassFile.Instr × Nat) → Prop
  | [] => True
  | q :: r => decode cc q.1 = .ok (q.2.1, q.2.2) ∧ fd_P cc r
def fd_o (o : Option (List UInt8)) (k : List UInt8 → Bool) : Bool :=
  match o with
  | none => false
  | some l => k l
def fd_C (cc : ByteArray) : List (Nat × Jvm.ClassFile.Instr × Nat) → Nat → List UInt8 → Bool
  | [], _, _ => true
  | q :: r, p, l => cond (Nat.ble p q.1) (fd_skip (q.1 - p) l (fun l1 => fd_o (fd_at cc q.1 l1 q.2.1 q.2.2) (fun l2 => fd_C cc r (q.1 + q.2.2) l2))) false
theorem fd_C_ok {cc : ByteArray} : ∀ (T : List (Nat × Jvm.ClassFile.Instr × Nat)) (p : Nat) (l : List UInt8), l = cc.data.toList.drop p → fd_C cc T p l = true → fd_P cc T
  | [], _, _, _, _ => trivial
  | q :: r, p, l, hl, h => by
    have h : cond (Nat.ble p q.1) (fd_skip (q.1 - p) l (fun l1 => fd_o (fd_at cc q.1 l1 q.2.1 q.2.2) (fun l2 => fd_C cc r (q.1 + q.2.2) l2))) false = true := h
    cases e : Nat.ble p q.1 with
    | false => rw [e] at h; cases h
    | true =>
      rw [e] at h
      have hp : p ≤ q.1 := Nat.le_of_ble_eq_true e
      have h : fd_skip (q.1 - p) l (fun l1 => fd_o (fd_at cc q.1 l1 q.2.1 q.2.2) (fun l2 => fd_C cc r (q.1 + q.2.2) l2)) = true := h
      have hl2 : l.drop (q.1 - p) = cc.data.toList.drop q.1 := by
        rw [hl, List.drop_drop, Nat.add_sub_cancel' hp]
      rw [fd_skip_eq, hl2] at h
      have h : fd_o (fd_at cc q.1 (cc.data.toList.drop q.1) q.2.1 q.2.2) (fun l2 => fd_C cc r (q.1 + q.2.2) l2) = true := h
      cases e2 : fd_at cc q.1 (cc.data.toList.drop q.1) q.2.1 q.2.2 with
      | none =>
        rw [e2] at h
        cases h
      | some l2 =>
        rw [e2] at h
        obtain ⟨w1, w2⟩ := fd_at_ok rfl e2
        exact ⟨w1, fd_C_ok r _ l2 w2 h⟩
theorem fd_of {cc : ByteArray} (T : List (Nat × Jvm.ClassFile.Instr × Nat)) (h : fd_C cc T 0 cc.data.toList = true) : fd_P cc T := fd_C_ok T 0 _ rfl h
end
section
/-! THE SMALL MACHINE: what its tables are, and what is checked of them -/
abbrev mj_H : Type := (Nat → Nat → Int32) × (Nat → Nat → Int64) × (Nat → Nat → Nat)
abbrev mj_L : Type := List (Nat × Value)
abbrev mj_R : Type := Value × mj_H
abbrev mj_S : Type := List (Nat × Nat)
/-- an instruction as decoded, its length, four operands, an int, a long, the cases of a switch -/
abbrev mj_E : Type := Jvm.ClassFile.Instr × Nat × (Nat × Nat × Nat × Nat) × Int32 × Int64 × List (Int32 × Nat)
/-- a method's blocks by their first pc; the pcs where a walk halts, with the locals that go on living; how many locals -/
abbrev mj_C : Type := List (Nat × List mj_E) × List (Nat × List Nat) × Nat
abbrev mj_M : Type := MethodName × ByteArray × Nat × Option FieldType
/-- a field's kind: 0 int, 1 long, 2 a cell, 3 boolean -/
def mj_tc : FieldType → Nat
  | .int => 0
  | .long => 1
  | .object _ => 2
  | .array _ => 2
  | .boolean => 3
  | _ => 9
def mj_floatDescs : List String := ["(D)D", "(DD)D", "(DDD)D", "(F)F", "(FF)F", "(FFF)F"]
theorem mj_mathRows : (Jvm.natives.all fun r => r.cls != "java/lang/Math" || mj_floatDescs.contains r.desc) = true := by decide +kernel
theorem mj_mathPlain {x : MethodName} (hc : x.cls = "java/lang/Math") (hd : mj_floatDescs.contains x.desc = false) : plainFor x = true := by
  unfold plainFor
  rw [Bool.or_eq_true]; right
  rw [Option.isNone_iff_eq_none, NativeRow.find?, List.find?_eq_none]
  intro r hr h
  have := List.all_eq_true.mp mj_mathRows r hr
  simp only [Bool.and_eq_true, beq_iff_eq] at h
  rw [h.1.2, h.2, hc, hd] at this
  simp at this
-- what a table must keep
def mj_okF (TB : List Cond) (CL : List vw_C) (own : String) (x ci k : Nat) : Prop :=
  ∃ (C : String) (T : u_T) (N : Nat), CL[ci]? = some (C, T, N) ∧ k < N ∧ (Cond.fieldLink own x (T k).1 (T k).2.1 (T k).2.2.1 ∈ TB ∨ ∃ host : String, Cond.fieldLinkNest own x (T k).1 (T k).2.1 (T k).2.2.1 host ∈ TB)
def mj_okY (TB : List Cond) (y : mj_M) : Prop := Cond.code y.1 y.2.1 y.2.2.1 y.2.2.2 ∈ TB ∧ Cond.initialized y.1.cls ∈ TB ∧ y.2.2.1 ≤ 40 ∧ plainFor y.1 = true ∧ y.1.cls ≠ "java/lang/invoke/MethodHandle" ∧ y.1.cls ≠ "java/lang/invoke/VarHandle"
def mj_okV (TB : List Cond) (CL : List vw_C) (own : String) (x : Nat) (y : mj_M) (n d : Nat) : Prop :=
  (Cond.methodLink own x y.1 ∈ TB ∨ ∃ host : String, Cond.methodLinkNest own x y.1 host ∈ TB) ∧ Cond.instanceMethod y.1 ∈ TB ∧ Cond.selects y.1.cls y.1 y.1 ∈ TB ∧ (∃ (ci : Nat) (T : u_T) (N : Nat), d = ci + 1 ∧ CL[ci]? = some (y.1.cls, T, N)) ∧ (∃ k, n = k + 1 ∧ (parseMethodDescriptor y.1.desc).map (fun d => d.parameters.length) = some k) ∧ mj_okY TB y
def mj_okS (TB : List Cond) (own : String) (x : Nat) (y : mj_M) (n : Nat) : Prop :=
  (Cond.methodLink own x y.1 ∈ TB ∨ ∃ host : String, Cond.methodLinkNest own x y.1 host ∈ TB) ∧ Cond.static y.1 ∈ TB ∧ (parseMethodDescriptor y.1.desc).map (fun d => d.parameters.length) = some n ∧ mj_okY TB y
def mj_okC (TB : List Cond) (own : String) (x : Nat) : Prop := Cond.methodLink own x arraycopyName ∈ TB ∧ Cond.native arraycopyName ∈ TB ∧ Cond.static arraycopyName ∈ TB ∧ Cond.initialized "java/lang/System" ∈ TB
def mj_okG (TB : List Cond) (own : String) (x : Nat) : Prop := Cond.fieldLink own x "UnbeatenHouse" "MOST" "[I" ∈ TB ∨ ∃ host : String, Cond.fieldLinkNest own x "UnbeatenHouse" "MOST" "[I" host ∈ TB
def mj_okI (TB : List Cond) (CL : List vw_C) (TY : Nat → Nat → FieldType) (MS : Nat → mj_M) (own : String) (nL : Nat) (rt : Option FieldType) (pc : Nat) (e : mj_E) : Prop :=
  match e.1, e.2.1, e.2.2.1.1, e.2.2.1.2.1, e.2.2.1.2.2.1, e.2.2.1.2.2.2, e.2.2.2.1, e.2.2.2.2.1, e.2.2.2.2.2 with
  | .iconst n, len, _, _, _, _, v, _, _ => len = 1 ∧ Int32.ofInt n = v
  | .bipush n, len, _, _, _, _, v, _, _ => len = 2 ∧ (Int8.ofInt n).toInt32 = v
  | .sipush n, len, _, _, _, _, v, _, _ => len = 3 ∧ (Int16.ofInt n).toInt32 = v
  | .ldc x, len, _, _, _, _, v, _, _ => len = 2 ∧ Cond.constant own x v ∈ TB
  | .ldc_w x, len, _, _, _, _, v, _, _ => len = 3 ∧ Cond.constant own x v ∈ TB
  | .lconst n, len, _, _, _, _, _, w, _ => len = 1 ∧ Int64.ofNat n.val = w
  | .ldc2_w x, len, _, _, _, _, _, w, _ => len = 3 ∧ Cond.constantLong own x w ∈ TB
  | .iload _, len, _, _, _, _, _, _, _ => len = 2
  | .lload _, len, _, _, _, _, _, _, _ => len = 2
  | .aload _, len, _, _, _, _, _, _, _ => len = 2
  | .istore_n n, len, _, _, _, _, _, _, _ => len = 1 ∧ n.val < nL
  | .astore_n n, len, _, _, _, _, _, _, _ => len = 1 ∧ n.val < nL
  | .lstore_n n, len, _, _, _, _, _, _, _ => len = 1 ∧ n.val + 1 < nL
  | .istore n, len, _, _, _, _, _, _, _ => len = 2 ∧ n < nL
  | .astore n, len, _, _, _, _, _, _, _ => len = 2 ∧ n < nL
  | .lstore n, len, _, _, _, _, _, _, _ => len = 2 ∧ n + 1 < nL
  | .iinc n x, len, _, _, _, _, v, _, _ => len = 3 ∧ n < nL ∧ Int32.ofInt x = v
  | .getfield x, len, a, b, c, _, _, _, _ => len = 3 ∧ mj_okF TB CL own x a b ∧ mj_tc (TY a b) = c
  | .putfield x, len, a, b, c, _, _, _, _ => len = 3 ∧ mj_okF TB CL own x a b ∧ mj_tc (TY a b) = c ∧ c < 4 ∧ (∃ q, CL[a]? = some q ∧ (q.2.1 b).2.2.2 = false)
  | .getstatic x, len, _, _, _, _, _, _, _ => len = 3 ∧ mj_okG TB own x
  | .goto off, len, a, _, _, _, _, _, _ => len = 3 ∧ (pc : Int) + off = (a : Int)
  | .ifCond _ off, len, a, _, _, _, _, _, _ => len = 3 ∧ (pc : Int) + off = (a : Int)
  | .if_icmp _ off, len, a, _, _, _, _, _, _ => len = 3 ∧ (pc : Int) + off = (a : Int)
  | .tableswitch df lo hi offs, _, a, _, _, _, _, _, sw => (pc : Int) + df = (a : Int) ∧ lo + sw.length = hi + 1 ∧ ∀ k, k < sw.length → (sw.getD k (0, 0)).1.toInt = lo + k ∧ offs[k]? = some (((sw.getD k (0, 0)).2 : Int) - pc)
  | .lookupswitch df ps, _, a, _, _, _, _, _, sw => (pc : Int) + df = (a : Int) ∧ (ps.toList.zip (ps.toList.drop 1)).all (fun (a, next) => a.1 < next.1) = true ∧ ps.toList = sw.map (fun q => (q.1.toInt, (q.2 : Int) - pc))
  | .invokevirtual x, len, a, b, _, d, _, _, _ => len = 3 ∧ mj_okV TB CL own x (MS a) b d
  | .invokestatic x, len, a, b, _, _, _, _, _ => len = 3 ∧ ((a = 999 ∧ mj_okC TB own x) ∨ (a ≠ 999 ∧ mj_okS TB own x (MS a) b))
  | .ireturn, len, a, _, _, _, _, _, _ => len = 1 ∧ rt = some (match a with | 0 => .int | _ => .boolean)
  | .lreturn, len, _, _, _, _, _, _, _ => len = 1 ∧ rt = some .long
  | .areturn, len, _, _, _, _, _, _, _ => len = 1 ∧ ∃ n, rt = some (.object n)
  | .return_, len, _, _, _, _, _, _, _ => len = 1 ∧ rt = none
  | _, len, _, _, _, _, _, _, _ => len = 1
/-- every instruction of a block, from its pc on -/
def mj_okB (TB : List Cond) (CL : List vw_C) (TY : Nat → Nat → FieldType) (MS : Nat → mj_M) (own : String) (cc : ByteArray) (nL : Nat) (rt : Option FieldType) : List mj_E → Nat → Prop
  | [], _ => True
  | e :: r, pc => (decode cc pc = .ok (e.1, e.2.1) ∧ mj_okI TB CL TY MS own nL rt pc e) ∧ mj_okB TB CL TY MS own cc nL rt r (pc + e.2.1)
def mj_okM (TB : List Cond) (CL : List vw_C) (TY : Nat → Nat → FieldType) (MS : Nat → mj_M) (y : mj_M) (C : mj_C) : Prop :=
  mj_okY TB y ∧ C.2.2 = y.2.2.1 ∧ ∀ b ∈ C.1, mj_okB TB CL TY MS y.1.cls y.2.1 y.2.2.1 y.2.2.2 b.2 b.1
/-- what a class' pool holds: fields (place, class, slot, final), virtual calls (place, method, arguments, receiver's class + 1), static calls (place, method, arguments), ints, longs, copies of arrays -/
abbrev mj_Q : Type := List (Nat × Nat × Nat × Bool) × List (Nat × Nat × Nat × Nat) × List (Nat × Nat × Nat) × List (Nat × Int32) × List (Nat × Int64) × List Nat × List Nat
def mj_okQ (TB : List Cond) (CL : List vw_C) (MS : Nat → mj_M) (own : String) (P : mj_Q) : Prop :=
  (∀ r ∈ P.1, mj_okF TB CL own r.1 r.2.1 r.2.2.1 ∧ (r.2.2.2 = false → ∃ q, CL[r.2.1]? = some q ∧ (q.2.1 r.2.2.1).2.2.2 = false)) ∧
  (∀ r ∈ P.2.1, mj_okV TB CL own r.1 (MS r.2.1) r.2.2.1 r.2.2.2) ∧ (∀ r ∈ P.2.2.1, mj_okS TB own r.1 (MS r.2.1) r.2.2) ∧ (∀ r ∈ P.2.2.2.1, Cond.constant own r.1 r.2 ∈ TB) ∧ (∀ r ∈ P.2.2.2.2.1, Cond.constantLong own r.1 r.2 ∈ TB) ∧ (∀ x ∈ P.2.2.2.2.2.1, mj_okC TB own x) ∧ (∀ x ∈ P.2.2.2.2.2.2, mj_okG TB own x)
def mj_ckT (pc : Nat) (lo hi : Int) (offs : Array Int) (sw : List (Int32 × Nat)) : Bool :=
  decide (lo + sw.length = hi + 1) && (List.range sw.length).all (fun k => decide ((sw.getD k (0, 0)).1.toInt = lo + k) && decide (offs[k]? = some (((sw.getD k (0, 0)).2 : Int) - pc)))
def mj_ckI (TY : Nat → Nat → FieldType) (P : mj_Q) (nL : Nat) (rt : Option FieldType) (pc : Nat) (e : mj_E) : Bool :=
  match e.1 with
  | .iconst n => decide (e.2.1 = 1 ∧ Int32.ofInt n = e.2.2.2.1)
  | .bipush n => decide (e.2.1 = 2 ∧ (Int8.ofInt n).toInt32 = e.2.2.2.1)
  | .sipush n => decide (e.2.1 = 3 ∧ (Int16.ofInt n).toInt32 = e.2.2.2.1)
  | .ldc x => decide (e.2.1 = 2) && P.2.2.2.1.any (fun r => decide (r = (x, e.2.2.2.1)))
  | .ldc_w x => decide (e.2.1 = 3) && P.2.2.2.1.any (fun r => decide (r = (x, e.2.2.2.1)))
  | .lconst n => decide (e.2.1 = 1 ∧ Int64.ofNat n.val = e.2.2.2.2.1)
  | .ldc2_w x => decide (e.2.1 = 3) && P.2.2.2.2.1.any (fun r => decide (r = (x, e.2.2.2.2.1)))
  | .iload _ => decide (e.2.1 = 2)
  | .lload _ => decide (e.2.1 = 2)
  | .aload _ => decide (e.2.1 = 2)
  | .istore_n n => decide (e.2.1 = 1 ∧ n.val < nL)
  | .astore_n n => decide (e.2.1 = 1 ∧ n.val < nL)
  | .lstore_n n => decide (e.2.1 = 1 ∧ n.val + 1 < nL)
  | .istore n => decide (e.2.1 = 2 ∧ n < nL)
  | .astore n => decide (e.2.1 = 2 ∧ n < nL)
  | .lstore n => decide (e.2.1 = 2 ∧ n + 1 < nL)
  | .iinc n x => decide (e.2.1 = 3 ∧ n < nL ∧ Int32.ofInt x = e.2.2.2.1)
  | .getfield x => decide (e.2.1 = 3 ∧ mj_tc (TY e.2.2.1.1 e.2.2.1.2.1) = e.2.2.1.2.2.1) && P.1.any (fun r => decide (r.1 = x ∧ r.2.1 = e.2.2.1.1 ∧ r.2.2.1 = e.2.2.1.2.1))
  | .putfield x => decide (e.2.1 = 3 ∧ mj_tc (TY e.2.2.1.1 e.2.2.1.2.1) = e.2.2.1.2.2.1 ∧ e.2.2.1.2.2.1 < 4) && P.1.any (fun r => decide (r.1 = x ∧ r.2.1 = e.2.2.1.1 ∧ r.2.2.1 = e.2.2.1.2.1 ∧ r.2.2.2 = false))
  | .getstatic x => decide (e.2.1 = 3) && P.2.2.2.2.2.2.any (fun r => decide (r = x))
  | .goto off => decide (e.2.1 = 3 ∧ (pc : Int) + off = (e.2.2.1.1 : Int))
  | .ifCond _ off => decide (e.2.1 = 3 ∧ (pc : Int) + off = (e.2.2.1.1 : Int))
  | .if_icmp _ off => decide (e.2.1 = 3 ∧ (pc : Int) + off = (e.2.2.1.1 : Int))
  | .tableswitch df lo hi offs => decide ((pc : Int) + df = (e.2.2.1.1 : Int)) && mj_ckT pc lo hi offs e.2.2.2.2.2
  | .lookupswitch df ps => decide ((pc : Int) + df = (e.2.2.1.1 : Int)) && ((ps.toList.zip (ps.toList.drop 1)).all (fun (a, next) => a.1 < next.1) && decide (ps.toList = e.2.2.2.2.2.map (fun q => (q.1.toInt, (q.2 : Int) - pc))))
  | .invokevirtual x => decide (e.2.1 = 3) && P.2.1.any (fun r => decide (r = (x, e.2.2.1.1, e.2.2.1.2.1, e.2.2.1.2.2.2)))
  | .invokestatic x => decide (e.2.1 = 3) && ((decide (e.2.2.1.1 = 999) && P.2.2.2.2.2.1.any (fun r => decide (r = x))) || (decide (e.2.2.1.1 ≠ 999) && P.2.2.1.any (fun r => decide (r = (x, e.2.2.1.1, e.2.2.1.2.1)))))
  | .ireturn => decide (e.2.1 = 1 ∧ rt = some (match e.2.2.1.1 with | 0 => .int | _ => .boolean))
  | .lreturn => decide (e.2.1 = 1 ∧ rt = some .long)
  | .areturn => decide (e.2.1 = 1) && (match rt with | some (.object _) => true | _ => false)
  | .return_ => decide (e.2.1 = 1 ∧ rt = none)
  | _ => decide (e.2.1 = 1)
def mj_ckB (TY : Nat → Nat → FieldType) (P : mj_Q) (cc : ByteArray) (nL : Nat) (rt : Option FieldType) : List mj_E → Nat → List UInt8 → Bool
  | [], _, _ => true
  | e :: r, pc, l => fd_o (fd_at cc pc l e.1 e.2.1) (fun l2 => mj_ckI TY P nL rt pc e && mj_ckB TY P cc nL rt r (pc + e.2.1) l2)
def mj_ckC (TY : Nat → Nat → FieldType) (P : mj_Q) (cc : ByteArray) (nL : Nat) (rt : Option FieldType) : List (Nat × List mj_E) → Nat → List UInt8 → Bool
  | [], _, _ => true
  | b :: r, p, l => cond (Nat.ble p b.1) (fd_skip (b.1 - p) l (fun l2 => mj_ckB TY P cc nL rt b.2 b.1 l2 && mj_ckC TY P cc nL rt r b.1 l2)) false
def mj_ckM (TY : Nat → Nat → FieldType) (P : mj_Q) (cc : ByteArray) (nL : Nat) (rt : Option FieldType) (C : mj_C) : Bool :=
  decide (C.2.2 = nL) && mj_ckC TY P cc nL rt C.1 0 cc.data.toList
theorem mj_any {α : Type} {L : List α} {f : α → Bool} (h : L.any f = true) : ∃ r ∈ L, f r = true := by
  simpa using h
set_option maxHeartbeats 4000000 in
theorem mj_ckI_ok {TB : List Cond} {CL : List vw_C} {TY : Nat → Nat → FieldType} {MS : Nat → mj_M} {P : mj_Q} {own : String} {nL : Nat} {rt : Option FieldType} {pc : Nat} {e : mj_E} (hP : mj_okQ TB CL MS own P) (h : mj_ckI TY P nL rt pc e = true) : mj_okI TB CL TY MS own nL rt pc e := by
  obtain ⟨i, len, ⟨a, b, c, d⟩, v, w, sw⟩ := e
  obtain ⟨hF, hV, hSt, hC, hL, hA, hG⟩ := hP
  cases i with
  | ldc x =>
    simp only [mj_ckI, Bool.and_eq_true, decide_eq_true_eq] at h
    obtain ⟨h1, h2⟩ := h
    obtain ⟨r, hr, h3⟩ := mj_any h2
    have h4 := hC r hr
    rw [of_decide_eq_true h3] at h4
    exact ⟨h1, h4⟩
  | ldc_w x =>
    simp only [mj_ckI, Bool.and_eq_true, decide_eq_true_eq] at h
    obtain ⟨h1, h2⟩ := h
    obtain ⟨r, hr, h3⟩ := mj_any h2
    have h4 := hC r hr
    rw [of_decide_eq_true h3] at h4
    exact ⟨h1, h4⟩
  | ldc2_w x =>
    simp only [mj_ckI, Bool.and_eq_true, decide_eq_true_eq] at h
    obtain ⟨h1, h2⟩ := h
    obtain ⟨r, hr, h3⟩ := mj_any h2
    have h4 := hL r hr
    rw [of_decide_eq_true h3] at h4
    exact ⟨h1, h4⟩
  | getfield x =>
    simp only [mj_ckI, Bool.and_eq_true, decide_eq_true_eq] at h
    obtain ⟨⟨h1, h2⟩, h3⟩ := h
    obtain ⟨r, hr, h4⟩ := mj_any h3
    obtain ⟨e1, e2, e3⟩ := of_decide_eq_true h4
    have h5 := (hF r hr).1
    rw [e1, e2, e3] at h5
    exact ⟨h1, h5, h2⟩
  | putfield x =>
    simp only [mj_ckI, Bool.and_eq_true, decide_eq_true_eq] at h
    obtain ⟨⟨h1, h2, h6⟩, h3⟩ := h
    obtain ⟨r, hr, h4⟩ := mj_any h3
    obtain ⟨e1, e2, e3, e4⟩ := of_decide_eq_true h4
    have h5 := hF r hr
    rw [e1, e2, e3] at h5
    exact ⟨h1, h5.1, h2, h6, h5.2 e4⟩
  | tableswitch df lo hi offs =>
    simp only [mj_ckI, mj_ckT, Bool.and_eq_true, decide_eq_true_eq, List.all_eq_true] at h
    exact ⟨h.1, h.2.1, fun k hk => h.2.2 k (List.mem_range.mpr hk)⟩
  | lookupswitch df ps =>
    simp only [mj_ckI, Bool.and_eq_true, decide_eq_true_eq] at h
    exact ⟨h.1, h.2.1, h.2.2⟩
  | invokevirtual x =>
    simp only [mj_ckI, Bool.and_eq_true, decide_eq_true_eq] at h
    obtain ⟨h1, h2⟩ := h
    obtain ⟨r, hr, h3⟩ := mj_any h2
    have h4 := hV r hr
    rw [of_decide_eq_true h3] at h4
    exact ⟨h1, h4⟩
  | invokestatic x =>
    simp only [mj_ckI, Bool.and_eq_true, Bool.or_eq_true, decide_eq_true_eq] at h
    obtain ⟨h1, ⟨h2, h3⟩ | ⟨h2, h3⟩⟩ := h
    · obtain ⟨r, hr, h4⟩ := mj_any h3
      have h5 := hA r hr
      rw [of_decide_eq_true h4] at h5
      exact ⟨h1, Or.inl ⟨h2, h5⟩⟩
    · obtain ⟨r, hr, h4⟩ := mj_any h3
      have h5 := hSt r hr
      rw [of_decide_eq_true h4] at h5
      exact ⟨h1, Or.inr ⟨h2, h5⟩⟩
  | getstatic x =>
    simp only [mj_ckI, Bool.and_eq_true, decide_eq_true_eq] at h
    obtain ⟨h1, h2⟩ := h
    obtain ⟨r, hr, h3⟩ := mj_any h2
    have h4 := hG r hr
    rw [of_decide_eq_true h3] at h4
    exact ⟨h1, h4⟩
  | areturn =>
    simp only [mj_ckI, Bool.and_eq_true, decide_eq_true_eq] at h
    obtain ⟨h1, h2⟩ := h
    refine ⟨h1, ?_⟩
    split at h2
    · exact ⟨_, rfl⟩
    · cases h2
  | _ =>
    simp only [mj_ckI, decide_eq_true_eq] at h
    exact h
theorem mj_ckB_ok {TB : List Cond} {CL : List vw_C} {TY : Nat → Nat → FieldType} {MS : Nat → mj_M} {P : mj_Q} {own : String} {cc : ByteArray} {nL : Nat} {rt : Option FieldType} (hP : mj_okQ TB CL MS own P) : ∀ (b : List mj_E) (pc : Nat) (l : List UInt8), l = cc.data.toList.drop pc → mj_ckB TY P cc nL rt b pc l = true → mj_okB TB CL TY MS own cc nL rt b pc
  | [], _, _, _, _ => trivial
  | e :: r, pc, l, hl, h => by
    have h : fd_o (fd_at cc pc l e.1 e.2.1) (fun l2 => mj_ckI TY P nL rt pc e && mj_ckB TY P cc nL rt r (pc + e.2.1) l2) = true := h
    cases e2 : fd_at cc pc l e.1 e.2.1 with
    | none => rw [e2] at h; cases h
    | some l2 =>
      rw [e2] at h
      have h : (mj_ckI TY P nL rt pc e && mj_ckB TY P cc nL rt r (pc + e.2.1) l2) = true := h
      obtain ⟨w1, w2⟩ := fd_at_ok hl e2
      simp only [Bool.and_eq_true] at h
      exact ⟨⟨w1, mj_ckI_ok hP h.1⟩, mj_ckB_ok hP r _ l2 w2 h.2⟩
theorem mj_ckC_ok {TB : List Cond} {CL : List vw_C} {TY : Nat → Nat → FieldType} {MS : Nat → mj_M} {P : mj_Q} {own : String} {cc : ByteArray} {nL : Nat} {rt : Option FieldType} (hP : mj_okQ TB CL MS own P) : ∀ (L : List (Nat × List mj_E)) (p : Nat) (l : List UInt8), l = cc.data.toList.drop p → mj_ckC TY P cc nL rt L p l = true → ∀ b ∈ L, mj_okB TB CL TY MS own cc nL rt b.2 b.1
  | [], _, _, _, _ => fun _ h => absurd h List.not_mem_nil
  | b :: r, p, l, hl, h => by
    have h : cond (Nat.ble p b.1) (fd_skip (b.1 - p) l (fun l2 => mj_ckB TY P cc nL rt b.2 b.1 l2 && mj_ckC TY P cc nL rt r b.1 l2)) false = true := h
    cases e : Nat.ble p b.1 with
    | false => rw [e] at h; cases h
    | true =>
      rw [e] at h
      have h : fd_skip (b.1 - p) l (fun l2 => mj_ckB TY P cc nL rt b.2 b.1 l2 && mj_ckC TY P cc nL rt r b.1 l2) = true := h
      have hl2 : l.drop (b.1 - p) = cc.data.toList.drop b.1 := by
        rw [hl, List.drop_drop, Nat.add_sub_cancel' (Nat.le_of_ble_eq_true e)]
      rw [fd_skip_eq, hl2] at h
      have h : (mj_ckB TY P cc nL rt b.2 b.1 (cc.data.toList.drop b.1) && mj_ckC TY P cc nL rt r b.1 (cc.data.toList.drop b.1)) = true := h
      simp only [Bool.and_eq_true] at h
      exact List.forall_mem_cons.mpr ⟨mj_ckB_ok hP _ _ _ rfl h.1, mj_ckC_ok hP r _ _ rfl h.2⟩
theorem mj_ckM_ok {TB : List Cond} {CL : List vw_C} {TY : Nat → Nat → FieldType} {MS : Nat → mj_M} {P : mj_Q} {y : mj_M} {C : mj_C} (hP : mj_okQ TB CL MS y.1.cls P) (hY : mj_okY TB y) (h : mj_ckM TY P y.2.1 y.2.2.1 y.2.2.2 C = true) : mj_okM TB CL TY MS y C := by
  simp only [mj_ckM, Bool.and_eq_true, decide_eq_true_eq, List.all_eq_true] at h
  exact ⟨hY, h.1, mj_ckC_ok hP _ 0 _ rfl h.2⟩
-- short forms for the tables
def o0 (i : Jvm.ClassFile.Instr) (len : Nat) : mj_E := (i, len, (0, 0, 0, 0), 0, 0, [])
def oV (i : Jvm.ClassFile.Instr) (len : Nat) (v : Int32) : mj_E := (i, len, (0, 0, 0, 0), v, 0, [])
def oW (i : Jvm.ClassFile.Instr) (len : Nat) (w : Int64) : mj_E := (i, len, (0, 0, 0, 0), 0, w, [])
def oA (i : Jvm.ClassFile.Instr) (len a : Nat) : mj_E := (i, len, (a, 0, 0, 0), 0, 0, [])
def oF (i : Jvm.ClassFile.Instr) (len a b c : Nat) : mj_E := (i, len, (a, b, c, 0), 0, 0, [])
def oM (i : Jvm.ClassFile.Instr) (len a b c d : Nat) : mj_E := (i, len, (a, b, c, d), 0, 0, [])
def oT (i : Jvm.ClassFile.Instr) (len a : Nat) (sw : List (Int32 × Nat)) : mj_E := (i, len, (a, 0, 0, 0), 0, 0, sw)
end
section
/-! THE SMALL MACHINE. A reference is the number of a cell; the heap is three functions: cell, slot -> int, long, cell. -/
abbrev mj_K : Type := mj_L → List Value → mj_H → Prop
def mj_up {α : Type} (f : Nat → Nat → α) (k j : Nat) (v : α) : Nat → Nat → α := fun k' j' => if k' = k then (if j' = j then v else f k' j') else f k' j'
def mj_cp {α : Type} (f : Nat → Nat → α) (a sp b dp n : Nat) : Nat → Nat → α := fun k' j' => if k' = b then (if dp ≤ j' ∧ j' < dp + n then f a (sp + (j' - dp)) else f k' j') else f k' j'
def mj_nth {α : Type} : List α → Nat → Option α
  | [], _ => none
  | x :: _, 0 => some x
  | _ :: r, n + 1 => mj_nth r n
def mj_fd {α : Type} : List (Nat × α) → Nat → Option α
  | [], _ => none
  | q :: r, i => match Nat.beq q.1 i with
    | true => some q.2
    | false => mj_fd r i
def mj_in (x : Nat × Value) : mj_L → mj_L
  | [] => [x]
  | q :: r => match Nat.blt q.1 x.1 with
    | true => q :: mj_in x r
    | false => x :: q :: r
def mj_s1 (i : Nat) (v : Value) (l : mj_L) : mj_L := mj_in (i, v) (l.filter (fun q => !(q.1 == i) && !(q.1 + 1 == i && q.2.category == 2)))
def mj_s2 (i : Nat) (v : Value) (l : mj_L) : mj_L := mj_in (i, v) (l.filter (fun q => !(q.1 == i) && (!(q.1 == i + 1) && !(q.1 + 1 == i && q.2.category == 2))))
def mj_tm (ks : List Nat) (l : mj_L) : mj_L := l.filter (fun q => ks.elem q.1)
def mj_a0 : Nat → List Value → mj_L
  | _, [] => []
  | i, v :: vs => (i, v) :: mj_a0 (if v.category = 2 then i + 2 else i + 1) vs
-- pops
def mj_pI (s : List Value) (F : Int32 → List Value → Prop) : Prop := match s with
  | .int x :: r => F x r
  | _ => False
def mj_pL (s : List Value) (F : Int64 → List Value → Prop) : Prop := match s with
  | .long x :: r => F x r
  | _ => False
def mj_pR (s : List Value) (F : Nat → List Value → Prop) : Prop := match s with
  | .ref x :: r => F x r
  | _ => False
def mj_lI (l : mj_L) (i : Nat) (F : Int32 → Prop) : Prop := match mj_fd l i with
  | some (.int x) => F x
  | _ => False
def mj_lL (l : mj_L) (i : Nat) (F : Int64 → Prop) : Prop := match mj_fd l i with
  | some (.long x) => F x
  | _ => False
def mj_lR (l : mj_L) (i : Nat) (F : Nat → Prop) : Prop := match mj_fd l i with
  | some (.ref x) => F x
  | _ => False
/-- the cell q of a shape: its kind (0 int[], 1 long[], 2 boolean[], 3 + c an object of class c) and size -/
def mj_sh (S : mj_S) (q t : Nat) (F : Nat → Prop) : Prop := match mj_nth S q with
  | some z => match Nat.beq z.1 t with
    | true => F z.2
    | false => False
  | none => False
def mj_if (b : Bool) (P : Prop) : Prop := match b with
  | true => P
  | false => False
def mj_sw : List (Int32 × Nat) → Nat → Int32 → (Nat → Prop) → Prop
  | [], d, _, F => F d
  | q :: r, d, x, F => if x = q.1 then F q.2 else mj_sw r d x F
def mj_sz : List Value → Nat
  | [] => 0
  | v :: r => v.category + mj_sz r
/-- a call's answer goes on the stack, by its kind: 0 none, 1 int, 2 long, 3 a cell; but for the last, the callee leaves the references as they are -/
def mj_rt (c : Nat) (f : mj_R → Prop) (r : List Value) (h : mj_H) (F : List Value → mj_H → Prop) : Prop := match c with
  | 0 => ∃ (I : Nat → Nat → Int32) (J : Nat → Nat → Int64), f (.null, (I, J, h.2.2)) ∧ F r (I, J, h.2.2)
  | 1 => ∃ (x : Int32) (I : Nat → Nat → Int32) (J : Nat → Nat → Int64), f (.int x, (I, J, h.2.2)) ∧ F (.int x :: r) (I, J, h.2.2)
  | 2 => ∃ (x : Int64) (I : Nat → Nat → Int32) (J : Nat → Nat → Int64), f (.long x, (I, J, h.2.2)) ∧ F (.long x :: r) (I, J, h.2.2)
  | _ => ∃ (x : Nat) (g : mj_H), f (.ref x, g) ∧ F (.ref x :: r) g
/-- the receiver is an object of class d (as d + 1; 0: a static method) -/
def mj_rc (S : mj_S) (d : Nat) (as : List Value) : Prop := match d with
  | 0 => True
  | d + 1 => match as with
    | .ref q :: _ => mj_sh S q (d + 3) (fun _ => True)
    | _ => False
def mj_cl (S : mj_S) (cal : Nat → List Value → mj_H → mj_R → Prop) (z n c d : Nat) (s : List Value) (h : mj_H) (k : List Value → mj_H → Prop) : Prop :=
  mj_if (Nat.ble n s.length && Nat.ble (mj_sz (s.drop n)) 8) (mj_rc S d (s.take n).reverse ∧ mj_rt c (cal z (s.take n).reverse h) (s.drop n) h k)
/-- the locals, laid out anew (so that a walk on names stays short) -/
def mj_fl : mj_L → (mj_L → Prop) → Prop
  | [], F => F []
  | q :: r, F => mj_fl r (fun r' => F (q :: r'))
theorem mj_fl_eq : ∀ (l : mj_L) (F : mj_L → Prop), mj_fl l F = F l
  | [], _ => rfl
  | _ :: r, _ => mj_fl_eq r _
/-- the static row MOST (cell 900), and a read of an int[] -/
def mj_most (i : Nat) : Int32 := ([4, 40, 10, 24, 12, 12] : List Int32).getD i 0
def mj_ia (S : mj_S) (h : mj_H) (q : Nat) (i : Int32) (F : Int32 → Prop) : Prop := match Nat.beq q 900 with
  | true => vp_in i 6 ∧ F (mj_most i.toNatClampNeg)
  | false => mj_sh S q 0 fun n => vp_in i n ∧ F (h.1 q i.toNatClampNeg)
def mj_ins (S : mj_S) (cal : Nat → List Value → mj_H → mj_R → Prop) (Q : mj_R → Prop) (jmp : Nat → mj_K) (i : Jvm.ClassFile.Instr) (a b c d : Nat) (v : Int32) (w : Int64) (sw : List (Int32 × Nat)) (l : mj_L) (s : List Value) (h : mj_H) (k : mj_K) : Prop :=
  match i with
  | .iconst _ => k l (.int v :: s) h
  | .bipush _ => k l (.int v :: s) h
  | .sipush _ => k l (.int v :: s) h
  | .ldc _ => k l (.int v :: s) h
  | .ldc_w _ => k l (.int v :: s) h
  | .lconst _ => k l (.long w :: s) h
  | .ldc2_w _ => k l (.long w :: s) h
  | .iload_n n => mj_lI l n.val fun x => k l (.int x :: s) h
  | .iload n => mj_lI l n fun x => k l (.int x :: s) h
  | .lload_n n => mj_lL l n.val fun x => k l (.long x :: s) h
  | .lload n => mj_lL l n fun x => k l (.long x :: s) h
  | .aload_n n => mj_lR l n.val fun x => k l (.ref x :: s) h
  | .aload n => mj_lR l n fun x => k l (.ref x :: s) h
  | .istore_n n => mj_pI s fun x r => mj_fl (mj_s1 n.val (.int x) l) fun l => k l r h
  | .istore n => mj_pI s fun x r => mj_fl (mj_s1 n (.int x) l) fun l => k l r h
  | .lstore_n n => mj_pL s fun x r => mj_fl (mj_s2 n.val (.long x) l) fun l => k l r h
  | .lstore n => mj_pL s fun x r => mj_fl (mj_s2 n (.long x) l) fun l => k l r h
  | .astore_n n => mj_pR s fun x r => mj_fl (mj_s1 n.val (.ref x) l) fun l => k l r h
  | .astore n => mj_pR s fun x r => mj_fl (mj_s1 n (.ref x) l) fun l => k l r h
  | .iinc n _ => mj_lI l n fun x => mj_fl (mj_s1 n (.int (x + v)) l) fun l => k l s h
  | .iadd => mj_pI s fun y r => mj_pI r fun x r => k l (.int (x + y) :: r) h
  | .isub => mj_pI s fun y r => mj_pI r fun x r => k l (.int (x - y) :: r) h
  | .imul => mj_pI s fun y r => mj_pI r fun x r => k l (.int (x * y) :: r) h
  | .iand => mj_pI s fun y r => mj_pI r fun x r => k l (.int (x &&& y) :: r) h
  | .ior => mj_pI s fun y r => mj_pI r fun x r => k l (.int (x ||| y) :: r) h
  | .ixor => mj_pI s fun y r => mj_pI r fun x r => k l (.int (x ^^^ y) :: r) h
  | .idiv => mj_pI s fun y r => mj_pI r fun x r => ¬ y = 0 ∧ k l (.int (x / y) :: r) h
  | .irem => mj_pI s fun y r => mj_pI r fun x r => ¬ y = 0 ∧ k l (.int (x - x / y * y) :: r) h
  | .ineg => mj_pI s fun x r => k l (.int (-x) :: r) h
  | .ishl => mj_pI s fun y r => mj_pI r fun x r => k l (.int (x <<< (y &&& 31)) :: r) h
  | .ishr => mj_pI s fun y r => mj_pI r fun x r => k l (.int (x >>> (y &&& 31)) :: r) h
  | .iushr => mj_pI s fun y r => mj_pI r fun x r => k l (.int (x.toUInt32 >>> (y.toUInt32 &&& Int32.toUInt32 31)).toInt32 :: r) h
  | .ladd => mj_pL s fun y r => mj_pL r fun x r => k l (.long (x + y) :: r) h
  | .lsub => mj_pL s fun y r => mj_pL r fun x r => k l (.long (x - y) :: r) h
  | .lmul => mj_pL s fun y r => mj_pL r fun x r => k l (.long (x * y) :: r) h
  | .land => mj_pL s fun y r => mj_pL r fun x r => k l (.long (x &&& y) :: r) h
  | .lor => mj_pL s fun y r => mj_pL r fun x r => k l (.long (x ||| y) :: r) h
  | .lxor => mj_pL s fun y r => mj_pL r fun x r => k l (.long (x ^^^ y) :: r) h
  | .ldiv => mj_pL s fun y r => mj_pL r fun x r => ¬ y = 0 ∧ k l (.long (x / y) :: r) h
  | .lrem => mj_pL s fun y r => mj_pL r fun x r => ¬ y = 0 ∧ k l (.long (x - x / y * y) :: r) h
  | .lneg => mj_pL s fun x r => k l (.long (-x) :: r) h
  | .lshl => mj_pI s fun y r => mj_pL r fun x r => k l (.long (x <<< (y.toInt64 &&& 63)) :: r) h
  | .lshr => mj_pI s fun y r => mj_pL r fun x r => k l (.long (x >>> (y.toInt64 &&& 63)) :: r) h
  | .lushr => mj_pI s fun y r => mj_pL r fun x r => k l (.long (x.toUInt64 >>> (y.toInt64.toUInt64 &&& Int64.toUInt64 63)).toInt64 :: r) h
  | .lcmp => mj_pL s fun y r => mj_pL r fun x r => k l (.int (lg_cmp x y) :: r) h
  | .i2l => mj_pI s fun x r => k l (.long x.toInt64 :: r) h
  | .l2i => mj_pL s fun x r => k l (.int x.toInt32 :: r) h
  | .dup => match s with
    | .int x :: r => k l (.int x :: .int x :: r) h
    | .ref x :: r => k l (.ref x :: .ref x :: r) h
    | _ => False
  | .dup2 => mj_pI s fun x r => mj_pR r fun y r => k l (.int x :: .ref y :: .int x :: .ref y :: r) h
  | .getfield _ => mj_pR s fun q r => mj_sh S q (a + 3) fun n => mj_if (Nat.blt b n) (match c with
    | 1 => k l (.long (h.2.1 q b) :: r) h
    | 2 => k l (.ref (h.2.2 q b) :: r) h
    | _ => k l (.int (h.1 q b) :: r) h)
  | .putfield _ => match c with
    | 1 => mj_pL s fun x r => mj_pR r fun q r => mj_sh S q (a + 3) fun n => mj_if (Nat.blt b n) (k l r (h.1, mj_up h.2.1 q b x, h.2.2))
    | 2 => mj_pR s fun x r => mj_pR r fun q r => mj_sh S q (a + 3) fun n => mj_if (Nat.blt b n) (k l r (h.1, h.2.1, mj_up h.2.2 q b x))
    | 3 => mj_pI s fun x r => mj_pR r fun q r => mj_sh S q (a + 3) fun n => mj_if (Nat.blt b n) ((x = 0 ∨ x = 1) ∧ k l r (mj_up h.1 q b x, h.2.1, h.2.2))
    | _ => mj_pI s fun x r => mj_pR r fun q r => mj_sh S q (a + 3) fun n => mj_if (Nat.blt b n) (k l r (mj_up h.1 q b x, h.2.1, h.2.2))
  | .iaload => mj_pI s fun i r => mj_pR r fun q r => mj_ia S h q i fun x => k l (.int x :: r) h
  | .getstatic _ => k l (.ref 900 :: s) h
  | .laload => mj_pI s fun i r => mj_pR r fun q r => mj_sh S q 1 fun n => vp_in i n ∧ k l (.long (h.2.1 q i.toNatClampNeg) :: r) h
  | .baload => mj_pI s fun i r => mj_pR r fun q r => mj_sh S q 2 fun n => vp_in i n ∧ k l (.int (h.1 q i.toNatClampNeg) :: r) h
  | .iastore => mj_pI s fun x r => mj_pI r fun i r => mj_pR r fun q r => mj_sh S q 0 fun n => vp_in i n ∧ k l r (mj_up h.1 q i.toNatClampNeg x, h.2.1, h.2.2)
  | .lastore => mj_pL s fun x r => mj_pI r fun i r => mj_pR r fun q r => mj_sh S q 1 fun n => vp_in i n ∧ k l r (h.1, mj_up h.2.1 q i.toNatClampNeg x, h.2.2)
  | .bastore => mj_pI s fun x r => mj_pI r fun i r => mj_pR r fun q r => mj_sh S q 2 fun n => vp_in i n ∧ k l r (mj_up h.1 q i.toNatClampNeg (vp_nar .boolean x), h.2.1, h.2.2)
  | .goto _ => jmp a l s h
  | .ifCond o _ => mj_pI s fun x r => match o with
    | .eq => if x = 0 then jmp a l r h else k l r h
    | .ne => if x = 0 then k l r h else jmp a l r h
    | .lt => if x < 0 then jmp a l r h else k l r h
    | .ge => if x < 0 then k l r h else jmp a l r h
    | .gt => if x ≤ 0 then k l r h else jmp a l r h
    | .le => if x ≤ 0 then jmp a l r h else k l r h
  | .if_icmp o _ => mj_pI s fun y r => mj_pI r fun x r => match o with
    | .eq => if x = y then jmp a l r h else k l r h
    | .ne => if x = y then k l r h else jmp a l r h
    | .lt => if x < y then jmp a l r h else k l r h
    | .ge => if y ≤ x then jmp a l r h else k l r h
    | .gt => if y < x then jmp a l r h else k l r h
    | .le => if x ≤ y then jmp a l r h else k l r h
  | .tableswitch _ _ _ _ => mj_pI s fun x r => mj_sw sw a x fun t => jmp t l r h
  | .lookupswitch _ _ => mj_pI s fun x r => mj_sw sw a x fun t => jmp t l r h
  | .invokevirtual _ => mj_cl S cal a b c d s h fun r h => k l r h
  | .invokestatic _ => match Nat.beq a 999 with
    | true => mj_pI s fun n r => mj_pI r fun dp r => mj_pR r fun y r => mj_pI r fun sp r => mj_pR r fun x r => mj_sh S x 0 fun n0 => mj_sh S y 0 fun n1 =>
        (¬ sp < 0 ∧ ¬ dp < 0 ∧ ¬ n < 0 ∧ sp.toNatClampNeg + n.toNatClampNeg ≤ n0 ∧ dp.toNatClampNeg + n.toNatClampNeg ≤ n1) ∧ mj_if (Nat.ble (mj_sz r) 8) (k l r (mj_cp h.1 x sp.toNatClampNeg y dp.toNatClampNeg n.toNatClampNeg, h.2.1, h.2.2))
    | false => mj_cl S cal a b c 0 s h fun r h => k l r h
  | .return_ => match s with
    | [] => Q (.null, h)
    | _ => False
  | .ireturn => match s with
    | [.int x] => (match a with
      | 0 => Q (.int x, h)
      | _ => (x = 0 ∨ x = 1) ∧ Q (.int x, h))
    | _ => False
  | .lreturn => match s with
    | [.long x] => Q (.long x, h)
    | _ => False
  | .areturn => match s with
    | [.ref x] => Q (.ref x, h)
    | _ => False
  | _ => False
def mj_bk (S : mj_S) (cal : Nat → List Value → mj_H → mj_R → Prop) (Q : mj_R → Prop) (jmp : Nat → mj_K) : List mj_E → Nat → mj_K
  | [], pc => fun l s h => jmp pc l s h
  | e :: r, pc => fun l s h => mj_ins S cal Q jmp e.1 e.2.2.1.1 e.2.2.1.2.1 e.2.2.1.2.2.1 e.2.2.1.2.2.2 e.2.2.2.1 e.2.2.2.2.1 e.2.2.2.2.2 l s h (mj_bk S cal Q jmp r (pc + e.2.1))
def mj_sg (S : mj_S) (C : mj_C) (cal : Nat → List Value → mj_H → mj_R → Prop) (Q : mj_R → Prop) (K : Nat → mj_K) : Nat → Nat → mj_K
  | 0, _ => fun _ _ _ => False
  | m + 1, pc => fun l s h => match mj_fd C.2.1 pc with
    | some ks => K pc (mj_tm ks l) s h
    | none => match mj_fd C.1 pc with
      | some b => mj_bk S cal Q (mj_sg S C cal Q K m) b pc l s h
      | none => False
/-- from a pc on, without halting at it -/
def mj_go (S : mj_S) (C : mj_C) (cal : Nat → List Value → mj_H → mj_R → Prop) (Q : mj_R → Prop) (K : Nat → mj_K) (pc : Nat) : mj_K := fun l s h => match mj_fd C.1 pc with
  | some b => mj_bk S cal Q (mj_sg S C cal Q K 100) b pc l s h
  | none => False
def mj_rn (S : mj_S) (C : mj_C) (cal : Nat → List Value → mj_H → mj_R → Prop) (Q : mj_R → Prop) : Nat → Nat → mj_K
  | 0, _ => fun _ _ _ => False
  | n + 1, pc => mj_go S C cal Q (mj_rn S C cal Q n) pc
def mj_Ev (S : mj_S) (C : mj_C) (cal : Nat → List Value → mj_H → mj_R → Prop) (Q : mj_R → Prop) (pc : Nat) : mj_K := fun l s h => ∃ n, mj_rn S C cal Q n pc l s h
/-- what method z answers at depth D, from its arguments and the heap -/
def mj_Cl (S : mj_S) (CD : Nat → mj_C) : Nat → Nat → List Value → mj_H → mj_R → Prop
  | 0 => fun _ _ _ _ => False
  | D + 1 => fun z as h r => mj_if (Nat.ble (mj_sz as) (CD z).2.2) (mj_sg S (CD z) (mj_Cl S CD D) (fun x => x = r) (mj_Ev S (CD z) (mj_Cl S CD D) (fun x => x = r)) 100 0 (mj_a0 0 as) [] h)
-- inversions
theorem mj_pI_e {s : List Value} {F : Int32 → List Value → Prop} (h : mj_pI s F) : ∃ x r, s = .int x :: r ∧ F x r := by
  unfold mj_pI at h
  split at h
  · exact ⟨_, _, rfl, h⟩
  · exact h.elim
theorem mj_pL_e {s : List Value} {F : Int64 → List Value → Prop} (h : mj_pL s F) : ∃ x r, s = .long x :: r ∧ F x r := by
  unfold mj_pL at h
  split at h
  · exact ⟨_, _, rfl, h⟩
  · exact h.elim
theorem mj_pR_e {s : List Value} {F : Nat → List Value → Prop} (h : mj_pR s F) : ∃ x r, s = .ref x :: r ∧ F x r := by
  unfold mj_pR at h
  split at h
  · exact ⟨_, _, rfl, h⟩
  · exact h.elim
theorem mj_fd_mem {α : Type} : ∀ {l : List (Nat × α)} {i : Nat} {v : α}, mj_fd l i = some v → (i, v) ∈ l
  | [], i, v, h => by simp [mj_fd] at h
  | q :: r, i, v, h => by
    unfold mj_fd at h
    split at h
    · rename_i e
      have e2 : q.1 = i := Nat.eq_of_beq_eq_true e
      cases h
      rw [← e2]
      exact List.mem_cons_self
    · exact List.mem_cons_of_mem _ (mj_fd_mem h)
theorem mj_lI_e {l : mj_L} {i : Nat} {F : Int32 → Prop} (h : mj_lI l i F) : ∃ x, (i, Value.int x) ∈ l ∧ F x := by
  unfold mj_lI at h
  split at h
  · rename_i e
    exact ⟨_, mj_fd_mem e, h⟩
  · exact h.elim
theorem mj_lL_e {l : mj_L} {i : Nat} {F : Int64 → Prop} (h : mj_lL l i F) : ∃ x, (i, Value.long x) ∈ l ∧ F x := by
  unfold mj_lL at h
  split at h
  · rename_i e
    exact ⟨_, mj_fd_mem e, h⟩
  · exact h.elim
theorem mj_lR_e {l : mj_L} {i : Nat} {F : Nat → Prop} (h : mj_lR l i F) : ∃ x, (i, Value.ref x) ∈ l ∧ F x := by
  unfold mj_lR at h
  split at h
  · rename_i e
    exact ⟨_, mj_fd_mem e, h⟩
  · exact h.elim
theorem mj_nth_eq {α : Type} : ∀ (l : List α) (n : Nat), mj_nth l n = l[n]?
  | [], n => by simp [mj_nth]
  | x :: r, 0 => by simp [mj_nth]
  | x :: r, n + 1 => by simp [mj_nth, mj_nth_eq r n]
theorem mj_sh_e {S : mj_S} {q t : Nat} {F : Nat → Prop} (h : mj_sh S q t F) : ∃ n, S[q]? = some (t, n) ∧ F n := by
  unfold mj_sh at h
  split at h
  · rename_i z e
    split at h
    · rename_i e2
      have e3 : z.1 = t := Nat.eq_of_beq_eq_true e2
      refine ⟨z.2, ?_, h⟩
      rw [← mj_nth_eq, e, ← e3]
    · exact h.elim
  · exact h.elim
theorem mj_ia_e {S : mj_S} {h : mj_H} {q : Nat} {i : Int32} {F : Int32 → Prop} (hm : mj_ia S h q i F) : (q = 900 ∧ vp_in i 6 ∧ F (mj_most i.toNatClampNeg)) ∨ ∃ n, S[q]? = some (0, n) ∧ vp_in i n ∧ F (h.1 q i.toNatClampNeg) := by
  unfold mj_ia at hm
  split at hm
  · rename_i e
    exact Or.inl ⟨Nat.eq_of_beq_eq_true e, hm⟩
  · exact Or.inr (mj_sh_e hm)
theorem mj_if_e {b : Bool} {P : Prop} (h : mj_if b P) : b = true ∧ P := by
  cases b
  · exact h.elim
  · exact ⟨rfl, h⟩
theorem mj_in_e {x y : Nat × Value} : ∀ {l : mj_L}, y ∈ mj_in x l → y = x ∨ y ∈ l
  | [], h => by
    simp [mj_in] at h
    exact Or.inl h
  | q :: r, h => by
    unfold mj_in at h
    split at h
    · rcases List.mem_cons.mp h with h | h
      · exact Or.inr (h ▸ List.mem_cons_self)
      · rcases mj_in_e h with h | h
        · exact Or.inl h
        · exact Or.inr (List.mem_cons_of_mem _ h)
    · rcases List.mem_cons.mp h with h | h
      · exact Or.inl h
      · exact Or.inr h
end
section
/-! a walk goes one way: what holds for some x at its end, holds for some x of the whole walk -/
section MJX
variable {ι : Type}
theorem mj_x_pI {s : List Value} {F : ι → Int32 → List Value → Prop} : mj_pI s (fun x r => ∃ i, F i x r) ↔ ∃ i, mj_pI s (F i) := by
  cases s with
  | nil => simp [mj_pI]
  | cons v r => cases v <;> simp [mj_pI]
theorem mj_x_pL {s : List Value} {F : ι → Int64 → List Value → Prop} : mj_pL s (fun x r => ∃ i, F i x r) ↔ ∃ i, mj_pL s (F i) := by
  cases s with
  | nil => simp [mj_pL]
  | cons v r => cases v <;> simp [mj_pL]
theorem mj_x_pR {s : List Value} {F : ι → Nat → List Value → Prop} : mj_pR s (fun x r => ∃ i, F i x r) ↔ ∃ i, mj_pR s (F i) := by
  cases s with
  | nil => simp [mj_pR]
  | cons v r => cases v <;> simp [mj_pR]
theorem mj_x_lI {l : mj_L} {n : Nat} {F : ι → Int32 → Prop} : mj_lI l n (fun x => ∃ i, F i x) ↔ ∃ i, mj_lI l n (F i) := by
  unfold mj_lI
  cases mj_fd l n with
  | none => simp
  | some v => cases v <;> simp
theorem mj_x_lL {l : mj_L} {n : Nat} {F : ι → Int64 → Prop} : mj_lL l n (fun x => ∃ i, F i x) ↔ ∃ i, mj_lL l n (F i) := by
  unfold mj_lL
  cases mj_fd l n with
  | none => simp
  | some v => cases v <;> simp
theorem mj_x_lR {l : mj_L} {n : Nat} {F : ι → Nat → Prop} : mj_lR l n (fun x => ∃ i, F i x) ↔ ∃ i, mj_lR l n (F i) := by
  unfold mj_lR
  cases mj_fd l n with
  | none => simp
  | some v => cases v <;> simp
theorem mj_x_sh {S : mj_S} {q t : Nat} {F : ι → Nat → Prop} : mj_sh S q t (fun x => ∃ i, F i x) ↔ ∃ i, mj_sh S q t (F i) := by
  unfold mj_sh
  cases mj_nth S q with
  | none => simp
  | some z =>
    show (match Nat.beq z.1 t with | true => ∃ i, F i z.2 | false => False) ↔ ∃ i, match Nat.beq z.1 t with | true => F i z.2 | false => False
    generalize Nat.beq z.1 t = b
    cases b <;> simp
theorem mj_x_ia {S : mj_S} {h : mj_H} {q : Nat} {i : Int32} {F : ι → Int32 → Prop} : mj_ia S h q i (fun x => ∃ j, F j x) ↔ ∃ j, mj_ia S h q i (F j) := by
  unfold mj_ia
  cases Nat.beq q 900 with
  | true => exact exists_and_left.symm
  | false =>
    show (mj_sh S q 0 fun n => vp_in i n ∧ ∃ j, F j (h.1 q i.toNatClampNeg)) ↔ ∃ j, mj_sh S q 0 fun n => vp_in i n ∧ F j (h.1 q i.toNatClampNeg)
    rw [← mj_x_sh]
    simp only [exists_and_left]
theorem mj_x_if {b : Bool} {F : ι → Prop} : mj_if b (∃ i, F i) ↔ ∃ i, mj_if b (F i) := by
  cases b <;> simp [mj_if]
theorem mj_x_sw {d : Nat} {x : Int32} {F : ι → Nat → Prop} : ∀ sw : List (Int32 × Nat), mj_sw sw d x (fun t => ∃ i, F i t) ↔ ∃ i, mj_sw sw d x (F i)
  | [] => Iff.rfl
  | q :: r => by
    unfold mj_sw
    by_cases h : x = q.1
    · simp only [h, if_true]
    · simp only [h, if_false]
      exact mj_x_sw r
theorem mj_x_rt {c : Nat} {f : mj_R → Prop} {r : List Value} {g : mj_H} {F : ι → List Value → mj_H → Prop} (h : mj_rt c f r g (fun x y => ∃ i, F i x y)) : ∃ i, mj_rt c f r g (F i) := by
  match c, h with
  | 0, h => obtain ⟨I, J, h1, i, h2⟩ := h; exact ⟨i, I, J, h1, h2⟩
  | 1, h => obtain ⟨x, I, J, h1, i, h2⟩ := h; exact ⟨i, x, I, J, h1, h2⟩
  | 2, h => obtain ⟨x, I, J, h1, i, h2⟩ := h; exact ⟨i, x, I, J, h1, h2⟩
  | _ + 3, h => obtain ⟨x, I, h1, i, h2⟩ := h; exact ⟨i, x, I, h1, h2⟩
theorem mj_x_cl {S : mj_S} {cal : Nat → List Value → mj_H → mj_R → Prop} {z n c d : Nat} {s : List Value} {h : mj_H} {k : ι → List Value → mj_H → Prop} (hm : mj_cl S cal z n c d s h (fun r h => ∃ i, k i r h)) : ∃ i, mj_cl S cal z n c d s h (k i) := by
  unfold mj_cl at hm
  obtain ⟨h1, h2, h4⟩ := mj_if_e hm
  obtain ⟨i, h5⟩ := mj_x_rt h4
  refine ⟨i, ?_⟩
  unfold mj_cl
  rw [h1]
  exact ⟨h2, h5⟩
theorem mj_x_ite {c : Prop} [Decidable c] {A B : ι → Prop} : (if c then ∃ i, A i else ∃ i, B i) ↔ ∃ i, if c then A i else B i := by
  by_cases h : c <;> simp [h]
set_option maxHeartbeats 4000000 in
theorem mj_x_ins {S : mj_S} {cal : Nat → List Value → mj_H → mj_R → Prop} {Q : ι → mj_R → Prop} {jmp : ι → Nat → mj_K} {i : Jvm.ClassFile.Instr} {a b c d : Nat} {v : Int32} {w : Int64} {sw : List (Int32 × Nat)} {l : mj_L} {s : List Value} {h : mj_H} {k : ι → mj_K}
    (hm : mj_ins S cal (fun r => ∃ x, Q x r) (fun t l s h => ∃ x, jmp x t l s h) i a b c d v w sw l s h (fun l s h => ∃ x, k x l s h)) : ∃ x, mj_ins S cal (Q x) (jmp x) i a b c d v w sw l s h (k x) := by
  cases i with
  | iconst _ => exact hm
  | bipush _ => exact hm
  | sipush _ => exact hm
  | ldc _ => exact hm
  | ldc_w _ => exact hm
  | lconst _ => exact hm
  | ldc2_w _ => exact hm
  | iload_n n => exact mj_x_lI.mp hm
  | iload n => exact mj_x_lI.mp hm
  | lload_n n => exact mj_x_lL.mp hm
  | lload n => exact mj_x_lL.mp hm
  | aload_n n => exact mj_x_lR.mp hm
  | aload n => exact mj_x_lR.mp hm
  | istore_n n => simp only [mj_ins, mj_fl_eq] at hm ⊢; exact mj_x_pI.mp hm
  | istore n => simp only [mj_ins, mj_fl_eq] at hm ⊢; exact mj_x_pI.mp hm
  | lstore_n n => simp only [mj_ins, mj_fl_eq] at hm ⊢; exact mj_x_pL.mp hm
  | lstore n => simp only [mj_ins, mj_fl_eq] at hm ⊢; exact mj_x_pL.mp hm
  | astore_n n => simp only [mj_ins, mj_fl_eq] at hm ⊢; exact mj_x_pR.mp hm
  | astore n => simp only [mj_ins, mj_fl_eq] at hm ⊢; exact mj_x_pR.mp hm
  | iinc n _ => simp only [mj_ins, mj_fl_eq] at hm ⊢; exact mj_x_lI.mp hm
  | iadd => simp only [mj_ins, mj_x_pI] at hm ⊢; exact hm
  | isub => simp only [mj_ins, mj_x_pI] at hm ⊢; exact hm
  | imul => simp only [mj_ins, mj_x_pI] at hm ⊢; exact hm
  | iand => simp only [mj_ins, mj_x_pI] at hm ⊢; exact hm
  | ior => simp only [mj_ins, mj_x_pI] at hm ⊢; exact hm
  | ixor => simp only [mj_ins, mj_x_pI] at hm ⊢; exact hm
  | idiv => simp only [mj_ins, mj_x_pI, ← exists_and_left] at hm ⊢; exact hm
  | irem => simp only [mj_ins, mj_x_pI, ← exists_and_left] at hm ⊢; exact hm
  | ineg => exact mj_x_pI.mp hm
  | ishl => simp only [mj_ins, mj_x_pI] at hm ⊢; exact hm
  | ishr => simp only [mj_ins, mj_x_pI] at hm ⊢; exact hm
  | iushr => simp only [mj_ins, mj_x_pI] at hm ⊢; exact hm
  | ladd => simp only [mj_ins, mj_x_pL] at hm ⊢; exact hm
  | lsub => simp only [mj_ins, mj_x_pL] at hm ⊢; exact hm
  | lmul => simp only [mj_ins, mj_x_pL] at hm ⊢; exact hm
  | land => simp only [mj_ins, mj_x_pL] at hm ⊢; exact hm
  | lor => simp only [mj_ins, mj_x_pL] at hm ⊢; exact hm
  | lxor => simp only [mj_ins, mj_x_pL] at hm ⊢; exact hm
  | ldiv => simp only [mj_ins, mj_x_pL, ← exists_and_left] at hm ⊢; exact hm
  | lrem => simp only [mj_ins, mj_x_pL, ← exists_and_left] at hm ⊢; exact hm
  | lneg => exact mj_x_pL.mp hm
  | lshl => simp only [mj_ins, mj_x_pI, mj_x_pL] at hm ⊢; exact hm
  | lshr => simp only [mj_ins, mj_x_pI, mj_x_pL] at hm ⊢; exact hm
  | lushr => simp only [mj_ins, mj_x_pI, mj_x_pL] at hm ⊢; exact hm
  | lcmp => simp only [mj_ins, mj_x_pL] at hm ⊢; exact hm
  | i2l => exact mj_x_pI.mp hm
  | l2i => exact mj_x_pL.mp hm
  | dup =>
    simp only [mj_ins] at hm ⊢
    split at hm
    · exact hm
    · exact hm
    · exact hm.elim
  | dup2 => simp only [mj_ins, mj_x_pI, mj_x_pR] at hm ⊢; exact hm
  | getfield _ =>
    simp only [mj_ins] at hm ⊢
    split at hm <;> (simp only [mj_x_pR, mj_x_sh, mj_x_if] at hm; exact hm)
  | putfield _ =>
    simp only [mj_ins] at hm ⊢
    split at hm <;> (simp only [mj_x_pI, mj_x_pL, mj_x_pR, mj_x_sh, mj_x_if, ← exists_and_left] at hm; exact hm)
  | iaload => simp only [mj_ins, mj_x_pI, mj_x_pR, mj_x_ia] at hm ⊢; exact hm
  | getstatic _ => exact hm
  | laload => simp only [mj_ins, mj_x_pI, mj_x_pR, mj_x_sh, ← exists_and_left] at hm ⊢; exact hm
  | baload => simp only [mj_ins, mj_x_pI, mj_x_pR, mj_x_sh, ← exists_and_left] at hm ⊢; exact hm
  | iastore => simp only [mj_ins, mj_x_pI, mj_x_pR, mj_x_sh, ← exists_and_left] at hm ⊢; exact hm
  | lastore => simp only [mj_ins, mj_x_pI, mj_x_pL, mj_x_pR, mj_x_sh, ← exists_and_left] at hm ⊢; exact hm
  | bastore => simp only [mj_ins, mj_x_pI, mj_x_pR, mj_x_sh, ← exists_and_left] at hm ⊢; exact hm
  | goto _ => exact hm
  | ifCond o _ => cases o <;> (simp only [mj_ins, mj_x_pI, mj_x_ite] at hm ⊢; exact hm)
  | if_icmp o _ => cases o <;> (simp only [mj_ins, mj_x_pI, mj_x_ite] at hm ⊢; exact hm)
  | tableswitch _ _ _ _ => simp only [mj_ins, mj_x_pI, mj_x_sw] at hm ⊢; exact hm
  | lookupswitch _ _ => simp only [mj_ins, mj_x_pI, mj_x_sw] at hm ⊢; exact hm
  | invokevirtual _ => exact mj_x_cl hm
  | invokestatic _ =>
    simp only [mj_ins] at hm ⊢
    split at hm
    · simp only [mj_x_pI, mj_x_pR, mj_x_sh, mj_x_if, ← exists_and_left] at hm; exact hm
    · exact mj_x_cl hm
  | return_ =>
    simp only [mj_ins] at hm ⊢
    split at hm
    · exact hm
    · exact hm.elim
  | ireturn =>
    simp only [mj_ins] at hm ⊢
    split at hm
    · split at hm
      · exact hm
      · obtain ⟨h1, x, h2⟩ := hm; exact ⟨x, h1, h2⟩
    · exact hm.elim
  | lreturn =>
    simp only [mj_ins] at hm ⊢
    split at hm
    · exact hm
    · exact hm.elim
  | areturn =>
    simp only [mj_ins] at hm ⊢
    split at hm
    · exact hm
    · exact hm.elim
  | _ => exact hm.elim
end MJX
/-! more at the end: more of the whole walk -/
section MJM
theorem mj_m_pI {s : List Value} {F G : Int32 → List Value → Prop} (h : ∀ x r, F x r → G x r) (hm : mj_pI s F) : mj_pI s G := by
  obtain ⟨x, r, rfl, q⟩ := mj_pI_e hm
  exact h _ _ q
theorem mj_m_pL {s : List Value} {F G : Int64 → List Value → Prop} (h : ∀ x r, F x r → G x r) (hm : mj_pL s F) : mj_pL s G := by
  obtain ⟨x, r, rfl, q⟩ := mj_pL_e hm
  exact h _ _ q
theorem mj_m_pR {s : List Value} {F G : Nat → List Value → Prop} (h : ∀ x r, F x r → G x r) (hm : mj_pR s F) : mj_pR s G := by
  obtain ⟨x, r, rfl, q⟩ := mj_pR_e hm
  exact h _ _ q
theorem mj_m_lI {l : mj_L} {n : Nat} {F G : Int32 → Prop} (h : ∀ x, F x → G x) (hm : mj_lI l n F) : mj_lI l n G := by
  unfold mj_lI at hm ⊢
  split at hm
  · exact h _ hm
  · exact hm.elim
theorem mj_m_lL {l : mj_L} {n : Nat} {F G : Int64 → Prop} (h : ∀ x, F x → G x) (hm : mj_lL l n F) : mj_lL l n G := by
  unfold mj_lL at hm ⊢
  split at hm
  · exact h _ hm
  · exact hm.elim
theorem mj_m_lR {l : mj_L} {n : Nat} {F G : Nat → Prop} (h : ∀ x, F x → G x) (hm : mj_lR l n F) : mj_lR l n G := by
  unfold mj_lR at hm ⊢
  split at hm
  · exact h _ hm
  · exact hm.elim
theorem mj_m_sh {S : mj_S} {q t : Nat} {F G : Nat → Prop} (h : ∀ x, F x → G x) (hm : mj_sh S q t F) : mj_sh S q t G := by
  unfold mj_sh at hm ⊢
  split at hm
  · split at hm
    · exact h _ hm
    · exact hm.elim
  · exact hm.elim
theorem mj_m_ia {S : mj_S} {h : mj_H} {q : Nat} {i : Int32} {F G : Int32 → Prop} (hf : ∀ x, F x → G x) (hm : mj_ia S h q i F) : mj_ia S h q i G := by
  unfold mj_ia at hm ⊢
  split at hm
  · exact ⟨hm.1, hf _ hm.2⟩
  · exact mj_m_sh (fun _ q => ⟨q.1, hf _ q.2⟩) hm
theorem mj_m_if {b : Bool} {F G : Prop} (h : F → G) (hm : mj_if b F) : mj_if b G := by
  cases b
  · exact hm
  · exact h hm
theorem mj_m_sw {d : Nat} {x : Int32} {F G : Nat → Prop} (h : ∀ x, F x → G x) : ∀ sw : List (Int32 × Nat), mj_sw sw d x F → mj_sw sw d x G
  | [], hm => h _ hm
  | q :: r, hm => by
    unfold mj_sw at hm ⊢
    by_cases e : x = q.1
    · rw [if_pos e] at hm ⊢; exact h _ hm
    · rw [if_neg e] at hm ⊢; exact mj_m_sw h r hm
theorem mj_m_rt {c : Nat} {f f' : mj_R → Prop} {r : List Value} {g : mj_H} {F G : List Value → mj_H → Prop} (hf : ∀ q, f q → f' q) (hk : ∀ x y, F x y → G x y) (h : mj_rt c f r g F) : mj_rt c f' r g G := by
  match c, h with
  | 0, h => obtain ⟨I, J, h1, h2⟩ := h; exact ⟨I, J, hf _ h1, hk _ _ h2⟩
  | 1, h => obtain ⟨x, I, J, h1, h2⟩ := h; exact ⟨x, I, J, hf _ h1, hk _ _ h2⟩
  | 2, h => obtain ⟨x, I, J, h1, h2⟩ := h; exact ⟨x, I, J, hf _ h1, hk _ _ h2⟩
  | _ + 3, h => obtain ⟨x, I, h1, h2⟩ := h; exact ⟨x, I, hf _ h1, hk _ _ h2⟩
theorem mj_m_cl {S : mj_S} {cal cal' : Nat → List Value → mj_H → mj_R → Prop} {z n c d : Nat} {s : List Value} {h : mj_H} {k k' : List Value → mj_H → Prop} (hc : ∀ z as h r, cal z as h r → cal' z as h r) (hk : ∀ r h, k r h → k' r h) (hm : mj_cl S cal z n c d s h k) : mj_cl S cal' z n c d s h k' := by
  unfold mj_cl at hm ⊢
  exact mj_m_if (fun q => ⟨q.1, mj_m_rt (fun _ => hc _ _ _ _) hk q.2⟩) hm
theorem mj_m_ite {c : Prop} [Decidable c] {A B A' B' : Prop} (ha : A → A') (hb : B → B') (hm : if c then A else B) : if c then A' else B' := by
  by_cases h : c
  · rw [if_pos h] at hm ⊢; exact ha hm
  · rw [if_neg h] at hm ⊢; exact hb hm
set_option maxHeartbeats 4000000 in
theorem mj_m_ins {S : mj_S} {cal cal' : Nat → List Value → mj_H → mj_R → Prop} {Q Q' : mj_R → Prop} {jmp jmp' : Nat → mj_K} {i : Jvm.ClassFile.Instr} {a b c d : Nat} {v : Int32} {w : Int64} {sw : List (Int32 × Nat)} {l : mj_L} {s : List Value} {h : mj_H} {k k' : mj_K}
    (hc : ∀ z as h r, cal z as h r → cal' z as h r) (hQ : ∀ r, Q r → Q' r) (hj : ∀ t l s h, jmp t l s h → jmp' t l s h) (hk : ∀ l s h, k l s h → k' l s h)
    (hm : mj_ins S cal Q jmp i a b c d v w sw l s h k) : mj_ins S cal' Q' jmp' i a b c d v w sw l s h k' := by
  cases i with
  | iconst _ => exact hk _ _ _ hm
  | bipush _ => exact hk _ _ _ hm
  | sipush _ => exact hk _ _ _ hm
  | ldc _ => exact hk _ _ _ hm
  | ldc_w _ => exact hk _ _ _ hm
  | lconst _ => exact hk _ _ _ hm
  | ldc2_w _ => exact hk _ _ _ hm
  | iload_n n => exact mj_m_lI (fun _ => hk _ _ _) hm
  | iload n => exact mj_m_lI (fun _ => hk _ _ _) hm
  | lload_n n => exact mj_m_lL (fun _ => hk _ _ _) hm
  | lload n => exact mj_m_lL (fun _ => hk _ _ _) hm
  | aload_n n => exact mj_m_lR (fun _ => hk _ _ _) hm
  | aload n => exact mj_m_lR (fun _ => hk _ _ _) hm
  | istore_n n => simp only [mj_ins, mj_fl_eq] at hm ⊢; exact mj_m_pI (fun _ _ => hk _ _ _) hm
  | istore n => simp only [mj_ins, mj_fl_eq] at hm ⊢; exact mj_m_pI (fun _ _ => hk _ _ _) hm
  | lstore_n n => simp only [mj_ins, mj_fl_eq] at hm ⊢; exact mj_m_pL (fun _ _ => hk _ _ _) hm
  | lstore n => simp only [mj_ins, mj_fl_eq] at hm ⊢; exact mj_m_pL (fun _ _ => hk _ _ _) hm
  | astore_n n => simp only [mj_ins, mj_fl_eq] at hm ⊢; exact mj_m_pR (fun _ _ => hk _ _ _) hm
  | astore n => simp only [mj_ins, mj_fl_eq] at hm ⊢; exact mj_m_pR (fun _ _ => hk _ _ _) hm
  | iinc n _ => simp only [mj_ins, mj_fl_eq] at hm ⊢; exact mj_m_lI (fun _ => hk _ _ _) hm
  | iadd => exact mj_m_pI (fun _ _ => mj_m_pI (fun _ _ => hk _ _ _)) hm
  | isub => exact mj_m_pI (fun _ _ => mj_m_pI (fun _ _ => hk _ _ _)) hm
  | imul => exact mj_m_pI (fun _ _ => mj_m_pI (fun _ _ => hk _ _ _)) hm
  | iand => exact mj_m_pI (fun _ _ => mj_m_pI (fun _ _ => hk _ _ _)) hm
  | ior => exact mj_m_pI (fun _ _ => mj_m_pI (fun _ _ => hk _ _ _)) hm
  | ixor => exact mj_m_pI (fun _ _ => mj_m_pI (fun _ _ => hk _ _ _)) hm
  | idiv => exact mj_m_pI (fun _ _ => mj_m_pI (fun _ _ q => ⟨q.1, hk _ _ _ q.2⟩)) hm
  | irem => exact mj_m_pI (fun _ _ => mj_m_pI (fun _ _ q => ⟨q.1, hk _ _ _ q.2⟩)) hm
  | ineg => exact mj_m_pI (fun _ _ => hk _ _ _) hm
  | ishl => exact mj_m_pI (fun _ _ => mj_m_pI (fun _ _ => hk _ _ _)) hm
  | ishr => exact mj_m_pI (fun _ _ => mj_m_pI (fun _ _ => hk _ _ _)) hm
  | iushr => exact mj_m_pI (fun _ _ => mj_m_pI (fun _ _ => hk _ _ _)) hm
  | ladd => exact mj_m_pL (fun _ _ => mj_m_pL (fun _ _ => hk _ _ _)) hm
  | lsub => exact mj_m_pL (fun _ _ => mj_m_pL (fun _ _ => hk _ _ _)) hm
  | lmul => exact mj_m_pL (fun _ _ => mj_m_pL (fun _ _ => hk _ _ _)) hm
  | land => exact mj_m_pL (fun _ _ => mj_m_pL (fun _ _ => hk _ _ _)) hm
  | lor => exact mj_m_pL (fun _ _ => mj_m_pL (fun _ _ => hk _ _ _)) hm
  | lxor => exact mj_m_pL (fun _ _ => mj_m_pL (fun _ _ => hk _ _ _)) hm
  | ldiv => exact mj_m_pL (fun _ _ => mj_m_pL (fun _ _ q => ⟨q.1, hk _ _ _ q.2⟩)) hm
  | lrem => exact mj_m_pL (fun _ _ => mj_m_pL (fun _ _ q => ⟨q.1, hk _ _ _ q.2⟩)) hm
  | lneg => exact mj_m_pL (fun _ _ => hk _ _ _) hm
  | lshl => exact mj_m_pI (fun _ _ => mj_m_pL (fun _ _ => hk _ _ _)) hm
  | lshr => exact mj_m_pI (fun _ _ => mj_m_pL (fun _ _ => hk _ _ _)) hm
  | lushr => exact mj_m_pI (fun _ _ => mj_m_pL (fun _ _ => hk _ _ _)) hm
  | lcmp => exact mj_m_pL (fun _ _ => mj_m_pL (fun _ _ => hk _ _ _)) hm
  | i2l => exact mj_m_pI (fun _ _ => hk _ _ _) hm
  | l2i => exact mj_m_pL (fun _ _ => hk _ _ _) hm
  | dup =>
    simp only [mj_ins] at hm ⊢
    split at hm
    · exact hk _ _ _ hm
    · exact hk _ _ _ hm
    · exact hm.elim
  | dup2 => exact mj_m_pI (fun _ _ => mj_m_pR (fun _ _ => hk _ _ _)) hm
  | getfield _ =>
    refine mj_m_pR (fun _ _ => mj_m_sh (fun _ => mj_m_if (fun q => ?_))) hm
    split at q
    · exact hk _ _ _ q
    · exact hk _ _ _ q
    · exact hk _ _ _ q
  | putfield _ =>
    simp only [mj_ins] at hm ⊢
    split at hm
    · exact mj_m_pL (fun _ _ => mj_m_pR (fun _ _ => mj_m_sh (fun _ => mj_m_if (hk _ _ _)))) hm
    · exact mj_m_pR (fun _ _ => mj_m_pR (fun _ _ => mj_m_sh (fun _ => mj_m_if (hk _ _ _)))) hm
    · exact mj_m_pI (fun _ _ => mj_m_pR (fun _ _ => mj_m_sh (fun _ => mj_m_if (fun q => ⟨q.1, hk _ _ _ q.2⟩)))) hm
    · exact mj_m_pI (fun _ _ => mj_m_pR (fun _ _ => mj_m_sh (fun _ => mj_m_if (hk _ _ _)))) hm
  | iaload => exact mj_m_pI (fun _ _ => mj_m_pR (fun _ _ => mj_m_ia (fun _ => hk _ _ _))) hm
  | getstatic _ => exact hk _ _ _ hm
  | laload => exact mj_m_pI (fun _ _ => mj_m_pR (fun _ _ => mj_m_sh (fun _ q => ⟨q.1, hk _ _ _ q.2⟩))) hm
  | baload => exact mj_m_pI (fun _ _ => mj_m_pR (fun _ _ => mj_m_sh (fun _ q => ⟨q.1, hk _ _ _ q.2⟩))) hm
  | iastore => exact mj_m_pI (fun _ _ => mj_m_pI (fun _ _ => mj_m_pR (fun _ _ => mj_m_sh (fun _ q => ⟨q.1, hk _ _ _ q.2⟩)))) hm
  | lastore => exact mj_m_pL (fun _ _ => mj_m_pI (fun _ _ => mj_m_pR (fun _ _ => mj_m_sh (fun _ q => ⟨q.1, hk _ _ _ q.2⟩)))) hm
  | bastore => exact mj_m_pI (fun _ _ => mj_m_pI (fun _ _ => mj_m_pR (fun _ _ => mj_m_sh (fun _ q => ⟨q.1, hk _ _ _ q.2⟩)))) hm
  | goto _ => exact hj _ _ _ _ hm
  | ifCond o _ =>
    refine mj_m_pI (fun _ _ q => ?_) hm
    cases o <;> exact mj_m_ite (by first | exact hj _ _ _ _ | exact hk _ _ _) (by first | exact hj _ _ _ _ | exact hk _ _ _) q
  | if_icmp o _ =>
    refine mj_m_pI (fun _ _ => mj_m_pI (fun _ _ q => ?_)) hm
    cases o <;> exact mj_m_ite (by first | exact hj _ _ _ _ | exact hk _ _ _) (by first | exact hj _ _ _ _ | exact hk _ _ _) q
  | tableswitch _ _ _ _ => exact mj_m_pI (fun _ _ => mj_m_sw (fun _ => hj _ _ _ _) _) hm
  | lookupswitch _ _ => exact mj_m_pI (fun _ _ => mj_m_sw (fun _ => hj _ _ _ _) _) hm
  | invokevirtual _ => exact mj_m_cl hc (fun _ _ => hk _ _ _) hm
  | invokestatic _ =>
    simp only [mj_ins] at hm ⊢
    split at hm
    · exact mj_m_pI (fun _ _ => mj_m_pI (fun _ _ => mj_m_pR (fun _ _ => mj_m_pI (fun _ _ => mj_m_pR (fun _ _ => mj_m_sh (fun _ => mj_m_sh (fun _ q => ⟨q.1, mj_m_if (hk _ _ _) q.2⟩))))))) hm
    · exact mj_m_cl hc (fun _ _ => hk _ _ _) hm
  | return_ =>
    simp only [mj_ins] at hm ⊢
    split at hm
    · exact hQ _ hm
    · exact hm.elim
  | ireturn =>
    simp only [mj_ins] at hm ⊢
    split at hm
    · split at hm
      · exact hQ _ hm
      · exact ⟨hm.1, hQ _ hm.2⟩
    · exact hm.elim
  | lreturn =>
    simp only [mj_ins] at hm ⊢
    split at hm
    · exact hQ _ hm
    · exact hm.elim
  | areturn =>
    simp only [mj_ins] at hm ⊢
    split at hm
    · exact hQ _ hm
    · exact hm.elim
  | _ => exact hm.elim
theorem mj_m_bk {S : mj_S} {cal cal' : Nat → List Value → mj_H → mj_R → Prop} {Q Q' : mj_R → Prop} {jmp jmp' : Nat → mj_K}
    (hc : ∀ z as h r, cal z as h r → cal' z as h r) (hQ : ∀ r, Q r → Q' r) (hj : ∀ t l s h, jmp t l s h → jmp' t l s h) : ∀ (b : List mj_E) {pc : Nat} {l : mj_L} {s : List Value} {h : mj_H},
    mj_bk S cal Q jmp b pc l s h → mj_bk S cal' Q' jmp' b pc l s h
  | [], _, _, _, _, hm => hj _ _ _ _ hm
  | _ :: r, _, _, _, _, hm => mj_m_ins hc hQ hj (fun _ _ _ q => mj_m_bk hc hQ hj r q) hm
theorem mj_m_sg {S : mj_S} {C : mj_C} {cal cal' : Nat → List Value → mj_H → mj_R → Prop} {Q Q' : mj_R → Prop} {K K' : Nat → mj_K}
    (hc : ∀ z as h r, cal z as h r → cal' z as h r) (hQ : ∀ r, Q r → Q' r) (hK : ∀ t l s h, K t l s h → K' t l s h) : ∀ (m : Nat) {pc : Nat} {l : mj_L} {s : List Value} {h : mj_H},
    mj_sg S C cal Q K m pc l s h → mj_sg S C cal' Q' K' m pc l s h
  | 0, _, _, _, _, hm => hm.elim
  | m + 1, pc, l, s, h, hm => by
    unfold mj_sg at hm ⊢
    split at hm
    · exact hK _ _ _ _ hm
    · split at hm
      · exact mj_m_bk hc hQ (fun t l s h q => mj_m_sg hc hQ hK m q) _ hm
      · exact hm.elim
theorem mj_m_go {S : mj_S} {C : mj_C} {cal cal' : Nat → List Value → mj_H → mj_R → Prop} {Q Q' : mj_R → Prop} {K K' : Nat → mj_K}
    (hc : ∀ z as h r, cal z as h r → cal' z as h r) (hQ : ∀ r, Q r → Q' r) (hK : ∀ t l s h, K t l s h → K' t l s h) {pc : Nat} {l : mj_L} {s : List Value} {h : mj_H}
    (hm : mj_go S C cal Q K pc l s h) : mj_go S C cal' Q' K' pc l s h := by
  unfold mj_go at hm ⊢
  split at hm
  · exact mj_m_bk hc hQ (fun t l s h q => mj_m_sg hc hQ hK _ q) _ hm
  · exact hm.elim
theorem mj_m_rn {S : mj_S} {C : mj_C} {cal cal' : Nat → List Value → mj_H → mj_R → Prop} {Q Q' : mj_R → Prop}
    (hc : ∀ z as h r, cal z as h r → cal' z as h r) (hQ : ∀ r, Q r → Q' r) : ∀ (n : Nat) {pc : Nat} {l : mj_L} {s : List Value} {h : mj_H}, mj_rn S C cal Q n pc l s h → mj_rn S C cal' Q' n pc l s h
  | 0, _, _, _, _, hm => hm.elim
  | n + 1, _, _, _, _, hm => mj_m_go hc hQ (fun _ _ _ _ q => mj_m_rn hc hQ n q) hm
theorem mj_m_Ev {S : mj_S} {C : mj_C} {cal cal' : Nat → List Value → mj_H → mj_R → Prop} {Q Q' : mj_R → Prop}
    (hc : ∀ z as h r, cal z as h r → cal' z as h r) (hQ : ∀ r, Q r → Q' r) {pc : Nat} {l : mj_L} {s : List Value} {h : mj_H} (hm : mj_Ev S C cal Q pc l s h) : mj_Ev S C cal' Q' pc l s h := by
  obtain ⟨n, q⟩ := hm
  exact ⟨n, mj_m_rn hc hQ n q⟩
theorem mj_m_Cl {S : mj_S} {CD : Nat → mj_C} : ∀ (D : Nat) {z : Nat} {as : List Value} {h : mj_H} {r : mj_R}, mj_Cl S CD D z as h r → mj_Cl S CD (D + 1) z as h r
  | 0, _, _, _, _, hm => hm.elim
  | D + 1, z, as, h, r, hm => by
    have hc : ∀ z as h r, mj_Cl S CD D z as h r → mj_Cl S CD (D + 1) z as h r := fun _ _ _ _ q => mj_m_Cl D q
    have h2 : mj_if (Nat.ble (mj_sz as) (CD z).2.2) (mj_sg S (CD z) (mj_Cl S CD D) (fun x => x = r) (mj_Ev S (CD z) (mj_Cl S CD D) (fun x => x = r)) 100 0 (mj_a0 0 as) [] h) := hm
    exact mj_m_if (fun q => mj_m_sg hc (fun _ q => q) (fun _ _ _ _ q => mj_m_Ev hc (fun _ q => q) q) 100 q) h2
theorem mj_Cl_le {S : mj_S} {CD : Nat → mj_C} {D E : Nat} (hle : D ≤ E) {z : Nat} {as : List Value} {h : mj_H} {r : mj_R} (hm : mj_Cl S CD D z as h r) : mj_Cl S CD E z as h r := by
  induction hle with
  | refl => exact hm
  | step _ ih => exact mj_m_Cl _ ih
end MJM
section MJX2
variable {ι : Type}
theorem mj_x_bk {S : mj_S} {cal : Nat → List Value → mj_H → mj_R → Prop} {Q : ι → mj_R → Prop} {jmp : ι → Nat → mj_K} : ∀ (b : List mj_E) {pc : Nat} {l : mj_L} {s : List Value} {h : mj_H},
    mj_bk S cal (fun r => ∃ x, Q x r) (fun t l s h => ∃ x, jmp x t l s h) b pc l s h → ∃ x, mj_bk S cal (Q x) (jmp x) b pc l s h
  | [], _, _, _, _, hm => hm
  | _ :: r, _, _, _, _, hm => mj_x_ins (mj_m_ins (fun _ _ _ _ q => q) (fun _ q => q) (fun _ _ _ _ q => q) (fun _ _ _ q => mj_x_bk r q) hm)
theorem mj_x_sg {S : mj_S} {C : mj_C} {cal : Nat → List Value → mj_H → mj_R → Prop} {Q : ι → mj_R → Prop} {K : ι → Nat → mj_K} : ∀ (m : Nat) {pc : Nat} {l : mj_L} {s : List Value} {h : mj_H},
    mj_sg S C cal (fun r => ∃ x, Q x r) (fun t l s h => ∃ x, K x t l s h) m pc l s h → ∃ x, mj_sg S C cal (Q x) (K x) m pc l s h
  | 0, _, _, _, _, hm => hm.elim
  | m + 1, pc, l, s, h, hm => by
    unfold mj_sg at hm ⊢
    split at hm
    · exact hm
    · split at hm
      · exact mj_x_bk _ (mj_m_bk (fun _ _ _ _ q => q) (fun _ q => q) (fun t l s h q => mj_x_sg m q) _ hm)
      · exact hm.elim
theorem mj_x_go {S : mj_S} {C : mj_C} {cal : Nat → List Value → mj_H → mj_R → Prop} {Q : ι → mj_R → Prop} {K : ι → Nat → mj_K} {pc : Nat} {l : mj_L} {s : List Value} {h : mj_H}
    (hm : mj_go S C cal (fun r => ∃ x, Q x r) (fun t l s h => ∃ x, K x t l s h) pc l s h) : ∃ x, mj_go S C cal (Q x) (K x) pc l s h := by
  unfold mj_go at hm ⊢
  split at hm
  · exact mj_x_bk _ (mj_m_bk (fun _ _ _ _ q => q) (fun _ q => q) (fun t l s h q => mj_x_sg _ q) _ hm)
  · exact hm.elim
theorem mj_x_rn {S : mj_S} {C : mj_C} {cal : Nat → List Value → mj_H → mj_R → Prop} {Q : ι → mj_R → Prop} : ∀ (n : Nat) {pc : Nat} {l : mj_L} {s : List Value} {h : mj_H},
    mj_rn S C cal (fun r => ∃ x, Q x r) n pc l s h → ∃ x, mj_rn S C cal (Q x) n pc l s h
  | 0, _, _, _, _, hm => hm.elim
  | n + 1, _, _, _, _, hm => mj_x_go (K := fun x t l s h => mj_rn S C cal (Q x) n t l s h) (mj_m_go (fun _ _ _ _ q => q) (fun _ q => q) (fun _ _ _ _ q => mj_x_rn n q) hm)
theorem mj_x_Ev {S : mj_S} {C : mj_C} {cal : Nat → List Value → mj_H → mj_R → Prop} {Q : ι → mj_R → Prop} {pc : Nat} {l : mj_L} {s : List Value} {h : mj_H}
    (hm : mj_Ev S C cal (fun r => ∃ x, Q x r) pc l s h) : ∃ x, mj_Ev S C cal (Q x) pc l s h := by
  obtain ⟨n, q⟩ := hm
  obtain ⟨x, q⟩ := mj_x_rn n q
  exact ⟨x, n, q⟩
end MJX2
/-- on from a pc: what the walk comes to may be shown for each of the places where it halts -/
theorem mj_on {S : mj_S} {C : mj_C} {cal : Nat → List Value → mj_H → mj_R → Prop} {Q : mj_R → Prop} {pc : Nat} {l : mj_L} {s : List Value} {h : mj_H}
    (hm : mj_go S C cal Q (mj_Ev S C cal Q) pc l s h) : mj_Ev S C cal Q pc l s h := by
  have h2 : mj_go S C cal (fun r => ∃ _ : Nat, Q r) (fun t l s h => ∃ n, mj_rn S C cal Q n t l s h) pc l s h := mj_m_go (fun _ _ _ _ q => q) (fun _ q => ⟨0, q⟩) (fun _ _ _ _ q => q) hm
  obtain ⟨n, q⟩ := mj_x_go (Q := fun _ => Q) (K := fun n t l s h => mj_rn S C cal Q n t l s h) h2
  exact ⟨n + 1, q⟩
/-- a method from its entry, for any wish Q of its answer -/
theorem mj_call {S : mj_S} {CD : Nat → mj_C} {D z : Nat} {as : List Value} {h : mj_H} {Q : mj_R → Prop}
    (hm : mj_if (Nat.ble (mj_sz as) (CD z).2.2) (mj_sg S (CD z) (mj_Cl S CD D) Q (mj_Ev S (CD z) (mj_Cl S CD D) Q) 100 0 (mj_a0 0 as) [] h)) : ∃ r, Q r ∧ mj_Cl S CD (D + 1) z as h r := by
  obtain ⟨hz, hm⟩ := mj_if_e hm
  have h2 : mj_sg S (CD z) (mj_Cl S CD D) (fun r => ∃ x : { r : mj_R // Q r }, r = x.1) (fun t l s h => ∃ x : { r : mj_R // Q r }, mj_Ev S (CD z) (mj_Cl S CD D) (fun r => r = x.1) t l s h) 100 0 (mj_a0 0 as) [] h :=
    mj_m_sg (fun _ _ _ _ q => q) (fun r q => ⟨⟨r, q⟩, rfl⟩) (fun _ _ _ _ q => mj_x_Ev (Q := fun (x : { r : mj_R // Q r }) r => r = x.1) (mj_m_Ev (fun _ _ _ _ q => q) (fun r q => ⟨⟨r, q⟩, rfl⟩) q)) 100 hm
  obtain ⟨⟨r, hr⟩, q⟩ := mj_x_sg (Q := fun (x : { r : mj_R // Q r }) r => r = x.1) (K := fun (x : { r : mj_R // Q r }) t l s h => mj_Ev S (CD z) (mj_Cl S CD D) (fun r => r = x.1) t l s h) 100 h2
  have h3 : mj_if (Nat.ble (mj_sz as) (CD z).2.2) (mj_sg S (CD z) (mj_Cl S CD D) (fun x => x = r) (mj_Ev S (CD z) (mj_Cl S CD D) (fun x => x = r)) 100 0 (mj_a0 0 as) [] h) := by
    rw [hz]
    exact q
  exact ⟨r, hr, h3⟩
end
section
/-! THE SMALL MACHINE'S WORLD on the real heap, and what is to be checked of a code table -/
def mj_tr (ad : Nat → Nat) : Value → Value
  | .ref q => .ref (ad q)
  | v => v
def mj_tl (ad : Nat → Nat) (L : mj_L) : List (Nat × Value) := L.map (fun q => (q.1, mj_tr ad q.2))
def mj_rv (ad : Nat → Nat) : Value → Option Value
  | .null => none
  | v => some (mj_tr ad v)
def mj_fv (ad : Nat → Nat) (h : mj_H) (q k : Nat) : Nat → Value
  | 1 => .long (h.2.1 q k)
  | 2 => .ref (ad (h.2.2 q k))
  | _ => .int (h.1 q k)
def mj_ce (TY : Nat → Nat → FieldType) (T3 : Nat × Nat × Nat) (ad : Nat → Nat) (h : mj_H) (q : Nat) : Nat × Nat → va_E
  | (0, n) => .inl (T3.1, n, .inl (h.1 q))
  | (1, n) => .inl (T3.2.1, n, .inr (.inl (h.2.1 q)))
  | (2, n) => .inl (T3.2.2, n, .inl (h.1 q))
  | (t + 3, n) => .inr (t, (List.range n).map (fun k => mj_fv ad h q k (mj_tc (TY t k))))
def mj_W (S : mj_S) (TY : Nat → Nat → FieldType) (T3 : Nat × Nat × Nat) (ad : Nat → Nat) (h : mj_H) : va_W :=
  (List.range S.length).map (fun q => (ad q, mj_ce TY T3 ad h q (S.getD q (0, 0))))
def mj_A (ad : Nat → Nat) (n sz : Nat) : Nat → Prop := fun q => (∃ k, k < n ∧ q = ad k) ∨ sz ≤ q
def mj_tys (T3 : Nat × Nat × Nat) : List (ClassId × FieldType) := [(T3.1, .int), (T3.2.1, .long), (T3.2.2, .boolean)]
def mj_nest : Cond → Bool
  | .fieldLinkNest _ _ _ _ _ _ => true
  | .methodLinkNest _ _ _ _ => true
  | _ => false
/-- Met.ofW for a class of which no method of this name is the machine's own -/
theorem mj_ofW {l : Launch} {y : MethodName} {ws ws' : List Cond} {rm : Room} {Pc : Array Value → State → Prop} {Qc : Array Value → State → Outcome → State → Prop} {mc ms : Nat} {free : Addr → Prop} {cc : ByteArray} {maxL : Nat} {ret : Option FieldType}
    (hy : plainFor y = true) (hw : ws = Cond.code y cc maxL ret :: ws')
    (body : ∀ p e s m args below meth c s₁, BodyLoose p l y (headSpec ws rm) cc maxL ret e s m args below meth c s₁ → c.maxLocals = maxL → Pc args s →
      W p l e (headSpec ws rm).room s m args below meth c s.heap [] 0 0 (MQ below Qc args s mc ms free) (entryFrame m args maxL)) : Met l y ws rm Pc Qc mc ms free := by
  refine MetFree.of_bodySF (code := cc) (maxLocals := maxL) (ret := ret) hy ?_ ?_
  · intro args s m h hn
    obtain ⟨meth, c, h1, h2, h3, h4, h5, h6, -, -⟩ := Cond.code_spec hn (atoms_spec (ws := ws) h _ (by rw [hw]; exact List.mem_cons_self))
    exact ⟨meth, c, h1, h2, h3, h4, h5, h6⟩
  · intro p e s m args below meth c s₁ B hml hP _
    have hh0 : s₁.heap = s.heap := by rw [B.state]; rfl
    obtain ⟨t, a1, o, b1, b2, b3⟩ := body p e s m args below meth c s₁ B hml hP s₁ hh0 (Stand.of_body B)
    exact ⟨t, o, a1, b1, b2, ⟨b3.1, b3.2⟩⟩
-- small facts
theorem mj_sub {ls : Array Slot} {n : Nat} {l l' : List (Nat × Value)} (h : lv_has ls n l) (hs : ∀ q ∈ l', q ∈ l) : lv_has ls n l' := ⟨h.1, h.2.1, fun q hq => h.2.2 q (hs q hq)⟩
theorem mj_tl_mem {ad : Nat → Nat} {L : mj_L} {i : Nat} {v : Value} (h : (i, v) ∈ L) : (i, mj_tr ad v) ∈ mj_tl ad L := List.mem_map.mpr ⟨(i, v), h, rfl⟩
theorem mj_at {ls : Array Slot} {n : Nat} {ad : Nat → Nat} {L : mj_L} (h : lv_has ls n (mj_tl ad L)) {i : Nat} {v : Value} (hv : (i, v) ∈ L) : ls[i]? = some (.val (mj_tr ad v)) := h.2.2 (i, mj_tr ad v) (mj_tl_mem hv)
theorem mj_cat (ad : Nat → Nat) (v : Value) : (mj_tr ad v).category = v.category := by cases v <;> rfl
theorem mj_sz_eq (ad : Nat → Nat) : ∀ s : List Value, ((s.map (mj_tr ad)).map fun v => v.category).sum = mj_sz s
  | [] => rfl
  | v :: r => by
    simp only [List.map_cons, List.sum_cons, mj_sz, mj_cat]
    rw [mj_sz_eq ad r]
theorem mj_s1_has {ls : Array Slot} {nL i : Nat} {ad : Nat → Nat} {L : mj_L} {v : Value} (h : lv_has ls nL ((i, mj_tr ad v) :: (mj_tl ad L).filter (fun q => !(q.1 == i) && !(q.1 + 1 == i && q.2.category == 2)))) : lv_has ls nL (mj_tl ad (mj_s1 i v L)) := by
  refine mj_sub h fun q hq => ?_
  obtain ⟨x, hx, rfl⟩ := List.mem_map.mp hq
  rcases mj_in_e hx with rfl | hx
  · exact List.mem_cons_self
  · obtain ⟨h1, h2⟩ := List.mem_filter.mp hx
    refine List.mem_cons_of_mem _ (List.mem_filter.mpr ⟨mj_tl_mem h1, ?_⟩)
    simpa [mj_cat] using h2
theorem mj_s2_has {ls : Array Slot} {nL i : Nat} {ad : Nat → Nat} {L : mj_L} {v : Value} (h : lv_has ls nL ((i, mj_tr ad v) :: (mj_tl ad L).filter (fun q => !(q.1 == i) && (!(q.1 == i + 1) && !(q.1 + 1 == i && q.2.category == 2))))) : lv_has ls nL (mj_tl ad (mj_s2 i v L)) := by
  refine mj_sub h fun q hq => ?_
  obtain ⟨x, hx, rfl⟩ := List.mem_map.mp hq
  rcases mj_in_e hx with rfl | hx
  · exact List.mem_cons_self
  · obtain ⟨h1, h2⟩ := List.mem_filter.mp hx
    refine List.mem_cons_of_mem _ (List.mem_filter.mpr ⟨mj_tl_mem h1, ?_⟩)
    simpa [mj_cat] using h2
theorem mj_tm_has {ls : Array Slot} {nL : Nat} {ad : Nat → Nat} {L : mj_L} {ks : List Nat} (h : lv_has ls nL (mj_tl ad L)) : lv_has ls nL (mj_tl ad (mj_tm ks L)) := by
  refine mj_sub h fun q hq => ?_
  obtain ⟨x, hx, rfl⟩ := List.mem_map.mp hq
  exact List.mem_map.mpr ⟨x, (List.mem_filter.mp hx).1, rfl⟩
theorem mj_a0_eq (ad : Nat → Nat) : ∀ (vs : List Value) (i : Nat), lv_args i (vs.map (mj_tr ad)) = mj_tl ad (mj_a0 i vs)
  | [], _ => rfl
  | v :: vs, i => by
    show (i, mj_tr ad v) :: lv_args _ (vs.map (mj_tr ad)) = (i, mj_tr ad v) :: mj_tl ad (mj_a0 _ vs)
    rw [mj_cat, mj_a0_eq ad vs]
-- the world's cells
section MJW
variable {S : mj_S} {TY : Nat → Nat → FieldType} {T3 : Nat × Nat × Nat} {ad : Nat → Nat} {h h' : mj_H} {q n t : Nat}
theorem mj_W_at {z : Nat × Nat} (hq : S[q]? = some z) : (mj_W S TY T3 ad h)[q]? = some (ad q, mj_ce TY T3 ad h q z) := by
  have hl : q < S.length := (List.getElem?_eq_some_iff.mp hq).1
  have e : S.getD q (0, 0) = z := by simp [List.getD, hq]
  unfold mj_W
  rw [List.getElem?_map, List.getElem?_range hl]
  simp only [Option.map_some, e]
theorem mj_W_inv {e : Nat × va_E} (hq : (mj_W S TY T3 ad h)[q]? = some e) : q < S.length ∧ e = (ad q, mj_ce TY T3 ad h q (S.getD q (0, 0))) := by
  unfold mj_W at hq
  rw [List.getElem?_map] at hq
  cases h1 : (List.range S.length)[q]? with
  | none => rw [h1] at hq; cases hq
  | some j =>
    rw [h1] at hq
    obtain ⟨h2, h3⟩ := List.getElem?_eq_some_iff.mp h1
    simp only [List.length_range] at h2
    simp only [List.getElem_range] at h3
    subst h3
    simp only [Option.map_some, Option.some.injEq] at hq
    exact ⟨h2, hq.symm⟩
theorem mj_W_set {z : Nat × Nat} (hq : S[q]? = some z) (hk : ∀ k, k ≠ q → ∀ y, mj_ce TY T3 ad h' k y = mj_ce TY T3 ad h k y) : (mj_W S TY T3 ad h).set q (ad q, mj_ce TY T3 ad h' q z) = mj_W S TY T3 ad h' := by
  apply List.ext_getElem?
  intro k
  by_cases e : k = q
  · subst e
    rw [List.getElem?_set_self (by
      have := (List.getElem?_eq_some_iff.mp (mj_W_at (TY := TY) (T3 := T3) (ad := ad) (h := h) hq)).1
      exact this), mj_W_at hq]
  · rw [List.getElem?_set_ne (Ne.symm e)]
    unfold mj_W
    rw [List.getElem?_map, List.getElem?_map]
    cases h1 : (List.range S.length)[k]? with
    | none => rfl
    | some j =>
      obtain ⟨h2, h3⟩ := List.getElem?_eq_some_iff.mp h1
      simp only [List.getElem_range] at h3
      subst h3
      simp only [Option.map_some, hk _ e]
theorem mj_W_D {sz : Nat} (hinj : ∀ i j, i < S.length → j < S.length → ad i = ad j → i = j) : va_D (mj_A ad S.length sz) (mj_W S TY T3 ad h) := by
  refine ⟨fun i j x y hi hj e => ?_, fun k x hk => ?_⟩
  · obtain ⟨h1, rfl⟩ := mj_W_inv hi
    obtain ⟨h2, rfl⟩ := mj_W_inv hj
    exact hinj _ _ h1 h2 e
  · obtain ⟨h1, rfl⟩ := mj_W_inv hk
    exact Or.inl ⟨k, h1, rfl⟩
theorem mj_ce_up1 {k j : Nat} {x : Int32} (hk : k ≠ q) (y : Nat × Nat) : mj_ce TY T3 ad (mj_up h.1 q j x, h.2.1, h.2.2) k y = mj_ce TY T3 ad h k y := by
  have e : (mj_up h.1 q j x) k = h.1 k := by funext i; simp [mj_up, hk]
  obtain ⟨t, n⟩ := y
  match t with
  | 0 => simp only [mj_ce, e]
  | 1 => rfl
  | 2 => simp only [mj_ce, e]
  | t + 3 =>
    simp only [mj_ce, Sum.inr.injEq, Prod.mk.injEq, true_and]
    refine List.map_congr_left fun i _ => ?_
    unfold mj_fv
    split
    · rfl
    · rfl
    · simp only [e]
theorem mj_ce_up2 {k j : Nat} {x : Int64} (hk : k ≠ q) (y : Nat × Nat) : mj_ce TY T3 ad (h.1, mj_up h.2.1 q j x, h.2.2) k y = mj_ce TY T3 ad h k y := by
  have e : (mj_up h.2.1 q j x) k = h.2.1 k := by funext i; simp [mj_up, hk]
  obtain ⟨t, n⟩ := y
  match t with
  | 0 => rfl
  | 1 => simp only [mj_ce, e]
  | 2 => rfl
  | t + 3 =>
    simp only [mj_ce, Sum.inr.injEq, Prod.mk.injEq, true_and]
    refine List.map_congr_left fun i _ => ?_
    unfold mj_fv
    split
    · simp only [e]
    · rfl
    · rfl
theorem mj_ce_up3 {k j : Nat} {x : Nat} (hk : k ≠ q) (y : Nat × Nat) : mj_ce TY T3 ad (h.1, h.2.1, mj_up h.2.2 q j x) k y = mj_ce TY T3 ad h k y := by
  have e : (mj_up h.2.2 q j x) k = h.2.2 k := by funext i; simp [mj_up, hk]
  obtain ⟨t, n⟩ := y
  match t with
  | 0 => rfl
  | 1 => rfl
  | 2 => rfl
  | t + 3 =>
    simp only [mj_ce, Sum.inr.injEq, Prod.mk.injEq, true_and]
    refine List.map_congr_left fun i _ => ?_
    unfold mj_fv
    split
    · rfl
    · simp only [e]
    · rfl
theorem mj_fs_at {f : Nat → Value} {b : Nat} (hb : b < n) : ((List.range n).map f)[b]? = some (f b) := by
  rw [List.getElem?_map, List.getElem?_range hb]
  rfl
theorem mj_fs_set {f g : Nat → Value} {b : Nat} {v : Value} (hv : g b = v) (hk : ∀ k, k ≠ b → g k = f k) : ((List.range n).map f).set b v = (List.range n).map g := by
  apply List.ext_getElem?
  intro k
  by_cases e : k = b
  · subst e
    by_cases hl : k < n
    · rw [List.getElem?_set_self (by simpa using hl), mj_fs_at hl, hv]
    · rw [List.getElem?_eq_none (by simpa using Nat.le_of_not_lt hl), List.getElem?_eq_none (by simpa using Nat.le_of_not_lt hl)]
  · rw [List.getElem?_set_ne (Ne.symm e), List.getElem?_map, List.getElem?_map]
    cases h1 : (List.range n)[k]? with
    | none => rfl
    | some j =>
      obtain ⟨h2, h3⟩ := List.getElem?_eq_some_iff.mp h1
      simp only [List.getElem_range] at h3
      subst h3
      simp only [Option.map_some, hk _ e]
end MJW
end
section
/-! SOUNDNESS: what the small machine comes to, the method comes to -/
def mj_mf (j : Nat) : Value := .int (mj_most j)
/-- the static row MOST lies at ad 900, and nobody writes it -/
def mj_MO (ad : Nat → Nat) (A : Nat → Prop) (U : State) (H : Heap) : Prop := va_Z "UnbeatenHouse" "MOST" "[I" (.ref (ad 900)) A U H ∧ va_T .int (ad 900) 6 mj_mf A U H
theorem mj_MO.moved {ad : Nat → Nat} {A : Nat → Prop} {u U : State} {H : Heap} (hvm : u.vm.Alike U.vm) (h : mj_MO ad A u H) : mj_MO ad A U H := ⟨va_Z.moved hvm h.1, va_T.moved hvm h.2⟩
theorem mj_MO.kept {ad : Nat → Nat} {A : Nat → Prop} {U : State} {H H1 : Heap} (h : mj_MO ad A U H) (hq : ∀ a : Nat, a < H.size → ¬ A a → H1[a]? = H[a]?) : mj_MO ad A U H1 := ⟨h.1.kept hq, h.2.kept hq⟩
theorem mj_MO.narrow {ad : Nat → Nat} {A B : Nat → Prop} {U : State} {H : Heap} (h : mj_MO ad A U H) (hAB : ∀ q, B q → A q) : mj_MO ad B U H := ⟨h.1.narrow hAB, h.2.narrow hAB⟩
def mj_Pc (TB : List Cond) (CL : List vw_C) (TY : Nat → Nat → FieldType) (S : mj_S) (Dg : va_G) (T3 : Nat × Nat × Nat) (ad : Nat → Nat) (as : List Value) (h : mj_H) (sz : Nat) : Array Value → State → Prop :=
  va_Pc (as.map (mj_tr ad)) (fun U => U.heap.size = sz ∧ va_P Dg CL (mj_W S TY T3 ad h) U.heap ∧ va_K Dg CL (mj_tys T3) U ∧ (∀ w ∈ TB, mj_nest w = true → va_Nw w U) ∧ mj_MO ad (mj_A ad S.length sz) U U.heap)
def mj_Qc (CL : List vw_C) (TY : Nat → Nat → FieldType) (S : mj_S) (Dg : va_G) (T3 : Nat × Nat × Nat) (ad : Nat → Nat) (r : mj_R) (sz : Nat) : Array Value → State → Outcome → State → Prop :=
  fun _ st oc t => oc = .returned (mj_rv ad r.1) ∧ va_P Dg CL (mj_W S TY T3 ad r.2) t.heap ∧ va_F (mj_A ad S.length sz) st t
def mj_ws (TB : List Cond) (y : mj_M) : List Cond := Cond.code y.1 y.2.1 y.2.2.1 y.2.2.2 :: TB.filter goodWord
def mj_rm (D : Nat) : Room := { frames := D, cells := 0, slots := 0, locals := 64 * D }
/-- the contract that the small machine's answer r is -/
def mj_Met (l : Launch) (TB : List Cond) (CL : List vw_C) (TY : Nat → Nat → FieldType) (S : mj_S) (Dg : va_G) (T3 : Nat × Nat × Nat) (ad : Nat → Nat) (D : Nat) (y : mj_M) (as : List Value) (h : mj_H) (r : mj_R) : Prop :=
  ∀ sz, Met l y.1 (mj_ws TB y) (mj_rm D) (mj_Pc TB CL TY S Dg T3 ad as h sz) (mj_Qc CL TY S Dg T3 ad r sz) 0 0 (mj_A ad S.length sz)
theorem mj_good_in {TB : List Cond} {w : Cond} (h : w ∈ TB) (hg : goodWord w = true) : w ∈ TB.filter goodWord := List.mem_filter.mpr ⟨h, hg⟩
theorem mj_nw {TB : List Cond} {s U : State} (hW : s.WarmedH U.vm) (h : ∀ w ∈ TB, mj_nest w = true → va_Nw w s) : ∀ w ∈ TB, mj_nest w = true → va_Nw w U := by
  intro w hw hn
  have h1 := h w hw hn
  cases w <;> first | exact va_Nw.warmF hW h1 | exact va_Nw.warmM hW h1 | exact absurd (show false = true from hn) (by decide)
theorem mj_goodIn {TB : List Cond} {y : mj_M} (h : mj_okY TB y) : GoodIn (TB.filter goodWord) (mj_ws TB y) := by
  intro w hw
  rcases List.mem_cons.mp hw with rfl | hw
  · exact ⟨mj_good_in h.1 rfl, good_of_word rfl⟩
  · exact ⟨hw, good_of_word (List.mem_filter.mp hw).2⟩
theorem mj_blind {TB : List Cond} {CL : List vw_C} {TY : Nat → Nat → FieldType} {S : mj_S} {Dg : va_G} {T3 : Nat × Nat × Nat} {ad : Nat → Nat} {as : List Value} {h : mj_H} {sz : Nat} : FrameBlind (mj_Pc TB CL TY S Dg T3 ad as h sz) := by
  intro a U g mk q
  obtain ⟨q0, q1, q2, q3, q4, q5⟩ := q
  refine ⟨q0, q1, q2, va_K.moved (u := U) (U := U.calling g mk a) (Vm.Alike.refl U.vm) q3, fun w hw hn => ?_, mj_MO.moved (u := U) (U := U.calling g mk a) (Vm.Alike.refl U.vm) q5⟩
  have h1 := q4 w hw hn
  cases w <;> first | exact va_Nw.same (u := U) rfl rfl h1 | exact absurd (show false = true from hn) (by decide)
section MJS
variable {p : Program} {l : Launch} {e : Env} {s : State} {m : MethodId} {args : Array Value} {below : List Frame} {meth : Method} {c : Code}
variable {TB : List Cond} {CL : List vw_C} {TY : Nat → Nat → FieldType} {MS : Nat → mj_M} {S : mj_S} {Dg : va_G} {T3 : Nat × Nat × Nat} {ad : Nat → Nat} {cc : ByteArray} {nL D : Nat} {own : String} {rr : mj_R} {rt : Option FieldType}
/-- what holds all along a method's walk -/
def mj_Cx (p : Program) (s : State) (m : MethodId) (args : Array Value) (meth : Method) (c : Code) (TB : List Cond) (CL : List vw_C) (S : mj_S) (Dg : va_G) (T3 : Nat × Nat × Nat) (ad : Nat → Nat) (cc : ByteArray) (nL : Nat) (own : String) (rt : Option FieldType) : Prop :=
  p.tables.exec = Jvm.exec ∧ c.code = cc ∧ c.maxLocals = nL ∧ s.vm.findClass own = some m.cls ∧ (∀ w ∈ TB.filter goodWord, w.before args s = true) ∧ va_K Dg CL (mj_tys T3) s ∧ (∀ w ∈ TB, mj_nest w = true → va_Nw w s) ∧ (∀ i j, i < S.length → j < S.length → ad i = ad j → i = j) ∧ meth.locks = false ∧ meth.sig.returnType = rt ∧ mj_MO ad (mj_A ad S.length s.heap.size) s s.heap
/-- what the tables of classes keep -/
def mj_Cs (TB : List Cond) (CL : List vw_C) (TY : Nat → Nat → FieldType) (S : mj_S) : Prop :=
  (∀ (ci : Nat) (C : String) (T : u_T) (N : Nat), CL[ci]? = some (C, T, N) → (∀ w ∈ u_ws C T N, w ∈ TB) ∧ (∀ k, k < N → parseFieldDescriptor (T k).2.2.1 = some (TY ci k)) ∧ (∀ a, a < N → ∀ b, b < N → a ≠ b → (T a).2.1 ≠ (T b).2.1)) ∧
  (∀ (q t n : Nat), S[q]? = some (t + 3, n) → ∃ (C : String) (T : u_T), CL[t]? = some (C, T, n))
def mj_Go (p : Program) (l : Launch) (e : Env) (s : State) (m : MethodId) (args : Array Value) (below : List Frame) (meth : Method) (c : Code) (CL : List vw_C) (TY : Nat → Nat → FieldType) (S : mj_S) (Dg : va_G) (T3 : Nat × Nat × Nat) (ad : Nat → Nat) (nL D : Nat) (rr : mj_R) (pc : Nat) (L : mj_L) (st : List Value) (h : mj_H) : Prop :=
  ∀ (H : Heap) (locs : List Loc) (ls : Array Slot), va_P Dg CL (mj_W S TY T3 ad h) H → va_S (mj_A ad S.length s.heap.size) s.heap H locs → lv_has ls nL (mj_tl ad L) →
    W p l e (mj_rm D) s m args below meth c H locs 0 0 (MQ below (mj_Qc CL TY S Dg T3 ad rr s.heap.size) args s 0 0 (mj_A ad S.length s.heap.size)) (F0 m pc ls (st.map (mj_tr ad)))
theorem mj_lays {C : String} {T : u_T} {N : Nat} (h : ∀ w ∈ u_ws C T N, w ∈ TB) : ∀ w ∈ u_ws C T N, w ∈ TB.filter goodWord := by
  intro w hw
  refine mj_good_in (h w hw) ?_
  obtain ⟨k, -, rfl⟩ := List.mem_map.mp hw
  unfold u_lay
  split <;> rfl
theorem mj_getf (X : mj_Cx p s m args meth c TB CL S Dg T3 ad cc nL own rt) (Y : mj_Cs TB CL TY S) {x a b n q pc : Nat} {L : mj_L} {r : List Value} {h : mj_H} {u : Value}
    (hF : mj_okF TB CL own x a b) (hq : S[q]? = some (a + 3, n)) (hb : b < n) (hdg : decode cc pc = .ok (.getfield x, 3)) (hu : mj_tr ad u = mj_fv ad h q b (mj_tc (TY a b)))
    (k : mj_Go p l e s m args below meth c CL TY S Dg T3 ad nL D rr (pc + 3) L (u :: r) h) : mj_Go p l e s m args below meth c CL TY S Dg T3 ad nL D rr pc L (.ref q :: r) h := by
  intro H locs ls hP hS hl
  obtain ⟨hx, hbc, hml, hown, hts, hK, hN, hinj, -⟩ := X
  obtain ⟨C, T, N, hc, hbN, hlk⟩ := hF
  have hk := k H locs ls hP hS hl
  have he := mj_W_at (TY := TY) (T3 := T3) (ad := ad) (h := h) hq
  have hv : ((List.range n).map (fun k => mj_fv ad h q k (mj_tc (TY a k))))[b]? = some (mj_tr ad u) := by rw [hu]; exact mj_fs_at hb
  rcases hlk with hlk | ⟨host, hlk⟩
  · exact va_get hx hbc hts (mj_lays (Y.1 a C T N hc).1) hown hK hP q he hc b hbN (hts _ (mj_good_in hlk rfl)) (fun _ h9 => h9) hv hdg hk
  · exact va_getN hx hbc hts (mj_lays (Y.1 a C T N hc).1) hown hK hP q he hc b hbN (va_Nw.use rfl (hN _ hlk rfl)) (fun _ h9 => h9) hv hdg hk
theorem mj_putf (X : mj_Cx p s m args meth c TB CL S Dg T3 ad cc nL own rt) (Y : mj_Cs TB CL TY S) {x a b n q pc : Nat} {L : mj_L} {r : List Value} {h h' : mj_H} {u : Value}
    (hF : mj_okF TB CL own x a b) (hfin : ∃ q, CL[a]? = some q ∧ (q.2.1 b).2.2.2 = false) (hq : S[q]? = some (a + 3, n)) (hb : b < n) (hdg : decode cc pc = .ok (.putfield x, 3))
    (hnar : narrow (TY a b) (mj_tr ad u) = mj_tr ad u) (hfit : fits (TY a b) (mj_tr ad u) = true)
    (hu : ∀ k, mj_fv ad h' q k (mj_tc (TY a k)) = if k = b then mj_tr ad u else mj_fv ad h q k (mj_tc (TY a k))) (ho : ∀ k, k ≠ q → ∀ y, mj_ce TY T3 ad h' k y = mj_ce TY T3 ad h k y)
    (k : mj_Go p l e s m args below meth c CL TY S Dg T3 ad nL D rr (pc + 3) L r h') : mj_Go p l e s m args below meth c CL TY S Dg T3 ad nL D rr pc L (u :: .ref q :: r) h := by
  intro H locs ls hP hS hl
  obtain ⟨hx, hbc, hml, hown, hts, hK, hN, hinj, -⟩ := X
  obtain ⟨C, T, N, hc, hbN, hlk⟩ := hF
  obtain ⟨q9, hq9, hfin⟩ := hfin
  have e9 : q9 = (C, T, N) := Option.some.inj (hq9.symm.trans hc)
  subst e9
  have he := mj_W_at (TY := TY) (T3 := T3) (ad := ad) (h := h) hq
  have hD := mj_W_D (S := S) (TY := TY) (T3 := T3) (ad := ad) (h := h) (sz := s.heap.size) hinj
  have hlen : b < ((List.range n).map (fun k => mj_fv ad h q k (mj_tc (TY a k)))).length := by simpa using hb
  have hset : (mj_W S TY T3 ad h).set q (ad q, .inr (a, ((List.range n).map (fun k => mj_fv ad h q k (mj_tc (TY a k)))).set b (mj_tr ad u))) = mj_W S TY T3 ad h' := by
    rw [mj_fs_set (g := fun k => mj_fv ad h' q k (mj_tc (TY a k))) (by rw [hu b, if_pos rfl]) (fun k hk => by rw [hu k, if_neg hk])]
    exact mj_W_set (z := (a + 3, n)) hq ho
  have kk : ∀ (H1 : Heap) (locs1 : List Loc), va_P Dg CL ((mj_W S TY T3 ad h).set q (ad q, .inr (a, ((List.range n).map (fun k => mj_fv ad h q k (mj_tc (TY a k)))).set b (mj_tr ad u)))) H1 → va_D (mj_A ad S.length s.heap.size) ((mj_W S TY T3 ad h).set q (ad q, .inr (a, ((List.range n).map (fun k => mj_fv ad h q k (mj_tc (TY a k)))).set b (mj_tr ad u)))) → va_S (mj_A ad S.length s.heap.size) s.heap H1 locs1 → W p l e (mj_rm D) s m args below meth c H1 locs1 0 0 (MQ below (mj_Qc CL TY S Dg T3 ad rr s.heap.size) args s 0 0 (mj_A ad S.length s.heap.size)) (F0 m (pc + 3) ls (r.map (mj_tr ad))) :=
    fun H1 locs1 g1 g2 g3 => k H1 locs1 ls (hset ▸ g1) g3 hl
  rcases hlk with hlk | ⟨host, hlk⟩
  · exact va_put hx hbc hts (mj_lays (Y.1 a C T N hc).1) (TY a) (Y.1 a C T N hc).2.1 (Y.1 a C T N hc).2.2 hown hK hP hD hS q he hc b hbN (hts _ (mj_good_in hlk rfl)) (fun _ h9 => h9) hfin ((Y.1 a C T N hc).2.1 b hbN) hnar hfit hlen hdg kk
  · exact va_putN hx hbc hts (mj_lays (Y.1 a C T N hc).1) (TY a) (Y.1 a C T N hc).2.1 (Y.1 a C T N hc).2.2 hown hK hP hD hS q he hc b hbN (va_Nw.use rfl (hN _ hlk rfl)) (fun _ h9 => h9) hfin ((Y.1 a C T N hc).2.1 b hbN) hnar hfit hlen hdg kk
/-- behind a call -/
theorem mj_back {rc : mj_R} {H : Heap} {locs : List Loc} {pc : Nat} {ls : Array Slot} {st0 rest : List Value} {a : Array Value}
    (hr : va_Run p l e (mj_rm D) s m args below meth c H locs 0 0 0 0 (F0 m pc ls st0) rest (mj_Qc CL TY S Dg T3 ad rc H.size a) (mj_A ad S.length H.size)) (hS : va_S (mj_A ad S.length s.heap.size) s.heap H locs)
    (kk : ∀ (H1 : Heap) (locs1 : List Loc), va_P Dg CL (mj_W S TY T3 ad rc.2) H1 → va_S (mj_A ad S.length s.heap.size) s.heap H1 locs1 → W p l e (mj_rm D) s m args below meth c H1 locs1 0 0 (MQ below (mj_Qc CL TY S Dg T3 ad rr s.heap.size) args s 0 0 (mj_A ad S.length s.heap.size)) (F0 m (pc + 3) ls ((mj_rv ad rc.1).toList ++ rest))) :
    W p l e (mj_rm D) s m args below meth c H locs 0 0 (MQ below (mj_Qc CL TY S Dg T3 ad rr s.heap.size) args s 0 0 (mj_A ad S.length s.heap.size)) (F0 m pc ls st0) := by
  have hA : ∀ q, q < H.size → mj_A ad S.length H.size q → mj_A ad S.length s.heap.size q := by
    intro q hq h
    rcases h with h | h
    · exact Or.inl h
    · omega
  have hf : ∀ q, mj_A ad S.length H.size q → mj_A ad S.length s.heap.size q := by
    intro q h
    rcases h with h | h
    · exact Or.inl h
    · exact Or.inr (Nat.le_trans hS.1 h)
  intro T hT X
  obtain ⟨v, st₀, t, T', L, h0, X', hL, e1, e2, ⟨hv, hp, hz, hk⟩, st⟩ := hr T hT X
  cases hv
  rw [h0] at hz hk
  obtain ⟨t2, a1, b1⟩ := kk T'.heap (locs ++ L) (by rw [e1]; exact hp)
    ⟨Nat.le_trans hS.1 (by rw [e1]; exact hz), fun q h1 h2 => by rw [e1, hk q (Nat.lt_of_lt_of_le h1 hS.1) (fun z => h2 (hA q (Nat.lt_of_lt_of_le h1 hS.1) z))]; exact hS.2.1 q h1 h2, fun q hq => by
      rcases List.mem_append.mp hq with h | h
      · exact hS.2.2 q h
      · exact hf _ (hL q h)⟩ T' rfl X'
  exact ⟨t2, st t2 a1, b1⟩
theorem mj_room {D nL : Nat} (h : nL ≤ 40) : (mj_rm D).frames + 1 ≤ (mj_rm (D + 1)).frames ∧ 8 + (nL + 11) + (mj_rm D).locals ≤ (mj_rm (D + 1)).locals := by
  simp only [mj_rm]
  omega
theorem mj_pre {z : mj_M} (X : mj_Cx p s m args meth c TB CL S Dg T3 ad cc nL own rt) {as : List Value} {h : mj_H} {H : Heap} {locs : List Loc} (hP : va_P Dg CL (mj_W S TY T3 ad h) H) (hS : va_S (mj_A ad S.length s.heap.size) s.heap H locs) : ∀ U : State, U.heap = H → s.WarmedH U.vm → mj_Pc TB CL TY S Dg T3 ad as h H.size (as.map (mj_tr ad)).toArray U := by
  obtain ⟨hx, hbc, hml, hown, hts, hK, hN, hinj, hlk, hrt, hMO⟩ := X
  exact fun U hU hW => ⟨rfl, by rw [hU], by rw [hU]; exact hP, va_K.moved hW.alike hK, mj_nw hW hN, by
    rw [hU]
    exact mj_MO.moved hW.alike ((hMO.kept hS.2.1).narrow fun q h => by
      rcases h with h | h
      · exact Or.inl h
      · exact Or.inr (Nat.le_trans hS.1 h))⟩
end MJS
end
section
/-! each instruction is sound -/
theorem mj_rc_e {S : mj_S} {ci : Nat} {as : List Value} (h : mj_rc S (ci + 1) as) : ∃ q r n, as = .ref q :: r ∧ S[q]? = some (ci + 3, n) := by
  unfold mj_rc at h
  match as, h with
  | .ref q :: r, h =>
    obtain ⟨n, h1, -⟩ := mj_sh_e h
    exact ⟨q, r, n, rfl, h1⟩
theorem mj_rt_e {c : Nat} {f : mj_R → Prop} {r : List Value} {g : mj_H} {F : List Value → mj_H → Prop} (ad : Nat → Nat) (h : mj_rt c f r g F) : ∃ q : mj_R, f q ∧ ∃ r', F r' q.2 ∧ (mj_rv ad q.1).toList ++ r.map (mj_tr ad) = r'.map (mj_tr ad) := by
  match c, h with
  | 0, h => obtain ⟨I, J, h1, h2⟩ := h; exact ⟨_, h1, _, h2, rfl⟩
  | 1, h => obtain ⟨x, I, J, h1, h2⟩ := h; exact ⟨_, h1, _, h2, rfl⟩
  | 2, h => obtain ⟨x, I, J, h1, h2⟩ := h; exact ⟨_, h1, _, h2, rfl⟩
  | _ + 3, h => obtain ⟨x, I, h1, h2⟩ := h; exact ⟨_, h1, _, h2, rfl⟩
theorem mj_sw_e {x : Int32} {d : Nat} {F : Nat → Prop} : ∀ {sw : List (Int32 × Nat)}, mj_sw sw d x F → ((∀ k, k < sw.length → x ≠ (sw.getD k (0, 0)).1) ∧ F d) ∨ ∃ k, k < sw.length ∧ x = (sw.getD k (0, 0)).1 ∧ F (sw.getD k (0, 0)).2
  | [], h => Or.inl ⟨fun k hk => absurd hk (Nat.not_lt_zero k), h⟩
  | q :: r, h => by
    unfold mj_sw at h
    by_cases e : x = q.1
    · rw [if_pos e] at h
      exact Or.inr ⟨0, Nat.succ_pos _, e, h⟩
    · rw [if_neg e] at h
      rcases mj_sw_e h with ⟨h1, h2⟩ | ⟨k, h1, h2, h3⟩
      · refine Or.inl ⟨fun k hk => ?_, h2⟩
        cases k with
        | zero => exact e
        | succ k => exact h1 k (Nat.lt_of_succ_lt_succ hk)
      · exact Or.inr ⟨k + 1, Nat.succ_lt_succ h1, h2, h3⟩
theorem mj_sw_l {x : Int32} {d pc : Nat} {F : Nat → Prop} : ∀ {sw : List (Int32 × Nat)}, mj_sw sw d x F → ∃ t : Nat, F t ∧ Op.lookupswitch.offset (sw.map (fun q => (q.1.toInt, (q.2 : Int) - pc))) ((d : Int) - pc) x.toInt = (t : Int) - pc
  | [], h => ⟨d, h, rfl⟩
  | q :: r, h => by
    unfold mj_sw at h
    by_cases e : x = q.1
    · rw [if_pos e] at h
      refine ⟨q.2, h, ?_⟩
      rw [List.map_cons, Op.lookupswitch.offset_cons, if_pos (by rw [e])]
    · rw [if_neg e] at h
      obtain ⟨t, h1, h2⟩ := mj_sw_l h
      refine ⟨t, h1, ?_⟩
      rw [List.map_cons, lv_osw e rfl]
      exact h2
section MJI
variable {p : Program} {l : Launch} {e : Env} {s : State} {m : MethodId} {args : Array Value} {below : List Frame} {meth : Method} {c : Code}
variable {TB : List Cond} {CL : List vw_C} {TY : Nat → Nat → FieldType} {MS : Nat → mj_M} {S : mj_S} {Dg : va_G} {T3 : Nat × Nat × Nat} {ad : Nat → Nat} {cc : ByteArray} {nL D : Nat} {own : String} {rr : mj_R} {rt : Option FieldType}
theorem mj_s_virt (X : mj_Cx p s m args meth c TB CL S Dg T3 ad cc nL own rt) {x n d pc : Nat} {y : mj_M} {L : mj_L} {st : List Value} {h : mj_H} {as : List Value} {q : mj_R} {r' : List Value}
    (hok : mj_okV TB CL own x y n d) (hn : n ≤ st.length) (h8 : mj_sz (st.drop n) ≤ 8) (has : as = (st.take n).reverse) (hrc : mj_rc S d as) (hM : mj_Met l TB CL TY S Dg T3 ad D y as h q) (hr' : (mj_rv ad q.1).toList ++ (st.drop n).map (mj_tr ad) = r'.map (mj_tr ad)) (hdg : decode cc pc = .ok (.invokevirtual x, 3))
    (hk : mj_Go p l e s m args below meth c CL TY S Dg T3 ad nL (D + 1) rr (pc + 3) L r' q.2) : mj_Go p l e s m args below meth c CL TY S Dg T3 ad nL (D + 1) rr pc L st h := by
  obtain ⟨hlk, hin, hsel, ⟨ci, T, N, rfl, hcl⟩, ⟨kn, rfl, hpar⟩, hY⟩ := hok
  obtain ⟨q0, as', n0, e0, hq0⟩ := mj_rc_e hrc
  have e1 : st = as'.reverse ++ .ref q0 :: st.drop (kn + 1) := by
    have e2 : st.take (kn + 1) = as.reverse := by rw [has, List.reverse_reverse]
    calc st = st.take (kn + 1) ++ st.drop (kn + 1) := (List.take_append_drop _ _).symm
      _ = as'.reverse ++ .ref q0 :: st.drop (kn + 1) := by rw [e2, e0]; simp
  have hlen : as'.length = kn := by
    have h1 : as.length = kn + 1 := by rw [has, List.length_reverse, List.length_take, Nat.min_eq_left hn]
    rw [e0] at h1
    simpa using h1
  subst e0
  intro H locs ls hP hS hl
  obtain ⟨hx, hbc, hml, hown, hts, hK, hN, hinj, -⟩ := id X
  have he := mj_W_at (TY := TY) (T3 := T3) (ad := ad) (h := h) hq0
  have hpre : PreV s H y.1.cls (ad q0) (mj_Pc TB CL TY S Dg T3 ad (.ref q0 :: as') h H.size) (as'.map (mj_tr ad)) := ⟨mj_blind, va_recv hK hP hcl he, mj_pre (z := y) X hP hS⟩
  have hst : st.map (mj_tr ad) = (as'.map (mj_tr ad)).reverse ++ .ref (ad q0) :: (st.drop (kn + 1)).map (mj_tr ad) := by
    conv => lhs; rw [e1]
    rw [List.map_append, List.map_reverse]
    rfl
  have h9 : 2 * (F0 m pc ls (st.map (mj_tr ad))).monitorRoom + (((st.drop (kn + 1)).map (mj_tr ad)).map fun v => v.category).sum ≤ 8 := lv_room (by rw [mj_sz_eq]; exact h8)
  have hn' : (as'.map (mj_tr ad)).length = kn := by rw [List.length_map]; exact hlen
  have hY2 := hY
  obtain ⟨hco, hini, hmx, hpl, hnm1, hnm2⟩ := hY2
  rcases hlk with hlk | ⟨host, hlk⟩
  · have hT : GoodIn (TB.filter goodWord) (wsV own x y.1.cls y.1 (mj_ws TB y)) := by
      intro w hw
      rcases List.mem_append.mp hw with hw | hw
      · simp only [List.mem_cons, List.not_mem_nil, or_false] at hw
        rcases hw with rfl | rfl | rfl | rfl
        · exact ⟨mj_good_in hlk rfl, good_of_word rfl⟩
        · exact ⟨mj_good_in hin rfl, good_of_word rfl⟩
        · exact ⟨mj_good_in hsel rfl, good_of_word rfl⟩
        · exact ⟨mj_good_in hini rfl, good_of_word rfl⟩
      · exact mj_goodIn hY w hw
    refine mj_back (va_runV (As := as'.map (mj_tr ad)) (rest := (st.drop (kn + 1)).map (mj_tr ad)) ⟨hx, hbc, hml, hown, hts⟩ (hM H.size) (cwV kn hts hT rfl rfl rfl ⟨rfl, hnm1, hnm2, hpar⟩ (mj_room hmx)) hpre rfl hn' hl.1 hst h9 hdg ⟨by simp [mj_rm], by simp [mj_rm]⟩) hS (fun H1 locs1 hP1 hS1 => ?_)
    rw [hr']
    exact hk H1 locs1 ls hP1 hS1 hl
  · refine mj_back (va_runVN (As := as'.map (mj_tr ad)) (rest := (st.drop (kn + 1)).map (mj_tr ad)) ⟨hx, hbc, hml, hown, hts⟩ (hM H.size) ⟨va_cnB kn hts (mj_goodIn hY) rfl rfl rfl (hN _ hlk rfl) (hts _ (mj_good_in hini rfl)) ⟨hnm1, hnm2, hpar⟩ (mj_room hmx), hts _ (mj_good_in hin rfl), hts _ (mj_good_in hsel rfl)⟩ hpre rfl hn' hl.1 hst h9 hdg ⟨by simp [mj_rm], by simp [mj_rm]⟩) hS (fun H1 locs1 hP1 hS1 => ?_)
    rw [hr']
    exact hk H1 locs1 ls hP1 hS1 hl
theorem mj_s_stat (X : mj_Cx p s m args meth c TB CL S Dg T3 ad cc nL own rt) {x n pc : Nat} {y : mj_M} {L : mj_L} {st : List Value} {h : mj_H} {as : List Value} {q : mj_R} {r' : List Value}
    (hok : mj_okS TB own x y n) (hn : n ≤ st.length) (h8 : mj_sz (st.drop n) ≤ 8) (has : as = (st.take n).reverse) (hM : mj_Met l TB CL TY S Dg T3 ad D y as h q) (hr' : (mj_rv ad q.1).toList ++ (st.drop n).map (mj_tr ad) = r'.map (mj_tr ad)) (hdg : decode cc pc = .ok (.invokestatic x, 3))
    (hk : mj_Go p l e s m args below meth c CL TY S Dg T3 ad nL (D + 1) rr (pc + 3) L r' q.2) : mj_Go p l e s m args below meth c CL TY S Dg T3 ad nL (D + 1) rr pc L st h := by
  obtain ⟨hlk, hsta, hpar, hY⟩ := hok
  have e1 : st = as.reverse ++ st.drop n := by rw [has, List.reverse_reverse, List.take_append_drop]
  have hlen : as.length = n := by rw [has, List.length_reverse, List.length_take, Nat.min_eq_left hn]
  intro H locs ls hP hS hl
  obtain ⟨hx, hbc, hml, hown, hts, hK, hN, hinj, -⟩ := id X
  have hpre : PreS s H (mj_Pc TB CL TY S Dg T3 ad as h H.size) (as.map (mj_tr ad)) := ⟨mj_blind, mj_pre (z := y) X hP hS⟩
  have hst : st.map (mj_tr ad) = (as.map (mj_tr ad)).reverse ++ (st.drop n).map (mj_tr ad) := by
    conv => lhs; rw [e1]
    rw [List.map_append, List.map_reverse]
  have h9 : 2 * (F0 m pc ls (st.map (mj_tr ad))).monitorRoom + (((st.drop n).map (mj_tr ad)).map fun v => v.category).sum ≤ 8 := lv_room (by rw [mj_sz_eq]; exact h8)
  have hn' : (as.map (mj_tr ad)).length = n := by rw [List.length_map]; exact hlen
  have hY2 := hY
  obtain ⟨hco, hini, hmx, hpl, hnm1, hnm2⟩ := hY2
  rcases hlk with hlk | ⟨host, hlk⟩
  · have hT : GoodIn (TB.filter goodWord) (va_wsS own x y.1 (mj_ws TB y)) := by
      intro w hw
      rcases List.mem_append.mp hw with hw | hw
      · simp only [List.mem_cons, List.not_mem_nil, or_false] at hw
        rcases hw with rfl | rfl | rfl
        · exact ⟨mj_good_in hlk rfl, good_of_word rfl⟩
        · exact ⟨mj_good_in hsta rfl, good_of_word rfl⟩
        · exact ⟨mj_good_in hini rfl, good_of_word rfl⟩
      · exact mj_goodIn hY w hw
    refine mj_back (va_runS (As := as.map (mj_tr ad)) (rest := (st.drop n).map (mj_tr ad)) ⟨hx, hbc, hml, hown, hts⟩ (hM H.size) (va_cwS n hts hT rfl rfl rfl ⟨hnm1, hnm2, hpar⟩ (mj_room hmx)) hpre rfl hn' hl.1 hst h9 hdg ⟨by simp [mj_rm], by simp [mj_rm]⟩) hS (fun H1 locs1 hP1 hS1 => ?_)
    rw [hr']
    exact hk H1 locs1 ls hP1 hS1 hl
  · refine mj_back (va_runSN (As := as.map (mj_tr ad)) (rest := (st.drop n).map (mj_tr ad)) ⟨hx, hbc, hml, hown, hts⟩ (hM H.size) ⟨va_cnB n hts (mj_goodIn hY) rfl rfl rfl (hN _ hlk rfl) (hts _ (mj_good_in hini rfl)) ⟨hnm1, hnm2, hpar⟩ (mj_room hmx), hts _ (mj_good_in hsta rfl), trivial⟩ hpre rfl hn' hl.1 hst h9 hdg ⟨by simp [mj_rm], by simp [mj_rm]⟩) hS (fun H1 locs1 hP1 hS1 => ?_)
    rw [hr']
    exact hk H1 locs1 ls hP1 hS1 hl
end MJI
end
section
/-! the small machine is sound: every instruction, every block, every method -/
section MJJ
variable {p : Program} {l : Launch} {e : Env} {s : State} {m : MethodId} {args : Array Value} {below : List Frame} {meth : Method} {c : Code}
variable {TB : List Cond} {CL : List vw_C} {TY : Nat → Nat → FieldType} {MS : Nat → mj_M} {S : mj_S} {Dg : va_G} {T3 : Nat × Nat × Nat} {ad : Nat → Nat} {cc : ByteArray} {nL D : Nat} {own : String} {rr : mj_R} {rt : Option FieldType}
theorem mj_narI {ty : FieldType} {x : Int32} (h : mj_tc ty = 0) : narrow ty (.int x) = .int x ∧ fits ty (.int x) = true := by
  cases ty <;> simp [mj_tc] at h <;> exact ⟨rfl, rfl⟩
theorem mj_narL {ty : FieldType} {x : Int64} (h : mj_tc ty = 1) : narrow ty (.long x) = .long x ∧ fits ty (.long x) = true := by
  cases ty <;> simp [mj_tc] at h <;> exact ⟨rfl, rfl⟩
theorem mj_narR {ty : FieldType} {x : Nat} (h : mj_tc ty = 2) : narrow ty (.ref x) = .ref x ∧ fits ty (.ref x) = true := by
  cases ty <;> simp [mj_tc] at h <;> exact ⟨rfl, rfl⟩
theorem mj_narZ {ty : FieldType} {x : Int32} (h : mj_tc ty = 3) (hx : x = 0 ∨ x = 1) : narrow ty (.int x) = .int x ∧ fits ty (.int x) = true := by
  cases ty <;> simp [mj_tc] at h
  rcases hx with rfl | rfl <;> exact ⟨rfl, rfl⟩
theorem mj_fvI {h : mj_H} {q k j : Nat} (h1 : j ≠ 1) (h2 : j ≠ 2) : mj_fv ad h q k j = .int (h.1 q k) := by
  unfold mj_fv
  split
  · exact absurd rfl h1
  · exact absurd rfl h2
  · rfl
theorem mj_fv1 {h : mj_H} {q b k j : Nat} {x : Int32} (hj : k = b → j ≠ 1 ∧ j ≠ 2) : mj_fv ad (mj_up h.1 q b x, h.2.1, h.2.2) q k j = if k = b then .int x else mj_fv ad h q k j := by
  by_cases e : k = b
  · subst e
    obtain ⟨h1, h2⟩ := hj rfl
    rw [if_pos rfl]
    unfold mj_fv
    split
    · exact absurd rfl h1
    · exact absurd rfl h2
    · simp [mj_up]
  · rw [if_neg e]
    unfold mj_fv
    split
    · rfl
    · rfl
    · simp [mj_up, e]
theorem mj_fv2 {h : mj_H} {q b k j : Nat} {x : Int64} (hj : k = b → j = 1) : mj_fv ad (h.1, mj_up h.2.1 q b x, h.2.2) q k j = if k = b then .long x else mj_fv ad h q k j := by
  by_cases e : k = b
  · subst e
    rw [hj rfl, if_pos rfl]
    simp [mj_fv, mj_up]
  · rw [if_neg e]
    unfold mj_fv
    split
    · simp [mj_up, e]
    · rfl
    · rfl
theorem mj_fv3 {h : mj_H} {q b k j : Nat} {x : Nat} (hj : k = b → j = 2) : mj_fv ad (h.1, h.2.1, mj_up h.2.2 q b x) q k j = if k = b then .ref (ad x) else mj_fv ad h q k j := by
  by_cases e : k = b
  · subst e
    rw [hj rfl, if_pos rfl]
    simp [mj_fv, mj_up]
  · rw [if_neg e]
    unfold mj_fv
    split
    · rfl
    · simp [mj_up, e]
    · rfl
theorem mj_aset1 {h : mj_H} {q n t j : Nat} {x : Int32} (hq : S[q]? = some (t, n)) (e : ∀ h : mj_H, mj_ce TY T3 ad h q (t, n) = .inl (T3.1, n, .inl (h.1 q)) ∨ t = 2) (hz : mj_ce TY T3 ad (mj_up h.1 q j x, h.2.1, h.2.2) q (t, n) = mj_ce TY T3 ad (mj_up h.1 q j x, h.2.1, h.2.2) q (t, n)) :
    (mj_W S TY T3 ad h).set q (ad q, mj_ce TY T3 ad (mj_up h.1 q j x, h.2.1, h.2.2) q (t, n)) = mj_W S TY T3 ad (mj_up h.1 q j x, h.2.1, h.2.2) := mj_W_set hq fun k hk y => mj_ce_up1 hk y
theorem mj_upq {h : Nat → Nat → Int32} {q j : Nat} {x : Int32} : mj_up h q j x q = upd (h q) j x := by
  funext i
  simp [mj_up, upd]
theorem mj_upqL {h : Nat → Nat → Int64} {q j : Nat} {x : Int64} : mj_up h q j x q = vp_updL (h q) j x := by
  funext i
  simp [mj_up, vp_updL]
theorem mj_cpq {h : Nat → Nat → Int32} {a b sp dp n : Nat} : mj_cp h a sp b dp n b = va_cpy (h a) (h b) sp dp n := by
  funext i
  simp [mj_cp, va_cpy]
theorem mj_ce_cp {h : mj_H} {q k a sp dp n : Nat} (hk : k ≠ q) (y : Nat × Nat) : mj_ce TY T3 ad (mj_cp h.1 a sp q dp n, h.2.1, h.2.2) k y = mj_ce TY T3 ad h k y := by
  have e : (mj_cp h.1 a sp q dp n) k = h.1 k := by funext i; simp [mj_cp, hk]
  obtain ⟨t, z⟩ := y
  match t with
  | 0 => simp only [mj_ce, e]
  | 1 => rfl
  | 2 => simp only [mj_ce, e]
  | t + 3 =>
    simp only [mj_ce, Sum.inr.injEq, Prod.mk.injEq, true_and]
    refine List.map_congr_left fun i _ => ?_
    unfold mj_fv
    split
    · rfl
    · rfl
    · simp only [e]
set_option maxHeartbeats 8000000 in
theorem mj_s_ins (X : mj_Cx p s m args meth c TB CL S Dg T3 ad cc nL own rt) (Y : mj_Cs TB CL TY S) {cal : Nat → List Value → mj_H → mj_R → Prop} (hcal : ∀ z as h r, cal z as h r → mj_Met l TB CL TY S Dg T3 ad D (MS z) as h r)
    {jmp : Nat → mj_K} (hj : ∀ t L st h, jmp t L st h → mj_Go p l e s m args below meth c CL TY S Dg T3 ad nL (D + 1) rr t L st h)
    {i : Jvm.ClassFile.Instr} {len a b cx d : Nat} {v : Int32} {w : Int64} {sw : List (Int32 × Nat)} {pc : Nat} {k : mj_K} (hk : ∀ L st h, k L st h → mj_Go p l e s m args below meth c CL TY S Dg T3 ad nL (D + 1) rr (pc + len) L st h)
    (hdg : decode cc pc = .ok (i, len)) (hok : mj_okI TB CL TY MS own nL rt pc (i, len, (a, b, cx, d), v, w, sw)) {L : mj_L} {st : List Value} {h : mj_H}
    (hm : mj_ins S cal (fun r => r = rr) jmp i a b cx d v w sw L st h k) : mj_Go p l e s m args below meth c CL TY S Dg T3 ad nL (D + 1) rr pc L st h := by
  obtain ⟨hx, hbc, hml, hown, hts, hK, hN, hinj, hlocks, hrt, hMO⟩ := id X
  cases i with
  | iconst n =>
    obtain ⟨rfl, hv⟩ := hok
    exact fun H locs ls hP hS hl => lv_iconst hx hbc hdg hv (hk _ _ _ hm H locs ls hP hS hl)
  | bipush n =>
    obtain ⟨rfl, hv⟩ := hok
    exact fun H locs ls hP hS hl => lv_bipush hx hbc hdg hv (hk _ _ _ hm H locs ls hP hS hl)
  | sipush n =>
    obtain ⟨rfl, hv⟩ := hok
    exact fun H locs ls hP hS hl => lv_sipush hx hbc hdg hv (hk _ _ _ hm H locs ls hP hS hl)
  | ldc n =>
    obtain ⟨rfl, hv⟩ := hok
    exact fun H locs ls hP hS hl => lv_ldc hx hbc hown (hts _ (mj_good_in hv rfl)) hdg (hk _ _ _ hm H locs ls hP hS hl)
  | ldc_w n =>
    obtain ⟨rfl, hv⟩ := hok
    exact fun H locs ls hP hS hl => lv_ldcw hx hbc hown (hts _ (mj_good_in hv rfl)) hdg (hk _ _ _ hm H locs ls hP hS hl)
  | lconst n =>
    obtain ⟨rfl, hv⟩ := hok
    exact fun H locs ls hP hS hl => lv_lconst hx hbc hdg hv (hk _ _ _ hm H locs ls hP hS hl)
  | ldc2_w n =>
    obtain ⟨rfl, hv⟩ := hok
    exact fun H locs ls hP hS hl => lv_ldc2 hx hbc hown (hts _ (mj_good_in hv rfl)) hdg (hk _ _ _ hm H locs ls hP hS hl)
  | iload_n n =>
    have hok : len = 1 := hok
    subst hok
    obtain ⟨x, hx1, hm1⟩ := mj_lI_e hm
    exact fun H locs ls hP hS hl => lv_iload_n hx hbc hdg rfl (mj_at hl hx1) (hk _ _ _ hm1 H locs ls hP hS hl)
  | iload n =>
    have hok : len = 2 := hok
    subst hok
    obtain ⟨x, hx1, hm1⟩ := mj_lI_e hm
    exact fun H locs ls hP hS hl => lv_iload hx hbc hdg (mj_at hl hx1) (hk _ _ _ hm1 H locs ls hP hS hl)
  | lload_n n =>
    have hok : len = 1 := hok
    subst hok
    obtain ⟨x, hx1, hm1⟩ := mj_lL_e hm
    exact fun H locs ls hP hS hl => lv_lload_n hx hbc hdg rfl (mj_at hl hx1) (hk _ _ _ hm1 H locs ls hP hS hl)
  | lload n =>
    have hok : len = 2 := hok
    subst hok
    obtain ⟨x, hx1, hm1⟩ := mj_lL_e hm
    exact fun H locs ls hP hS hl => lv_lload hx hbc hdg (mj_at hl hx1) (hk _ _ _ hm1 H locs ls hP hS hl)
  | aload_n n =>
    have hok : len = 1 := hok
    subst hok
    obtain ⟨x, hx1, hm1⟩ := mj_lR_e hm
    exact fun H locs ls hP hS hl => lv_aload_n hx hbc hdg rfl (mj_at hl hx1) (hk _ _ _ hm1 H locs ls hP hS hl)
  | aload n =>
    have hok : len = 2 := hok
    subst hok
    obtain ⟨x, hx1, hm1⟩ := mj_lR_e hm
    exact fun H locs ls hP hS hl => lv_aload hx hbc hdg (mj_at hl hx1) (hk _ _ _ hm1 H locs ls hP hS hl)
  | istore_n n =>
    obtain ⟨rfl, hn⟩ := hok
    obtain ⟨x, r, rfl, hm1⟩ := mj_pI_e hm
    rw [mj_fl_eq] at hm1
    exact fun H locs ls hP hS hl => lv_istore_n hx hbc hdg rfl hl hn rfl (fun ls hl => hk _ _ _ hm1 H locs ls hP hS (mj_s1_has hl))
  | istore n =>
    obtain ⟨rfl, hn⟩ := hok
    obtain ⟨x, r, rfl, hm1⟩ := mj_pI_e hm
    rw [mj_fl_eq] at hm1
    exact fun H locs ls hP hS hl => lv_istore hx hbc hdg hl hn rfl (fun ls hl => hk _ _ _ hm1 H locs ls hP hS (mj_s1_has hl))
  | lstore_n n =>
    obtain ⟨rfl, hn⟩ := hok
    obtain ⟨x, r, rfl, hm1⟩ := mj_pL_e hm
    rw [mj_fl_eq] at hm1
    exact fun H locs ls hP hS hl => lv_lstore_n hx hbc hdg rfl hl hn rfl (fun ls hl => hk _ _ _ hm1 H locs ls hP hS (mj_s2_has hl))
  | lstore n =>
    obtain ⟨rfl, hn⟩ := hok
    obtain ⟨x, r, rfl, hm1⟩ := mj_pL_e hm
    rw [mj_fl_eq] at hm1
    exact fun H locs ls hP hS hl => lv_lstore hx hbc hdg hl hn rfl (fun ls hl => hk _ _ _ hm1 H locs ls hP hS (mj_s2_has hl))
  | astore_n n =>
    obtain ⟨rfl, hn⟩ := hok
    obtain ⟨x, r, rfl, hm1⟩ := mj_pR_e hm
    rw [mj_fl_eq] at hm1
    exact fun H locs ls hP hS hl => lv_astore_n hx hbc hdg rfl hl hn rfl (fun ls hl => hk _ _ _ hm1 H locs ls hP hS (mj_s1_has hl))
  | astore n =>
    obtain ⟨rfl, hn⟩ := hok
    obtain ⟨x, r, rfl, hm1⟩ := mj_pR_e hm
    rw [mj_fl_eq] at hm1
    exact fun H locs ls hP hS hl => lv_astore hx hbc hdg hl hn rfl (fun ls hl => hk _ _ _ hm1 H locs ls hP hS (mj_s1_has hl))
  | iinc n z =>
    obtain ⟨rfl, hn, hv⟩ := hok
    obtain ⟨x, hx1, hm1⟩ := mj_lI_e hm
    rw [mj_fl_eq] at hm1
    intro H locs ls hP hS hl
    obtain ⟨k9, hk9⟩ := List.getElem?_of_mem (mj_tl_mem (ad := ad) hx1)
    exact lv_iinc (v := x + v) hx hbc hdg hl hk9 (by rw [hv]) hn rfl (fun ls hl => hk _ _ _ hm1 H locs ls hP hS (mj_s1_has hl))
  | iadd =>
    have hok : len = 1 := hok
    subst hok
    obtain ⟨y, r, rfl, hm1⟩ := mj_pI_e hm
    obtain ⟨x, r, rfl, hm2⟩ := mj_pI_e hm1
    exact fun H locs ls hP hS hl => lv_iadd hx hbc hdg (hk _ _ _ hm2 H locs ls hP hS hl)
  | isub =>
    have hok : len = 1 := hok
    subst hok
    obtain ⟨y, r, rfl, hm1⟩ := mj_pI_e hm
    obtain ⟨x, r, rfl, hm2⟩ := mj_pI_e hm1
    exact fun H locs ls hP hS hl => lv_isub hx hbc hdg (hk _ _ _ hm2 H locs ls hP hS hl)
  | imul =>
    have hok : len = 1 := hok
    subst hok
    obtain ⟨y, r, rfl, hm1⟩ := mj_pI_e hm
    obtain ⟨x, r, rfl, hm2⟩ := mj_pI_e hm1
    exact fun H locs ls hP hS hl => lv_imul hx hbc hdg (hk _ _ _ hm2 H locs ls hP hS hl)
  | iand =>
    have hok : len = 1 := hok
    subst hok
    obtain ⟨y, r, rfl, hm1⟩ := mj_pI_e hm
    obtain ⟨x, r, rfl, hm2⟩ := mj_pI_e hm1
    exact fun H locs ls hP hS hl => lv_iand hx hbc hdg (hk _ _ _ hm2 H locs ls hP hS hl)
  | ior =>
    have hok : len = 1 := hok
    subst hok
    obtain ⟨y, r, rfl, hm1⟩ := mj_pI_e hm
    obtain ⟨x, r, rfl, hm2⟩ := mj_pI_e hm1
    exact fun H locs ls hP hS hl => lv_ior hx hbc hdg (hk _ _ _ hm2 H locs ls hP hS hl)
  | ixor =>
    have hok : len = 1 := hok
    subst hok
    obtain ⟨y, r, rfl, hm1⟩ := mj_pI_e hm
    obtain ⟨x, r, rfl, hm2⟩ := mj_pI_e hm1
    exact fun H locs ls hP hS hl => lv_ixor hx hbc hdg (hk _ _ _ hm2 H locs ls hP hS hl)
  | idiv =>
    have hok : len = 1 := hok
    subst hok
    obtain ⟨y, r, rfl, hm1⟩ := mj_pI_e hm
    obtain ⟨x, r, rfl, hy, hm2⟩ := mj_pI_e hm1
    exact fun H locs ls hP hS hl => lv_idiv hx hbc hdg hy (hk _ _ _ hm2 H locs ls hP hS hl)
  | irem =>
    have hok : len = 1 := hok
    subst hok
    obtain ⟨y, r, rfl, hm1⟩ := mj_pI_e hm
    obtain ⟨x, r, rfl, hy, hm2⟩ := mj_pI_e hm1
    exact fun H locs ls hP hS hl => lv_irem hx hbc hdg hy (hk _ _ _ hm2 H locs ls hP hS hl)
  | ineg =>
    have hok : len = 1 := hok
    subst hok
    obtain ⟨x, r, rfl, hm1⟩ := mj_pI_e hm
    exact fun H locs ls hP hS hl => lv_ineg hx hbc hdg (hk _ _ _ hm1 H locs ls hP hS hl)
  | ishl =>
    have hok : len = 1 := hok
    subst hok
    obtain ⟨y, r, rfl, hm1⟩ := mj_pI_e hm
    obtain ⟨x, r, rfl, hm2⟩ := mj_pI_e hm1
    exact fun H locs ls hP hS hl => lv_ishl hx hbc hdg (hk _ _ _ hm2 H locs ls hP hS hl)
  | ishr =>
    have hok : len = 1 := hok
    subst hok
    obtain ⟨y, r, rfl, hm1⟩ := mj_pI_e hm
    obtain ⟨x, r, rfl, hm2⟩ := mj_pI_e hm1
    exact fun H locs ls hP hS hl => lv_ishr hx hbc hdg (hk _ _ _ hm2 H locs ls hP hS hl)
  | iushr =>
    have hok : len = 1 := hok
    subst hok
    obtain ⟨y, r, rfl, hm1⟩ := mj_pI_e hm
    obtain ⟨x, r, rfl, hm2⟩ := mj_pI_e hm1
    exact fun H locs ls hP hS hl => lv_iushr hx hbc hdg rfl (hk _ _ _ hm2 H locs ls hP hS hl)
  | ladd =>
    have hok : len = 1 := hok
    subst hok
    obtain ⟨y, r, rfl, hm1⟩ := mj_pL_e hm
    obtain ⟨x, r, rfl, hm2⟩ := mj_pL_e hm1
    exact fun H locs ls hP hS hl => lv_ladd hx hbc hdg (hk _ _ _ hm2 H locs ls hP hS hl)
  | lsub =>
    have hok : len = 1 := hok
    subst hok
    obtain ⟨y, r, rfl, hm1⟩ := mj_pL_e hm
    obtain ⟨x, r, rfl, hm2⟩ := mj_pL_e hm1
    exact fun H locs ls hP hS hl => lv_lsub hx hbc hdg (hk _ _ _ hm2 H locs ls hP hS hl)
  | lmul =>
    have hok : len = 1 := hok
    subst hok
    obtain ⟨y, r, rfl, hm1⟩ := mj_pL_e hm
    obtain ⟨x, r, rfl, hm2⟩ := mj_pL_e hm1
    exact fun H locs ls hP hS hl => lv_lmul hx hbc hdg (hk _ _ _ hm2 H locs ls hP hS hl)
  | land =>
    have hok : len = 1 := hok
    subst hok
    obtain ⟨y, r, rfl, hm1⟩ := mj_pL_e hm
    obtain ⟨x, r, rfl, hm2⟩ := mj_pL_e hm1
    exact fun H locs ls hP hS hl => lv_land hx hbc hdg (hk _ _ _ hm2 H locs ls hP hS hl)
  | lor =>
    have hok : len = 1 := hok
    subst hok
    obtain ⟨y, r, rfl, hm1⟩ := mj_pL_e hm
    obtain ⟨x, r, rfl, hm2⟩ := mj_pL_e hm1
    exact fun H locs ls hP hS hl => lv_lor hx hbc hdg (hk _ _ _ hm2 H locs ls hP hS hl)
  | lxor =>
    have hok : len = 1 := hok
    subst hok
    obtain ⟨y, r, rfl, hm1⟩ := mj_pL_e hm
    obtain ⟨x, r, rfl, hm2⟩ := mj_pL_e hm1
    exact fun H locs ls hP hS hl => lv_lxor hx hbc hdg (hk _ _ _ hm2 H locs ls hP hS hl)
  | ldiv =>
    have hok : len = 1 := hok
    subst hok
    obtain ⟨y, r, rfl, hm1⟩ := mj_pL_e hm
    obtain ⟨x, r, rfl, hy, hm2⟩ := mj_pL_e hm1
    exact fun H locs ls hP hS hl => lv_ldiv hx hbc hdg hy (hk _ _ _ hm2 H locs ls hP hS hl)
  | lrem =>
    have hok : len = 1 := hok
    subst hok
    obtain ⟨y, r, rfl, hm1⟩ := mj_pL_e hm
    obtain ⟨x, r, rfl, hy, hm2⟩ := mj_pL_e hm1
    exact fun H locs ls hP hS hl => lv_lrem hx hbc hdg hy (hk _ _ _ hm2 H locs ls hP hS hl)
  | lneg =>
    have hok : len = 1 := hok
    subst hok
    obtain ⟨x, r, rfl, hm1⟩ := mj_pL_e hm
    exact fun H locs ls hP hS hl => lv_lneg hx hbc hdg (hk _ _ _ hm1 H locs ls hP hS hl)
  | lshl =>
    have hok : len = 1 := hok
    subst hok
    obtain ⟨y, r, rfl, hm1⟩ := mj_pI_e hm
    obtain ⟨x, r, rfl, hm2⟩ := mj_pL_e hm1
    exact fun H locs ls hP hS hl => lv_lshl hx hbc hdg rfl (hk _ _ _ hm2 H locs ls hP hS hl)
  | lshr =>
    have hok : len = 1 := hok
    subst hok
    obtain ⟨y, r, rfl, hm1⟩ := mj_pI_e hm
    obtain ⟨x, r, rfl, hm2⟩ := mj_pL_e hm1
    exact fun H locs ls hP hS hl => lv_lshr hx hbc hdg rfl (hk _ _ _ hm2 H locs ls hP hS hl)
  | lushr =>
    have hok : len = 1 := hok
    subst hok
    obtain ⟨y, r, rfl, hm1⟩ := mj_pI_e hm
    obtain ⟨x, r, rfl, hm2⟩ := mj_pL_e hm1
    exact fun H locs ls hP hS hl => lv_lushr hx hbc hdg rfl (hk _ _ _ hm2 H locs ls hP hS hl)
  | lcmp =>
    have hok : len = 1 := hok
    subst hok
    obtain ⟨y, r, rfl, hm1⟩ := mj_pL_e hm
    obtain ⟨x, r, rfl, hm2⟩ := mj_pL_e hm1
    exact fun H locs ls hP hS hl => W.lcmp hx hbc hdg (hk _ _ _ hm2 H locs ls hP hS hl)
  | i2l =>
    have hok : len = 1 := hok
    subst hok
    obtain ⟨x, r, rfl, hm1⟩ := mj_pI_e hm
    exact fun H locs ls hP hS hl => lv_i2l hx hbc hdg rfl (hk _ _ _ hm1 H locs ls hP hS hl)
  | l2i =>
    have hok : len = 1 := hok
    subst hok
    obtain ⟨x, r, rfl, hm1⟩ := mj_pL_e hm
    exact fun H locs ls hP hS hl => lv_l2i hx hbc hdg rfl (hk _ _ _ hm1 H locs ls hP hS hl)
  | dup =>
    have hok : len = 1 := hok
    subst hok
    simp only [mj_ins] at hm
    split at hm
    · exact fun H locs ls hP hS hl => lv_dup hx hbc hdg rfl (hk _ _ _ hm H locs ls hP hS hl)
    · exact fun H locs ls hP hS hl => lv_dup hx hbc hdg rfl (hk _ _ _ hm H locs ls hP hS hl)
    · exact hm.elim
  | dup2 =>
    have hok : len = 1 := hok
    subst hok
    obtain ⟨x, r, rfl, hm1⟩ := mj_pI_e hm
    obtain ⟨y, r, rfl, hm2⟩ := mj_pR_e hm1
    exact fun H locs ls hP hS hl => lv_dup2_11 hx hbc hdg rfl rfl (hk _ _ _ hm2 H locs ls hP hS hl)
  | getfield x =>
    have hok : len = 3 ∧ mj_okF TB CL own x a b ∧ mj_tc (TY a b) = cx := hok
    obtain ⟨rfl, hF, hc⟩ := hok
    obtain ⟨q, r, rfl, hm1⟩ := mj_pR_e hm
    obtain ⟨n, hq, hm2⟩ := mj_sh_e hm1
    obtain ⟨hb, hm3⟩ := mj_if_e hm2
    have hb : b < n := by simpa using hb
    split at hm3
    · exact mj_getf X Y hF hq hb hdg (by rw [hc]; rfl) (hk _ _ _ hm3)
    · exact mj_getf X Y hF hq hb hdg (by rw [hc]; rfl) (hk _ _ _ hm3)
    · rename_i n1 n2
      refine mj_getf X Y hF hq hb hdg ?_ (hk _ _ _ hm3)
      rw [hc, mj_fvI n1 n2]
      rfl
  | putfield x =>
    have hok : len = 3 ∧ mj_okF TB CL own x a b ∧ mj_tc (TY a b) = cx ∧ cx < 4 ∧ (∃ q, CL[a]? = some q ∧ (q.2.1 b).2.2.2 = false) := hok
    obtain ⟨rfl, hF, hc, hc4, hfin⟩ := hok
    simp only [mj_ins] at hm
    split at hm
    · obtain ⟨u, r, rfl, hm1⟩ := mj_pL_e hm
      obtain ⟨q, r, rfl, hm2⟩ := mj_pR_e hm1
      obtain ⟨n, hq, hm3⟩ := mj_sh_e hm2
      obtain ⟨hb, hm4⟩ := mj_if_e hm3
      have hb : b < n := by simpa using hb
      exact mj_putf (h' := (h.1, mj_up h.2.1 q b u, h.2.2)) X Y hF hfin hq hb hdg (mj_narL hc).1 (mj_narL hc).2 (fun k => mj_fv2 (fun e => by rw [e]; exact hc)) (fun k hk y => mj_ce_up2 hk y) (hk _ _ _ hm4)
    · obtain ⟨u, r, rfl, hm5⟩ := mj_pR_e hm
      obtain ⟨q, r, rfl, hm6⟩ := mj_pR_e hm5
      obtain ⟨n, hq, hm7⟩ := mj_sh_e hm6
      obtain ⟨hb, hm8⟩ := mj_if_e hm7
      have hb : b < n := by simpa using hb
      exact mj_putf (h' := (h.1, h.2.1, mj_up h.2.2 q b u)) X Y hF hfin hq hb hdg (mj_narR hc).1 (mj_narR hc).2 (fun k => mj_fv3 (fun e => by rw [e]; exact hc)) (fun k hk y => mj_ce_up3 hk y) (hk _ _ _ hm8)
    · obtain ⟨u, r, rfl, hm9⟩ := mj_pI_e hm
      obtain ⟨q, r, rfl, hm10⟩ := mj_pR_e hm9
      obtain ⟨n, hq, hm11⟩ := mj_sh_e hm10
      obtain ⟨hb, hu, hm12⟩ := mj_if_e hm11
      have hb : b < n := by simpa using hb
      exact mj_putf (h' := (mj_up h.1 q b u, h.2.1, h.2.2)) X Y hF hfin hq hb hdg (mj_narZ hc hu).1 (mj_narZ hc hu).2 (fun k => mj_fv1 (fun e => by rw [e, hc]; decide)) (fun k hk y => mj_ce_up1 hk y) (hk _ _ _ hm12)
    · rename_i n1 n2 n3
      have hc0 : cx = 0 := by
        have a1 : cx ≠ 1 := fun z => n1 z
        have a2 : cx ≠ 2 := fun z => n2 z
        have a3 : cx ≠ 3 := fun z => n3 z
        omega
      subst hc0
      obtain ⟨u, r, rfl, hm13⟩ := mj_pI_e hm
      obtain ⟨q, r, rfl, hm14⟩ := mj_pR_e hm13
      obtain ⟨n, hq, hm15⟩ := mj_sh_e hm14
      obtain ⟨hb, hm16⟩ := mj_if_e hm15
      have hb : b < n := by simpa using hb
      exact mj_putf (h' := (mj_up h.1 q b u, h.2.1, h.2.2)) X Y hF hfin hq hb hdg (mj_narI hc).1 (mj_narI hc).2 (fun k => mj_fv1 (fun e => by rw [e, hc]; decide)) (fun k hk y => mj_ce_up1 hk y) (hk _ _ _ hm16)
  | iaload =>
    have hok : len = 1 := hok
    subst hok
    obtain ⟨y, r, rfl, hm1⟩ := mj_pI_e hm
    obtain ⟨q, r, rfl, hm2⟩ := mj_pR_e hm1
    rcases mj_ia_e hm2 with ⟨rfl, hin, hm3⟩ | ⟨n, hq, hin, hm3⟩
    · exact fun H locs ls hP hS hl => va_ti hx hbc hMO.2 hS hin rfl hdg (hk _ _ _ hm3 H locs ls hP hS hl)
    · exact fun H locs ls hP hS hl => va_iald hx hbc hK hP q 0 (mj_W_at hq) rfl hin hdg (hk _ _ _ hm3 H locs ls hP hS hl)
  | getstatic x =>
    obtain ⟨hok1, hG⟩ := hok
    have hok1 : len = 3 := hok1
    subst hok1
    rcases hG with hG | ⟨host, hG⟩
    · exact fun H locs ls hP hS hl => va_gets hx hbc hMO.1 hS hown (hts _ (mj_good_in hG rfl)) (fun _ h9 => h9) hdg (hk _ _ _ hm H locs ls hP hS hl)
    · exact fun H locs ls hP hS hl => va_getsN hx hbc hMO.1 hS hown (va_Nw.use rfl (hN _ hG rfl)) (fun _ h9 => h9) hdg (hk _ _ _ hm H locs ls hP hS hl)
  | laload =>
    have hok : len = 1 := hok
    subst hok
    obtain ⟨y, r, rfl, hm1⟩ := mj_pI_e hm
    obtain ⟨q, r, rfl, hm2⟩ := mj_pR_e hm1
    obtain ⟨n, hq, hin, hm3⟩ := mj_sh_e hm2
    exact fun H locs ls hP hS hl => va_lald hx hbc hK hP q 1 (mj_W_at hq) rfl hin hdg (hk _ _ _ hm3 H locs ls hP hS hl)
  | baload =>
    have hok : len = 1 := hok
    subst hok
    obtain ⟨y, r, rfl, hm1⟩ := mj_pI_e hm
    obtain ⟨q, r, rfl, hm2⟩ := mj_pR_e hm1
    obtain ⟨n, hq, hin, hm3⟩ := mj_sh_e hm2
    exact fun H locs ls hP hS hl => va_zald hx hbc hK hP q 2 (mj_W_at hq) rfl hin hdg (hk _ _ _ hm3 H locs ls hP hS hl)
  | iastore =>
    have hok : len = 1 := hok
    subst hok
    obtain ⟨u, r, rfl, hm1⟩ := mj_pI_e hm
    obtain ⟨y, r, rfl, hm2⟩ := mj_pI_e hm1
    obtain ⟨q, r, rfl, hm3⟩ := mj_pR_e hm2
    obtain ⟨n, hq, hin, hm4⟩ := mj_sh_e hm3
    refine fun H locs ls hP hS hl => va_iast hx hbc hK hP (mj_W_D hinj) hS q 0 (mj_W_at hq) rfl hin hdg (fun H1 locs1 g1 g2 g3 => ?_)
    rw [← mj_upq, show ((Sum.inl (T3.1, n, Sum.inl (mj_up h.1 q y.toNatClampNeg u q)) : va_E)) = mj_ce TY T3 ad (mj_up h.1 q y.toNatClampNeg u, h.2.1, h.2.2) q (0, n) from rfl, mj_W_set hq (fun k hk y => mj_ce_up1 hk y)] at g1
    exact hk _ _ _ hm4 H1 locs1 ls g1 g3 hl
  | lastore =>
    have hok : len = 1 := hok
    subst hok
    obtain ⟨u, r, rfl, hm1⟩ := mj_pL_e hm
    obtain ⟨y, r, rfl, hm2⟩ := mj_pI_e hm1
    obtain ⟨q, r, rfl, hm3⟩ := mj_pR_e hm2
    obtain ⟨n, hq, hin, hm4⟩ := mj_sh_e hm3
    refine fun H locs ls hP hS hl => va_last hx hbc hK hP (mj_W_D hinj) hS q 1 (mj_W_at hq) rfl hin hdg (fun H1 locs1 g1 g2 g3 => ?_)
    rw [← mj_upqL, show ((Sum.inl (T3.2.1, n, Sum.inr (Sum.inl (mj_up h.2.1 q y.toNatClampNeg u q))) : va_E)) = mj_ce TY T3 ad (h.1, mj_up h.2.1 q y.toNatClampNeg u, h.2.2) q (1, n) from rfl, mj_W_set hq (fun k hk y => mj_ce_up2 hk y)] at g1
    exact hk _ _ _ hm4 H1 locs1 ls g1 g3 hl
  | bastore =>
    have hok : len = 1 := hok
    subst hok
    obtain ⟨u, r, rfl, hm1⟩ := mj_pI_e hm
    obtain ⟨y, r, rfl, hm2⟩ := mj_pI_e hm1
    obtain ⟨q, r, rfl, hm3⟩ := mj_pR_e hm2
    obtain ⟨n, hq, hin, hm4⟩ := mj_sh_e hm3
    refine fun H locs ls hP hS hl => va_zast hx hbc hK hP (mj_W_D hinj) hS q 2 (mj_W_at hq) rfl hin hdg (fun H1 locs1 g1 g2 g3 => ?_)
    rw [← mj_upq, show ((Sum.inl (T3.2.2, n, Sum.inl (mj_up h.1 q y.toNatClampNeg (vp_nar .boolean u) q)) : va_E)) = mj_ce TY T3 ad (mj_up h.1 q y.toNatClampNeg (vp_nar .boolean u), h.2.1, h.2.2) q (2, n) from rfl, mj_W_set hq (fun k hk y => mj_ce_up1 hk y)] at g1
    exact hk _ _ _ hm4 H1 locs1 ls g1 g3 hl
  | goto off =>
    obtain ⟨rfl, ht⟩ := hok
    exact fun H locs ls hP hS hl => lv_goto hx hbc hdg ht (hj _ _ _ _ hm H locs ls hP hS hl)
  | ifCond o off =>
    obtain ⟨rfl, ht⟩ := hok
    obtain ⟨x, r, rfl, hm1⟩ := mj_pI_e hm
    intro H locs ls hP hS hl
    cases o with
    | eq =>
      dsimp only at hm1
      refine lv_if_eq hx hbc hdg ht (fun q => ?_) (fun q => ?_)
      · rw [if_pos q] at hm1; exact hj _ _ _ _ hm1 H locs ls hP hS hl
      · rw [if_neg q] at hm1; exact hk _ _ _ hm1 H locs ls hP hS hl
    | ne =>
      dsimp only at hm1
      refine lv_if_ne hx hbc hdg ht (fun q => ?_) (fun q => ?_)
      · rw [if_neg q] at hm1; exact hj _ _ _ _ hm1 H locs ls hP hS hl
      · rw [if_pos (by simpa using q)] at hm1; exact hk _ _ _ hm1 H locs ls hP hS hl
    | lt =>
      dsimp only at hm1
      refine lv_if_lt hx hbc hdg ht (fun q => ?_) (fun q => ?_)
      · rw [if_pos q] at hm1; exact hj _ _ _ _ hm1 H locs ls hP hS hl
      · rw [if_neg q] at hm1; exact hk _ _ _ hm1 H locs ls hP hS hl
    | ge =>
      dsimp only at hm1
      refine lv_if_ge hx hbc hdg ht (fun q => ?_) (fun q => ?_)
      · rw [if_neg (by simpa using q)] at hm1; exact hj _ _ _ _ hm1 H locs ls hP hS hl
      · rw [if_pos (by simpa using q)] at hm1; exact hk _ _ _ hm1 H locs ls hP hS hl
    | gt =>
      dsimp only at hm1
      refine lv_if_gt hx hbc hdg ht (fun q => ?_) (fun q => ?_)
      · rw [if_neg (by simpa using q)] at hm1; exact hj _ _ _ _ hm1 H locs ls hP hS hl
      · rw [if_pos (by simpa using q)] at hm1; exact hk _ _ _ hm1 H locs ls hP hS hl
    | le =>
      dsimp only at hm1
      refine lv_if_le hx hbc hdg ht (fun q => ?_) (fun q => ?_)
      · rw [if_pos q] at hm1; exact hj _ _ _ _ hm1 H locs ls hP hS hl
      · rw [if_neg q] at hm1; exact hk _ _ _ hm1 H locs ls hP hS hl
  | if_icmp o off =>
    obtain ⟨rfl, ht⟩ := hok
    obtain ⟨y, r, rfl, hm1⟩ := mj_pI_e hm
    obtain ⟨x, r, rfl, hm2⟩ := mj_pI_e hm1
    intro H locs ls hP hS hl
    cases o with
    | eq =>
      dsimp only at hm2
      refine lv_icmp_eq hx hbc hdg ht (fun q => ?_) (fun q => ?_)
      · rw [if_pos q] at hm2; exact hj _ _ _ _ hm2 H locs ls hP hS hl
      · rw [if_neg q] at hm2; exact hk _ _ _ hm2 H locs ls hP hS hl
    | ne =>
      dsimp only at hm2
      refine lv_icmp_ne hx hbc hdg ht (fun q => ?_) (fun q => ?_)
      · rw [if_neg q] at hm2; exact hj _ _ _ _ hm2 H locs ls hP hS hl
      · rw [if_pos (by simpa using q)] at hm2; exact hk _ _ _ hm2 H locs ls hP hS hl
    | lt =>
      dsimp only at hm2
      refine lv_icmp_lt hx hbc hdg ht (fun q => ?_) (fun q => ?_)
      · rw [if_pos q] at hm2; exact hj _ _ _ _ hm2 H locs ls hP hS hl
      · rw [if_neg q] at hm2; exact hk _ _ _ hm2 H locs ls hP hS hl
    | ge =>
      dsimp only at hm2
      refine lv_icmp_ge hx hbc hdg ht (fun q => ?_) (fun q => ?_)
      · rw [if_pos q] at hm2; exact hj _ _ _ _ hm2 H locs ls hP hS hl
      · rw [if_neg q] at hm2; exact hk _ _ _ hm2 H locs ls hP hS hl
    | gt =>
      dsimp only at hm2
      refine lv_icmp_gt hx hbc hdg ht (fun q => ?_) (fun q => ?_)
      · rw [if_pos q] at hm2; exact hj _ _ _ _ hm2 H locs ls hP hS hl
      · rw [if_neg q] at hm2; exact hk _ _ _ hm2 H locs ls hP hS hl
    | le =>
      dsimp only at hm2
      refine lv_icmp_le hx hbc hdg ht (fun q => ?_) (fun q => ?_)
      · rw [if_pos q] at hm2; exact hj _ _ _ _ hm2 H locs ls hP hS hl
      · rw [if_neg q] at hm2; exact hk _ _ _ hm2 H locs ls hP hS hl
  | tableswitch df lo hi offs =>
    have hok : (pc : Int) + df = (a : Int) ∧ lo + sw.length = hi + 1 ∧ ∀ k, k < sw.length → (sw.getD k (0, 0)).1.toInt = lo + k ∧ offs[k]? = some (((sw.getD k (0, 0)).2 : Int) - pc) := hok
    obtain ⟨hd, hhi, hall⟩ := hok
    obtain ⟨x, r, rfl, hm1⟩ := mj_pI_e hm
    intro H locs ls hP hS hl
    rcases mj_sw_e hm1 with ⟨h1, h2⟩ | ⟨k9, h1, h2, h3⟩
    · refine lv_tableOut hx hbc hdg ?_ hd (hj _ _ _ _ h2 H locs ls hP hS hl)
      rcases Int.lt_or_le x.toInt lo with q1 | q1
      · exact Or.inl q1
      · rcases Int.lt_or_le hi x.toInt with q2 | q2
        · exact Or.inr q2
        · exfalso
          have q3 : (x.toInt - lo).toNat < sw.length := by omega
          refine h1 _ q3 ?_
          have q4 := (hall _ q3).1
          exact Int32.toInt_inj.mp (by rw [q4]; omega)
    · have q4 := hall _ h1
      have q5 : x.toInt = lo + k9 := by rw [h2]; exact q4.1
      refine lv_tableIn hx hbc hdg (by omega) (by omega) (off := ((sw.getD k9 (0, 0)).2 : Int) - pc) ?_ (by omega) (hj _ _ _ _ h3 H locs ls hP hS hl)
      rw [show (x.toInt - lo).toNat = k9 by omega]
      exact q4.2
  | lookupswitch df ps =>
    have hok : (pc : Int) + df = (a : Int) ∧ (ps.toList.zip (ps.toList.drop 1)).all (fun (a, next) => a.1 < next.1) = true ∧ ps.toList = sw.map (fun q => (q.1.toInt, (q.2 : Int) - pc)) := hok
    obtain ⟨hd, hpp, hps⟩ := hok
    obtain ⟨x, r, rfl, hm1⟩ := mj_pI_e hm
    intro H locs ls hP hS hl
    obtain ⟨t, h1, h2⟩ := mj_sw_l (pc := pc) hm1
    refine lv_lookup hx hbc hdg hpp (off := (t : Int) - pc) ?_ (by omega) (hj _ _ _ _ h1 H locs ls hP hS hl)
    rw [hps, show df = (a : Int) - pc by omega]
    exact h2
  | invokevirtual x =>
    obtain ⟨rfl, hV⟩ := hok
    obtain ⟨hb, hrc, hrt2⟩ := mj_if_e hm
    rw [Bool.and_eq_true] at hb
    obtain ⟨q, hq, r', hF, hr'⟩ := mj_rt_e ad hrt2
    exact mj_s_virt X hV (Nat.le_of_ble_eq_true hb.1) (Nat.le_of_ble_eq_true hb.2) rfl hrc (hcal _ _ _ _ hq) hr' hdg (hk _ _ _ hF)
  | invokestatic x =>
    obtain ⟨rfl, hok⟩ := hok
    simp only [mj_ins] at hm
    split at hm
    · rename_i e9
      have e9 : a = 999 := Nat.eq_of_beq_eq_true e9
      rcases hok with ⟨-, hC⟩ | ⟨hne, -⟩
      · obtain ⟨n, r, rfl, hm1⟩ := mj_pI_e hm
        obtain ⟨dp, r, rfl, hm2⟩ := mj_pI_e hm1
        obtain ⟨y, r, rfl, hm3⟩ := mj_pR_e hm2
        obtain ⟨sp, r, rfl, hm4⟩ := mj_pI_e hm3
        obtain ⟨q, r, rfl, hm5⟩ := mj_pR_e hm4
        obtain ⟨n0, hq, hm6⟩ := mj_sh_e hm5
        obtain ⟨n1, hy, ⟨c1, c2, c3, c4, c5⟩, hm7⟩ := mj_sh_e hm6
        obtain ⟨h8, hm8⟩ := mj_if_e hm7
        obtain ⟨w1, w2, w3, w4⟩ := hC
        intro H locs ls hP hS hl
        have hfw : nativeFrameWords "java/lang/System" "arraycopy" 5 + 11 ≤ 50 := by decide +kernel
        refine va_copyi hx hbc (by rw [hml]; exact hl.1.symm) hown (hts _ (mj_good_in w1 rfl)) (hts _ (mj_good_in w2 rfl)) (hts _ (mj_good_in w3 rfl)) (hts _ (mj_good_in w4 rfl)) hK hP (mj_W_D hinj) hS q y 0 0 (mj_W_at hq) (mj_W_at hy) rfl rfl rfl c1 c2 c3 c4 c5 (fun _ _ => rfl) (by simp only [mj_rm]; omega) ?_ hdg (fun H1 locs1 g1 g2 g3 => ?_)
        · rw [mj_sz_eq]
          have := Nat.le_of_ble_eq_true h8
          simp only [mj_rm]
          omega
        · rw [← mj_cpq, show ((Sum.inl (T3.1, n1, Sum.inl (mj_cp h.1 q sp.toNatClampNeg y dp.toNatClampNeg n.toNatClampNeg y)) : va_E)) = mj_ce TY T3 ad (mj_cp h.1 q sp.toNatClampNeg y dp.toNatClampNeg n.toNatClampNeg, h.2.1, h.2.2) y (0, n1) from rfl, mj_W_set hy (fun k hk y => mj_ce_cp hk y)] at g1
          exact hk _ _ _ hm8 H1 locs1 ls g1 g3 hl
      · exact absurd e9 hne
    · rename_i e9
      rcases hok with ⟨e8, -⟩ | ⟨-, hV⟩
      · subst e8
        exact absurd e9 (by decide)
      · obtain ⟨hb, hrc, hrt2⟩ := mj_if_e hm
        rw [Bool.and_eq_true] at hb
        obtain ⟨q, hq, r', hF, hr'⟩ := mj_rt_e ad hrt2
        exact mj_s_stat X hV (Nat.le_of_ble_eq_true hb.1) (Nat.le_of_ble_eq_true hb.2) rfl (hcal _ _ _ _ hq) hr' hdg (hk _ _ _ hF)
  | return_ =>
    obtain ⟨rfl, hr⟩ := hok
    simp only [mj_ins] at hm
    split at hm
    · subst hm
      exact fun H locs ls hP hS hl => W.vret hx hbc (hrt.trans hr) (fun t ht hW => ⟨rfl, by rw [ht]; exact hP, hS.F ht⟩) hS.2.2 hdg hlocks
    · exact hm.elim
  | ireturn =>
    obtain ⟨rfl, hr⟩ := hok
    simp only [mj_ins] at hm
    split at hm
    · split at hm
      · subst hm
        exact fun H locs ls hP hS hl => W.iret hx hbc (hrt.trans hr) (fun t ht hW => ⟨rfl, by rw [ht]; exact hP, hS.F ht⟩) hS.2.2 hdg hlocks
      · rename_i n1
        obtain ⟨h01, hm1⟩ := hm
        subst hm1
        refine fun H locs ls hP hS hl => W.zret (ty := .boolean) hx hbc (hrt.trans (hr.trans ?_)) (by rcases h01 with rfl | rfl <;> rfl) (fun t ht hW => ⟨rfl, by rw [ht]; exact hP, hS.F ht⟩) hS.2.2 hdg hlocks
        show some (match a with | 0 => FieldType.int | _ => .boolean) = some .boolean
        cases a with
        | zero => exact absurd rfl n1
        | succ _ => rfl
    · exact hm.elim
  | lreturn =>
    obtain ⟨rfl, hr⟩ := hok
    simp only [mj_ins] at hm
    split at hm
    · subst hm
      exact fun H locs ls hP hS hl => W.lret hx hbc (hrt.trans hr) (fun t ht hW => ⟨rfl, by rw [ht]; exact hP, hS.F ht⟩) hS.2.2 hdg hlocks
    · exact hm.elim
  | areturn =>
    obtain ⟨rfl, n9, hr⟩ := hok
    simp only [mj_ins] at hm
    split at hm
    · subst hm
      exact fun H locs ls hP hS hl => W.aret hx hbc (hrt.trans hr) (Or.inl ⟨n9, rfl⟩) (Or.inr ⟨_, rfl⟩) (fun t ht hW => ⟨rfl, by rw [ht]; exact hP, hS.F ht⟩) hS.2.2 hdg hlocks
    · exact hm.elim
  | _ => exact hm.elim
end MJJ
end
section
/-! the small machine is sound: blocks, walks, methods -/
theorem mj_sl_len (ad : Nat → Nat) : ∀ as : List Value, (lg_sl (as.map (mj_tr ad))).length = mj_sz as
  | [] => rfl
  | v :: r => by
    have ih := mj_sl_len ad r
    unfold lg_sl at ih ⊢
    rw [List.map_cons, List.flatMap_cons, List.length_append, ih]
    show _ = v.category + mj_sz r
    rw [mj_cat]
    rcases lv_cat v with h | h <;> simp [h]
section MJB
variable {p : Program} {l : Launch} {e : Env} {s : State} {m : MethodId} {args : Array Value} {below : List Frame} {meth : Method} {c : Code}
variable {TB : List Cond} {CL : List vw_C} {TY : Nat → Nat → FieldType} {MS : Nat → mj_M} {S : mj_S} {Dg : va_G} {T3 : Nat × Nat × Nat} {ad : Nat → Nat} {cc : ByteArray} {nL D : Nat} {own : String} {rr : mj_R} {rt : Option FieldType}
theorem mj_s_bk (X : mj_Cx p s m args meth c TB CL S Dg T3 ad cc nL own rt) (Y : mj_Cs TB CL TY S) {cal : Nat → List Value → mj_H → mj_R → Prop} (hcal : ∀ z as h r, cal z as h r → mj_Met l TB CL TY S Dg T3 ad D (MS z) as h r)
    {jmp : Nat → mj_K} (hj : ∀ t L st h, jmp t L st h → mj_Go p l e s m args below meth c CL TY S Dg T3 ad nL (D + 1) rr t L st h) : ∀ (b : List mj_E) (pc : Nat), mj_okB TB CL TY MS own cc nL rt b pc → ∀ (L : mj_L) (st : List Value) (h : mj_H), mj_bk S cal (fun r => r = rr) jmp b pc L st h → mj_Go p l e s m args below meth c CL TY S Dg T3 ad nL (D + 1) rr pc L st h
  | [], _, _, _, _, _, hm => hj _ _ _ _ hm
  | e1 :: r, pc, ⟨⟨hdg, hok⟩, hrest⟩, L, st, h, hm => mj_s_ins (i := e1.1) (len := e1.2.1) X Y hcal hj (fun L st h q => mj_s_bk X Y hcal hj r (pc + e1.2.1) hrest L st h q) hdg hok hm
theorem mj_s_sg (X : mj_Cx p s m args meth c TB CL S Dg T3 ad cc nL own rt) (Y : mj_Cs TB CL TY S) {cal : Nat → List Value → mj_H → mj_R → Prop} (hcal : ∀ z as h r, cal z as h r → mj_Met l TB CL TY S Dg T3 ad D (MS z) as h r)
    {C : mj_C} (hC : ∀ b ∈ C.1, mj_okB TB CL TY MS own cc nL rt b.2 b.1) {K : Nat → mj_K} (hK : ∀ t L st h, K t L st h → mj_Go p l e s m args below meth c CL TY S Dg T3 ad nL (D + 1) rr t L st h) : ∀ (n pc : Nat) (L : mj_L) (st : List Value) (h : mj_H), mj_sg S C cal (fun r => r = rr) K n pc L st h → mj_Go p l e s m args below meth c CL TY S Dg T3 ad nL (D + 1) rr pc L st h
  | 0, _, _, _, _, hm => hm.elim
  | n + 1, pc, L, st, h, hm => by
    unfold mj_sg at hm
    split at hm
    · exact fun H locs ls hP hS hl => hK _ _ _ _ hm H locs ls hP hS (mj_tm_has hl)
    · split at hm
      · rename_i b hb
        exact mj_s_bk X Y hcal (fun t L st h q => mj_s_sg X Y hcal hC hK n t L st h q) b pc (hC _ (mj_fd_mem hb)) L st h hm
      · exact hm.elim
theorem mj_s_rn (X : mj_Cx p s m args meth c TB CL S Dg T3 ad cc nL own rt) (Y : mj_Cs TB CL TY S) {cal : Nat → List Value → mj_H → mj_R → Prop} (hcal : ∀ z as h r, cal z as h r → mj_Met l TB CL TY S Dg T3 ad D (MS z) as h r)
    {C : mj_C} (hC : ∀ b ∈ C.1, mj_okB TB CL TY MS own cc nL rt b.2 b.1) : ∀ (n pc : Nat) (L : mj_L) (st : List Value) (h : mj_H), mj_rn S C cal (fun r => r = rr) n pc L st h → mj_Go p l e s m args below meth c CL TY S Dg T3 ad nL (D + 1) rr pc L st h
  | 0, _, _, _, _, hm => hm.elim
  | n + 1, pc, L, st, h, hm => by
    have h2 : mj_go S C cal (fun r => r = rr) (mj_rn S C cal (fun r => r = rr) n) pc L st h := hm
    unfold mj_go at h2
    split at h2
    · rename_i b hb
      exact mj_s_bk X Y hcal (fun t L st h q => mj_s_sg X Y hcal hC (fun t L st h q => mj_s_rn X Y hcal hC n t L st h q) 100 t L st h q) b pc (hC _ (mj_fd_mem hb)) L st h h2
    · exact h2.elim
end MJB
/-- THE SMALL MACHINE IS SOUND -/
theorem mj_sound {l : Launch} {TB : List Cond} {CL : List vw_C} {TY : Nat → Nat → FieldType} {MS : Nat → mj_M} {S : mj_S} {CD : Nat → mj_C} {Dg : va_G} {T3 : Nat × Nat × Nat} {ad : Nat → Nat} (hinj : ∀ i j, i < S.length → j < S.length → ad i = ad j → i = j)
    (Y : mj_Cs TB CL TY S) (hM : ∀ z, mj_okM TB CL TY MS (MS z) (CD z) ∨ CD z = ([], [], 0)) : ∀ (D z : Nat) (as : List Value) (h : mj_H) (r : mj_R), mj_Cl S CD D z as h r → mj_Met l TB CL TY S Dg T3 ad D (MS z) as h r
  | 0, _, _, _, _, hm => hm.elim
  | D + 1, z, as, h, r, hm => by
    have ih := mj_sound (l := l) (T3 := T3) (Dg := Dg) hinj Y hM D
    obtain ⟨hz, hm⟩ := mj_if_e hm
    rcases hM z with ⟨hY, hn, hC⟩ | hC
    · intro sz
      have hz : mj_sz as ≤ (MS z).2.2.1 := by rw [← hn]; exact Nat.le_of_ble_eq_true hz
      refine mj_ofW (cc := (MS z).2.1) (maxL := (MS z).2.2.1) (ret := (MS z).2.2.2) hY.2.2.2.1 rfl ?_
      intro p e s m args below meth c s₁ B hml hv
      obtain ⟨rfl, hsz, hP, hK, hN, hMO⟩ := hv
      have hx := B.exec
      have hb := B.bytes
      have hr := B.returns
      have hts := atoms_spec (ws := mj_ws TB (MS z)) B.pre
      have hown : s.vm.findClass (MS z).1.cls = some m.cls := findClass_of_methodNamed B.named
      have hlocks := B.notSynchronized
      subst hsz
      rw [lg_entry_eq]
      have hl := lv_entry (as.map (mj_tr ad)) (n := (MS z).2.2.1) (by rw [mj_sl_len]; exact hz)
      rw [mj_a0_eq] at hl
      have X : mj_Cx p s m (as.map (mj_tr ad)).toArray meth c TB CL S Dg T3 ad (MS z).2.1 (MS z).2.2.1 (MS z).1.cls (MS z).2.2.2 := ⟨hx, hb, hml, hown, fun w hw => hts w (List.mem_cons_of_mem _ hw), hK, hN, hinj, hlocks, hr, hMO⟩
      have hg := mj_s_sg (e := e) (below := below) X Y ih hC (fun t L st h q => by
        obtain ⟨n, q⟩ := q
        exact mj_s_rn X Y ih hC n t L st h q) 100 0 (mj_a0 0 as) [] h hm
      exact hg s.heap [] _ hP va_S.rf hl
    · exfalso
      rw [hC] at hm
      exact hm
end
section
/-! the tables by pieces -/
theorem lw_it_0 {w : Cond} (h : w ∈ tables_1_1) : w ∈ tables_1 := by
  show w ∈ tables_1_1 ++ (tables_1_2 ++ (tables_1_3 ++ (tables_1_4 ++ (tables_1_5 ++ (tables_1_6 ++ (tables_1_7 ++ (tables_1_8 ++ (tables_1_9))))))))
  exact List.mem_append_left _ h
theorem lw_it_1 {w : Cond} (h : w ∈ tables_1_2) : w ∈ tables_1 := by
  show w ∈ tables_1_1 ++ (tables_1_2 ++ (tables_1_3 ++ (tables_1_4 ++ (tables_1_5 ++ (tables_1_6 ++ (tables_1_7 ++ (tables_1_8 ++ (tables_1_9))))))))
  exact List.mem_append_right _ (List.mem_append_left _ h)
theorem lw_it_2 {w : Cond} (h : w ∈ tables_1_3) : w ∈ tables_1 := by
  show w ∈ tables_1_1 ++ (tables_1_2 ++ (tables_1_3 ++ (tables_1_4 ++ (tables_1_5 ++ (tables_1_6 ++ (tables_1_7 ++ (tables_1_8 ++ (tables_1_9))))))))
  exact List.mem_append_right _ (List.mem_append_right _ (List.mem_append_left _ h))
theorem lw_it_3 {w : Cond} (h : w ∈ tables_1_4) : w ∈ tables_1 := by
  show w ∈ tables_1_1 ++ (tables_1_2 ++ (tables_1_3 ++ (tables_1_4 ++ (tables_1_5 ++ (tables_1_6 ++ (tables_1_7 ++ (tables_1_8 ++ (tables_1_9))))))))
  exact List.mem_append_right _ (List.mem_append_right _ (List.mem_append_right _ (List.mem_append_left _ h)))
theorem lw_it_4 {w : Cond} (h : w ∈ tables_1_5) : w ∈ tables_1 := by
  show w ∈ tables_1_1 ++ (tables_1_2 ++ (tables_1_3 ++ (tables_1_4 ++ (tables_1_5 ++ (tables_1_6 ++ (tables_1_7 ++ (tables_1_8 ++ (tables_1_9))))))))
  exact List.mem_append_right _ (List.mem_append_right _ (List.mem_append_right _ (List.mem_append_right _ (List.mem_append_left _ h))))
theorem lw_it_5 {w : Cond} (h : w ∈ tables_1_6) : w ∈ tables_1 := by
  show w ∈ tables_1_1 ++ (tables_1_2 ++ (tables_1_3 ++ (tables_1_4 ++ (tables_1_5 ++ (tables_1_6 ++ (tables_1_7 ++ (tables_1_8 ++ (tables_1_9))))))))
  exact List.mem_append_right _ (List.mem_append_right _ (List.mem_append_right _ (List.mem_append_right _ (List.mem_append_right _ (List.mem_append_left _ h)))))
theorem lw_it_6 {w : Cond} (h : w ∈ tables_1_7) : w ∈ tables_1 := by
  show w ∈ tables_1_1 ++ (tables_1_2 ++ (tables_1_3 ++ (tables_1_4 ++ (tables_1_5 ++ (tables_1_6 ++ (tables_1_7 ++ (tables_1_8 ++ (tables_1_9))))))))
  exact List.mem_append_right _ (List.mem_append_right _ (List.mem_append_right _ (List.mem_append_right _ (List.mem_append_right _ (List.mem_append_right _ (List.mem_append_left _ h))))))
theorem lw_it_7 {w : Cond} (h : w ∈ tables_1_8) : w ∈ tables_1 := by
  show w ∈ tables_1_1 ++ (tables_1_2 ++ (tables_1_3 ++ (tables_1_4 ++ (tables_1_5 ++ (tables_1_6 ++ (tables_1_7 ++ (tables_1_8 ++ (tables_1_9))))))))
  exact List.mem_append_right _ (List.mem_append_right _ (List.mem_append_right _ (List.mem_append_right _ (List.mem_append_right _ (List.mem_append_right _ (List.mem_append_right _ (List.mem_append_left _ h)))))))
theorem lw_it_8 {w : Cond} (h : w ∈ tables_1_9) : w ∈ tables_1 := by
  show w ∈ tables_1_1 ++ (tables_1_2 ++ (tables_1_3 ++ (tables_1_4 ++ (tables_1_5 ++ (tables_1_6 ++ (tables_1_7 ++ (tables_1_8 ++ (tables_1_9))))))))
  exact List.mem_append_right _ (List.mem_append_right _ (List.mem_append_right _ (List.mem_append_right _ (List.mem_append_right _ (List.mem_append_right _ (List.mem_append_right _ (List.mem_append_right _ (h))))))))
end
