/-! decoding along a list of bytes: what the kernel evaluates in place of decode, shown to say the same -/
abbrev fd_I : Type := Jvm.ClassFile.Instr
abbrev fd_E : Type := Nat × Nat × (Nat → Nat → Jvm.ClassFile.Instr)
def fd_T0 : List fd_E := [(2, 0, fun _ _ => .iconst (-1)), (3, 0, fun _ _ => .iconst 0), (4, 0, fun _ _ => .iconst 1), (5, 0, fun _ _ => .iconst 2), (6, 0, fun _ _ => .iconst 3), (7, 0, fun _ _ => .iconst 4), (8, 0, fun _ _ => .iconst 5), (9, 0, fun _ _ => .lconst 0), (10, 0, fun _ _ => .lconst 1)]
def fd_T1 : List fd_E := [(16, 1, fun x _ => .bipush (Jvm.ClassFile.Reader.signed 8 x)), (17, 2, fun x y => .sipush (Jvm.ClassFile.Reader.signed 16 (x * 256 + y))), (18, 1, fun x _ => .ldc x), (19, 2, fun x y => .ldc_w (x * 256 + y)), (20, 2, fun x y => .ldc2_w (x * 256 + y)), (21, 1, fun x _ => .iload x), (22, 1, fun x _ => .lload x), (25, 1, fun x _ => .aload x), (26, 0, fun _ _ => .iload_n 0), (27, 0, fun _ _ => .iload_n 1), (28, 0, fun _ _ => .iload_n 2), (29, 0, fun _ _ => .iload_n 3), (30, 0, fun _ _ => .lload_n 0), (31, 0, fun _ _ => .lload_n 1)]
def fd_T2 : List fd_E := [(32, 0, fun _ _ => .lload_n 2), (33, 0, fun _ _ => .lload_n 3), (42, 0, fun _ _ => .aload_n 0), (43, 0, fun _ _ => .aload_n 1), (44, 0, fun _ _ => .aload_n 2), (45, 0, fun _ _ => .aload_n 3), (46, 0, fun _ _ => .iaload), (47, 0, fun _ _ => .laload)]
def fd_T3 : List fd_E := [(51, 0, fun _ _ => .baload), (54, 1, fun x _ => .istore x), (55, 1, fun x _ => .lstore x), (58, 1, fun x _ => .astore x), (59, 0, fun _ _ => .istore_n 0), (60, 0, fun _ _ => .istore_n 1), (61, 0, fun _ _ => .istore_n 2), (62, 0, fun _ _ => .istore_n 3), (63, 0, fun _ _ => .lstore_n 0)]
def fd_T4 : List fd_E := [(64, 0, fun _ _ => .lstore_n 1), (65, 0, fun _ _ => .lstore_n 2), (66, 0, fun _ _ => .lstore_n 3), (75, 0, fun _ _ => .astore_n 0), (76, 0, fun _ _ => .astore_n 1), (77, 0, fun _ _ => .astore_n 2), (78, 0, fun _ _ => .astore_n 3), (79, 0, fun _ _ => .iastore)]
def fd_T5 : List fd_E := [(80, 0, fun _ _ => .lastore), (84, 0, fun _ _ => .bastore), (87, 0, fun _ _ => .pop), (88, 0, fun _ _ => .pop2), (89, 0, fun _ _ => .dup), (92, 0, fun _ _ => .dup2)]
def fd_T6 : List fd_E := [(96, 0, fun _ _ => .iadd), (97, 0, fun _ _ => .ladd), (100, 0, fun _ _ => .isub), (101, 0, fun _ _ => .lsub), (104, 0, fun _ _ => .imul), (105, 0, fun _ _ => .lmul), (108, 0, fun _ _ => .idiv), (109, 0, fun _ _ => .ldiv)]
def fd_T7 : List fd_E := [(112, 0, fun _ _ => .irem), (113, 0, fun _ _ => .lrem), (116, 0, fun _ _ => .ineg), (120, 0, fun _ _ => .ishl), (121, 0, fun _ _ => .lshl), (122, 0, fun _ _ => .ishr), (123, 0, fun _ _ => .lshr), (124, 0, fun _ _ => .iushr), (125, 0, fun _ _ => .lushr), (126, 0, fun _ _ => .iand), (127, 0, fun _ _ => .land)]
def fd_T8 : List fd_E := [(128, 0, fun _ _ => .ior), (129, 0, fun _ _ => .lor), (130, 0, fun _ _ => .ixor), (131, 0, fun _ _ => .lxor), (132, 2, fun x y => .iinc x (Jvm.ClassFile.Reader.signed 8 y)), (133, 0, fun _ _ => .i2l), (136, 0, fun _ _ => .l2i)]
def fd_T9 : List fd_E := [(146, 0, fun _ _ => .i2c), (148, 0, fun _ _ => .lcmp), (153, 2, fun x y => .ifCond .eq (Jvm.ClassFile.Reader.signed 16 (x * 256 + y))), (154, 2, fun x y => .ifCond .ne (Jvm.ClassFile.Reader.signed 16 (x * 256 + y))), (155, 2, fun x y => .ifCond .lt (Jvm.ClassFile.Reader.signed 16 (x * 256 + y))), (156, 2, fun x y => .ifCond .ge (Jvm.ClassFile.Reader.signed 16 (x * 256 + y))), (157, 2, fun x y => .ifCond .gt (Jvm.ClassFile.Reader.signed 16 (x * 256 + y))), (158, 2, fun x y => .ifCond .le (Jvm.ClassFile.Reader.signed 16 (x * 256 + y))), (159, 2, fun x y => .if_icmp .eq (Jvm.ClassFile.Reader.signed 16 (x * 256 + y)))]
def fd_T10 : List fd_E := [(160, 2, fun x y => .if_icmp .ne (Jvm.ClassFile.Reader.signed 16 (x * 256 + y))), (161, 2, fun x y => .if_icmp .lt (Jvm.ClassFile.Reader.signed 16 (x * 256 + y))), (162, 2, fun x y => .if_icmp .ge (Jvm.ClassFile.Reader.signed 16 (x * 256 + y))), (163, 2, fun x y => .if_icmp .gt (Jvm.ClassFile.Reader.signed 16 (x * 256 + y))), (164, 2, fun x y => .if_icmp .le (Jvm.ClassFile.Reader.signed 16 (x * 256 + y))), (167, 2, fun x y => .goto (Jvm.ClassFile.Reader.signed 16 (x * 256 + y))), (172, 0, fun _ _ => .ireturn), (173, 0, fun _ _ => .lreturn)]
def fd_T11 : List fd_E := [(176, 0, fun _ _ => .areturn), (177, 0, fun _ _ => .return_), (178, 2, fun x y => .getstatic (x * 256 + y)), (180, 2, fun x y => .getfield (x * 256 + y)), (181, 2, fun x y => .putfield (x * 256 + y)), (182, 2, fun x y => .invokevirtual (x * 256 + y)), (183, 2, fun x y => .invokespecial (x * 256 + y)), (184, 2, fun x y => .invokestatic (x * 256 + y)), (187, 2, fun x y => .new (x * 256 + y)), (190, 0, fun _ _ => .arraylength)]
def fd_T : List (List fd_E) := [fd_T0, fd_T1, fd_T2, fd_T3, fd_T4, fd_T5, fd_T6, fd_T7, fd_T8, fd_T9, fd_T10, fd_T11]
def fd_look : List fd_E → Nat → Option (Nat × (Nat → Nat → Jvm.ClassFile.Instr))
  | [], _ => none
  | q :: r, k => cond (Nat.beq q.1 k) (some q.2) (fd_look r k)
def fd_arg : Nat → (Nat → Nat → Jvm.ClassFile.Instr) → List UInt8 → Option (Jvm.ClassFile.Instr × Nat × List UInt8)
  | 0, f, r => some (f 0 0, 1, r)
  | 1, f, x :: r => some (f x.toNat 0, 2, r)
  | 2, f, x :: y :: r => some (f x.toNat y.toNat, 3, r)
  | _, _, _ => none
def fd_op (o : Option (Nat × (Nat → Nat → Jvm.ClassFile.Instr))) (r : List UInt8) : Option (Jvm.ClassFile.Instr × Nat × List UInt8) :=
  match o with
  | none => none
  | some q => fd_arg q.1 q.2 r
def fd : List UInt8 → Option (Jvm.ClassFile.Instr × Nat × List UInt8)
  | [] => none
  | b :: r => fd_op (fd_look (fd_T.getD (b.toNat / 16) []) b.toNat) r
theorem fd_byte {cc : ByteArray} {p : Nat} {x : UInt8} {t : List UInt8} (h : cc.data.toList.drop p = x :: t) : ∃ hp : p < cc.size, cc[p]'hp = x ∧ t = cc.data.toList.drop (p + 1) := by
  by_cases hp : p < cc.data.toList.length
  · rw [List.drop_eq_getElem_cons hp] at h
    injection h with h1 h2
    exact ⟨hp, h1, h2.symm⟩
  · rw [List.drop_eq_nil_of_le (Nat.le_of_not_lt hp)] at h
    cases h
section Sfd
variable {α β : Type} {cc : ByteArray} {p op : Nat}
theorem fd_bind (x : Jvm.ClassFile.Decoder α) (G : α → Jvm.ClassFile.Decoder β) (cc : ByteArray) (p : Nat) (v : α) (p' : Nat) (e : x cc p = Except.ok (v, p')) : (x >>= G) cc p = G v cc p' := by
  have h : (x >>= G) cc p = Except.bind (x cc p) (fun w => G w.1 cc w.2) := rfl
  rw [h, e]
  first | done | rfl
theorem fd_u1 (hp : p < cc.size) : (Jvm.ClassFile.Reader.u1 : Jvm.ClassFile.Decoder Nat) cc p = Except.ok ((cc[p]'hp).toNat, p + 1) := by
  show ((if h : p < cc.size then (do set (p + 1); Pure.pure (cc[p]'h).toNat : Jvm.ClassFile.Decoder Nat) else throw _) : Jvm.ClassFile.Decoder Nat) cc p = _
  rw [dif_pos hp]
  first | done | rfl
theorem fd_s1 (hp : p < cc.size) : (Jvm.ClassFile.Reader.s1 : Jvm.ClassFile.Decoder Int) cc p = Except.ok (Jvm.ClassFile.Reader.signed 8 (cc[p]'hp).toNat, p + 1) := by
  have h : (Jvm.ClassFile.Reader.s1 : Jvm.ClassFile.Decoder Int) cc p = Except.bind ((Jvm.ClassFile.Reader.u1 : Jvm.ClassFile.Decoder Nat) cc p) (fun w => Except.ok (Jvm.ClassFile.Reader.signed 8 w.1, w.2)) := rfl
  rw [h, fd_u1 hp]
  first | done | rfl
theorem fd_u2 (h1 : p < cc.size) (h2 : p + 1 < cc.size) : (Jvm.ClassFile.Reader.u2 : Jvm.ClassFile.Decoder Nat) cc p = Except.ok ((cc[p]'h1).toNat * 256 + (cc[p + 1]'h2).toNat, p + 2) := by
  show ((Jvm.ClassFile.Reader.u1 : Jvm.ClassFile.Decoder Nat) >>= fun hi => (Jvm.ClassFile.Reader.u1 : Jvm.ClassFile.Decoder Nat) >>= fun lo => Pure.pure (hi * 256 + lo)) cc p = _
  rw [fd_bind _ _ cc p _ _ (fd_u1 h1), fd_bind _ _ cc (p + 1) _ _ (fd_u1 h2)]
  first | done | rfl
theorem fd_s2 (h1 : p < cc.size) (h2 : p + 1 < cc.size) : (Jvm.ClassFile.Reader.s2 : Jvm.ClassFile.Decoder Int) cc p = Except.ok (Jvm.ClassFile.Reader.signed 16 ((cc[p]'h1).toNat * 256 + (cc[p + 1]'h2).toNat), p + 2) := by
  have h : (Jvm.ClassFile.Reader.s2 : Jvm.ClassFile.Decoder Int) cc p = Except.bind ((Jvm.ClassFile.Reader.u2 : Jvm.ClassFile.Decoder Nat) cc p) (fun w => Except.ok (Jvm.ClassFile.Reader.signed 16 w.1, w.2)) := rfl
  rw [h, fd_u2 h1 h2]
  first | done | rfl
/-- what an entry of the table says of the arm of its opcode -/
def fd_sp (a : Nat × (Nat → Nat → Jvm.ClassFile.Instr)) (D : Jvm.ClassFile.Decoder Jvm.ClassFile.Instr) : Prop := ∀ (cc : ByteArray) (p : Nat) (i : Jvm.ClassFile.Instr) (n : Nat) (r : List UInt8), fd_arg a.1 a.2 (cc.data.toList.drop (p + 1)) = some (i, n, r) → D cc (p + 1) = Except.ok (i, p + n) ∧ r = cc.data.toList.drop (p + n)
theorem fd_sp0 {f : Nat → Nat → Jvm.ClassFile.Instr} : fd_sp (0, f) (Pure.pure (f 0 0)) := by
  intro cc p i n r e
  have e : some (f 0 0, 1, cc.data.toList.drop (p + 1)) = some (i, n, r) := e
  cases e
  exact ⟨rfl, rfl⟩
theorem fd_sp1 {D : Jvm.ClassFile.Decoder Jvm.ClassFile.Instr} {f : Nat → Nat → Jvm.ClassFile.Instr} (h : ∀ (cc : ByteArray) (p : Nat) (hp : p < cc.size), D cc p = Except.ok (f (cc[p]'hp).toNat 0, p + 1)) : fd_sp (1, f) D := by
  intro cc p i n r e
  cases e1 : cc.data.toList.drop (p + 1) with
  | nil =>
    have e : fd_arg 1 f (cc.data.toList.drop (p + 1)) = some (i, n, r) := e
    rw [e1] at e
    cases e
  | cons x t =>
    have e : fd_arg 1 f (cc.data.toList.drop (p + 1)) = some (i, n, r) := e
    rw [e1] at e
    obtain ⟨hp, hb, ht⟩ := fd_byte e1
    have e : some (f x.toNat 0, 2, t) = some (i, n, r) := e
    cases e
    have z := h cc (p + 1) hp
    rw [hb] at z
    exact ⟨z, ht⟩
theorem fd_sp2 {D : Jvm.ClassFile.Decoder Jvm.ClassFile.Instr} {f : Nat → Nat → Jvm.ClassFile.Instr} (h : ∀ (cc : ByteArray) (p : Nat) (h1 : p < cc.size) (h2 : p + 1 < cc.size), D cc p = Except.ok (f (cc[p]'h1).toNat (cc[p + 1]'h2).toNat, p + 2)) : fd_sp (2, f) D := by
  intro cc p i n r e
  have e : fd_arg 2 f (cc.data.toList.drop (p + 1)) = some (i, n, r) := e
  cases e1 : cc.data.toList.drop (p + 1) with
  | nil =>
    rw [e1] at e
    cases e
  | cons x t =>
    rw [e1] at e
    obtain ⟨hp, hb, ht⟩ := fd_byte e1
    cases e2 : t with
    | nil =>
      rw [e2] at e
      cases e
    | cons y t2 =>
      rw [e2] at e ht
      obtain ⟨hq, hc, hu⟩ := fd_byte ht.symm
      have e : some (f x.toNat y.toNat, 3, t2) = some (i, n, r) := e
      cases e
      have z := h cc (p + 1) hp hq
      rw [hb, hc] at z
      exact ⟨z, hu⟩
theorem fd_u1k {g : Nat → Jvm.ClassFile.Instr} (cc : ByteArray) (p : Nat) (hp : p < cc.size) : ((Jvm.ClassFile.Reader.u1 : Jvm.ClassFile.Decoder Nat) >>= fun x => Pure.pure (g x)) cc p = Except.ok ((fun x _ => g x) (cc[p]'hp).toNat 0, p + 1) := by
  rw [fd_bind _ _ cc p _ _ (fd_u1 hp)]
  first | done | rfl
theorem fd_s1k {g : Int → Jvm.ClassFile.Instr} (cc : ByteArray) (p : Nat) (hp : p < cc.size) : ((Jvm.ClassFile.Reader.s1 : Jvm.ClassFile.Decoder Int) >>= fun x => Pure.pure (g x)) cc p = Except.ok ((fun x _ => g (Jvm.ClassFile.Reader.signed 8 x)) (cc[p]'hp).toNat 0, p + 1) := by
  rw [fd_bind _ _ cc p _ _ (fd_s1 hp)]
  first | done | rfl
theorem fd_u2k {g : Nat → Jvm.ClassFile.Instr} (cc : ByteArray) (p : Nat) (h1 : p < cc.size) (h2 : p + 1 < cc.size) : ((Jvm.ClassFile.Reader.u2 : Jvm.ClassFile.Decoder Nat) >>= fun x => Pure.pure (g x)) cc p = Except.ok ((fun x y => g (x * 256 + y)) (cc[p]'h1).toNat (cc[p + 1]'h2).toNat, p + 2) := by
  rw [fd_bind _ _ cc p _ _ (fd_u2 h1 h2)]
  first | done | rfl
theorem fd_s2k {g : Int → Jvm.ClassFile.Instr} (cc : ByteArray) (p : Nat) (h1 : p < cc.size) (h2 : p + 1 < cc.size) : ((Jvm.ClassFile.Reader.s2 : Jvm.ClassFile.Decoder Int) >>= fun x => Pure.pure (g x)) cc p = Except.ok ((fun x y => g (Jvm.ClassFile.Reader.signed 16 (x * 256 + y))) (cc[p]'h1).toNat (cc[p + 1]'h2).toNat, p + 2) := by
  rw [fd_bind _ _ cc p _ _ (fd_s2 h1 h2)]
  first | done | rfl
theorem fd_iik {g : Nat → Int → Jvm.ClassFile.Instr} (cc : ByteArray) (p : Nat) (h1 : p < cc.size) (h2 : p + 1 < cc.size) : ((Jvm.ClassFile.Reader.u1 : Jvm.ClassFile.Decoder Nat) >>= fun x => (Jvm.ClassFile.Reader.s1 : Jvm.ClassFile.Decoder Int) >>= fun y => Pure.pure (g x y)) cc p = Except.ok ((fun x y => g x (Jvm.ClassFile.Reader.signed 8 y)) (cc[p]'h1).toNat (cc[p + 1]'h2).toNat, p + 2) := by
  rw [fd_bind _ _ cc p _ _ (fd_u1 h1), fd_bind _ _ cc (p + 1) _ _ (fd_s1 h2)]
  first | done | rfl
/-- what is looked up for x holds of this arm -/
def fd_S (x : Nat) (D : Jvm.ClassFile.Decoder Jvm.ClassFile.Instr) : Prop := ∀ a, fd_look (fd_T.getD (x / 16) []) x = some a → fd_sp a D
theorem fd_Sk {x : Nat} {D : Jvm.ClassFile.Decoder Jvm.ClassFile.Instr} {a : Nat × (Nat → Nat → Jvm.ClassFile.Instr)} (h : fd_look (fd_T.getD (x / 16) []) x = some a) (hs : fd_sp a D) : fd_S x D := fun b hb => by
  rw [h] at hb
  cases hb
  exact hs
theorem fd_Sn {x : Nat} {D : Jvm.ClassFile.Decoder Jvm.ClassFile.Instr} (h : fd_look (fd_T.getD (x / 16) []) x = none) : fd_S x D := fun b hb => by
  rw [h] at hb
  cases hb
theorem fd_S9 {x : Nat} {D : Jvm.ClassFile.Decoder Jvm.ClassFile.Instr} (h : 203 ≤ x) : fd_S x D := fd_Sn (by
  have h1 : fd_T.length ≤ x / 16 := by
    show 12 ≤ x / 16
    omega
  rw [List.getD_eq_getElem?_getD, List.getElem?_eq_none h1]
  rfl)
theorem fd_step {x k : Nat} {t : x = k → Jvm.ClassFile.Decoder Jvm.ClassFile.Instr} {e : ¬ x = k → Jvm.ClassFile.Decoder Jvm.ClassFile.Instr} (hk : k ≤ x) (h1 : ∀ h : x = k, fd_S x (t h)) (h2 : ∀ h : ¬ x = k, k + 1 ≤ x → fd_S x (e h)) : fd_S x (dite (x = k) t e) := by
  by_cases h : x = k
  · rw [dif_pos h]
    exact h1 h
  · rw [dif_neg h]
    exact h2 h (Nat.lt_of_le_of_ne hk (fun q => h q.symm))
end Sfd
set_option maxRecDepth 100000 in
set_option maxHeartbeats 16000000 in
theorem fd_K (pc : Nat) : ∃ K : Nat → Jvm.ClassFile.Decoder Jvm.ClassFile.Instr, Jvm.ClassFile.Decoder.instr pc = ((Jvm.ClassFile.Reader.u1 : Jvm.ClassFile.Decoder Nat) >>= K) ∧ ∀ x, fd_S x (K x) := by
  refine ⟨_, rfl, fun x => ?_⟩
  delta Jvm.ClassFile.Decoder.instr.match_1
  have hk : 0 ≤ x := Nat.zero_le x
  refine fd_step hk (fun h => by subst h; exact fd_Sn rfl) (fun _ hk => ?_)
  refine fd_step hk (fun h => by subst h; exact fd_Sn rfl) (fun _ hk => ?_)
  refine fd_step hk (fun h => by subst h; exact fd_Sk rfl (fd_sp0 (f := fun _ _ => .iconst (-1)))) (fun _ hk => ?_)
  refine fd_step hk (fun h => by subst h; exact fd_Sk rfl (fd_sp0 (f := fun _ _ => .iconst 0))) (fun _ hk => ?_)
  refine fd_step hk (fun h => by subst h; exact fd_Sk rfl (fd_sp0 (f := fun _ _ => .iconst 1))) (fun _ hk => ?_)
  refine fd_step hk (fun h => by subst h; exact fd_Sk rfl (fd_sp0 (f := fun _ _ => .iconst 2))) (fun _ hk => ?_)
  refine fd_step hk (fun h => by subst h; exact fd_Sk rfl (fd_sp0 (f := fun _ _ => .iconst 3))) (fun _ hk => ?_)
  refine fd_step hk (fun h => by subst h; exact fd_Sk rfl (fd_sp0 (f := fun _ _ => .iconst 4))) (fun _ hk => ?_)
  refine fd_step hk (fun h => by subst h; exact fd_Sk rfl (fd_sp0 (f := fun _ _ => .iconst 5))) (fun _ hk => ?_)
  refine fd_step hk (fun h => by subst h; exact fd_Sk rfl (fd_sp0 (f := fun _ _ => .lconst 0))) (fun _ hk => ?_)
  refine fd_step hk (fun h => by subst h; exact fd_Sk rfl (fd_sp0 (f := fun _ _ => .lconst 1))) (fun _ hk => ?_)
  refine fd_step hk (fun h => by subst h; exact fd_Sn rfl) (fun _ hk => ?_)
  refine fd_step hk (fun h => by subst h; exact fd_Sn rfl) (fun _ hk => ?_)
  refine fd_step hk (fun h => by subst h; exact fd_Sn rfl) (fun _ hk => ?_)
  refine fd_step hk (fun h => by subst h; exact fd_Sn rfl) (fun _ hk => ?_)
  refine fd_step hk (fun h => by subst h; exact fd_Sn rfl) (fun _ hk => ?_)
  refine fd_step hk (fun h => by subst h; exact fd_Sk rfl (fd_sp1 (fd_s1k (g := fun x => .bipush x)))) (fun _ hk => ?_)
  refine fd_step hk (fun h => by subst h; exact fd_Sk rfl (fd_sp2 (fd_s2k (g := fun x => .sipush x)))) (fun _ hk => ?_)
  refine fd_step hk (fun h => by subst h; exact fd_Sk rfl (fd_sp1 (fd_u1k (g := fun x => .ldc x)))) (fun _ hk => ?_)
  refine fd_step hk (fun h => by subst h; exact fd_Sk rfl (fd_sp2 (fd_u2k (g := fun x => .ldc_w x)))) (fun _ hk => ?_)
  refine fd_step hk (fun h => by subst h; exact fd_Sk rfl (fd_sp2 (fd_u2k (g := fun x => .ldc2_w x)))) (fun _ hk => ?_)
  refine fd_step hk (fun h => by subst h; exact fd_Sk rfl (fd_sp1 (fd_u1k (g := fun x => .iload x)))) (fun _ hk => ?_)
  refine fd_step hk (fun h => by subst h; exact fd_Sk rfl (fd_sp1 (fd_u1k (g := fun x => .lload x)))) (fun _ hk => ?_)
  refine fd_step hk (fun h => by subst h; exact fd_Sn rfl) (fun _ hk => ?_)
  refine fd_step hk (fun h => by subst h; exact fd_Sn rfl) (fun _ hk => ?_)
  refine fd_step hk (fun h => by subst h; exact fd_Sk rfl (fd_sp1 (fd_u1k (g := fun x => .aload x)))) (fun _ hk => ?_)
  refine fd_step hk (fun h => by subst h; exact fd_Sk rfl (fd_sp0 (f := fun _ _ => .iload_n 0))) (fun _ hk => ?_)
  refine fd_step hk (fun h => by subst h; exact fd_Sk rfl (fd_sp0 (f := fun _ _ => .iload_n 1))) (fun _ hk => ?_)
  refine fd_step hk (fun h => by subst h; exact fd_Sk rfl (fd_sp0 (f := fun _ _ => .iload_n 2))) (fun _ hk => ?_)
  refine fd_step hk (fun h => by subst h; exact fd_Sk rfl (fd_sp0 (f := fun _ _ => .iload_n 3))) (fun _ hk => ?_)
  refine fd_step hk (fun h => by subst h; exact fd_Sk rfl (fd_sp0 (f := fun _ _ => .lload_n 0))) (fun _ hk => ?_)
  refine fd_step hk (fun h => by subst h; exact fd_Sk rfl (fd_sp0 (f := fun _ _ => .lload_n 1))) (fun _ hk => ?_)
  refine fd_step hk (fun h => by subst h; exact fd_Sk rfl (fd_sp0 (f := fun _ _ => .lload_n 2))) (fun _ hk => ?_)
  refine fd_step hk (fun h => by subst h; exact fd_Sk rfl (fd_sp0 (f := fun _ _ => .lload_n 3))) (fun _ hk => ?_)
  refine fd_step hk (fun h => by subst h; exact fd_Sn rfl) (fun _ hk => ?_)
  refine fd_step hk (fun h => by subst h; exact fd_Sn rfl) (fun _ hk => ?_)
  refine fd_step hk (fun h => by subst h; exact fd_Sn rfl) (fun _ hk => ?_)
  refine fd_step hk (fun h => by subst h; exact fd_Sn rfl) (fun _ hk => ?_)
  refine fd_step hk (fun h => by subst h; exact fd_Sn rfl) (fun _ hk => ?_)
  refine fd_step hk (fun h => by subst h; exact fd_Sn rfl) (fun _ hk => ?_)
  refine fd_step hk (fun h => by subst h; exact fd_Sn rfl) (fun _ hk => ?_)
  refine fd_step hk (fun h => by subst h; exact fd_Sn rfl) (fun _ hk => ?_)
  refine fd_step hk (fun h => by subst h; exact fd_Sk rfl (fd_sp0 (f := fun _ _ => .aload_n 0))) (fun _ hk => ?_)
  refine fd_step hk (fun h => by subst h; exact fd_Sk rfl (fd_sp0 (f := fun _ _ => .aload_n 1))) (fun _ hk => ?_)
  refine fd_step hk (fun h => by subst h; exact fd_Sk rfl (fd_sp0 (f := fun _ _ => .aload_n 2))) (fun _ hk => ?_)
  refine fd_step hk (fun h => by subst h; exact fd_Sk rfl (fd_sp0 (f := fun _ _ => .aload_n 3))) (fun _ hk => ?_)
  refine fd_step hk (fun h => by subst h; exact fd_Sk rfl (fd_sp0 (f := fun _ _ => .iaload))) (fun _ hk => ?_)
  refine fd_step hk (fun h => by subst h; exact fd_Sk rfl (fd_sp0 (f := fun _ _ => .laload))) (fun _ hk => ?_)
  refine fd_step hk (fun h => by subst h; exact fd_Sn rfl) (fun _ hk => ?_)
  refine fd_step hk (fun h => by subst h; exact fd_Sn rfl) (fun _ hk => ?_)
  refine fd_step hk (fun h => by subst h; exact fd_Sn rfl) (fun _ hk => ?_)
  refine fd_step hk (fun h => by subst h; exact fd_Sk rfl (fd_sp0 (f := fun _ _ => .baload))) (fun _ hk => ?_)
  refine fd_step hk (fun h => by subst h; exact fd_Sn rfl) (fun _ hk => ?_)
  refine fd_step hk (fun h => by subst h; exact fd_Sn rfl) (fun _ hk => ?_)
  refine fd_step hk (fun h => by subst h; exact fd_Sk rfl (fd_sp1 (fd_u1k (g := fun x => .istore x)))) (fun _ hk => ?_)
  refine fd_step hk (fun h => by subst h; exact fd_Sk rfl (fd_sp1 (fd_u1k (g := fun x => .lstore x)))) (fun _ hk => ?_)
  refine fd_step hk (fun h => by subst h; exact fd_Sn rfl) (fun _ hk => ?_)
  refine fd_step hk (fun h => by subst h; exact fd_Sn rfl) (fun _ hk => ?_)
  refine fd_step hk (fun h => by subst h; exact fd_Sk rfl (fd_sp1 (fd_u1k (g := fun x => .astore x)))) (fun _ hk => ?_)
  refine fd_step hk (fun h => by subst h; exact fd_Sk rfl (fd_sp0 (f := fun _ _ => .istore_n 0))) (fun _ hk => ?_)
  refine fd_step hk (fun h => by subst h; exact fd_Sk rfl (fd_sp0 (f := fun _ _ => .istore_n 1))) (fun _ hk => ?_)
  refine fd_step hk (fun h => by subst h; exact fd_Sk rfl (fd_sp0 (f := fun _ _ => .istore_n 2))) (fun _ hk => ?_)
  refine fd_step hk (fun h => by subst h; exact fd_Sk rfl (fd_sp0 (f := fun _ _ => .istore_n 3))) (fun _ hk => ?_)
  refine fd_step hk (fun h => by subst h; exact fd_Sk rfl (fd_sp0 (f := fun _ _ => .lstore_n 0))) (fun _ hk => ?_)
  refine fd_step hk (fun h => by subst h; exact fd_Sk rfl (fd_sp0 (f := fun _ _ => .lstore_n 1))) (fun _ hk => ?_)
  refine fd_step hk (fun h => by subst h; exact fd_Sk rfl (fd_sp0 (f := fun _ _ => .lstore_n 2))) (fun _ hk => ?_)
  refine fd_step hk (fun h => by subst h; exact fd_Sk rfl (fd_sp0 (f := fun _ _ => .lstore_n 3))) (fun _ hk => ?_)
  refine fd_step hk (fun h => by subst h; exact fd_Sn rfl) (fun _ hk => ?_)
  refine fd_step hk (fun h => by subst h; exact fd_Sn rfl) (fun _ hk => ?_)
  refine fd_step hk (fun h => by subst h; exact fd_Sn rfl) (fun _ hk => ?_)
  refine fd_step hk (fun h => by subst h; exact fd_Sn rfl) (fun _ hk => ?_)
  refine fd_step hk (fun h => by subst h; exact fd_Sn rfl) (fun _ hk => ?_)
  refine fd_step hk (fun h => by subst h; exact fd_Sn rfl) (fun _ hk => ?_)
  refine fd_step hk (fun h => by subst h; exact fd_Sn rfl) (fun _ hk => ?_)
  refine fd_step hk (fun h => by subst h; exact fd_Sn rfl) (fun _ hk => ?_)
  refine fd_step hk (fun h => by subst h; exact fd_Sk rfl (fd_sp0 (f := fun _ _ => .astore_n 0))) (fun _ hk => ?_)
  refine fd_step hk (fun h => by subst h; exact fd_Sk rfl (fd_sp0 (f := fun _ _ => .astore_n 1))) (fun _ hk => ?_)
  refine fd_step hk (fun h => by subst h; exact fd_Sk rfl (fd_sp0 (f := fun _ _ => .astore_n 2))) (fun _ hk => ?_)
  refine fd_step hk (fun h => by subst h; exact fd_Sk rfl (fd_sp0 (f := fun _ _ => .astore_n 3))) (fun _ hk => ?_)
  refine fd_step hk (fun h => by subst h; exact fd_Sk rfl (fd_sp0 (f := fun _ _ => .iastore))) (fun _ hk => ?_)
  refine fd_step hk (fun h => by subst h; exact fd_Sk rfl (fd_sp0 (f := fun _ _ => .lastore))) (fun _ hk => ?_)
  refine fd_step hk (fun h => by subst h; exact fd_Sn rfl) (fun _ hk => ?_)
  refine fd_step hk (fun h => by subst h; exact fd_Sn rfl) (fun _ hk => ?_)
  refine fd_step hk (fun h => by subst h; exact fd_Sn rfl) (fun _ hk => ?_)
  refine fd_step hk (fun h => by subst h; exact fd_Sk rfl (fd_sp0 (f := fun _ _ => .bastore))) (fun _ hk => ?_)
  refine fd_step hk (fun h => by subst h; exact fd_Sn rfl) (fun _ hk => ?_)
  refine fd_step hk (fun h => by subst h; exact fd_Sn rfl) (fun _ hk => ?_)
  refine fd_step hk (fun h => by subst h; exact fd_Sk rfl (fd_sp0 (f := fun _ _ => .pop))) (fun _ hk => ?_)
  refine fd_step hk (fun h => by subst h; exact fd_Sk rfl (fd_sp0 (f := fun _ _ => .pop2))) (fun _ hk => ?_)
  refine fd_step hk (fun h => by subst h; exact fd_Sk rfl (fd_sp0 (f := fun _ _ => .dup))) (fun _ hk => ?_)
  refine fd_step hk (fun h => by subst h; exact fd_Sn rfl) (fun _ hk => ?_)
  refine fd_step hk (fun h => by subst h; exact fd_Sn rfl) (fun _ hk => ?_)
  refine fd_step hk (fun h => by subst h; exact fd_Sk rfl (fd_sp0 (f := fun _ _ => .dup2))) (fun _ hk => ?_)
  refine fd_step hk (fun h => by subst h; exact fd_Sn rfl) (fun _ hk => ?_)
  refine fd_step hk (fun h => by subst h; exact fd_Sn rfl) (fun _ hk => ?_)
  refine fd_step hk (fun h => by subst h; exact fd_Sn rfl) (fun _ hk => ?_)
  refine fd_step hk (fun h => by subst h; exact fd_Sk rfl (fd_sp0 (f := fun _ _ => .iadd))) (fun _ hk => ?_)
  refine fd_step hk (fun h => by subst h; exact fd_Sk rfl (fd_sp0 (f := fun _ _ => .ladd))) (fun _ hk => ?_)
  refine fd_step hk (fun h => by subst h; exact fd_Sn rfl) (fun _ hk => ?_)
  refine fd_step hk (fun h => by subst h; exact fd_Sn rfl) (fun _ hk => ?_)
  refine fd_step hk (fun h => by subst h; exact fd_Sk rfl (fd_sp0 (f := fun _ _ => .isub))) (fun _ hk => ?_)
  refine fd_step hk (fun h => by subst h; exact fd_Sk rfl (fd_sp0 (f := fun _ _ => .lsub))) (fun _ hk => ?_)
  refine fd_step hk (fun h => by subst h; exact fd_Sn rfl) (fun _ hk => ?_)
  refine fd_step hk (fun h => by subst h; exact fd_Sn rfl) (fun _ hk => ?_)
  refine fd_step hk (fun h => by subst h; exact fd_Sk rfl (fd_sp0 (f := fun _ _ => .imul))) (fun _ hk => ?_)
  refine fd_step hk (fun h => by subst h; exact fd_Sk rfl (fd_sp0 (f := fun _ _ => .lmul))) (fun _ hk => ?_)
  refine fd_step hk (fun h => by subst h; exact fd_Sn rfl) (fun _ hk => ?_)
  refine fd_step hk (fun h => by subst h; exact fd_Sn rfl) (fun _ hk => ?_)
  refine fd_step hk (fun h => by subst h; exact fd_Sk rfl (fd_sp0 (f := fun _ _ => .idiv))) (fun _ hk => ?_)
  refine fd_step hk (fun h => by subst h; exact fd_Sk rfl (fd_sp0 (f := fun _ _ => .ldiv))) (fun _ hk => ?_)
  refine fd_step hk (fun h => by subst h; exact fd_Sn rfl) (fun _ hk => ?_)
  refine fd_step hk (fun h => by subst h; exact fd_Sn rfl) (fun _ hk => ?_)
  refine fd_step hk (fun h => by subst h; exact fd_Sk rfl (fd_sp0 (f := fun _ _ => .irem))) (fun _ hk => ?_)
  refine fd_step hk (fun h => by subst h; exact fd_Sk rfl (fd_sp0 (f := fun _ _ => .lrem))) (fun _ hk => ?_)
  refine fd_step hk (fun h => by subst h; exact fd_Sn rfl) (fun _ hk => ?_)
  refine fd_step hk (fun h => by subst h; exact fd_Sn rfl) (fun _ hk => ?_)
  refine fd_step hk (fun h => by subst h; exact fd_Sk rfl (fd_sp0 (f := fun _ _ => .ineg))) (fun _ hk => ?_)
  refine fd_step hk (fun h => by subst h; exact fd_Sn rfl) (fun _ hk => ?_)
  refine fd_step hk (fun h => by subst h; exact fd_Sn rfl) (fun _ hk => ?_)
  refine fd_step hk (fun h => by subst h; exact fd_Sn rfl) (fun _ hk => ?_)
  refine fd_step hk (fun h => by subst h; exact fd_Sk rfl (fd_sp0 (f := fun _ _ => .ishl))) (fun _ hk => ?_)
  refine fd_step hk (fun h => by subst h; exact fd_Sk rfl (fd_sp0 (f := fun _ _ => .lshl))) (fun _ hk => ?_)
  refine fd_step hk (fun h => by subst h; exact fd_Sk rfl (fd_sp0 (f := fun _ _ => .ishr))) (fun _ hk => ?_)
  refine fd_step hk (fun h => by subst h; exact fd_Sk rfl (fd_sp0 (f := fun _ _ => .lshr))) (fun _ hk => ?_)
  refine fd_step hk (fun h => by subst h; exact fd_Sk rfl (fd_sp0 (f := fun _ _ => .iushr))) (fun _ hk => ?_)
  refine fd_step hk (fun h => by subst h; exact fd_Sk rfl (fd_sp0 (f := fun _ _ => .lushr))) (fun _ hk => ?_)
  refine fd_step hk (fun h => by subst h; exact fd_Sk rfl (fd_sp0 (f := fun _ _ => .iand))) (fun _ hk => ?_)
  refine fd_step hk (fun h => by subst h; exact fd_Sk rfl (fd_sp0 (f := fun _ _ => .land))) (fun _ hk => ?_)
  refine fd_step hk (fun h => by subst h; exact fd_Sk rfl (fd_sp0 (f := fun _ _ => .ior))) (fun _ hk => ?_)
  refine fd_step hk (fun h => by subst h; exact fd_Sk rfl (fd_sp0 (f := fun _ _ => .lor))) (fun _ hk => ?_)
  refine fd_step hk (fun h => by subst h; exact fd_Sk rfl (fd_sp0 (f := fun _ _ => .ixor))) (fun _ hk => ?_)
  refine fd_step hk (fun h => by subst h; exact fd_Sk rfl (fd_sp0 (f := fun _ _ => .lxor))) (fun _ hk => ?_)
  refine fd_step hk (fun h => by subst h; exact fd_Sk rfl (fd_sp2 (fd_iik (g := fun x y => .iinc x y)))) (fun _ hk => ?_)
  refine fd_step hk (fun h => by subst h; exact fd_Sk rfl (fd_sp0 (f := fun _ _ => .i2l))) (fun _ hk => ?_)
  refine fd_step hk (fun h => by subst h; exact fd_Sn rfl) (fun _ hk => ?_)
  refine fd_step hk (fun h => by subst h; exact fd_Sn rfl) (fun _ hk => ?_)
  refine fd_step hk (fun h => by subst h; exact fd_Sk rfl (fd_sp0 (f := fun _ _ => .l2i))) (fun _ hk => ?_)
  refine fd_step hk (fun h => by subst h; exact fd_Sn rfl) (fun _ hk => ?_)
  refine fd_step hk (fun h => by subst h; exact fd_Sn rfl) (fun _ hk => ?_)
  refine fd_step hk (fun h => by subst h; exact fd_Sn rfl) (fun _ hk => ?_)
  refine fd_step hk (fun h => by subst h; exact fd_Sn rfl) (fun _ hk => ?_)
  refine fd_step hk (fun h => by subst h; exact fd_Sn rfl) (fun _ hk => ?_)
  refine fd_step hk (fun h => by subst h; exact fd_Sn rfl) (fun _ hk => ?_)
  refine fd_step hk (fun h => by subst h; exact fd_Sn rfl) (fun _ hk => ?_)
  refine fd_step hk (fun h => by subst h; exact fd_Sn rfl) (fun _ hk => ?_)
  refine fd_step hk (fun h => by subst h; exact fd_Sn rfl) (fun _ hk => ?_)
  refine fd_step hk (fun h => by subst h; exact fd_Sk rfl (fd_sp0 (f := fun _ _ => .i2c))) (fun _ hk => ?_)
  refine fd_step hk (fun h => by subst h; exact fd_Sn rfl) (fun _ hk => ?_)
  refine fd_step hk (fun h => by subst h; exact fd_Sk rfl (fd_sp0 (f := fun _ _ => .lcmp))) (fun _ hk => ?_)
  refine fd_step hk (fun h => by subst h; exact fd_Sn rfl) (fun _ hk => ?_)
  refine fd_step hk (fun h => by subst h; exact fd_Sn rfl) (fun _ hk => ?_)
  refine fd_step hk (fun h => by subst h; exact fd_Sn rfl) (fun _ hk => ?_)
  refine fd_step hk (fun h => by subst h; exact fd_Sn rfl) (fun _ hk => ?_)
  refine fd_step hk (fun h => by subst h; exact fd_Sk rfl (fd_sp2 (fd_s2k (g := fun x => .ifCond .eq x)))) (fun _ hk => ?_)
  refine fd_step hk (fun h => by subst h; exact fd_Sk rfl (fd_sp2 (fd_s2k (g := fun x => .ifCond .ne x)))) (fun _ hk => ?_)
  refine fd_step hk (fun h => by subst h; exact fd_Sk rfl (fd_sp2 (fd_s2k (g := fun x => .ifCond .lt x)))) (fun _ hk => ?_)
  refine fd_step hk (fun h => by subst h; exact fd_Sk rfl (fd_sp2 (fd_s2k (g := fun x => .ifCond .ge x)))) (fun _ hk => ?_)
  refine fd_step hk (fun h => by subst h; exact fd_Sk rfl (fd_sp2 (fd_s2k (g := fun x => .ifCond .gt x)))) (fun _ hk => ?_)
  refine fd_step hk (fun h => by subst h; exact fd_Sk rfl (fd_sp2 (fd_s2k (g := fun x => .ifCond .le x)))) (fun _ hk => ?_)
  refine fd_step hk (fun h => by subst h; exact fd_Sk rfl (fd_sp2 (fd_s2k (g := fun x => .if_icmp .eq x)))) (fun _ hk => ?_)
  refine fd_step hk (fun h => by subst h; exact fd_Sk rfl (fd_sp2 (fd_s2k (g := fun x => .if_icmp .ne x)))) (fun _ hk => ?_)
  refine fd_step hk (fun h => by subst h; exact fd_Sk rfl (fd_sp2 (fd_s2k (g := fun x => .if_icmp .lt x)))) (fun _ hk => ?_)
  refine fd_step hk (fun h => by subst h; exact fd_Sk rfl (fd_sp2 (fd_s2k (g := fun x => .if_icmp .ge x)))) (fun _ hk => ?_)
  refine fd_step hk (fun h => by subst h; exact fd_Sk rfl (fd_sp2 (fd_s2k (g := fun x => .if_icmp .gt x)))) (fun _ hk => ?_)
  refine fd_step hk (fun h => by subst h; exact fd_Sk rfl (fd_sp2 (fd_s2k (g := fun x => .if_icmp .le x)))) (fun _ hk => ?_)
  refine fd_step hk (fun h => by subst h; exact fd_Sn rfl) (fun _ hk => ?_)
  refine fd_step hk (fun h => by subst h; exact fd_Sn rfl) (fun _ hk => ?_)
  refine fd_step hk (fun h => by subst h; exact fd_Sk rfl (fd_sp2 (fd_s2k (g := fun x => .goto x)))) (fun _ hk => ?_)
  refine fd_step hk (fun h => by subst h; exact fd_Sn rfl) (fun _ hk => ?_)
  refine fd_step hk (fun h => by subst h; exact fd_Sn rfl) (fun _ hk => ?_)
  refine fd_step hk (fun h => by subst h; exact fd_Sn rfl) (fun _ hk => ?_)
  refine fd_step hk (fun h => by subst h; exact fd_Sn rfl) (fun _ hk => ?_)
  refine fd_step hk (fun h => by subst h; exact fd_Sk rfl (fd_sp0 (f := fun _ _ => .ireturn))) (fun _ hk => ?_)
  refine fd_step hk (fun h => by subst h; exact fd_Sk rfl (fd_sp0 (f := fun _ _ => .lreturn))) (fun _ hk => ?_)
  refine fd_step hk (fun h => by subst h; exact fd_Sn rfl) (fun _ hk => ?_)
  refine fd_step hk (fun h => by subst h; exact fd_Sn rfl) (fun _ hk => ?_)
  refine fd_step hk (fun h => by subst h; exact fd_Sk rfl (fd_sp0 (f := fun _ _ => .areturn))) (fun _ hk => ?_)
  refine fd_step hk (fun h => by subst h; exact fd_Sk rfl (fd_sp0 (f := fun _ _ => .return_))) (fun _ hk => ?_)
  refine fd_step hk (fun h => by subst h; exact fd_Sk rfl (fd_sp2 (fd_u2k (g := fun x => .getstatic x)))) (fun _ hk => ?_)
  refine fd_step hk (fun h => by subst h; exact fd_Sn rfl) (fun _ hk => ?_)
  refine fd_step hk (fun h => by subst h; exact fd_Sk rfl (fd_sp2 (fd_u2k (g := fun x => .getfield x)))) (fun _ hk => ?_)
  refine fd_step hk (fun h => by subst h; exact fd_Sk rfl (fd_sp2 (fd_u2k (g := fun x => .putfield x)))) (fun _ hk => ?_)
  refine fd_step hk (fun h => by subst h; exact fd_Sk rfl (fd_sp2 (fd_u2k (g := fun x => .invokevirtual x)))) (fun _ hk => ?_)
  refine fd_step hk (fun h => by subst h; exact fd_Sk rfl (fd_sp2 (fd_u2k (g := fun x => .invokespecial x)))) (fun _ hk => ?_)
  refine fd_step hk (fun h => by subst h; exact fd_Sk rfl (fd_sp2 (fd_u2k (g := fun x => .invokestatic x)))) (fun _ hk => ?_)
  refine fd_step hk (fun h => by subst h; exact fd_Sn rfl) (fun _ hk => ?_)
  refine fd_step hk (fun h => by subst h; exact fd_Sn rfl) (fun _ hk => ?_)
  refine fd_step hk (fun h => by subst h; exact fd_Sk rfl (fd_sp2 (fd_u2k (g := fun x => .new x)))) (fun _ hk => ?_)
  refine fd_step hk (fun h => by subst h; exact fd_Sn rfl) (fun _ hk => ?_)
  refine fd_step hk (fun h => by subst h; exact fd_Sn rfl) (fun _ hk => ?_)
  refine fd_step hk (fun h => by subst h; exact fd_Sk rfl (fd_sp0 (f := fun _ _ => .arraylength))) (fun _ hk => ?_)
  refine fd_step hk (fun h => by subst h; exact fd_Sn rfl) (fun _ hk => ?_)
  refine fd_step hk (fun h => by subst h; exact fd_Sn rfl) (fun _ hk => ?_)
  refine fd_step hk (fun h => by subst h; exact fd_Sn rfl) (fun _ hk => ?_)
  refine fd_step hk (fun h => by subst h; exact fd_Sn rfl) (fun _ hk => ?_)
  refine fd_step hk (fun h => by subst h; exact fd_Sn rfl) (fun _ hk => ?_)
  refine fd_step hk (fun h => by subst h; exact fd_Sn rfl) (fun _ hk => ?_)
  refine fd_step hk (fun h => by subst h; exact fd_Sn rfl) (fun _ hk => ?_)
  refine fd_step hk (fun h => by subst h; exact fd_Sn rfl) (fun _ hk => ?_)
  refine fd_step hk (fun h => by subst h; exact fd_Sn rfl) (fun _ hk => ?_)
  refine fd_step hk (fun h => by subst h; exact fd_Sn rfl) (fun _ hk => ?_)
  refine fd_step hk (fun h => by subst h; exact fd_Sn rfl) (fun _ hk => ?_)
  refine fd_step hk (fun h => by subst h; exact fd_Sn rfl) (fun _ hk => ?_)
  exact fd_S9 hk
theorem fd_dec {cc : ByteArray} {pc q : Nat} {i : Jvm.ClassFile.Instr} (h : Jvm.ClassFile.Decoder.instr pc cc pc = Except.ok (i, q)) : decode cc pc = .ok (i, q - pc) := by
  have h1 : decode cc pc = Except.bind (Jvm.ClassFile.Decoder.instr pc cc pc) (fun w => Except.ok (w.1, w.2 - pc)) := rfl
  rw [h1, h]
  first | done | rfl
theorem fd_ok {cc : ByteArray} {pc n : Nat} {i : Jvm.ClassFile.Instr} {r : List UInt8} (h : fd (cc.data.toList.drop pc) = some (i, n, r)) : decode cc pc = .ok (i, n) ∧ r = cc.data.toList.drop (pc + n) := by
  cases e : cc.data.toList.drop pc with
  | nil => rw [e] at h; cases h
  | cons b t =>
    rw [e] at h
    obtain ⟨hp, hb, ht⟩ := fd_byte e
    obtain ⟨K, hK, hs⟩ := fd_K pc
    have h1 : fd_op (fd_look (fd_T.getD (b.toNat / 16) []) b.toNat) t = some (i, n, r) := h
    cases e2 : fd_look (fd_T.getD (b.toNat / 16) []) b.toNat with
    | none => rw [e2] at h1; cases h1
    | some q =>
      rw [e2] at h1
      have h2 : fd_arg q.1 q.2 t = some (i, n, r) := h1
      rw [ht] at h2
      obtain ⟨w1, w2⟩ := hs b.toNat q e2 cc pc i n r h2
      have w3 : Jvm.ClassFile.Decoder.instr pc cc pc = Except.ok (i, pc + n) := by
        rw [hK, fd_bind _ _ cc pc _ _ (fd_u1 hp), hb]
        exact w1
      have w4 := fd_dec w3
      rw [Nat.add_sub_cancel_left] at w4
      exact ⟨w4, w2⟩
-- one instruction, held against what the table says of it; the rest of the list
def fd_at (cc : ByteArray) (pc : Nat) (l : List UInt8) (i : Jvm.ClassFile.Instr) (n : Nat) : Option (List UInt8) :=
  match fd l with
  | some q => cond (decide (q.1 = i)) (cond (Nat.beq q.2.1 n) (some q.2.2) none) none
  | none => cond (decide (decode cc pc = .ok (i, n))) (some (l.drop n)) none
theorem fd_at_ok {cc : ByteArray} {pc n : Nat} {l r : List UInt8} {i : Jvm.ClassFile.Instr} (hl : l = cc.data.toList.drop pc) (h : fd_at cc pc l i n = some r) : decode cc pc = .ok (i, n) ∧ r = cc.data.toList.drop (pc + n) := by
  subst hl
  unfold fd_at at h
  cases e : fd (cc.data.toList.drop pc) with
  | some q =>
    rw [e] at h
    obtain ⟨q1, q2, q3⟩ := q
    obtain ⟨w1, w2⟩ := fd_ok e
    have h : cond (decide (q1 = i)) (cond (Nat.beq q2 n) (some q3) none) none = some r := h
    cases e1 : decide (q1 = i) with
    | false => rw [e1] at h; cases h
    | true =>
      rw [e1] at h
      have h : cond (Nat.beq q2 n) (some q3) none = some r := h
      cases e2 : Nat.beq q2 n with
      | false => rw [e2] at h; cases h
      | true =>
        rw [e2] at h
        have h3 : q3 = r := Option.some.inj h
        have h4 : q1 = i := of_decide_eq_true e1
        have h5 : q2 = n := Nat.eq_of_beq_eq_true e2
        subst h3
        subst h4
        subst h5
        exact ⟨w1, w2⟩
  | none =>
    rw [e] at h
    have h : cond (decide (decode cc pc = .ok (i, n))) (some ((cc.data.toList.drop pc).drop n)) none = some r := h
    cases e1 : decide (decode cc pc = .ok (i, n)) with
    | false => rw [e1] at h; cases h
    | true =>
      rw [e1] at h
      have h3 : (cc.data.toList.drop pc).drop n = r := Option.some.inj h
      refine ⟨of_decide_eq_true e1, ?_⟩
      rw [← h3, List.drop_drop]
/-- n bytes further on -/
def fd_skip : Nat → List UInt8 → (List UInt8 → Bool) → Bool
  | 0, l, k => k l
  | n + 1, [], k => k []
  | n + 1, _ :: l, k => fd_skip n l k
theorem fd_skip_eq : ∀ (n : Nat) (l : List UInt8) (k : List UInt8 → Bool), fd_skip n l k = k (l.drop n)
  | 0, l, k => rfl
  | n + 1, [], k => rfl
  | n + 1, _ :: l, k => fd_skip_eq n l k
def fd_P (cc : ByteArray) : List (Nat × Jvm.ClassFile.Instr × Nat) → Prop
  | [] => True
  | q :: r => decode cc q.1 = .ok (q.2.1, q.2.2) ∧ fd_P cc r
def fd_o (o : Option (List UInt8)) (k : List UInt8 → Bool) : Bool :=
  match o with
  | none => false
  | some l => k l
def fd_C (cc : ByteArray) : List (Nat × Jvm.ClassFile.Instr × Nat) → Nat → List UInt8 → Bool
  | [], _, _ => true
  | q :: r, p, l => cond (Nat.ble p q.1) (fd_skip (q.1 - p) l (fun l1 => fd_o (fd_at cc q.1 l1 q.2.1 q.2.2) (fun l2 => fd_C cc r (q.1 + q.2.2) l2))) false
theorem fd_C_ok {cc : ByteArray} : ∀ (T : List (Nat × Jvm.ClassFile.Instr × Nat)) (p : Nat) (l : List UInt8), l = cc.data.toList.drop p → fd_C cc T p l = true → fd_P cc T
  | [], _, _, _, _ => trivial
  | q :: r, p, l, hl, h => by
    have h : cond (Nat.ble p q.1) (fd_skip (q.1 - p) l (fun l1 => fd_o (fd_at cc q.1 l1 q.2.1 q.2.2) (fun l2 => fd_C cc r (q.1 + q.2.2) l2))) false = true := h
    cases e : Nat.ble p q.1 with
    | false => rw [e] at h; cases h
    | true =>
      rw [e] at h
      have hp : p ≤ q.1 := Nat.le_of_ble_eq_true e
      have h : fd_skip (q.1 - p) l (fun l1 => fd_o (fd_at cc q.1 l1 q.2.1 q.2.2) (fun l2 => fd_C cc r (q.1 + q.2.2) l2)) = true := h
      have hl2 : l.drop (q.1 - p) = cc.data.toList.drop q.1 := by
        rw [hl, List.drop_drop, Nat.add_sub_cancel' hp]
      rw [fd_skip_eq, hl2] at h
      have h : fd_o (fd_at cc q.1 (cc.data.toList.drop q.1) q.2.1 q.2.2) (fun l2 => fd_C cc r (q.1 + q.2.2) l2) = true := h
      cases e2 : fd_at cc q.1 (cc.data.toList.drop q.1) q.2.1 q.2.2 with
      | none =>
        rw [e2] at h
        cases h
      | some l2 =>
        rw [e2] at h
        obtain ⟨w1, w2⟩ := fd_at_ok rfl e2
        exact ⟨w1, fd_C_ok r _ l2 w2 h⟩
theorem fd_of {cc : ByteArray} (T : List (Nat × Jvm.ClassFile.Instr × Nat)) (h : fd_C cc T 0 cc.data.toList = true) : fd_P cc T := fd_C_ok T 0 _ rfl h
