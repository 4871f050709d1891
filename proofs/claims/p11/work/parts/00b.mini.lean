/-! THE SMALL MACHINE. A reference is the number of a cell; the heap is three functions: cell, slot -> int, long, cell. -/
abbrev mj_K : Type := mj_L → List Value → mj_H → Prop
def mj_up {α : Type} (f : Nat → Nat → α) (k j : Nat) (v : α) : Nat → Nat → α := fun k' j' => if k' = k then (if j' = j then v else f k' j') else f k' j'
def mj_cp {α : Type} (f : Nat → Nat → α) (a sp b dp n : Nat) : Nat → Nat → α := fun k' j' => if k' = b then (if dp ≤ j' ∧ j' < dp + n then f a (sp + (j' - dp)) else f k' j') else f k' j'
def mj_nth {α : Type} : List α → Nat → Option α
  | [], _ => none
  | x :: _, 0 => some x
  | _ :: r, n + 1 => mj_nth r n
def mj_fd {α : Type} : List (Nat × α) → Nat → Option α
  | [], _ => none
  | q :: r, i => match Nat.beq q.1 i with
    | true => some q.2
    | false => mj_fd r i
def mj_in (x : Nat × Value) : mj_L → mj_L
  | [] => [x]
  | q :: r => match Nat.blt q.1 x.1 with
    | true => q :: mj_in x r
    | false => x :: q :: r
def mj_s1 (i : Nat) (v : Value) (l : mj_L) : mj_L := mj_in (i, v) (l.filter (fun q => !(q.1 == i) && !(q.1 + 1 == i && q.2.category == 2)))
def mj_s2 (i : Nat) (v : Value) (l : mj_L) : mj_L := mj_in (i, v) (l.filter (fun q => !(q.1 == i) && (!(q.1 == i + 1) && !(q.1 + 1 == i && q.2.category == 2))))
def mj_tm (ks : List Nat) (l : mj_L) : mj_L := l.filter (fun q => ks.elem q.1)
def mj_a0 : Nat → List Value → mj_L
  | _, [] => []
  | i, v :: vs => (i, v) :: mj_a0 (if v.category = 2 then i + 2 else i + 1) vs
-- pops
def mj_pI (s : List Value) (F : Int32 → List Value → Prop) : Prop := match s with
  | .int x :: r => F x r
  | _ => False
def mj_pL (s : List Value) (F : Int64 → List Value → Prop) : Prop := match s with
  | .long x :: r => F x r
  | _ => False
def mj_pR (s : List Value) (F : Nat → List Value → Prop) : Prop := match s with
  | .ref x :: r => F x r
  | _ => False
def mj_lI (l : mj_L) (i : Nat) (F : Int32 → Prop) : Prop := match mj_fd l i with
  | some (.int x) => F x
  | _ => False
def mj_lL (l : mj_L) (i : Nat) (F : Int64 → Prop) : Prop := match mj_fd l i with
  | some (.long x) => F x
  | _ => False
def mj_lR (l : mj_L) (i : Nat) (F : Nat → Prop) : Prop := match mj_fd l i with
  | some (.ref x) => F x
  | _ => False
/-- the cell q of a shape: its kind (0 int[], 1 long[], 2 boolean[], 3 + c an object of class c) and size -/
def mj_sh (S : mj_S) (q t : Nat) (F : Nat → Prop) : Prop := match mj_nth S q with
  | some z => match Nat.beq z.1 t with
    | true => F z.2
    | false => False
  | none => False
def mj_if (b : Bool) (P : Prop) : Prop := match b with
  | true => P
  | false => False
def mj_sw : List (Int32 × Nat) → Nat → Int32 → (Nat → Prop) → Prop
  | [], d, _, F => F d
  | q :: r, d, x, F => if x = q.1 then F q.2 else mj_sw r d x F
def mj_sz : List Value → Nat
  | [] => 0
  | v :: r => v.category + mj_sz r
/-- a call's answer goes on the stack, by its kind: 0 none, 1 int, 2 long, 3 a cell; but for the last, the callee leaves the references as they are -/
def mj_rt (c : Nat) (f : mj_R → Prop) (r : List Value) (h : mj_H) (F : List Value → mj_H → Prop) : Prop := match c with
  | 0 => ∃ (I : Nat → Nat → Int32) (J : Nat → Nat → Int64), f (.null, (I, J, h.2.2)) ∧ F r (I, J, h.2.2)
  | 1 => ∃ (x : Int32) (I : Nat → Nat → Int32) (J : Nat → Nat → Int64), f (.int x, (I, J, h.2.2)) ∧ F (.int x :: r) (I, J, h.2.2)
  | 2 => ∃ (x : Int64) (I : Nat → Nat → Int32) (J : Nat → Nat → Int64), f (.long x, (I, J, h.2.2)) ∧ F (.long x :: r) (I, J, h.2.2)
  | _ => ∃ (x : Nat) (g : mj_H), f (.ref x, g) ∧ F (.ref x :: r) g
/-- the receiver is an object of class d (as d + 1; 0: a static method) -/
def mj_rc (S : mj_S) (d : Nat) (as : List Value) : Prop := match d with
  | 0 => True
  | d + 1 => match as with
    | .ref q :: _ => mj_sh S q (d + 3) (fun _ => True)
    | _ => False
def mj_cl (S : mj_S) (cal : Nat → List Value → mj_H → mj_R → Prop) (z n c d : Nat) (s : List Value) (h : mj_H) (k : List Value → mj_H → Prop) : Prop :=
  mj_if (Nat.ble n s.length && Nat.ble (mj_sz (s.drop n)) 8) (mj_rc S d (s.take n).reverse ∧ mj_rt c (cal z (s.take n).reverse h) (s.drop n) h k)
/-- the locals, laid out anew (so that a walk on names stays short) -/
def mj_fl : mj_L → (mj_L → Prop) → Prop
  | [], F => F []
  | q :: r, F => mj_fl r (fun r' => F (q :: r'))
theorem mj_fl_eq : ∀ (l : mj_L) (F : mj_L → Prop), mj_fl l F = F l
  | [], _ => rfl
  | _ :: r, _ => mj_fl_eq r _
/-- the static row MOST (cell 900), and a read of an int[] -/
def mj_most (i : Nat) : Int32 := ([4, 40, 10, 24, 12, 12] : List Int32).getD i 0
def mj_ia (S : mj_S) (h : mj_H) (q : Nat) (i : Int32) (F : Int32 → Prop) : Prop := match Nat.beq q 900 with
  | true => vp_in i 6 ∧ F (mj_most i.toNatClampNeg)
  | false => mj_sh S q 0 fun n => vp_in i n ∧ F (h.1 q i.toNatClampNeg)
def mj_ins (S : mj_S) (cal : Nat → List Value → mj_H → mj_R → Prop) (Q : mj_R → Prop) (jmp : Nat → mj_K) (i : Jvm.ClassFile.Instr) (a b c d : Nat) (v : Int32) (w : Int64) (sw : List (Int32 × Nat)) (l : mj_L) (s : List Value) (h : mj_H) (k : mj_K) : Prop :=
  match i with
  | .iconst _ => k l (.int v :: s) h
  | .bipush _ => k l (.int v :: s) h
  | .sipush _ => k l (.int v :: s) h
  | .ldc _ => k l (.int v :: s) h
  | .ldc_w _ => k l (.int v :: s) h
  | .lconst _ => k l (.long w :: s) h
  | .ldc2_w _ => k l (.long w :: s) h
  | .iload_n n => mj_lI l n.val fun x => k l (.int x :: s) h
  | .iload n => mj_lI l n fun x => k l (.int x :: s) h
  | .lload_n n => mj_lL l n.val fun x => k l (.long x :: s) h
  | .lload n => mj_lL l n fun x => k l (.long x :: s) h
  | .aload_n n => mj_lR l n.val fun x => k l (.ref x :: s) h
  | .aload n => mj_lR l n fun x => k l (.ref x :: s) h
  | .istore_n n => mj_pI s fun x r => mj_fl (mj_s1 n.val (.int x) l) fun l => k l r h
  | .istore n => mj_pI s fun x r => mj_fl (mj_s1 n (.int x) l) fun l => k l r h
  | .lstore_n n => mj_pL s fun x r => mj_fl (mj_s2 n.val (.long x) l) fun l => k l r h
  | .lstore n => mj_pL s fun x r => mj_fl (mj_s2 n (.long x) l) fun l => k l r h
  | .astore_n n => mj_pR s fun x r => mj_fl (mj_s1 n.val (.ref x) l) fun l => k l r h
  | .astore n => mj_pR s fun x r => mj_fl (mj_s1 n (.ref x) l) fun l => k l r h
  | .iinc n _ => mj_lI l n fun x => mj_fl (mj_s1 n (.int (x + v)) l) fun l => k l s h
  | .iadd => mj_pI s fun y r => mj_pI r fun x r => k l (.int (x + y) :: r) h
  | .isub => mj_pI s fun y r => mj_pI r fun x r => k l (.int (x - y) :: r) h
  | .imul => mj_pI s fun y r => mj_pI r fun x r => k l (.int (x * y) :: r) h
  | .iand => mj_pI s fun y r => mj_pI r fun x r => k l (.int (x &&& y) :: r) h
  | .ior => mj_pI s fun y r => mj_pI r fun x r => k l (.int (x ||| y) :: r) h
  | .ixor => mj_pI s fun y r => mj_pI r fun x r => k l (.int (x ^^^ y) :: r) h
  | .idiv => mj_pI s fun y r => mj_pI r fun x r => ¬ y = 0 ∧ k l (.int (x / y) :: r) h
  | .irem => mj_pI s fun y r => mj_pI r fun x r => ¬ y = 0 ∧ k l (.int (x - x / y * y) :: r) h
  | .ineg => mj_pI s fun x r => k l (.int (-x) :: r) h
  | .ishl => mj_pI s fun y r => mj_pI r fun x r => k l (.int (x <<< (y &&& 31)) :: r) h
  | .ishr => mj_pI s fun y r => mj_pI r fun x r => k l (.int (x >>> (y &&& 31)) :: r) h
  | .iushr => mj_pI s fun y r => mj_pI r fun x r => k l (.int (x.toUInt32 >>> (y.toUInt32 &&& Int32.toUInt32 31)).toInt32 :: r) h
  | .ladd => mj_pL s fun y r => mj_pL r fun x r => k l (.long (x + y) :: r) h
  | .lsub => mj_pL s fun y r => mj_pL r fun x r => k l (.long (x - y) :: r) h
  | .lmul => mj_pL s fun y r => mj_pL r fun x r => k l (.long (x * y) :: r) h
  | .land => mj_pL s fun y r => mj_pL r fun x r => k l (.long (x &&& y) :: r) h
  | .lor => mj_pL s fun y r => mj_pL r fun x r => k l (.long (x ||| y) :: r) h
  | .lxor => mj_pL s fun y r => mj_pL r fun x r => k l (.long (x ^^^ y) :: r) h
  | .ldiv => mj_pL s fun y r => mj_pL r fun x r => ¬ y = 0 ∧ k l (.long (x / y) :: r) h
  | .lrem => mj_pL s fun y r => mj_pL r fun x r => ¬ y = 0 ∧ k l (.long (x - x / y * y) :: r) h
  | .lneg => mj_pL s fun x r => k l (.long (-x) :: r) h
  | .lshl => mj_pI s fun y r => mj_pL r fun x r => k l (.long (x <<< (y.toInt64 &&& 63)) :: r) h
  | .lshr => mj_pI s fun y r => mj_pL r fun x r => k l (.long (x >>> (y.toInt64 &&& 63)) :: r) h
  | .lushr => mj_pI s fun y r => mj_pL r fun x r => k l (.long (x.toUInt64 >>> (y.toInt64.toUInt64 &&& Int64.toUInt64 63)).toInt64 :: r) h
  | .lcmp => mj_pL s fun y r => mj_pL r fun x r => k l (.int (lg_cmp x y) :: r) h
  | .i2l => mj_pI s fun x r => k l (.long x.toInt64 :: r) h
  | .l2i => mj_pL s fun x r => k l (.int x.toInt32 :: r) h
  | .dup => match s with
    | .int x :: r => k l (.int x :: .int x :: r) h
    | .ref x :: r => k l (.ref x :: .ref x :: r) h
    | _ => False
  | .dup2 => mj_pI s fun x r => mj_pR r fun y r => k l (.int x :: .ref y :: .int x :: .ref y :: r) h
  | .getfield _ => mj_pR s fun q r => mj_sh S q (a + 3) fun n => mj_if (Nat.blt b n) (match c with
    | 1 => k l (.long (h.2.1 q b) :: r) h
    | 2 => k l (.ref (h.2.2 q b) :: r) h
    | _ => k l (.int (h.1 q b) :: r) h)
  | .putfield _ => match c with
    | 1 => mj_pL s fun x r => mj_pR r fun q r => mj_sh S q (a + 3) fun n => mj_if (Nat.blt b n) (k l r (h.1, mj_up h.2.1 q b x, h.2.2))
    | 2 => mj_pR s fun x r => mj_pR r fun q r => mj_sh S q (a + 3) fun n => mj_if (Nat.blt b n) (k l r (h.1, h.2.1, mj_up h.2.2 q b x))
    | 3 => mj_pI s fun x r => mj_pR r fun q r => mj_sh S q (a + 3) fun n => mj_if (Nat.blt b n) ((x = 0 ∨ x = 1) ∧ k l r (mj_up h.1 q b x, h.2.1, h.2.2))
    | _ => mj_pI s fun x r => mj_pR r fun q r => mj_sh S q (a + 3) fun n => mj_if (Nat.blt b n) (k l r (mj_up h.1 q b x, h.2.1, h.2.2))
  | .iaload => mj_pI s fun i r => mj_pR r fun q r => mj_ia S h q i fun x => k l (.int x :: r) h
  | .getstatic _ => k l (.ref 900 :: s) h
  | .laload => mj_pI s fun i r => mj_pR r fun q r => mj_sh S q 1 fun n => vp_in i n ∧ k l (.long (h.2.1 q i.toNatClampNeg) :: r) h
  | .baload => mj_pI s fun i r => mj_pR r fun q r => mj_sh S q 2 fun n => vp_in i n ∧ k l (.int (h.1 q i.toNatClampNeg) :: r) h
  | .iastore => mj_pI s fun x r => mj_pI r fun i r => mj_pR r fun q r => mj_sh S q 0 fun n => vp_in i n ∧ k l r (mj_up h.1 q i.toNatClampNeg x, h.2.1, h.2.2)
  | .lastore => mj_pL s fun x r => mj_pI r fun i r => mj_pR r fun q r => mj_sh S q 1 fun n => vp_in i n ∧ k l r (h.1, mj_up h.2.1 q i.toNatClampNeg x, h.2.2)
  | .bastore => mj_pI s fun x r => mj_pI r fun i r => mj_pR r fun q r => mj_sh S q 2 fun n => vp_in i n ∧ k l r (mj_up h.1 q i.toNatClampNeg (vp_nar .boolean x), h.2.1, h.2.2)
  | .goto _ => jmp a l s h
  | .ifCond o _ => mj_pI s fun x r => match o with
    | .eq => if x = 0 then jmp a l r h else k l r h
    | .ne => if x = 0 then k l r h else jmp a l r h
    | .lt => if x < 0 then jmp a l r h else k l r h
    | .ge => if x < 0 then k l r h else jmp a l r h
    | .gt => if x ≤ 0 then k l r h else jmp a l r h
    | .le => if x ≤ 0 then jmp a l r h else k l r h
  | .if_icmp o _ => mj_pI s fun y r => mj_pI r fun x r => match o with
    | .eq => if x = y then jmp a l r h else k l r h
    | .ne => if x = y then k l r h else jmp a l r h
    | .lt => if x < y then jmp a l r h else k l r h
    | .ge => if y ≤ x then jmp a l r h else k l r h
    | .gt => if y < x then jmp a l r h else k l r h
    | .le => if x ≤ y then jmp a l r h else k l r h
  | .tableswitch _ _ _ _ => mj_pI s fun x r => mj_sw sw a x fun t => jmp t l r h
  | .lookupswitch _ _ => mj_pI s fun x r => mj_sw sw a x fun t => jmp t l r h
  | .invokevirtual _ => mj_cl S cal a b c d s h fun r h => k l r h
  | .invokestatic _ => match Nat.beq a 999 with
    | true => mj_pI s fun n r => mj_pI r fun dp r => mj_pR r fun y r => mj_pI r fun sp r => mj_pR r fun x r => mj_sh S x 0 fun n0 => mj_sh S y 0 fun n1 =>
        (¬ sp < 0 ∧ ¬ dp < 0 ∧ ¬ n < 0 ∧ sp.toNatClampNeg + n.toNatClampNeg ≤ n0 ∧ dp.toNatClampNeg + n.toNatClampNeg ≤ n1) ∧ mj_if (Nat.ble (mj_sz r) 8) (k l r (mj_cp h.1 x sp.toNatClampNeg y dp.toNatClampNeg n.toNatClampNeg, h.2.1, h.2.2))
    | false => mj_cl S cal a b c 0 s h fun r h => k l r h
  | .return_ => match s with
    | [] => Q (.null, h)
    | _ => False
  | .ireturn => match s with
    | [.int x] => (match a with
      | 0 => Q (.int x, h)
      | _ => (x = 0 ∨ x = 1) ∧ Q (.int x, h))
    | _ => False
  | .lreturn => match s with
    | [.long x] => Q (.long x, h)
    | _ => False
  | .areturn => match s with
    | [.ref x] => Q (.ref x, h)
    | _ => False
  | _ => False
def mj_bk (S : mj_S) (cal : Nat → List Value → mj_H → mj_R → Prop) (Q : mj_R → Prop) (jmp : Nat → mj_K) : List mj_E → Nat → mj_K
  | [], pc => fun l s h => jmp pc l s h
  | e :: r, pc => fun l s h => mj_ins S cal Q jmp e.1 e.2.2.1.1 e.2.2.1.2.1 e.2.2.1.2.2.1 e.2.2.1.2.2.2 e.2.2.2.1 e.2.2.2.2.1 e.2.2.2.2.2 l s h (mj_bk S cal Q jmp r (pc + e.2.1))
def mj_sg (S : mj_S) (C : mj_C) (cal : Nat → List Value → mj_H → mj_R → Prop) (Q : mj_R → Prop) (K : Nat → mj_K) : Nat → Nat → mj_K
  | 0, _ => fun _ _ _ => False
  | m + 1, pc => fun l s h => match mj_fd C.2.1 pc with
    | some ks => K pc (mj_tm ks l) s h
    | none => match mj_fd C.1 pc with
      | some b => mj_bk S cal Q (mj_sg S C cal Q K m) b pc l s h
      | none => False
/-- from a pc on, without halting at it -/
def mj_go (S : mj_S) (C : mj_C) (cal : Nat → List Value → mj_H → mj_R → Prop) (Q : mj_R → Prop) (K : Nat → mj_K) (pc : Nat) : mj_K := fun l s h => match mj_fd C.1 pc with
  | some b => mj_bk S cal Q (mj_sg S C cal Q K 100) b pc l s h
  | none => False
def mj_rn (S : mj_S) (C : mj_C) (cal : Nat → List Value → mj_H → mj_R → Prop) (Q : mj_R → Prop) : Nat → Nat → mj_K
  | 0, _ => fun _ _ _ => False
  | n + 1, pc => mj_go S C cal Q (mj_rn S C cal Q n) pc
def mj_Ev (S : mj_S) (C : mj_C) (cal : Nat → List Value → mj_H → mj_R → Prop) (Q : mj_R → Prop) (pc : Nat) : mj_K := fun l s h => ∃ n, mj_rn S C cal Q n pc l s h
/-- what method z answers at depth D, from its arguments and the heap -/
def mj_Cl (S : mj_S) (CD : Nat → mj_C) : Nat → Nat → List Value → mj_H → mj_R → Prop
  | 0 => fun _ _ _ _ => False
  | D + 1 => fun z as h r => mj_if (Nat.ble (mj_sz as) (CD z).2.2) (mj_sg S (CD z) (mj_Cl S CD D) (fun x => x = r) (mj_Ev S (CD z) (mj_Cl S CD D) (fun x => x = r)) 100 0 (mj_a0 0 as) [] h)
-- inversions
theorem mj_pI_e {s : List Value} {F : Int32 → List Value → Prop} (h : mj_pI s F) : ∃ x r, s = .int x :: r ∧ F x r := by
  unfold mj_pI at h
  split at h
  · exact ⟨_, _, rfl, h⟩
  · exact h.elim
theorem mj_pL_e {s : List Value} {F : Int64 → List Value → Prop} (h : mj_pL s F) : ∃ x r, s = .long x :: r ∧ F x r := by
  unfold mj_pL at h
  split at h
  · exact ⟨_, _, rfl, h⟩
  · exact h.elim
theorem mj_pR_e {s : List Value} {F : Nat → List Value → Prop} (h : mj_pR s F) : ∃ x r, s = .ref x :: r ∧ F x r := by
  unfold mj_pR at h
  split at h
  · exact ⟨_, _, rfl, h⟩
  · exact h.elim
theorem mj_fd_mem {α : Type} : ∀ {l : List (Nat × α)} {i : Nat} {v : α}, mj_fd l i = some v → (i, v) ∈ l
  | [], i, v, h => by simp [mj_fd] at h
  | q :: r, i, v, h => by
    unfold mj_fd at h
    split at h
    · rename_i e
      have e2 : q.1 = i := Nat.eq_of_beq_eq_true e
      cases h
      rw [← e2]
      exact List.mem_cons_self
    · exact List.mem_cons_of_mem _ (mj_fd_mem h)
theorem mj_lI_e {l : mj_L} {i : Nat} {F : Int32 → Prop} (h : mj_lI l i F) : ∃ x, (i, Value.int x) ∈ l ∧ F x := by
  unfold mj_lI at h
  split at h
  · rename_i e
    exact ⟨_, mj_fd_mem e, h⟩
  · exact h.elim
theorem mj_lL_e {l : mj_L} {i : Nat} {F : Int64 → Prop} (h : mj_lL l i F) : ∃ x, (i, Value.long x) ∈ l ∧ F x := by
  unfold mj_lL at h
  split at h
  · rename_i e
    exact ⟨_, mj_fd_mem e, h⟩
  · exact h.elim
theorem mj_lR_e {l : mj_L} {i : Nat} {F : Nat → Prop} (h : mj_lR l i F) : ∃ x, (i, Value.ref x) ∈ l ∧ F x := by
  unfold mj_lR at h
  split at h
  · rename_i e
    exact ⟨_, mj_fd_mem e, h⟩
  · exact h.elim
theorem mj_nth_eq {α : Type} : ∀ (l : List α) (n : Nat), mj_nth l n = l[n]?
  | [], n => by simp [mj_nth]
  | x :: r, 0 => by simp [mj_nth]
  | x :: r, n + 1 => by simp [mj_nth, mj_nth_eq r n]
theorem mj_sh_e {S : mj_S} {q t : Nat} {F : Nat → Prop} (h : mj_sh S q t F) : ∃ n, S[q]? = some (t, n) ∧ F n := by
  unfold mj_sh at h
  split at h
  · rename_i z e
    split at h
    · rename_i e2
      have e3 : z.1 = t := Nat.eq_of_beq_eq_true e2
      refine ⟨z.2, ?_, h⟩
      rw [← mj_nth_eq, e, ← e3]
    · exact h.elim
  · exact h.elim
theorem mj_ia_e {S : mj_S} {h : mj_H} {q : Nat} {i : Int32} {F : Int32 → Prop} (hm : mj_ia S h q i F) : (q = 900 ∧ vp_in i 6 ∧ F (mj_most i.toNatClampNeg)) ∨ ∃ n, S[q]? = some (0, n) ∧ vp_in i n ∧ F (h.1 q i.toNatClampNeg) := by
  unfold mj_ia at hm
  split at hm
  · rename_i e
    exact Or.inl ⟨Nat.eq_of_beq_eq_true e, hm⟩
  · exact Or.inr (mj_sh_e hm)
theorem mj_if_e {b : Bool} {P : Prop} (h : mj_if b P) : b = true ∧ P := by
  cases b
  · exact h.elim
  · exact ⟨rfl, h⟩
theorem mj_in_e {x y : Nat × Value} : ∀ {l : mj_L}, y ∈ mj_in x l → y = x ∨ y ∈ l
  | [], h => by
    simp [mj_in] at h
    exact Or.inl h
  | q :: r, h => by
    unfold mj_in at h
    split at h
    · rcases List.mem_cons.mp h with h | h
      · exact Or.inr (h ▸ List.mem_cons_self)
      · rcases mj_in_e h with h | h
        · exact Or.inl h
        · exact Or.inr (List.mem_cons_of_mem _ h)
    · rcases List.mem_cons.mp h with h | h
      · exact Or.inl h
      · exact Or.inr h
