/-! a walk goes one way: what holds for some x at its end, holds for some x of the whole walk -/
section MJX
variable {ι : Type}
theorem mj_x_pI {s : List Value} {F : ι → Int32 → List Value → Prop} : mj_pI s (fun x r => ∃ i, F i x r) ↔ ∃ i, mj_pI s (F i) := by
  cases s with
  | nil => simp [mj_pI]
  | cons v r => cases v <;> simp [mj_pI]
theorem mj_x_pL {s : List Value} {F : ι → Int64 → List Value → Prop} : mj_pL s (fun x r => ∃ i, F i x r) ↔ ∃ i, mj_pL s (F i) := by
  cases s with
  | nil => simp [mj_pL]
  | cons v r => cases v <;> simp [mj_pL]
theorem mj_x_pR {s : List Value} {F : ι → Nat → List Value → Prop} : mj_pR s (fun x r => ∃ i, F i x r) ↔ ∃ i, mj_pR s (F i) := by
  cases s with
  | nil => simp [mj_pR]
  | cons v r => cases v <;> simp [mj_pR]
theorem mj_x_lI {l : mj_L} {n : Nat} {F : ι → Int32 → Prop} : mj_lI l n (fun x => ∃ i, F i x) ↔ ∃ i, mj_lI l n (F i) := by
  unfold mj_lI
  cases mj_fd l n with
  | none => simp
  | some v => cases v <;> simp
theorem mj_x_lL {l : mj_L} {n : Nat} {F : ι → Int64 → Prop} : mj_lL l n (fun x => ∃ i, F i x) ↔ ∃ i, mj_lL l n (F i) := by
  unfold mj_lL
  cases mj_fd l n with
  | none => simp
  | some v => cases v <;> simp
theorem mj_x_lR {l : mj_L} {n : Nat} {F : ι → Nat → Prop} : mj_lR l n (fun x => ∃ i, F i x) ↔ ∃ i, mj_lR l n (F i) := by
  unfold mj_lR
  cases mj_fd l n with
  | none => simp
  | some v => cases v <;> simp
theorem mj_x_sh {S : mj_S} {q t : Nat} {F : ι → Nat → Prop} : mj_sh S q t (fun x => ∃ i, F i x) ↔ ∃ i, mj_sh S q t (F i) := by
  unfold mj_sh
  cases mj_nth S q with
  | none => simp
  | some z =>
    show (match Nat.beq z.1 t with | true => ∃ i, F i z.2 | false => False) ↔ ∃ i, match Nat.beq z.1 t with | true => F i z.2 | false => False
    generalize Nat.beq z.1 t = b
    cases b <;> simp
theorem mj_x_ia {S : mj_S} {h : mj_H} {q : Nat} {i : Int32} {F : ι → Int32 → Prop} : mj_ia S h q i (fun x => ∃ j, F j x) ↔ ∃ j, mj_ia S h q i (F j) := by
  unfold mj_ia
  cases Nat.beq q 900 with
  | true => exact exists_and_left.symm
  | false =>
    show (mj_sh S q 0 fun n => vp_in i n ∧ ∃ j, F j (h.1 q i.toNatClampNeg)) ↔ ∃ j, mj_sh S q 0 fun n => vp_in i n ∧ F j (h.1 q i.toNatClampNeg)
    rw [← mj_x_sh]
    simp only [exists_and_left]
theorem mj_x_if {b : Bool} {F : ι → Prop} : mj_if b (∃ i, F i) ↔ ∃ i, mj_if b (F i) := by
  cases b <;> simp [mj_if]
theorem mj_x_sw {d : Nat} {x : Int32} {F : ι → Nat → Prop} : ∀ sw : List (Int32 × Nat), mj_sw sw d x (fun t => ∃ i, F i t) ↔ ∃ i, mj_sw sw d x (F i)
  | [] => Iff.rfl
  | q :: r => by
    unfold mj_sw
    by_cases h : x = q.1
    · simp only [h, if_true]
    · simp only [h, if_false]
      exact mj_x_sw r
theorem mj_x_rt {c : Nat} {f : mj_R → Prop} {r : List Value} {g : mj_H} {F : ι → List Value → mj_H → Prop} (h : mj_rt c f r g (fun x y => ∃ i, F i x y)) : ∃ i, mj_rt c f r g (F i) := by
  match c, h with
  | 0, h => obtain ⟨I, J, h1, i, h2⟩ := h; exact ⟨i, I, J, h1, h2⟩
  | 1, h => obtain ⟨x, I, J, h1, i, h2⟩ := h; exact ⟨i, x, I, J, h1, h2⟩
  | 2, h => obtain ⟨x, I, J, h1, i, h2⟩ := h; exact ⟨i, x, I, J, h1, h2⟩
  | _ + 3, h => obtain ⟨x, I, h1, i, h2⟩ := h; exact ⟨i, x, I, h1, h2⟩
theorem mj_x_cl {S : mj_S} {cal : Nat → List Value → mj_H → mj_R → Prop} {z n c d : Nat} {s : List Value} {h : mj_H} {k : ι → List Value → mj_H → Prop} (hm : mj_cl S cal z n c d s h (fun r h => ∃ i, k i r h)) : ∃ i, mj_cl S cal z n c d s h (k i) := by
  unfold mj_cl at hm
  obtain ⟨h1, h2, h4⟩ := mj_if_e hm
  obtain ⟨i, h5⟩ := mj_x_rt h4
  refine ⟨i, ?_⟩
  unfold mj_cl
  rw [h1]
  exact ⟨h2, h5⟩
theorem mj_x_ite {c : Prop} [Decidable c] {A B : ι → Prop} : (if c then ∃ i, A i else ∃ i, B i) ↔ ∃ i, if c then A i else B i := by
  by_cases h : c <;> simp [h]
set_option maxHeartbeats 4000000 in
theorem mj_x_ins {S : mj_S} {cal : Nat → List Value → mj_H → mj_R → Prop} {Q : ι → mj_R → Prop} {jmp : ι → Nat → mj_K} {i : Jvm.ClassFile.Instr} {a b c d : Nat} {v : Int32} {w : Int64} {sw : List (Int32 × Nat)} {l : mj_L} {s : List Value} {h : mj_H} {k : ι → mj_K}
    (hm : mj_ins S cal (fun r => ∃ x, Q x r) (fun t l s h => ∃ x, jmp x t l s h) i a b c d v w sw l s h (fun l s h => ∃ x, k x l s h)) : ∃ x, mj_ins S cal (Q x) (jmp x) i a b c d v w sw l s h (k x) := by
  cases i with
  | iconst _ => exact hm
  | bipush _ => exact hm
  | sipush _ => exact hm
  | ldc _ => exact hm
  | ldc_w _ => exact hm
  | lconst _ => exact hm
  | ldc2_w _ => exact hm
  | iload_n n => exact mj_x_lI.mp hm
  | iload n => exact mj_x_lI.mp hm
  | lload_n n => exact mj_x_lL.mp hm
  | lload n => exact mj_x_lL.mp hm
  | aload_n n => exact mj_x_lR.mp hm
  | aload n => exact mj_x_lR.mp hm
  | istore_n n => simp only [mj_ins, mj_fl_eq] at hm ⊢; exact mj_x_pI.mp hm
  | istore n => simp only [mj_ins, mj_fl_eq] at hm ⊢; exact mj_x_pI.mp hm
  | lstore_n n => simp only [mj_ins, mj_fl_eq] at hm ⊢; exact mj_x_pL.mp hm
  | lstore n => simp only [mj_ins, mj_fl_eq] at hm ⊢; exact mj_x_pL.mp hm
  | astore_n n => simp only [mj_ins, mj_fl_eq] at hm ⊢; exact mj_x_pR.mp hm
  | astore n => simp only [mj_ins, mj_fl_eq] at hm ⊢; exact mj_x_pR.mp hm
  | iinc n _ => simp only [mj_ins, mj_fl_eq] at hm ⊢; exact mj_x_lI.mp hm
  | iadd => simp only [mj_ins, mj_x_pI] at hm ⊢; exact hm
  | isub => simp only [mj_ins, mj_x_pI] at hm ⊢; exact hm
  | imul => simp only [mj_ins, mj_x_pI] at hm ⊢; exact hm
  | iand => simp only [mj_ins, mj_x_pI] at hm ⊢; exact hm
  | ior => simp only [mj_ins, mj_x_pI] at hm ⊢; exact hm
  | ixor => simp only [mj_ins, mj_x_pI] at hm ⊢; exact hm
  | idiv => simp only [mj_ins, mj_x_pI, ← exists_and_left] at hm ⊢; exact hm
  | irem => simp only [mj_ins, mj_x_pI, ← exists_and_left] at hm ⊢; exact hm
  | ineg => exact mj_x_pI.mp hm
  | ishl => simp only [mj_ins, mj_x_pI] at hm ⊢; exact hm
  | ishr => simp only [mj_ins, mj_x_pI] at hm ⊢; exact hm
  | iushr => simp only [mj_ins, mj_x_pI] at hm ⊢; exact hm
  | ladd => simp only [mj_ins, mj_x_pL] at hm ⊢; exact hm
  | lsub => simp only [mj_ins, mj_x_pL] at hm ⊢; exact hm
  | lmul => simp only [mj_ins, mj_x_pL] at hm ⊢; exact hm
  | land => simp only [mj_ins, mj_x_pL] at hm ⊢; exact hm
  | lor => simp only [mj_ins, mj_x_pL] at hm ⊢; exact hm
  | lxor => simp only [mj_ins, mj_x_pL] at hm ⊢; exact hm
  | ldiv => simp only [mj_ins, mj_x_pL, ← exists_and_left] at hm ⊢; exact hm
  | lrem => simp only [mj_ins, mj_x_pL, ← exists_and_left] at hm ⊢; exact hm
  | lneg => exact mj_x_pL.mp hm
  | lshl => simp only [mj_ins, mj_x_pI, mj_x_pL] at hm ⊢; exact hm
  | lshr => simp only [mj_ins, mj_x_pI, mj_x_pL] at hm ⊢; exact hm
  | lushr => simp only [mj_ins, mj_x_pI, mj_x_pL] at hm ⊢; exact hm
  | lcmp => simp only [mj_ins, mj_x_pL] at hm ⊢; exact hm
  | i2l => exact mj_x_pI.mp hm
  | l2i => exact mj_x_pL.mp hm
  | dup =>
    simp only [mj_ins] at hm ⊢
    split at hm
    · exact hm
    · exact hm
    · exact hm.elim
  | dup2 => simp only [mj_ins, mj_x_pI, mj_x_pR] at hm ⊢; exact hm
  | getfield _ =>
    simp only [mj_ins] at hm ⊢
    split at hm <;> (simp only [mj_x_pR, mj_x_sh, mj_x_if] at hm; exact hm)
  | putfield _ =>
    simp only [mj_ins] at hm ⊢
    split at hm <;> (simp only [mj_x_pI, mj_x_pL, mj_x_pR, mj_x_sh, mj_x_if, ← exists_and_left] at hm; exact hm)
  | iaload => simp only [mj_ins, mj_x_pI, mj_x_pR, mj_x_ia] at hm ⊢; exact hm
  | getstatic _ => exact hm
  | laload => simp only [mj_ins, mj_x_pI, mj_x_pR, mj_x_sh, ← exists_and_left] at hm ⊢; exact hm
  | baload => simp only [mj_ins, mj_x_pI, mj_x_pR, mj_x_sh, ← exists_and_left] at hm ⊢; exact hm
  | iastore => simp only [mj_ins, mj_x_pI, mj_x_pR, mj_x_sh, ← exists_and_left] at hm ⊢; exact hm
  | lastore => simp only [mj_ins, mj_x_pI, mj_x_pL, mj_x_pR, mj_x_sh, ← exists_and_left] at hm ⊢; exact hm
  | bastore => simp only [mj_ins, mj_x_pI, mj_x_pR, mj_x_sh, ← exists_and_left] at hm ⊢; exact hm
  | goto _ => exact hm
  | ifCond o _ => cases o <;> (simp only [mj_ins, mj_x_pI, mj_x_ite] at hm ⊢; exact hm)
  | if_icmp o _ => cases o <;> (simp only [mj_ins, mj_x_pI, mj_x_ite] at hm ⊢; exact hm)
  | tableswitch _ _ _ _ => simp only [mj_ins, mj_x_pI, mj_x_sw] at hm ⊢; exact hm
  | lookupswitch _ _ => simp only [mj_ins, mj_x_pI, mj_x_sw] at hm ⊢; exact hm
  | invokevirtual _ => exact mj_x_cl hm
  | invokestatic _ =>
    simp only [mj_ins] at hm ⊢
    split at hm
    · simp only [mj_x_pI, mj_x_pR, mj_x_sh, mj_x_if, ← exists_and_left] at hm; exact hm
    · exact mj_x_cl hm
  | return_ =>
    simp only [mj_ins] at hm ⊢
    split at hm
    · exact hm
    · exact hm.elim
  | ireturn =>
    simp only [mj_ins] at hm ⊢
    split at hm
    · split at hm
      · exact hm
      · obtain ⟨h1, x, h2⟩ := hm; exact ⟨x, h1, h2⟩
    · exact hm.elim
  | lreturn =>
    simp only [mj_ins] at hm ⊢
    split at hm
    · exact hm
    · exact hm.elim
  | areturn =>
    simp only [mj_ins] at hm ⊢
    split at hm
    · exact hm
    · exact hm.elim
  | _ => exact hm.elim
end MJX
/-! more at the end: more of the whole walk -/
section MJM
theorem mj_m_pI {s : List Value} {F G : Int32 → List Value → Prop} (h : ∀ x r, F x r → G x r) (hm : mj_pI s F) : mj_pI s G := by
  obtain ⟨x, r, rfl, q⟩ := mj_pI_e hm
  exact h _ _ q
theorem mj_m_pL {s : List Value} {F G : Int64 → List Value → Prop} (h : ∀ x r, F x r → G x r) (hm : mj_pL s F) : mj_pL s G := by
  obtain ⟨x, r, rfl, q⟩ := mj_pL_e hm
  exact h _ _ q
theorem mj_m_pR {s : List Value} {F G : Nat → List Value → Prop} (h : ∀ x r, F x r → G x r) (hm : mj_pR s F) : mj_pR s G := by
  obtain ⟨x, r, rfl, q⟩ := mj_pR_e hm
  exact h _ _ q
theorem mj_m_lI {l : mj_L} {n : Nat} {F G : Int32 → Prop} (h : ∀ x, F x → G x) (hm : mj_lI l n F) : mj_lI l n G := by
  unfold mj_lI at hm ⊢
  split at hm
  · exact h _ hm
  · exact hm.elim
theorem mj_m_lL {l : mj_L} {n : Nat} {F G : Int64 → Prop} (h : ∀ x, F x → G x) (hm : mj_lL l n F) : mj_lL l n G := by
  unfold mj_lL at hm ⊢
  split at hm
  · exact h _ hm
  · exact hm.elim
theorem mj_m_lR {l : mj_L} {n : Nat} {F G : Nat → Prop} (h : ∀ x, F x → G x) (hm : mj_lR l n F) : mj_lR l n G := by
  unfold mj_lR at hm ⊢
  split at hm
  · exact h _ hm
  · exact hm.elim
theorem mj_m_sh {S : mj_S} {q t : Nat} {F G : Nat → Prop} (h : ∀ x, F x → G x) (hm : mj_sh S q t F) : mj_sh S q t G := by
  unfold mj_sh at hm ⊢
  split at hm
  · split at hm
    · exact h _ hm
    · exact hm.elim
  · exact hm.elim
theorem mj_m_ia {S : mj_S} {h : mj_H} {q : Nat} {i : Int32} {F G : Int32 → Prop} (hf : ∀ x, F x → G x) (hm : mj_ia S h q i F) : mj_ia S h q i G := by
  unfold mj_ia at hm ⊢
  split at hm
  · exact ⟨hm.1, hf _ hm.2⟩
  · exact mj_m_sh (fun _ q => ⟨q.1, hf _ q.2⟩) hm
theorem mj_m_if {b : Bool} {F G : Prop} (h : F → G) (hm : mj_if b F) : mj_if b G := by
  cases b
  · exact hm
  · exact h hm
theorem mj_m_sw {d : Nat} {x : Int32} {F G : Nat → Prop} (h : ∀ x, F x → G x) : ∀ sw : List (Int32 × Nat), mj_sw sw d x F → mj_sw sw d x G
  | [], hm => h _ hm
  | q :: r, hm => by
    unfold mj_sw at hm ⊢
    by_cases e : x = q.1
    · rw [if_pos e] at hm ⊢; exact h _ hm
    · rw [if_neg e] at hm ⊢; exact mj_m_sw h r hm
theorem mj_m_rt {c : Nat} {f f' : mj_R → Prop} {r : List Value} {g : mj_H} {F G : List Value → mj_H → Prop} (hf : ∀ q, f q → f' q) (hk : ∀ x y, F x y → G x y) (h : mj_rt c f r g F) : mj_rt c f' r g G := by
  match c, h with
  | 0, h => obtain ⟨I, J, h1, h2⟩ := h; exact ⟨I, J, hf _ h1, hk _ _ h2⟩
  | 1, h => obtain ⟨x, I, J, h1, h2⟩ := h; exact ⟨x, I, J, hf _ h1, hk _ _ h2⟩
  | 2, h => obtain ⟨x, I, J, h1, h2⟩ := h; exact ⟨x, I, J, hf _ h1, hk _ _ h2⟩
  | _ + 3, h => obtain ⟨x, I, h1, h2⟩ := h; exact ⟨x, I, hf _ h1, hk _ _ h2⟩
theorem mj_m_cl {S : mj_S} {cal cal' : Nat → List Value → mj_H → mj_R → Prop} {z n c d : Nat} {s : List Value} {h : mj_H} {k k' : List Value → mj_H → Prop} (hc : ∀ z as h r, cal z as h r → cal' z as h r) (hk : ∀ r h, k r h → k' r h) (hm : mj_cl S cal z n c d s h k) : mj_cl S cal' z n c d s h k' := by
  unfold mj_cl at hm ⊢
  exact mj_m_if (fun q => ⟨q.1, mj_m_rt (fun _ => hc _ _ _ _) hk q.2⟩) hm
theorem mj_m_ite {c : Prop} [Decidable c] {A B A' B' : Prop} (ha : A → A') (hb : B → B') (hm : if c then A else B) : if c then A' else B' := by
  by_cases h : c
  · rw [if_pos h] at hm ⊢; exact ha hm
  · rw [if_neg h] at hm ⊢; exact hb hm
set_option maxHeartbeats 4000000 in
theorem mj_m_ins {S : mj_S} {cal cal' : Nat → List Value → mj_H → mj_R → Prop} {Q Q' : mj_R → Prop} {jmp jmp' : Nat → mj_K} {i : Jvm.ClassFile.Instr} {a b c d : Nat} {v : Int32} {w : Int64} {sw : List (Int32 × Nat)} {l : mj_L} {s : List Value} {h : mj_H} {k k' : mj_K}
    (hc : ∀ z as h r, cal z as h r → cal' z as h r) (hQ : ∀ r, Q r → Q' r) (hj : ∀ t l s h, jmp t l s h → jmp' t l s h) (hk : ∀ l s h, k l s h → k' l s h)
    (hm : mj_ins S cal Q jmp i a b c d v w sw l s h k) : mj_ins S cal' Q' jmp' i a b c d v w sw l s h k' := by
  cases i with
  | iconst _ => exact hk _ _ _ hm
  | bipush _ => exact hk _ _ _ hm
  | sipush _ => exact hk _ _ _ hm
  | ldc _ => exact hk _ _ _ hm
  | ldc_w _ => exact hk _ _ _ hm
  | lconst _ => exact hk _ _ _ hm
  | ldc2_w _ => exact hk _ _ _ hm
  | iload_n n => exact mj_m_lI (fun _ => hk _ _ _) hm
  | iload n => exact mj_m_lI (fun _ => hk _ _ _) hm
  | lload_n n => exact mj_m_lL (fun _ => hk _ _ _) hm
  | lload n => exact mj_m_lL (fun _ => hk _ _ _) hm
  | aload_n n => exact mj_m_lR (fun _ => hk _ _ _) hm
  | aload n => exact mj_m_lR (fun _ => hk _ _ _) hm
  | istore_n n => simp only [mj_ins, mj_fl_eq] at hm ⊢; exact mj_m_pI (fun _ _ => hk _ _ _) hm
  | istore n => simp only [mj_ins, mj_fl_eq] at hm ⊢; exact mj_m_pI (fun _ _ => hk _ _ _) hm
  | lstore_n n => simp only [mj_ins, mj_fl_eq] at hm ⊢; exact mj_m_pL (fun _ _ => hk _ _ _) hm
  | lstore n => simp only [mj_ins, mj_fl_eq] at hm ⊢; exact mj_m_pL (fun _ _ => hk _ _ _) hm
  | astore_n n => simp only [mj_ins, mj_fl_eq] at hm ⊢; exact mj_m_pR (fun _ _ => hk _ _ _) hm
  | astore n => simp only [mj_ins, mj_fl_eq] at hm ⊢; exact mj_m_pR (fun _ _ => hk _ _ _) hm
  | iinc n _ => simp only [mj_ins, mj_fl_eq] at hm ⊢; exact mj_m_lI (fun _ => hk _ _ _) hm
  | iadd => exact mj_m_pI (fun _ _ => mj_m_pI (fun _ _ => hk _ _ _)) hm
  | isub => exact mj_m_pI (fun _ _ => mj_m_pI (fun _ _ => hk _ _ _)) hm
  | imul => exact mj_m_pI (fun _ _ => mj_m_pI (fun _ _ => hk _ _ _)) hm
  | iand => exact mj_m_pI (fun _ _ => mj_m_pI (fun _ _ => hk _ _ _)) hm
  | ior => exact mj_m_pI (fun _ _ => mj_m_pI (fun _ _ => hk _ _ _)) hm
  | ixor => exact mj_m_pI (fun _ _ => mj_m_pI (fun _ _ => hk _ _ _)) hm
  | idiv => exact mj_m_pI (fun _ _ => mj_m_pI (fun _ _ q => ⟨q.1, hk _ _ _ q.2⟩)) hm
  | irem => exact mj_m_pI (fun _ _ => mj_m_pI (fun _ _ q => ⟨q.1, hk _ _ _ q.2⟩)) hm
  | ineg => exact mj_m_pI (fun _ _ => hk _ _ _) hm
  | ishl => exact mj_m_pI (fun _ _ => mj_m_pI (fun _ _ => hk _ _ _)) hm
  | ishr => exact mj_m_pI (fun _ _ => mj_m_pI (fun _ _ => hk _ _ _)) hm
  | iushr => exact mj_m_pI (fun _ _ => mj_m_pI (fun _ _ => hk _ _ _)) hm
  | ladd => exact mj_m_pL (fun _ _ => mj_m_pL (fun _ _ => hk _ _ _)) hm
  | lsub => exact mj_m_pL (fun _ _ => mj_m_pL (fun _ _ => hk _ _ _)) hm
  | lmul => exact mj_m_pL (fun _ _ => mj_m_pL (fun _ _ => hk _ _ _)) hm
  | land => exact mj_m_pL (fun _ _ => mj_m_pL (fun _ _ => hk _ _ _)) hm
  | lor => exact mj_m_pL (fun _ _ => mj_m_pL (fun _ _ => hk _ _ _)) hm
  | lxor => exact mj_m_pL (fun _ _ => mj_m_pL (fun _ _ => hk _ _ _)) hm
  | ldiv => exact mj_m_pL (fun _ _ => mj_m_pL (fun _ _ q => ⟨q.1, hk _ _ _ q.2⟩)) hm
  | lrem => exact mj_m_pL (fun _ _ => mj_m_pL (fun _ _ q => ⟨q.1, hk _ _ _ q.2⟩)) hm
  | lneg => exact mj_m_pL (fun _ _ => hk _ _ _) hm
  | lshl => exact mj_m_pI (fun _ _ => mj_m_pL (fun _ _ => hk _ _ _)) hm
  | lshr => exact mj_m_pI (fun _ _ => mj_m_pL (fun _ _ => hk _ _ _)) hm
  | lushr => exact mj_m_pI (fun _ _ => mj_m_pL (fun _ _ => hk _ _ _)) hm
  | lcmp => exact mj_m_pL (fun _ _ => mj_m_pL (fun _ _ => hk _ _ _)) hm
  | i2l => exact mj_m_pI (fun _ _ => hk _ _ _) hm
  | l2i => exact mj_m_pL (fun _ _ => hk _ _ _) hm
  | dup =>
    simp only [mj_ins] at hm ⊢
    split at hm
    · exact hk _ _ _ hm
    · exact hk _ _ _ hm
    · exact hm.elim
  | dup2 => exact mj_m_pI (fun _ _ => mj_m_pR (fun _ _ => hk _ _ _)) hm
  | getfield _ =>
    refine mj_m_pR (fun _ _ => mj_m_sh (fun _ => mj_m_if (fun q => ?_))) hm
    split at q
    · exact hk _ _ _ q
    · exact hk _ _ _ q
    · exact hk _ _ _ q
  | putfield _ =>
    simp only [mj_ins] at hm ⊢
    split at hm
    · exact mj_m_pL (fun _ _ => mj_m_pR (fun _ _ => mj_m_sh (fun _ => mj_m_if (hk _ _ _)))) hm
    · exact mj_m_pR (fun _ _ => mj_m_pR (fun _ _ => mj_m_sh (fun _ => mj_m_if (hk _ _ _)))) hm
    · exact mj_m_pI (fun _ _ => mj_m_pR (fun _ _ => mj_m_sh (fun _ => mj_m_if (fun q => ⟨q.1, hk _ _ _ q.2⟩)))) hm
    · exact mj_m_pI (fun _ _ => mj_m_pR (fun _ _ => mj_m_sh (fun _ => mj_m_if (hk _ _ _)))) hm
  | iaload => exact mj_m_pI (fun _ _ => mj_m_pR (fun _ _ => mj_m_ia (fun _ => hk _ _ _))) hm
  | getstatic _ => exact hk _ _ _ hm
  | laload => exact mj_m_pI (fun _ _ => mj_m_pR (fun _ _ => mj_m_sh (fun _ q => ⟨q.1, hk _ _ _ q.2⟩))) hm
  | baload => exact mj_m_pI (fun _ _ => mj_m_pR (fun _ _ => mj_m_sh (fun _ q => ⟨q.1, hk _ _ _ q.2⟩))) hm
  | iastore => exact mj_m_pI (fun _ _ => mj_m_pI (fun _ _ => mj_m_pR (fun _ _ => mj_m_sh (fun _ q => ⟨q.1, hk _ _ _ q.2⟩)))) hm
  | lastore => exact mj_m_pL (fun _ _ => mj_m_pI (fun _ _ => mj_m_pR (fun _ _ => mj_m_sh (fun _ q => ⟨q.1, hk _ _ _ q.2⟩)))) hm
  | bastore => exact mj_m_pI (fun _ _ => mj_m_pI (fun _ _ => mj_m_pR (fun _ _ => mj_m_sh (fun _ q => ⟨q.1, hk _ _ _ q.2⟩)))) hm
  | goto _ => exact hj _ _ _ _ hm
  | ifCond o _ =>
    refine mj_m_pI (fun _ _ q => ?_) hm
    cases o <;> exact mj_m_ite (by first | exact hj _ _ _ _ | exact hk _ _ _) (by first | exact hj _ _ _ _ | exact hk _ _ _) q
  | if_icmp o _ =>
    refine mj_m_pI (fun _ _ => mj_m_pI (fun _ _ q => ?_)) hm
    cases o <;> exact mj_m_ite (by first | exact hj _ _ _ _ | exact hk _ _ _) (by first | exact hj _ _ _ _ | exact hk _ _ _) q
  | tableswitch _ _ _ _ => exact mj_m_pI (fun _ _ => mj_m_sw (fun _ => hj _ _ _ _) _) hm
  | lookupswitch _ _ => exact mj_m_pI (fun _ _ => mj_m_sw (fun _ => hj _ _ _ _) _) hm
  | invokevirtual _ => exact mj_m_cl hc (fun _ _ => hk _ _ _) hm
  | invokestatic _ =>
    simp only [mj_ins] at hm ⊢
    split at hm
    · exact mj_m_pI (fun _ _ => mj_m_pI (fun _ _ => mj_m_pR (fun _ _ => mj_m_pI (fun _ _ => mj_m_pR (fun _ _ => mj_m_sh (fun _ => mj_m_sh (fun _ q => ⟨q.1, mj_m_if (hk _ _ _) q.2⟩))))))) hm
    · exact mj_m_cl hc (fun _ _ => hk _ _ _) hm
  | return_ =>
    simp only [mj_ins] at hm ⊢
    split at hm
    · exact hQ _ hm
    · exact hm.elim
  | ireturn =>
    simp only [mj_ins] at hm ⊢
    split at hm
    · split at hm
      · exact hQ _ hm
      · exact ⟨hm.1, hQ _ hm.2⟩
    · exact hm.elim
  | lreturn =>
    simp only [mj_ins] at hm ⊢
    split at hm
    · exact hQ _ hm
    · exact hm.elim
  | areturn =>
    simp only [mj_ins] at hm ⊢
    split at hm
    · exact hQ _ hm
    · exact hm.elim
  | _ => exact hm.elim
theorem mj_m_bk {S : mj_S} {cal cal' : Nat → List Value → mj_H → mj_R → Prop} {Q Q' : mj_R → Prop} {jmp jmp' : Nat → mj_K}
    (hc : ∀ z as h r, cal z as h r → cal' z as h r) (hQ : ∀ r, Q r → Q' r) (hj : ∀ t l s h, jmp t l s h → jmp' t l s h) : ∀ (b : List mj_E) {pc : Nat} {l : mj_L} {s : List Value} {h : mj_H},
    mj_bk S cal Q jmp b pc l s h → mj_bk S cal' Q' jmp' b pc l s h
  | [], _, _, _, _, hm => hj _ _ _ _ hm
  | _ :: r, _, _, _, _, hm => mj_m_ins hc hQ hj (fun _ _ _ q => mj_m_bk hc hQ hj r q) hm
theorem mj_m_sg {S : mj_S} {C : mj_C} {cal cal' : Nat → List Value → mj_H → mj_R → Prop} {Q Q' : mj_R → Prop} {K K' : Nat → mj_K}
    (hc : ∀ z as h r, cal z as h r → cal' z as h r) (hQ : ∀ r, Q r → Q' r) (hK : ∀ t l s h, K t l s h → K' t l s h) : ∀ (m : Nat) {pc : Nat} {l : mj_L} {s : List Value} {h : mj_H},
    mj_sg S C cal Q K m pc l s h → mj_sg S C cal' Q' K' m pc l s h
  | 0, _, _, _, _, hm => hm.elim
  | m + 1, pc, l, s, h, hm => by
    unfold mj_sg at hm ⊢
    split at hm
    · exact hK _ _ _ _ hm
    · split at hm
      · exact mj_m_bk hc hQ (fun t l s h q => mj_m_sg hc hQ hK m q) _ hm
      · exact hm.elim
theorem mj_m_go {S : mj_S} {C : mj_C} {cal cal' : Nat → List Value → mj_H → mj_R → Prop} {Q Q' : mj_R → Prop} {K K' : Nat → mj_K}
    (hc : ∀ z as h r, cal z as h r → cal' z as h r) (hQ : ∀ r, Q r → Q' r) (hK : ∀ t l s h, K t l s h → K' t l s h) {pc : Nat} {l : mj_L} {s : List Value} {h : mj_H}
    (hm : mj_go S C cal Q K pc l s h) : mj_go S C cal' Q' K' pc l s h := by
  unfold mj_go at hm ⊢
  split at hm
  · exact mj_m_bk hc hQ (fun t l s h q => mj_m_sg hc hQ hK _ q) _ hm
  · exact hm.elim
theorem mj_m_rn {S : mj_S} {C : mj_C} {cal cal' : Nat → List Value → mj_H → mj_R → Prop} {Q Q' : mj_R → Prop}
    (hc : ∀ z as h r, cal z as h r → cal' z as h r) (hQ : ∀ r, Q r → Q' r) : ∀ (n : Nat) {pc : Nat} {l : mj_L} {s : List Value} {h : mj_H}, mj_rn S C cal Q n pc l s h → mj_rn S C cal' Q' n pc l s h
  | 0, _, _, _, _, hm => hm.elim
  | n + 1, _, _, _, _, hm => mj_m_go hc hQ (fun _ _ _ _ q => mj_m_rn hc hQ n q) hm
theorem mj_m_Ev {S : mj_S} {C : mj_C} {cal cal' : Nat → List Value → mj_H → mj_R → Prop} {Q Q' : mj_R → Prop}
    (hc : ∀ z as h r, cal z as h r → cal' z as h r) (hQ : ∀ r, Q r → Q' r) {pc : Nat} {l : mj_L} {s : List Value} {h : mj_H} (hm : mj_Ev S C cal Q pc l s h) : mj_Ev S C cal' Q' pc l s h := by
  obtain ⟨n, q⟩ := hm
  exact ⟨n, mj_m_rn hc hQ n q⟩
theorem mj_m_Cl {S : mj_S} {CD : Nat → mj_C} : ∀ (D : Nat) {z : Nat} {as : List Value} {h : mj_H} {r : mj_R}, mj_Cl S CD D z as h r → mj_Cl S CD (D + 1) z as h r
  | 0, _, _, _, _, hm => hm.elim
  | D + 1, z, as, h, r, hm => by
    have hc : ∀ z as h r, mj_Cl S CD D z as h r → mj_Cl S CD (D + 1) z as h r := fun _ _ _ _ q => mj_m_Cl D q
    have h2 : mj_if (Nat.ble (mj_sz as) (CD z).2.2) (mj_sg S (CD z) (mj_Cl S CD D) (fun x => x = r) (mj_Ev S (CD z) (mj_Cl S CD D) (fun x => x = r)) 100 0 (mj_a0 0 as) [] h) := hm
    exact mj_m_if (fun q => mj_m_sg hc (fun _ q => q) (fun _ _ _ _ q => mj_m_Ev hc (fun _ q => q) q) 100 q) h2
theorem mj_Cl_le {S : mj_S} {CD : Nat → mj_C} {D E : Nat} (hle : D ≤ E) {z : Nat} {as : List Value} {h : mj_H} {r : mj_R} (hm : mj_Cl S CD D z as h r) : mj_Cl S CD E z as h r := by
  induction hle with
  | refl => exact hm
  | step _ ih => exact mj_m_Cl _ ih
end MJM
section MJX2
variable {ι : Type}
theorem mj_x_bk {S : mj_S} {cal : Nat → List Value → mj_H → mj_R → Prop} {Q : ι → mj_R → Prop} {jmp : ι → Nat → mj_K} : ∀ (b : List mj_E) {pc : Nat} {l : mj_L} {s : List Value} {h : mj_H},
    mj_bk S cal (fun r => ∃ x, Q x r) (fun t l s h => ∃ x, jmp x t l s h) b pc l s h → ∃ x, mj_bk S cal (Q x) (jmp x) b pc l s h
  | [], _, _, _, _, hm => hm
  | _ :: r, _, _, _, _, hm => mj_x_ins (mj_m_ins (fun _ _ _ _ q => q) (fun _ q => q) (fun _ _ _ _ q => q) (fun _ _ _ q => mj_x_bk r q) hm)
theorem mj_x_sg {S : mj_S} {C : mj_C} {cal : Nat → List Value → mj_H → mj_R → Prop} {Q : ι → mj_R → Prop} {K : ι → Nat → mj_K} : ∀ (m : Nat) {pc : Nat} {l : mj_L} {s : List Value} {h : mj_H},
    mj_sg S C cal (fun r => ∃ x, Q x r) (fun t l s h => ∃ x, K x t l s h) m pc l s h → ∃ x, mj_sg S C cal (Q x) (K x) m pc l s h
  | 0, _, _, _, _, hm => hm.elim
  | m + 1, pc, l, s, h, hm => by
    unfold mj_sg at hm ⊢
    split at hm
    · exact hm
    · split at hm
      · exact mj_x_bk _ (mj_m_bk (fun _ _ _ _ q => q) (fun _ q => q) (fun t l s h q => mj_x_sg m q) _ hm)
      · exact hm.elim
theorem mj_x_go {S : mj_S} {C : mj_C} {cal : Nat → List Value → mj_H → mj_R → Prop} {Q : ι → mj_R → Prop} {K : ι → Nat → mj_K} {pc : Nat} {l : mj_L} {s : List Value} {h : mj_H}
    (hm : mj_go S C cal (fun r => ∃ x, Q x r) (fun t l s h => ∃ x, K x t l s h) pc l s h) : ∃ x, mj_go S C cal (Q x) (K x) pc l s h := by
  unfold mj_go at hm ⊢
  split at hm
  · exact mj_x_bk _ (mj_m_bk (fun _ _ _ _ q => q) (fun _ q => q) (fun t l s h q => mj_x_sg _ q) _ hm)
  · exact hm.elim
theorem mj_x_rn {S : mj_S} {C : mj_C} {cal : Nat → List Value → mj_H → mj_R → Prop} {Q : ι → mj_R → Prop} : ∀ (n : Nat) {pc : Nat} {l : mj_L} {s : List Value} {h : mj_H},
    mj_rn S C cal (fun r => ∃ x, Q x r) n pc l s h → ∃ x, mj_rn S C cal (Q x) n pc l s h
  | 0, _, _, _, _, hm => hm.elim
  | n + 1, _, _, _, _, hm => mj_x_go (K := fun x t l s h => mj_rn S C cal (Q x) n t l s h) (mj_m_go (fun _ _ _ _ q => q) (fun _ q => q) (fun _ _ _ _ q => mj_x_rn n q) hm)
theorem mj_x_Ev {S : mj_S} {C : mj_C} {cal : Nat → List Value → mj_H → mj_R → Prop} {Q : ι → mj_R → Prop} {pc : Nat} {l : mj_L} {s : List Value} {h : mj_H}
    (hm : mj_Ev S C cal (fun r => ∃ x, Q x r) pc l s h) : ∃ x, mj_Ev S C cal (Q x) pc l s h := by
  obtain ⟨n, q⟩ := hm
  obtain ⟨x, q⟩ := mj_x_rn n q
  exact ⟨x, n, q⟩
end MJX2
/-- on from a pc: what the walk comes to may be shown for each of the places where it halts -/
theorem mj_on {S : mj_S} {C : mj_C} {cal : Nat → List Value → mj_H → mj_R → Prop} {Q : mj_R → Prop} {pc : Nat} {l : mj_L} {s : List Value} {h : mj_H}
    (hm : mj_go S C cal Q (mj_Ev S C cal Q) pc l s h) : mj_Ev S C cal Q pc l s h := by
  have h2 : mj_go S C cal (fun r => ∃ _ : Nat, Q r) (fun t l s h => ∃ n, mj_rn S C cal Q n t l s h) pc l s h := mj_m_go (fun _ _ _ _ q => q) (fun _ q => ⟨0, q⟩) (fun _ _ _ _ q => q) hm
  obtain ⟨n, q⟩ := mj_x_go (Q := fun _ => Q) (K := fun n t l s h => mj_rn S C cal Q n t l s h) h2
  exact ⟨n + 1, q⟩
/-- a method from its entry, for any wish Q of its answer -/
theorem mj_call {S : mj_S} {CD : Nat → mj_C} {D z : Nat} {as : List Value} {h : mj_H} {Q : mj_R → Prop}
    (hm : mj_if (Nat.ble (mj_sz as) (CD z).2.2) (mj_sg S (CD z) (mj_Cl S CD D) Q (mj_Ev S (CD z) (mj_Cl S CD D) Q) 100 0 (mj_a0 0 as) [] h)) : ∃ r, Q r ∧ mj_Cl S CD (D + 1) z as h r := by
  obtain ⟨hz, hm⟩ := mj_if_e hm
  have h2 : mj_sg S (CD z) (mj_Cl S CD D) (fun r => ∃ x : { r : mj_R // Q r }, r = x.1) (fun t l s h => ∃ x : { r : mj_R // Q r }, mj_Ev S (CD z) (mj_Cl S CD D) (fun r => r = x.1) t l s h) 100 0 (mj_a0 0 as) [] h :=
    mj_m_sg (fun _ _ _ _ q => q) (fun r q => ⟨⟨r, q⟩, rfl⟩) (fun _ _ _ _ q => mj_x_Ev (Q := fun (x : { r : mj_R // Q r }) r => r = x.1) (mj_m_Ev (fun _ _ _ _ q => q) (fun r q => ⟨⟨r, q⟩, rfl⟩) q)) 100 hm
  obtain ⟨⟨r, hr⟩, q⟩ := mj_x_sg (Q := fun (x : { r : mj_R // Q r }) r => r = x.1) (K := fun (x : { r : mj_R // Q r }) t l s h => mj_Ev S (CD z) (mj_Cl S CD D) (fun r => r = x.1) t l s h) 100 h2
  have h3 : mj_if (Nat.ble (mj_sz as) (CD z).2.2) (mj_sg S (CD z) (mj_Cl S CD D) (fun x => x = r) (mj_Ev S (CD z) (mj_Cl S CD D) (fun x => x = r)) 100 0 (mj_a0 0 as) [] h) := by
    rw [hz]
    exact q
  exact ⟨r, hr, h3⟩
