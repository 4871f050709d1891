/-! the small machine does not know its cells' numbers: what holds, holds with the two Tales' cells renumbered -/
theorem pm_nth : ∀ q, mj_nth mj_S1 (mj_pm q) = mj_nth mj_S1 q := by
  intro q
  rw [mj_nth_eq, mj_nth_eq]
  by_cases h : q < 63
  · exact mj_pm_S q h
  · have e : mj_pm q = q := by
      unfold mj_pm
      rw [if_neg (by omega), if_neg (by omega)]
    rw [e]
theorem pm_beq (q : Nat) : Nat.beq (mj_pm q) 900 = Nat.beq q 900 := by
  by_cases h : q < 63
  · have h1 : mj_pm q ≠ 900 := by
      have := mj_pm_lt (q := q) h
      have : mj_pm q < 63 := this
      omega
    have h2 : q ≠ 900 := by omega
    rw [Bool.eq_false_iff.mpr (fun e => h1 (Nat.eq_of_beq_eq_true e)), Bool.eq_false_iff.mpr (fun e => h2 (Nat.eq_of_beq_eq_true e))]
  · have e : mj_pm q = q := by
      unfold mj_pm
      rw [if_neg (by omega), if_neg (by omega)]
    rw [e]
abbrev tv : Value → Value := mj_tr mj_pm
abbrev tL : mj_L → mj_L := mj_tl mj_pm
section EQV
variable {S : mj_S} {l : mj_L} {s : List Value} {h : mj_H} {i q t n j : Nat}
theorem eq_fd : ∀ (l : mj_L) (i : Nat), mj_fd (tL l) i = (mj_fd l i).map tv
  | [], _ => rfl
  | q :: r, i => by
    show mj_fd ((q.1, tv q.2) :: tL r) i = _
    unfold mj_fd
    cases e : Nat.beq q.1 i with
    | true => rfl
    | false => exact eq_fd r i
theorem eq_lI {F F' : Int32 → Prop} (h : mj_lI l n F) (hF : ∀ x, F x → F' x) : mj_lI (tL l) n F' := by
  unfold mj_lI at h ⊢
  rw [eq_fd]
  cases e : mj_fd l n with
  | none => rw [e] at h; exact h.elim
  | some v => rw [e] at h; cases v <;> first | exact hF _ h | exact h.elim
theorem eq_lL {F F' : Int64 → Prop} (h : mj_lL l n F) (hF : ∀ x, F x → F' x) : mj_lL (tL l) n F' := by
  unfold mj_lL at h ⊢
  rw [eq_fd]
  cases e : mj_fd l n with
  | none => rw [e] at h; exact h.elim
  | some v => rw [e] at h; cases v <;> first | exact hF _ h | exact h.elim
theorem eq_lR {F F' : Nat → Prop} (h : mj_lR l n F) (hF : ∀ x, F x → F' (mj_pm x)) : mj_lR (tL l) n F' := by
  unfold mj_lR at h ⊢
  rw [eq_fd]
  cases e : mj_fd l n with
  | none => rw [e] at h; exact h.elim
  | some v => rw [e] at h; cases v <;> first | exact hF _ h | exact h.elim
theorem eq_pI {F F' : Int32 → List Value → Prop} (h : mj_pI s F) (hF : ∀ x r, F x r → F' x (r.map tv)) : mj_pI (s.map tv) F' := by
  obtain ⟨x, r, rfl, h⟩ := mj_pI_e h
  exact hF x r h
theorem eq_pL {F F' : Int64 → List Value → Prop} (h : mj_pL s F) (hF : ∀ x r, F x r → F' x (r.map tv)) : mj_pL (s.map tv) F' := by
  obtain ⟨x, r, rfl, h⟩ := mj_pL_e h
  exact hF x r h
theorem eq_pR {F F' : Nat → List Value → Prop} (h : mj_pR s F) (hF : ∀ x r, F x r → F' (mj_pm x) (r.map tv)) : mj_pR (s.map tv) F' := by
  obtain ⟨x, r, rfl, h⟩ := mj_pR_e h
  exact hF x r h
theorem eq_sh {F F' : Nat → Prop} (h : mj_sh mj_S1 q t F) (hF : ∀ n, F n → F' n) : mj_sh mj_S1 (mj_pm q) t F' := by
  unfold mj_sh at h ⊢
  rw [pm_nth]
  split at h
  · split at h
    · exact hF _ h
    · exact h.elim
  · exact h.elim
theorem eq_if {b : Bool} {P P' : Prop} (h : mj_if b P) (hP : P → P') : mj_if b P' := by
  cases b
  · exact h.elim
  · exact hP h
theorem eq_sw {F F' : Nat → Prop} (hF : ∀ t, F t → F' t) : ∀ (sw : List (Int32 × Nat)) (d : Nat) (x : Int32), mj_sw sw d x F → mj_sw sw d x F'
  | [], _, _, h => hF _ h
  | q :: r, d, x, h => by
    unfold mj_sw at h ⊢
    split
    · rename_i e
      rw [if_pos e] at h
      exact hF _ h
    · rename_i e
      rw [if_neg e] at h
      exact eq_sw hF r d x h
theorem eq_ite {c A B A' B' : Prop} [Decidable c] (h : if c then A else B) (h1 : A → A') (h2 : B → B') : if c then A' else B' := by
  by_cases e : c
  · rw [if_pos e] at h ⊢; exact h1 h
  · rw [if_neg e] at h ⊢; exact h2 h
theorem eq_sz : ∀ s : List Value, mj_sz (s.map tv) = mj_sz s
  | [] => rfl
  | v :: r => by
    show (tv v).category + mj_sz (r.map tv) = v.category + mj_sz r
    rw [eq_sz r, mj_cat]
theorem eq_filt {p : Nat × Value → Bool} (hp : ∀ x : Nat × Value, p (x.1, tv x.2) = p x) : ∀ l : mj_L, (tL l).filter p = tL (l.filter p)
  | [] => rfl
  | q :: r => by
    show List.filter p ((q.1, tv q.2) :: tL r) = _
    rw [List.filter_cons, List.filter_cons, hp, eq_filt hp r]
    split
    · rfl
    · rfl
theorem eq_in (x : Nat × Value) : ∀ l : mj_L, tL (mj_in x l) = mj_in (x.1, tv x.2) (tL l)
  | [] => rfl
  | q :: r => by
    show tL (mj_in x (q :: r)) = mj_in (x.1, tv x.2) ((q.1, tv q.2) :: tL r)
    unfold mj_in
    cases e : Nat.blt q.1 x.1 with
    | true =>
      show (q.1, tv q.2) :: tL (mj_in x r) = (q.1, tv q.2) :: mj_in (x.1, tv x.2) (tL r)
      rw [eq_in x r]
    | false => rfl
theorem eq_s1 (i : Nat) (v : Value) (l : mj_L) : tL (mj_s1 i v l) = mj_s1 i (tv v) (tL l) := by
  unfold mj_s1
  rw [eq_in, eq_filt (fun x => by simp only [mj_cat])]
theorem eq_s2 (i : Nat) (v : Value) (l : mj_L) : tL (mj_s2 i v l) = mj_s2 i (tv v) (tL l) := by
  unfold mj_s2
  rw [eq_in, eq_filt (fun x => by simp only [mj_cat])]
theorem eq_tm (ks : List Nat) (l : mj_L) : tL (mj_tm ks l) = mj_tm ks (tL l) := by
  unfold mj_tm
  rw [eq_filt (fun x => rfl)]
theorem sw_1 : (mj_swp h).1 (mj_pm q) = h.1 q := by
  funext k
  show h.1 (mj_pm (mj_pm q)) k = h.1 q k
  rw [mj_pm_pm]
theorem sw_2 : (mj_swp h).2.1 (mj_pm q) = h.2.1 q := by
  funext k
  show h.2.1 (mj_pm (mj_pm q)) k = h.2.1 q k
  rw [mj_pm_pm]
theorem sw_3 : (mj_swp h).2.2 (mj_pm q) j = mj_pm (h.2.2 q j) := by
  show mj_pm (h.2.2 (mj_pm (mj_pm q)) j) = _
  rw [mj_pm_pm]
theorem pm_iff {a b : Nat} : mj_pm a = b ↔ a = mj_pm b := ⟨fun e => by rw [← e, mj_pm_pm], fun e => by rw [e, mj_pm_pm]⟩
theorem sw_up {α : Type} (f : Nat → Nat → α) (q j : Nat) (x : α) : (fun a k => mj_up f q j x (mj_pm a) k) = mj_up (fun a k => f (mj_pm a) k) (mj_pm q) j x := by
  funext a k
  unfold mj_up
  by_cases e : a = mj_pm q
  · rw [if_pos (pm_iff.mpr e), if_pos e]
  · rw [if_neg (fun z => e (pm_iff.mp z)), if_neg e]
theorem sw_u1 {x : Int32} : mj_swp (mj_up h.1 q j x, h.2.1, h.2.2) = (mj_up (mj_swp h).1 (mj_pm q) j x, (mj_swp h).2.1, (mj_swp h).2.2) := by
  unfold mj_swp
  rw [sw_up]
theorem sw_u2 {x : Int64} : mj_swp (h.1, mj_up h.2.1 q j x, h.2.2) = ((mj_swp h).1, mj_up (mj_swp h).2.1 (mj_pm q) j x, (mj_swp h).2.2) := by
  unfold mj_swp
  rw [sw_up]
theorem sw_u3 {x : Nat} : mj_swp (h.1, h.2.1, mj_up h.2.2 q j x) = ((mj_swp h).1, (mj_swp h).2.1, mj_up (mj_swp h).2.2 (mj_pm q) j (mj_pm x)) := by
  have e : (fun a k => mj_pm (mj_up h.2.2 q j x (mj_pm a) k)) = mj_up (fun a k => mj_pm (h.2.2 (mj_pm a) k)) (mj_pm q) j (mj_pm x) := by
    funext a k
    unfold mj_up
    by_cases e : a = mj_pm q
    · rw [if_pos (pm_iff.mpr e), if_pos e]
      split <;> rfl
    · rw [if_neg (fun z => e (pm_iff.mp z)), if_neg e]
  unfold mj_swp
  rw [e]
theorem sw_cp {x y sp dp : Nat} : mj_swp (mj_cp h.1 x sp y dp n, h.2.1, h.2.2) = (mj_cp (mj_swp h).1 (mj_pm x) sp (mj_pm y) dp n, (mj_swp h).2.1, (mj_swp h).2.2) := by
  have e : (fun a k => mj_cp h.1 x sp y dp n (mj_pm a) k) = mj_cp (fun a k => h.1 (mj_pm a) k) (mj_pm x) sp (mj_pm y) dp n := by
    funext a k
    unfold mj_cp
    by_cases e : a = mj_pm y
    · rw [if_pos (pm_iff.mpr e), if_pos e]
      simp only [mj_pm_pm]
    · rw [if_neg (fun z => e (pm_iff.mp z)), if_neg e]
  unfold mj_swp
  rw [e]
theorem eq_ia {F F' : Int32 → Prop} {i : Int32} (hm : mj_ia mj_S1 h q i F) (hF : ∀ x, F x → F' x) : mj_ia mj_S1 (mj_swp h) (mj_pm q) i F' := by
  unfold mj_ia at hm ⊢
  rw [pm_beq]
  split at hm
  · exact ⟨hm.1, hF _ hm.2⟩
  · rw [sw_1]
    exact eq_sh hm fun n z => ⟨z.1, hF _ z.2⟩
theorem eq_rt {c : Nat} {f f' : mj_R → Prop} {F F' : List Value → mj_H → Prop} {r : List Value} (hm : mj_rt c f r h F) (hf : ∀ q, f q → f' (tv q.1, mj_swp q.2)) (hF : ∀ r h, F r h → F' (r.map tv) (mj_swp h)) : mj_rt c f' (r.map tv) (mj_swp h) F' := by
  match c, hm with
  | 0, ⟨I, J, h1, h2⟩ => exact ⟨fun q k => I (mj_pm q) k, fun q k => J (mj_pm q) k, hf _ h1, hF _ _ h2⟩
  | 1, ⟨x, I, J, h1, h2⟩ => exact ⟨x, fun q k => I (mj_pm q) k, fun q k => J (mj_pm q) k, hf _ h1, hF _ _ h2⟩
  | 2, ⟨x, I, J, h1, h2⟩ => exact ⟨x, fun q k => I (mj_pm q) k, fun q k => J (mj_pm q) k, hf _ h1, hF _ _ h2⟩
  | c + 3, ⟨x, g, h1, h2⟩ => exact ⟨mj_pm x, mj_swp g, hf _ h1, hF _ _ h2⟩
theorem eq_rc {d : Nat} {as : List Value} (hm : mj_rc mj_S1 d as) : mj_rc mj_S1 d (as.map tv) := by
  match d, hm with
  | 0, _ => trivial
  | d + 1, hm =>
    match as, hm with
    | .ref q :: r, hm => exact eq_sh (F := fun _ => True) (F' := fun _ => True) hm (fun _ _ => trivial)
    | [], hm => exact hm.elim
    | .null :: _, hm => exact hm.elim
    | .int _ :: _, hm => exact hm.elim
    | .long _ :: _, hm => exact hm.elim
    | .float _ :: _, hm => exact hm.elim
    | .double _ :: _, hm => exact hm.elim
    | .retAddr _ :: _, hm => exact hm.elim
theorem eq_cl {cal cal' : Nat → List Value → mj_H → mj_R → Prop} {z n c d : Nat} {k k' : List Value → mj_H → Prop} (hm : mj_cl mj_S1 cal z n c d s h k) (hcal : ∀ z as h r, cal z as h r → cal' z (as.map tv) (mj_swp h) (tv r.1, mj_swp r.2)) (hk : ∀ r h, k r h → k' (r.map tv) (mj_swp h)) : mj_cl mj_S1 cal' z n c d (s.map tv) (mj_swp h) k' := by
  unfold mj_cl at hm ⊢
  rw [List.length_map, ← List.map_drop, ← List.map_take, ← List.map_reverse, eq_sz]
  exact eq_if hm fun z => ⟨eq_rc z.1, eq_rt z.2 (fun q hq => hcal _ _ _ _ hq) hk⟩
set_option maxHeartbeats 8000000 in
theorem eq_ins {cal cal' : Nat → List Value → mj_H → mj_R → Prop} {Q Q' : mj_R → Prop} {jmp jmp' : Nat → mj_K} {k k' : mj_K} {i : Jvm.ClassFile.Instr} {a b c d : Nat} {v : Int32} {w : Int64} {sw : List (Int32 × Nat)}
    (hcal : ∀ z as h r, cal z as h r → cal' z (as.map tv) (mj_swp h) (tv r.1, mj_swp r.2)) (hQ : ∀ r, Q r → Q' (tv r.1, mj_swp r.2)) (hj : ∀ t l s h, jmp t l s h → jmp' t (tL l) (s.map tv) (mj_swp h)) (hk : ∀ l s h, k l s h → k' (tL l) (s.map tv) (mj_swp h))
    (hm : mj_ins mj_S1 cal Q jmp i a b c d v w sw l s h k) : mj_ins mj_S1 cal' Q' jmp' i a b c d v w sw (tL l) (s.map tv) (mj_swp h) k' := by
  have st1 : ∀ {i : Nat} {v : Value} {l : mj_L} {r : List Value} {h : mj_H}, (mj_fl (mj_s1 i v l) fun l => k l r h) → (mj_fl (mj_s1 i (tv v) (tL l)) fun l => k' l (r.map tv) (mj_swp h)) := by
    intro i v l r h z
    rw [mj_fl_eq] at z ⊢
    rw [← eq_s1]
    exact hk _ _ _ z
  have st2 : ∀ {i : Nat} {v : Value} {l : mj_L} {r : List Value} {h : mj_H}, (mj_fl (mj_s2 i v l) fun l => k l r h) → (mj_fl (mj_s2 i (tv v) (tL l)) fun l => k' l (r.map tv) (mj_swp h)) := by
    intro i v l r h z
    rw [mj_fl_eq] at z ⊢
    rw [← eq_s2]
    exact hk _ _ _ z
  have ku1 : ∀ {l : mj_L} {r : List Value} {q j : Nat} {x : Int32}, k l r (mj_up h.1 q j x, h.2.1, h.2.2) → k' (tL l) (r.map tv) (mj_up (mj_swp h).1 (mj_pm q) j x, (mj_swp h).2.1, (mj_swp h).2.2) := by
    intro l r q j x z
    rw [← sw_u1]
    exact hk _ _ _ z
  have ku2 : ∀ {l : mj_L} {r : List Value} {q j : Nat} {x : Int64}, k l r (h.1, mj_up h.2.1 q j x, h.2.2) → k' (tL l) (r.map tv) ((mj_swp h).1, mj_up (mj_swp h).2.1 (mj_pm q) j x, (mj_swp h).2.2) := by
    intro l r q j x z
    rw [← sw_u2]
    exact hk _ _ _ z
  have ku3 : ∀ {l : mj_L} {r : List Value} {q j : Nat} {x : Nat}, k l r (h.1, h.2.1, mj_up h.2.2 q j x) → k' (tL l) (r.map tv) ((mj_swp h).1, (mj_swp h).2.1, mj_up (mj_swp h).2.2 (mj_pm q) j (mj_pm x)) := by
    intro l r q j x z
    rw [← sw_u3]
    exact hk _ _ _ z
  cases i with
  | iconst n => exact hk _ _ _ hm
  | bipush n => exact hk _ _ _ hm
  | sipush n => exact hk _ _ _ hm
  | ldc n => exact hk _ _ _ hm
  | ldc_w n => exact hk _ _ _ hm
  | lconst n => exact hk _ _ _ hm
  | ldc2_w n => exact hk _ _ _ hm
  | iload_n n => exact eq_lI hm fun x z => hk _ _ _ z
  | iload n => exact eq_lI hm fun x z => hk _ _ _ z
  | lload_n n => exact eq_lL hm fun x z => hk _ _ _ z
  | lload n => exact eq_lL hm fun x z => hk _ _ _ z
  | aload_n n => exact eq_lR hm fun x z => hk _ _ _ z
  | aload n => exact eq_lR hm fun x z => hk _ _ _ z
  | istore_n n => exact eq_pI hm fun x r z => st1 z
  | istore n => exact eq_pI hm fun x r z => st1 z
  | lstore_n n => exact eq_pL hm fun x r z => st2 z
  | lstore n => exact eq_pL hm fun x r z => st2 z
  | astore_n n => exact eq_pR hm fun x r z => st1 z
  | astore n => exact eq_pR hm fun x r z => st1 z
  | iinc n x => exact eq_lI hm fun x z => st1 z
  | iadd => exact eq_pI hm fun y r z => eq_pI z fun x r z => hk _ _ _ z
  | isub => exact eq_pI hm fun y r z => eq_pI z fun x r z => hk _ _ _ z
  | imul => exact eq_pI hm fun y r z => eq_pI z fun x r z => hk _ _ _ z
  | iand => exact eq_pI hm fun y r z => eq_pI z fun x r z => hk _ _ _ z
  | ior => exact eq_pI hm fun y r z => eq_pI z fun x r z => hk _ _ _ z
  | ixor => exact eq_pI hm fun y r z => eq_pI z fun x r z => hk _ _ _ z
  | idiv => exact eq_pI hm fun y r z => eq_pI z fun x r z => ⟨z.1, hk _ _ _ z.2⟩
  | irem => exact eq_pI hm fun y r z => eq_pI z fun x r z => ⟨z.1, hk _ _ _ z.2⟩
  | ineg => exact eq_pI hm fun y r z => hk _ _ _ z
  | ishl => exact eq_pI hm fun y r z => eq_pI z fun x r z => hk _ _ _ z
  | ishr => exact eq_pI hm fun y r z => eq_pI z fun x r z => hk _ _ _ z
  | iushr => exact eq_pI hm fun y r z => eq_pI z fun x r z => hk _ _ _ z
  | ladd => exact eq_pL hm fun y r z => eq_pL z fun x r z => hk _ _ _ z
  | lsub => exact eq_pL hm fun y r z => eq_pL z fun x r z => hk _ _ _ z
  | lmul => exact eq_pL hm fun y r z => eq_pL z fun x r z => hk _ _ _ z
  | land => exact eq_pL hm fun y r z => eq_pL z fun x r z => hk _ _ _ z
  | lor => exact eq_pL hm fun y r z => eq_pL z fun x r z => hk _ _ _ z
  | lxor => exact eq_pL hm fun y r z => eq_pL z fun x r z => hk _ _ _ z
  | ldiv => exact eq_pL hm fun y r z => eq_pL z fun x r z => ⟨z.1, hk _ _ _ z.2⟩
  | lrem => exact eq_pL hm fun y r z => eq_pL z fun x r z => ⟨z.1, hk _ _ _ z.2⟩
  | lneg => exact eq_pL hm fun y r z => hk _ _ _ z
  | lshl => exact eq_pI hm fun y r z => eq_pL z fun x r z => hk _ _ _ z
  | lshr => exact eq_pI hm fun y r z => eq_pL z fun x r z => hk _ _ _ z
  | lushr => exact eq_pI hm fun y r z => eq_pL z fun x r z => hk _ _ _ z
  | lcmp => exact eq_pL hm fun y r z => eq_pL z fun x r z => hk _ _ _ z
  | i2l => exact eq_pI hm fun y r z => hk _ _ _ z
  | l2i => exact eq_pL hm fun y r z => hk _ _ _ z
  | dup =>
    match s, hm with
    | .int x :: r, hm => exact hk _ _ _ hm
    | .ref x :: r, hm => exact hk _ _ _ hm
    | [], hm => exact hm.elim
    | .null :: _, hm => exact hm.elim
    | .long _ :: _, hm => exact hm.elim
    | .float _ :: _, hm => exact hm.elim
    | .double _ :: _, hm => exact hm.elim
    | .retAddr _ :: _, hm => exact hm.elim
  | dup2 => exact eq_pI hm fun x r z => eq_pR z fun y r z => hk _ _ _ z
  | getfield n =>
    refine eq_pR hm fun q r z => eq_sh z fun n z => eq_if z fun z => ?_
    match c, z with
    | 1, z => rw [sw_2]; exact hk _ _ _ z
    | 2, z => rw [sw_3]; exact hk _ _ _ z
    | 0, z => rw [sw_1]; exact hk _ _ _ z
    | c + 3, z => rw [sw_1]; exact hk _ _ _ z
  | putfield n =>
    match c, hm with
    | 1, hm => exact eq_pL hm fun x r z => eq_pR z fun q r z => eq_sh z fun n z => eq_if z fun z => ku2 z
    | 2, hm => exact eq_pR hm fun x r z => eq_pR z fun q r z => eq_sh z fun n z => eq_if z fun z => ku3 z
    | 3, hm => exact eq_pI hm fun x r z => eq_pR z fun q r z => eq_sh z fun n z => eq_if z fun z => ⟨z.1, ku1 z.2⟩
    | 0, hm => exact eq_pI hm fun x r z => eq_pR z fun q r z => eq_sh z fun n z => eq_if z fun z => ku1 z
    | c + 4, hm => exact eq_pI hm fun x r z => eq_pR z fun q r z => eq_sh z fun n z => eq_if z fun z => ku1 z
  | iaload => exact eq_pI hm fun i r z => eq_pR z fun q r z => eq_ia z fun x z => hk _ _ _ z
  | getstatic n => exact hk _ _ _ hm
  | laload => exact eq_pI hm fun i r z => eq_pR z fun q r z => eq_sh z fun n z => ⟨z.1, by rw [sw_2]; exact hk _ _ _ z.2⟩
  | baload => exact eq_pI hm fun i r z => eq_pR z fun q r z => eq_sh z fun n z => ⟨z.1, by rw [sw_1]; exact hk _ _ _ z.2⟩
  | iastore => exact eq_pI hm fun x r z => eq_pI z fun i r z => eq_pR z fun q r z => eq_sh z fun n z => ⟨z.1, ku1 z.2⟩
  | lastore => exact eq_pL hm fun x r z => eq_pI z fun i r z => eq_pR z fun q r z => eq_sh z fun n z => ⟨z.1, ku2 z.2⟩
  | bastore => exact eq_pI hm fun x r z => eq_pI z fun i r z => eq_pR z fun q r z => eq_sh z fun n z => ⟨z.1, ku1 z.2⟩
  | goto n => exact hj _ _ _ _ hm
  | ifCond o n =>
    refine eq_pI hm fun x r z => ?_
    cases o <;> exact eq_ite z (fun z => by first | exact hj _ _ _ _ z | exact hk _ _ _ z) (fun z => by first | exact hk _ _ _ z | exact hj _ _ _ _ z)
  | if_icmp o n =>
    refine eq_pI hm fun y r z => eq_pI z fun x r z => ?_
    cases o <;> exact eq_ite z (fun z => by first | exact hj _ _ _ _ z | exact hk _ _ _ z) (fun z => by first | exact hk _ _ _ z | exact hj _ _ _ _ z)
  | tableswitch x1 x2 x3 x4 => exact eq_pI hm fun x r z => eq_sw (fun t z => hj _ _ _ _ z) _ _ _ z
  | lookupswitch x1 x2 => exact eq_pI hm fun x r z => eq_sw (fun t z => hj _ _ _ _ z) _ _ _ z
  | invokevirtual n => exact eq_cl hm hcal fun r h z => hk _ _ _ z
  | invokestatic n =>
    simp only [mj_ins] at hm ⊢
    cases e : Nat.beq a 999 with
    | true =>
      simp only [e] at hm
      exact eq_pI hm fun n r z => eq_pI z fun dp r z => eq_pR z fun y r z => eq_pI z fun sp r z => eq_pR z fun x r z => eq_sh z fun n0 z => eq_sh z fun n1 z => ⟨z.1, by rw [eq_sz]; exact eq_if z.2 fun z => by rw [← sw_cp]; exact hk _ _ _ z⟩
    | false =>
      simp only [e] at hm
      exact eq_cl hm hcal fun r h z => hk _ _ _ z
  | return_ =>
    match s, hm with
    | [], hm => exact hQ _ hm
    | _ :: _, hm => exact hm.elim
  | ireturn =>
    match s, hm with
    | [.int x], hm =>
      match a, hm with
      | 0, hm => exact hQ _ hm
      | a + 1, hm => exact ⟨hm.1, hQ _ hm.2⟩
    | [], hm => exact hm.elim
    | .int _ :: _ :: _, hm => exact hm.elim
    | .null :: _, hm => exact hm.elim
    | .ref _ :: _, hm => exact hm.elim
    | .long _ :: _, hm => exact hm.elim
    | .float _ :: _, hm => exact hm.elim
    | .double _ :: _, hm => exact hm.elim
    | .retAddr _ :: _, hm => exact hm.elim
  | lreturn =>
    match s, hm with
    | [.long x], hm => exact hQ _ hm
    | [], hm => exact hm.elim
    | .long _ :: _ :: _, hm => exact hm.elim
    | .null :: _, hm => exact hm.elim
    | .ref _ :: _, hm => exact hm.elim
    | .int _ :: _, hm => exact hm.elim
    | .float _ :: _, hm => exact hm.elim
    | .double _ :: _, hm => exact hm.elim
    | .retAddr _ :: _, hm => exact hm.elim
  | areturn =>
    match s, hm with
    | [.ref x], hm => exact hQ _ hm
    | [], hm => exact hm.elim
    | .ref _ :: _ :: _, hm => exact hm.elim
    | .null :: _, hm => exact hm.elim
    | .int _ :: _, hm => exact hm.elim
    | .long _ :: _, hm => exact hm.elim
    | .float _ :: _, hm => exact hm.elim
    | .double _ :: _, hm => exact hm.elim
    | .retAddr _ :: _, hm => exact hm.elim
  | _ => exact hm.elim
theorem eq_bk {cal cal' : Nat → List Value → mj_H → mj_R → Prop} {Q Q' : mj_R → Prop} {jmp jmp' : Nat → mj_K}
    (hcal : ∀ z as h r, cal z as h r → cal' z (as.map tv) (mj_swp h) (tv r.1, mj_swp r.2)) (hQ : ∀ r, Q r → Q' (tv r.1, mj_swp r.2)) (hj : ∀ t l s h, jmp t l s h → jmp' t (tL l) (s.map tv) (mj_swp h)) : ∀ (b : List mj_E) (pc : Nat) (l : mj_L) (s : List Value) (h : mj_H), mj_bk mj_S1 cal Q jmp b pc l s h → mj_bk mj_S1 cal' Q' jmp' b pc (tL l) (s.map tv) (mj_swp h)
  | [], pc, l, s, h, hm => hj _ _ _ _ hm
  | e :: r, pc, l, s, h, hm => eq_ins hcal hQ hj (fun l s h z => eq_bk hcal hQ hj r _ l s h z) hm
theorem eq_sg {C : mj_C} {cal cal' : Nat → List Value → mj_H → mj_R → Prop} {Q Q' : mj_R → Prop} {K K' : Nat → mj_K}
    (hcal : ∀ z as h r, cal z as h r → cal' z (as.map tv) (mj_swp h) (tv r.1, mj_swp r.2)) (hQ : ∀ r, Q r → Q' (tv r.1, mj_swp r.2)) (hK : ∀ t l s h, K t l s h → K' t (tL l) (s.map tv) (mj_swp h)) : ∀ (m pc : Nat) (l : mj_L) (s : List Value) (h : mj_H), mj_sg mj_S1 C cal Q K m pc l s h → mj_sg mj_S1 C cal' Q' K' m pc (tL l) (s.map tv) (mj_swp h)
  | 0, _, _, _, _, hm => hm.elim
  | m + 1, pc, l, s, h, hm => by
    unfold mj_sg at hm ⊢
    cases e : mj_fd C.2.1 pc with
    | some ks =>
      rw [e] at hm
      have z := hK _ _ _ _ hm
      rw [eq_tm] at z
      exact z
    | none =>
      rw [e] at hm
      cases e2 : mj_fd C.1 pc with
      | some b =>
        rw [e2] at hm
        exact eq_bk hcal hQ (fun t l s h z => eq_sg hcal hQ hK m t l s h z) b pc l s h hm
      | none =>
        rw [e2] at hm
        exact hm.elim
theorem eq_go {C : mj_C} {cal cal' : Nat → List Value → mj_H → mj_R → Prop} {Q Q' : mj_R → Prop} {K K' : Nat → mj_K}
    (hcal : ∀ z as h r, cal z as h r → cal' z (as.map tv) (mj_swp h) (tv r.1, mj_swp r.2)) (hQ : ∀ r, Q r → Q' (tv r.1, mj_swp r.2)) (hK : ∀ t l s h, K t l s h → K' t (tL l) (s.map tv) (mj_swp h)) (pc : Nat) (l : mj_L) (s : List Value) (h : mj_H) (hm : mj_go mj_S1 C cal Q K pc l s h) : mj_go mj_S1 C cal' Q' K' pc (tL l) (s.map tv) (mj_swp h) := by
  unfold mj_go at hm ⊢
  cases e2 : mj_fd C.1 pc with
  | some b =>
    rw [e2] at hm
    exact eq_bk hcal hQ (fun t l s h z => eq_sg hcal hQ hK 100 t l s h z) b pc l s h hm
  | none =>
    rw [e2] at hm
    exact hm.elim
theorem eq_rn {C : mj_C} {cal cal' : Nat → List Value → mj_H → mj_R → Prop} {Q Q' : mj_R → Prop}
    (hcal : ∀ z as h r, cal z as h r → cal' z (as.map tv) (mj_swp h) (tv r.1, mj_swp r.2)) (hQ : ∀ r, Q r → Q' (tv r.1, mj_swp r.2)) : ∀ (n pc : Nat) (l : mj_L) (s : List Value) (h : mj_H), mj_rn mj_S1 C cal Q n pc l s h → mj_rn mj_S1 C cal' Q' n pc (tL l) (s.map tv) (mj_swp h)
  | 0, _, _, _, _, hm => hm.elim
  | n + 1, pc, l, s, h, hm => eq_go hcal hQ (fun t l s h z => eq_rn hcal hQ n t l s h z) pc l s h hm
theorem eq_Ev {C : mj_C} {cal cal' : Nat → List Value → mj_H → mj_R → Prop} {Q Q' : mj_R → Prop}
    (hcal : ∀ z as h r, cal z as h r → cal' z (as.map tv) (mj_swp h) (tv r.1, mj_swp r.2)) (hQ : ∀ r, Q r → Q' (tv r.1, mj_swp r.2)) {pc : Nat} {l : mj_L} {s : List Value} {h : mj_H} (hm : mj_Ev mj_S1 C cal Q pc l s h) : mj_Ev mj_S1 C cal' Q' pc (tL l) (s.map tv) (mj_swp h) := by
  obtain ⟨n, hm⟩ := hm
  exact ⟨n, eq_rn hcal hQ n pc l s h hm⟩
theorem eq_a0 : ∀ (i : Nat) (as : List Value), mj_a0 i (as.map tv) = tL (mj_a0 i as)
  | _, [] => rfl
  | i, v :: vs => by
    show (i, tv v) :: mj_a0 _ (vs.map tv) = (i, tv v) :: tL (mj_a0 _ vs)
    rw [mj_cat, eq_a0]
theorem eq_Cl {CD : Nat → mj_C} : ∀ (D z : Nat) (as : List Value) (h : mj_H) (r : mj_R), mj_Cl mj_S1 CD D z as h r → mj_Cl mj_S1 CD D z (as.map tv) (mj_swp h) (tv r.1, mj_swp r.2)
  | 0, _, _, _, _, hm => hm.elim
  | D + 1, z, as, h, r, hm => by
    have ih := eq_Cl (CD := CD) D
    unfold mj_Cl at hm ⊢
    rw [eq_sz, eq_a0]
    refine eq_if hm fun hm => ?_
    have hQ : ∀ x : mj_R, x = r → (tv x.1, mj_swp x.2) = (tv r.1, mj_swp r.2) := fun x e => by rw [e]
    exact eq_sg ih hQ (fun t l s h z => eq_Ev ih hQ z) 100 0 _ [] _ hm
end EQV
