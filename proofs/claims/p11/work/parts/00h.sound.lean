/-! the small machine is sound: blocks, walks, methods -/
theorem mj_sl_len (ad : Nat → Nat) : ∀ as : List Value, (lg_sl (as.map (mj_tr ad))).length = mj_sz as
  | [] => rfl
  | v :: r => by
    have ih := mj_sl_len ad r
    unfold lg_sl at ih ⊢
    rw [List.map_cons, List.flatMap_cons, List.length_append, ih]
    show _ = v.category + mj_sz r
    rw [mj_cat]
    rcases lv_cat v with h | h <;> simp [h]
section MJB
variable {p : Program} {l : Launch} {e : Env} {s : State} {m : MethodId} {args : Array Value} {below : List Frame} {meth : Method} {c : Code}
variable {TB : List Cond} {CL : List vw_C} {TY : Nat → Nat → FieldType} {MS : Nat → mj_M} {S : mj_S} {Dg : va_G} {T3 : Nat × Nat × Nat} {ad : Nat → Nat} {cc : ByteArray} {nL D : Nat} {own : String} {rr : mj_R} {rt : Option FieldType}
theorem mj_s_bk (X : mj_Cx p s m args meth c TB CL S Dg T3 ad cc nL own rt) (Y : mj_Cs TB CL TY S) {cal : Nat → List Value → mj_H → mj_R → Prop} (hcal : ∀ z as h r, cal z as h r → mj_Met l TB CL TY S Dg T3 ad D (MS z) as h r)
    {jmp : Nat → mj_K} (hj : ∀ t L st h, jmp t L st h → mj_Go p l e s m args below meth c CL TY S Dg T3 ad nL (D + 1) rr t L st h) : ∀ (b : List mj_E) (pc : Nat), mj_okB TB CL TY MS own cc nL rt b pc → ∀ (L : mj_L) (st : List Value) (h : mj_H), mj_bk S cal (fun r => r = rr) jmp b pc L st h → mj_Go p l e s m args below meth c CL TY S Dg T3 ad nL (D + 1) rr pc L st h
  | [], _, _, _, _, _, hm => hj _ _ _ _ hm
  | e1 :: r, pc, ⟨⟨hdg, hok⟩, hrest⟩, L, st, h, hm => mj_s_ins (i := e1.1) (len := e1.2.1) X Y hcal hj (fun L st h q => mj_s_bk X Y hcal hj r (pc + e1.2.1) hrest L st h q) hdg hok hm
theorem mj_s_sg (X : mj_Cx p s m args meth c TB CL S Dg T3 ad cc nL own rt) (Y : mj_Cs TB CL TY S) {cal : Nat → List Value → mj_H → mj_R → Prop} (hcal : ∀ z as h r, cal z as h r → mj_Met l TB CL TY S Dg T3 ad D (MS z) as h r)
    {C : mj_C} (hC : ∀ b ∈ C.1, mj_okB TB CL TY MS own cc nL rt b.2 b.1) {K : Nat → mj_K} (hK : ∀ t L st h, K t L st h → mj_Go p l e s m args below meth c CL TY S Dg T3 ad nL (D + 1) rr t L st h) : ∀ (n pc : Nat) (L : mj_L) (st : List Value) (h : mj_H), mj_sg S C cal (fun r => r = rr) K n pc L st h → mj_Go p l e s m args below meth c CL TY S Dg T3 ad nL (D + 1) rr pc L st h
  | 0, _, _, _, _, hm => hm.elim
  | n + 1, pc, L, st, h, hm => by
    unfold mj_sg at hm
    split at hm
    · exact fun H locs ls hP hS hl => hK _ _ _ _ hm H locs ls hP hS (mj_tm_has hl)
    · split at hm
      · rename_i b hb
        exact mj_s_bk X Y hcal (fun t L st h q => mj_s_sg X Y hcal hC hK n t L st h q) b pc (hC _ (mj_fd_mem hb)) L st h hm
      · exact hm.elim
theorem mj_s_rn (X : mj_Cx p s m args meth c TB CL S Dg T3 ad cc nL own rt) (Y : mj_Cs TB CL TY S) {cal : Nat → List Value → mj_H → mj_R → Prop} (hcal : ∀ z as h r, cal z as h r → mj_Met l TB CL TY S Dg T3 ad D (MS z) as h r)
    {C : mj_C} (hC : ∀ b ∈ C.1, mj_okB TB CL TY MS own cc nL rt b.2 b.1) : ∀ (n pc : Nat) (L : mj_L) (st : List Value) (h : mj_H), mj_rn S C cal (fun r => r = rr) n pc L st h → mj_Go p l e s m args below meth c CL TY S Dg T3 ad nL (D + 1) rr pc L st h
  | 0, _, _, _, _, hm => hm.elim
  | n + 1, pc, L, st, h, hm => by
    have h2 : mj_go S C cal (fun r => r = rr) (mj_rn S C cal (fun r => r = rr) n) pc L st h := hm
    unfold mj_go at h2
    split at h2
    · rename_i b hb
      exact mj_s_bk X Y hcal (fun t L st h q => mj_s_sg X Y hcal hC (fun t L st h q => mj_s_rn X Y hcal hC n t L st h q) 100 t L st h q) b pc (hC _ (mj_fd_mem hb)) L st h h2
    · exact h2.elim
end MJB
/-- THE SMALL MACHINE IS SOUND -/
theorem mj_sound {l : Launch} {TB : List Cond} {CL : List vw_C} {TY : Nat → Nat → FieldType} {MS : Nat → mj_M} {S : mj_S} {CD : Nat → mj_C} {Dg : va_G} {T3 : Nat × Nat × Nat} {ad : Nat → Nat} (hinj : ∀ i j, i < S.length → j < S.length → ad i = ad j → i = j)
    (Y : mj_Cs TB CL TY S) (hM : ∀ z, mj_okM TB CL TY MS (MS z) (CD z) ∨ CD z = ([], [], 0)) : ∀ (D z : Nat) (as : List Value) (h : mj_H) (r : mj_R), mj_Cl S CD D z as h r → mj_Met l TB CL TY S Dg T3 ad D (MS z) as h r
  | 0, _, _, _, _, hm => hm.elim
  | D + 1, z, as, h, r, hm => by
    have ih := mj_sound (l := l) (T3 := T3) (Dg := Dg) hinj Y hM D
    obtain ⟨hz, hm⟩ := mj_if_e hm
    rcases hM z with ⟨hY, hn, hC⟩ | hC
    · intro sz
      have hz : mj_sz as ≤ (MS z).2.2.1 := by rw [← hn]; exact Nat.le_of_ble_eq_true hz
      refine mj_ofW (cc := (MS z).2.1) (maxL := (MS z).2.2.1) (ret := (MS z).2.2.2) hY.2.2.2.1 rfl ?_
      intro p e s m args below meth c s₁ B hml hv
      obtain ⟨rfl, hsz, hP, hK, hN, hMO⟩ := hv
      have hx := B.exec
      have hb := B.bytes
      have hr := B.returns
      have hts := atoms_spec (ws := mj_ws TB (MS z)) B.pre
      have hown : s.vm.findClass (MS z).1.cls = some m.cls := findClass_of_methodNamed B.named
      have hlocks := B.notSynchronized
      subst hsz
      rw [lg_entry_eq]
      have hl := lv_entry (as.map (mj_tr ad)) (n := (MS z).2.2.1) (by rw [mj_sl_len]; exact hz)
      rw [mj_a0_eq] at hl
      have X : mj_Cx p s m (as.map (mj_tr ad)).toArray meth c TB CL S Dg T3 ad (MS z).2.1 (MS z).2.2.1 (MS z).1.cls (MS z).2.2.2 := ⟨hx, hb, hml, hown, fun w hw => hts w (List.mem_cons_of_mem _ hw), hK, hN, hinj, hlocks, hr, hMO⟩
      have hg := mj_s_sg (e := e) (below := below) X Y ih hC (fun t L st h q => by
        obtain ⟨n, q⟩ := q
        exact mj_s_rn X Y ih hC n t L st h q) 100 0 (mj_a0 0 as) [] h hm
      exact hg s.heap [] _ hP va_S.rf hl
    · exfalso
      rw [hC] at hm
      exact hm
