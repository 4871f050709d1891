/-! the small machine is sound: every instruction, every block, every method -/
section MJJ
variable {p : Program} {l : Launch} {e : Env} {s : State} {m : MethodId} {args : Array Value} {below : List Frame} {meth : Method} {c : Code}
variable {TB : List Cond} {CL : List vw_C} {TY : Nat → Nat → FieldType} {MS : Nat → mj_M} {S : mj_S} {Dg : va_G} {T3 : Nat × Nat × Nat} {ad : Nat → Nat} {cc : ByteArray} {nL D : Nat} {own : String} {rr : mj_R} {rt : Option FieldType}
theorem mj_narI {ty : FieldType} {x : Int32} (h : mj_tc ty = 0) : narrow ty (.int x) = .int x ∧ fits ty (.int x) = true := by
  cases ty <;> simp [mj_tc] at h <;> exact ⟨rfl, rfl⟩
theorem mj_narL {ty : FieldType} {x : Int64} (h : mj_tc ty = 1) : narrow ty (.long x) = .long x ∧ fits ty (.long x) = true := by
  cases ty <;> simp [mj_tc] at h <;> exact ⟨rfl, rfl⟩
theorem mj_narR {ty : FieldType} {x : Nat} (h : mj_tc ty = 2) : narrow ty (.ref x) = .ref x ∧ fits ty (.ref x) = true := by
  cases ty <;> simp [mj_tc] at h <;> exact ⟨rfl, rfl⟩
theorem mj_narZ {ty : FieldType} {x : Int32} (h : mj_tc ty = 3) (hx : x = 0 ∨ x = 1) : narrow ty (.int x) = .int x ∧ fits ty (.int x) = true := by
  cases ty <;> simp [mj_tc] at h
  rcases hx with rfl | rfl <;> exact ⟨rfl, rfl⟩
theorem mj_fvI {h : mj_H} {q k j : Nat} (h1 : j ≠ 1) (h2 : j ≠ 2) : mj_fv ad h q k j = .int (h.1 q k) := by
  unfold mj_fv
  split
  · exact absurd rfl h1
  · exact absurd rfl h2
  · rfl
theorem mj_fv1 {h : mj_H} {q b k j : Nat} {x : Int32} (hj : k = b → j ≠ 1 ∧ j ≠ 2) : mj_fv ad (mj_up h.1 q b x, h.2.1, h.2.2) q k j = if k = b then .int x else mj_fv ad h q k j := by
  by_cases e : k = b
  · subst e
    obtain ⟨h1, h2⟩ := hj rfl
    rw [if_pos rfl]
    unfold mj_fv
    split
    · exact absurd rfl h1
    · exact absurd rfl h2
    · simp [mj_up]
  · rw [if_neg e]
    unfold mj_fv
    split
    · rfl
    · rfl
    · simp [mj_up, e]
theorem mj_fv2 {h : mj_H} {q b k j : Nat} {x : Int64} (hj : k = b → j = 1) : mj_fv ad (h.1, mj_up h.2.1 q b x, h.2.2) q k j = if k = b then .long x else mj_fv ad h q k j := by
  by_cases e : k = b
  · subst e
    rw [hj rfl, if_pos rfl]
    simp [mj_fv, mj_up]
  · rw [if_neg e]
    unfold mj_fv
    split
    · simp [mj_up, e]
    · rfl
    · rfl
theorem mj_fv3 {h : mj_H} {q b k j : Nat} {x : Nat} (hj : k = b → j = 2) : mj_fv ad (h.1, h.2.1, mj_up h.2.2 q b x) q k j = if k = b then .ref (ad x) else mj_fv ad h q k j := by
  by_cases e : k = b
  · subst e
    rw [hj rfl, if_pos rfl]
    simp [mj_fv, mj_up]
  · rw [if_neg e]
    unfold mj_fv
    split
    · rfl
    · simp [mj_up, e]
    · rfl
theorem mj_aset1 {h : mj_H} {q n t j : Nat} {x : Int32} (hq : S[q]? = some (t, n)) (e : ∀ h : mj_H, mj_ce TY T3 ad h q (t, n) = .inl (T3.1, n, .inl (h.1 q)) ∨ t = 2) (hz : mj_ce TY T3 ad (mj_up h.1 q j x, h.2.1, h.2.2) q (t, n) = mj_ce TY T3 ad (mj_up h.1 q j x, h.2.1, h.2.2) q (t, n)) :
    (mj_W S TY T3 ad h).set q (ad q, mj_ce TY T3 ad (mj_up h.1 q j x, h.2.1, h.2.2) q (t, n)) = mj_W S TY T3 ad (mj_up h.1 q j x, h.2.1, h.2.2) := mj_W_set hq fun k hk y => mj_ce_up1 hk y
theorem mj_upq {h : Nat → Nat → Int32} {q j : Nat} {x : Int32} : mj_up h q j x q = upd (h q) j x := by
  funext i
  simp [mj_up, upd]
theorem mj_upqL {h : Nat → Nat → Int64} {q j : Nat} {x : Int64} : mj_up h q j x q = vp_updL (h q) j x := by
  funext i
  simp [mj_up, vp_updL]
theorem mj_cpq {h : Nat → Nat → Int32} {a b sp dp n : Nat} : mj_cp h a sp b dp n b = va_cpy (h a) (h b) sp dp n := by
  funext i
  simp [mj_cp, va_cpy]
theorem mj_ce_cp {h : mj_H} {q k a sp dp n : Nat} (hk : k ≠ q) (y : Nat × Nat) : mj_ce TY T3 ad (mj_cp h.1 a sp q dp n, h.2.1, h.2.2) k y = mj_ce TY T3 ad h k y := by
  have e : (mj_cp h.1 a sp q dp n) k = h.1 k := by funext i; simp [mj_cp, hk]
  obtain ⟨t, z⟩ := y
  match t with
  | 0 => simp only [mj_ce, e]
  | 1 => rfl
  | 2 => simp only [mj_ce, e]
  | t + 3 =>
    simp only [mj_ce, Sum.inr.injEq, Prod.mk.injEq, true_and]
    refine List.map_congr_left fun i _ => ?_
    unfold mj_fv
    split
    · rfl
    · rfl
    · simp only [e]
set_option maxHeartbeats 8000000 in
theorem mj_s_ins (X : mj_Cx p s m args meth c TB CL S Dg T3 ad cc nL own rt) (Y : mj_Cs TB CL TY S) {cal : Nat → List Value → mj_H → mj_R → Prop} (hcal : ∀ z as h r, cal z as h r → mj_Met l TB CL TY S Dg T3 ad D (MS z) as h r)
    {jmp : Nat → mj_K} (hj : ∀ t L st h, jmp t L st h → mj_Go p l e s m args below meth c CL TY S Dg T3 ad nL (D + 1) rr t L st h)
    {i : Jvm.ClassFile.Instr} {len a b cx d : Nat} {v : Int32} {w : Int64} {sw : List (Int32 × Nat)} {pc : Nat} {k : mj_K} (hk : ∀ L st h, k L st h → mj_Go p l e s m args below meth c CL TY S Dg T3 ad nL (D + 1) rr (pc + len) L st h)
    (hdg : decode cc pc = .ok (i, len)) (hok : mj_okI TB CL TY MS own nL rt pc (i, len, (a, b, cx, d), v, w, sw)) {L : mj_L} {st : List Value} {h : mj_H}
    (hm : mj_ins S cal (fun r => r = rr) jmp i a b cx d v w sw L st h k) : mj_Go p l e s m args below meth c CL TY S Dg T3 ad nL (D + 1) rr pc L st h := by
  obtain ⟨hx, hbc, hml, hown, hts, hK, hN, hinj, hlocks, hrt, hMO⟩ := id X
  cases i with
  | iconst n =>
    obtain ⟨rfl, hv⟩ := hok
    exact fun H locs ls hP hS hl => lv_iconst hx hbc hdg hv (hk _ _ _ hm H locs ls hP hS hl)
  | bipush n =>
    obtain ⟨rfl, hv⟩ := hok
    exact fun H locs ls hP hS hl => lv_bipush hx hbc hdg hv (hk _ _ _ hm H locs ls hP hS hl)
  | sipush n =>
    obtain ⟨rfl, hv⟩ := hok
    exact fun H locs ls hP hS hl => lv_sipush hx hbc hdg hv (hk _ _ _ hm H locs ls hP hS hl)
  | ldc n =>
    obtain ⟨rfl, hv⟩ := hok
    exact fun H locs ls hP hS hl => lv_ldc hx hbc hown (hts _ (mj_good_in hv rfl)) hdg (hk _ _ _ hm H locs ls hP hS hl)
  | ldc_w n =>
    obtain ⟨rfl, hv⟩ := hok
    exact fun H locs ls hP hS hl => lv_ldcw hx hbc hown (hts _ (mj_good_in hv rfl)) hdg (hk _ _ _ hm H locs ls hP hS hl)
  | lconst n =>
    obtain ⟨rfl, hv⟩ := hok
    exact fun H locs ls hP hS hl => lv_lconst hx hbc hdg hv (hk _ _ _ hm H locs ls hP hS hl)
  | ldc2_w n =>
    obtain ⟨rfl, hv⟩ := hok
    exact fun H locs ls hP hS hl => lv_ldc2 hx hbc hown (hts _ (mj_good_in hv rfl)) hdg (hk _ _ _ hm H locs ls hP hS hl)
  | iload_n n =>
    have hok : len = 1 := hok
    subst hok
    obtain ⟨x, hx1, hm1⟩ := mj_lI_e hm
    exact fun H locs ls hP hS hl => lv_iload_n hx hbc hdg rfl (mj_at hl hx1) (hk _ _ _ hm1 H locs ls hP hS hl)
  | iload n =>
    have hok : len = 2 := hok
    subst hok
    obtain ⟨x, hx1, hm1⟩ := mj_lI_e hm
    exact fun H locs ls hP hS hl => lv_iload hx hbc hdg (mj_at hl hx1) (hk _ _ _ hm1 H locs ls hP hS hl)
  | lload_n n =>
    have hok : len = 1 := hok
    subst hok
    obtain ⟨x, hx1, hm1⟩ := mj_lL_e hm
    exact fun H locs ls hP hS hl => lv_lload_n hx hbc hdg rfl (mj_at hl hx1) (hk _ _ _ hm1 H locs ls hP hS hl)
  | lload n =>
    have hok : len = 2 := hok
    subst hok
    obtain ⟨x, hx1, hm1⟩ := mj_lL_e hm
    exact fun H locs ls hP hS hl => lv_lload hx hbc hdg (mj_at hl hx1) (hk _ _ _ hm1 H locs ls hP hS hl)
  | aload_n n =>
    have hok : len = 1 := hok
    subst hok
    obtain ⟨x, hx1, hm1⟩ := mj_lR_e hm
    exact fun H locs ls hP hS hl => lv_aload_n hx hbc hdg rfl (mj_at hl hx1) (hk _ _ _ hm1 H locs ls hP hS hl)
  | aload n =>
    have hok : len = 2 := hok
    subst hok
    obtain ⟨x, hx1, hm1⟩ := mj_lR_e hm
    exact fun H locs ls hP hS hl => lv_aload hx hbc hdg (mj_at hl hx1) (hk _ _ _ hm1 H locs ls hP hS hl)
  | istore_n n =>
    obtain ⟨rfl, hn⟩ := hok
    obtain ⟨x, r, rfl, hm1⟩ := mj_pI_e hm
    rw [mj_fl_eq] at hm1
    exact fun H locs ls hP hS hl => lv_istore_n hx hbc hdg rfl hl hn rfl (fun ls hl => hk _ _ _ hm1 H locs ls hP hS (mj_s1_has hl))
  | istore n =>
    obtain ⟨rfl, hn⟩ := hok
    obtain ⟨x, r, rfl, hm1⟩ := mj_pI_e hm
    rw [mj_fl_eq] at hm1
    exact fun H locs ls hP hS hl => lv_istore hx hbc hdg hl hn rfl (fun ls hl => hk _ _ _ hm1 H locs ls hP hS (mj_s1_has hl))
  | lstore_n n =>
    obtain ⟨rfl, hn⟩ := hok
    obtain ⟨x, r, rfl, hm1⟩ := mj_pL_e hm
    rw [mj_fl_eq] at hm1
    exact fun H locs ls hP hS hl => lv_lstore_n hx hbc hdg rfl hl hn rfl (fun ls hl => hk _ _ _ hm1 H locs ls hP hS (mj_s2_has hl))
  | lstore n =>
    obtain ⟨rfl, hn⟩ := hok
    obtain ⟨x, r, rfl, hm1⟩ := mj_pL_e hm
    rw [mj_fl_eq] at hm1
    exact fun H locs ls hP hS hl => lv_lstore hx hbc hdg hl hn rfl (fun ls hl => hk _ _ _ hm1 H locs ls hP hS (mj_s2_has hl))
  | astore_n n =>
    obtain ⟨rfl, hn⟩ := hok
    obtain ⟨x, r, rfl, hm1⟩ := mj_pR_e hm
    rw [mj_fl_eq] at hm1
    exact fun H locs ls hP hS hl => lv_astore_n hx hbc hdg rfl hl hn rfl (fun ls hl => hk _ _ _ hm1 H locs ls hP hS (mj_s1_has hl))
  | astore n =>
    obtain ⟨rfl, hn⟩ := hok
    obtain ⟨x, r, rfl, hm1⟩ := mj_pR_e hm
    rw [mj_fl_eq] at hm1
    exact fun H locs ls hP hS hl => lv_astore hx hbc hdg hl hn rfl (fun ls hl => hk _ _ _ hm1 H locs ls hP hS (mj_s1_has hl))
  | iinc n z =>
    obtain ⟨rfl, hn, hv⟩ := hok
    obtain ⟨x, hx1, hm1⟩ := mj_lI_e hm
    rw [mj_fl_eq] at hm1
    intro H locs ls hP hS hl
    obtain ⟨k9, hk9⟩ := List.getElem?_of_mem (mj_tl_mem (ad := ad) hx1)
    exact lv_iinc (v := x + v) hx hbc hdg hl hk9 (by rw [hv]) hn rfl (fun ls hl => hk _ _ _ hm1 H locs ls hP hS (mj_s1_has hl))
  | iadd =>
    have hok : len = 1 := hok
    subst hok
    obtain ⟨y, r, rfl, hm1⟩ := mj_pI_e hm
    obtain ⟨x, r, rfl, hm2⟩ := mj_pI_e hm1
    exact fun H locs ls hP hS hl => lv_iadd hx hbc hdg (hk _ _ _ hm2 H locs ls hP hS hl)
  | isub =>
    have hok : len = 1 := hok
    subst hok
    obtain ⟨y, r, rfl, hm1⟩ := mj_pI_e hm
    obtain ⟨x, r, rfl, hm2⟩ := mj_pI_e hm1
    exact fun H locs ls hP hS hl => lv_isub hx hbc hdg (hk _ _ _ hm2 H locs ls hP hS hl)
  | imul =>
    have hok : len = 1 := hok
    subst hok
    obtain ⟨y, r, rfl, hm1⟩ := mj_pI_e hm
    obtain ⟨x, r, rfl, hm2⟩ := mj_pI_e hm1
    exact fun H locs ls hP hS hl => lv_imul hx hbc hdg (hk _ _ _ hm2 H locs ls hP hS hl)
  | iand =>
    have hok : len = 1 := hok
    subst hok
    obtain ⟨y, r, rfl, hm1⟩ := mj_pI_e hm
    obtain ⟨x, r, rfl, hm2⟩ := mj_pI_e hm1
    exact fun H locs ls hP hS hl => lv_iand hx hbc hdg (hk _ _ _ hm2 H locs ls hP hS hl)
  | ior =>
    have hok : len = 1 := hok
    subst hok
    obtain ⟨y, r, rfl, hm1⟩ := mj_pI_e hm
    obtain ⟨x, r, rfl, hm2⟩ := mj_pI_e hm1
    exact fun H locs ls hP hS hl => lv_ior hx hbc hdg (hk _ _ _ hm2 H locs ls hP hS hl)
  | ixor =>
    have hok : len = 1 := hok
    subst hok
    obtain ⟨y, r, rfl, hm1⟩ := mj_pI_e hm
    obtain ⟨x, r, rfl, hm2⟩ := mj_pI_e hm1
    exact fun H locs ls hP hS hl => lv_ixor hx hbc hdg (hk _ _ _ hm2 H locs ls hP hS hl)
  | idiv =>
    have hok : len = 1 := hok
    subst hok
    obtain ⟨y, r, rfl, hm1⟩ := mj_pI_e hm
    obtain ⟨x, r, rfl, hy, hm2⟩ := mj_pI_e hm1
    exact fun H locs ls hP hS hl => lv_idiv hx hbc hdg hy (hk _ _ _ hm2 H locs ls hP hS hl)
  | irem =>
    have hok : len = 1 := hok
    subst hok
    obtain ⟨y, r, rfl, hm1⟩ := mj_pI_e hm
    obtain ⟨x, r, rfl, hy, hm2⟩ := mj_pI_e hm1
    exact fun H locs ls hP hS hl => lv_irem hx hbc hdg hy (hk _ _ _ hm2 H locs ls hP hS hl)
  | ineg =>
    have hok : len = 1 := hok
    subst hok
    obtain ⟨x, r, rfl, hm1⟩ := mj_pI_e hm
    exact fun H locs ls hP hS hl => lv_ineg hx hbc hdg (hk _ _ _ hm1 H locs ls hP hS hl)
  | ishl =>
    have hok : len = 1 := hok
    subst hok
    obtain ⟨y, r, rfl, hm1⟩ := mj_pI_e hm
    obtain ⟨x, r, rfl, hm2⟩ := mj_pI_e hm1
    exact fun H locs ls hP hS hl => lv_ishl hx hbc hdg (hk _ _ _ hm2 H locs ls hP hS hl)
  | ishr =>
    have hok : len = 1 := hok
    subst hok
    obtain ⟨y, r, rfl, hm1⟩ := mj_pI_e hm
    obtain ⟨x, r, rfl, hm2⟩ := mj_pI_e hm1
    exact fun H locs ls hP hS hl => lv_ishr hx hbc hdg (hk _ _ _ hm2 H locs ls hP hS hl)
  | iushr =>
    have hok : len = 1 := hok
    subst hok
    obtain ⟨y, r, rfl, hm1⟩ := mj_pI_e hm
    obtain ⟨x, r, rfl, hm2⟩ := mj_pI_e hm1
    exact fun H locs ls hP hS hl => lv_iushr hx hbc hdg rfl (hk _ _ _ hm2 H locs ls hP hS hl)
  | ladd =>
    have hok : len = 1 := hok
    subst hok
    obtain ⟨y, r, rfl, hm1⟩ := mj_pL_e hm
    obtain ⟨x, r, rfl, hm2⟩ := mj_pL_e hm1
    exact fun H locs ls hP hS hl => lv_ladd hx hbc hdg (hk _ _ _ hm2 H locs ls hP hS hl)
  | lsub =>
    have hok : len = 1 := hok
    subst hok
    obtain ⟨y, r, rfl, hm1⟩ := mj_pL_e hm
    obtain ⟨x, r, rfl, hm2⟩ := mj_pL_e hm1
    exact fun H locs ls hP hS hl => lv_lsub hx hbc hdg (hk _ _ _ hm2 H locs ls hP hS hl)
  | lmul =>
    have hok : len = 1 := hok
    subst hok
    obtain ⟨y, r, rfl, hm1⟩ := mj_pL_e hm
    obtain ⟨x, r, rfl, hm2⟩ := mj_pL_e hm1
    exact fun H locs ls hP hS hl => lv_lmul hx hbc hdg (hk _ _ _ hm2 H locs ls hP hS hl)
  | land =>
    have hok : len = 1 := hok
    subst hok
    obtain ⟨y, r, rfl, hm1⟩ := mj_pL_e hm
    obtain ⟨x, r, rfl, hm2⟩ := mj_pL_e hm1
    exact fun H locs ls hP hS hl => lv_land hx hbc hdg (hk _ _ _ hm2 H locs ls hP hS hl)
  | lor =>
    have hok : len = 1 := hok
    subst hok
    obtain ⟨y, r, rfl, hm1⟩ := mj_pL_e hm
    obtain ⟨x, r, rfl, hm2⟩ := mj_pL_e hm1
    exact fun H locs ls hP hS hl => lv_lor hx hbc hdg (hk _ _ _ hm2 H locs ls hP hS hl)
  | lxor =>
    have hok : len = 1 := hok
    subst hok
    obtain ⟨y, r, rfl, hm1⟩ := mj_pL_e hm
    obtain ⟨x, r, rfl, hm2⟩ := mj_pL_e hm1
    exact fun H locs ls hP hS hl => lv_lxor hx hbc hdg (hk _ _ _ hm2 H locs ls hP hS hl)
  | ldiv =>
    have hok : len = 1 := hok
    subst hok
    obtain ⟨y, r, rfl, hm1⟩ := mj_pL_e hm
    obtain ⟨x, r, rfl, hy, hm2⟩ := mj_pL_e hm1
    exact fun H locs ls hP hS hl => lv_ldiv hx hbc hdg hy (hk _ _ _ hm2 H locs ls hP hS hl)
  | lrem =>
    have hok : len = 1 := hok
    subst hok
    obtain ⟨y, r, rfl, hm1⟩ := mj_pL_e hm
    obtain ⟨x, r, rfl, hy, hm2⟩ := mj_pL_e hm1
    exact fun H locs ls hP hS hl => lv_lrem hx hbc hdg hy (hk _ _ _ hm2 H locs ls hP hS hl)
  | lneg =>
    have hok : len = 1 := hok
    subst hok
    obtain ⟨x, r, rfl, hm1⟩ := mj_pL_e hm
    exact fun H locs ls hP hS hl => lv_lneg hx hbc hdg (hk _ _ _ hm1 H locs ls hP hS hl)
  | lshl =>
    have hok : len = 1 := hok
    subst hok
    obtain ⟨y, r, rfl, hm1⟩ := mj_pI_e hm
    obtain ⟨x, r, rfl, hm2⟩ := mj_pL_e hm1
    exact fun H locs ls hP hS hl => lv_lshl hx hbc hdg rfl (hk _ _ _ hm2 H locs ls hP hS hl)
  | lshr =>
    have hok : len = 1 := hok
    subst hok
    obtain ⟨y, r, rfl, hm1⟩ := mj_pI_e hm
    obtain ⟨x, r, rfl, hm2⟩ := mj_pL_e hm1
    exact fun H locs ls hP hS hl => lv_lshr hx hbc hdg rfl (hk _ _ _ hm2 H locs ls hP hS hl)
  | lushr =>
    have hok : len = 1 := hok
    subst hok
    obtain ⟨y, r, rfl, hm1⟩ := mj_pI_e hm
    obtain ⟨x, r, rfl, hm2⟩ := mj_pL_e hm1
    exact fun H locs ls hP hS hl => lv_lushr hx hbc hdg rfl (hk _ _ _ hm2 H locs ls hP hS hl)
  | lcmp =>
    have hok : len = 1 := hok
    subst hok
    obtain ⟨y, r, rfl, hm1⟩ := mj_pL_e hm
    obtain ⟨x, r, rfl, hm2⟩ := mj_pL_e hm1
    exact fun H locs ls hP hS hl => W.lcmp hx hbc hdg (hk _ _ _ hm2 H locs ls hP hS hl)
  | i2l =>
    have hok : len = 1 := hok
    subst hok
    obtain ⟨x, r, rfl, hm1⟩ := mj_pI_e hm
    exact fun H locs ls hP hS hl => lv_i2l hx hbc hdg rfl (hk _ _ _ hm1 H locs ls hP hS hl)
  | l2i =>
    have hok : len = 1 := hok
    subst hok
    obtain ⟨x, r, rfl, hm1⟩ := mj_pL_e hm
    exact fun H locs ls hP hS hl => lv_l2i hx hbc hdg rfl (hk _ _ _ hm1 H locs ls hP hS hl)
  | dup =>
    have hok : len = 1 := hok
    subst hok
    simp only [mj_ins] at hm
    split at hm
    · exact fun H locs ls hP hS hl => lv_dup hx hbc hdg rfl (hk _ _ _ hm H locs ls hP hS hl)
    · exact fun H locs ls hP hS hl => lv_dup hx hbc hdg rfl (hk _ _ _ hm H locs ls hP hS hl)
    · exact hm.elim
  | dup2 =>
    have hok : len = 1 := hok
    subst hok
    obtain ⟨x, r, rfl, hm1⟩ := mj_pI_e hm
    obtain ⟨y, r, rfl, hm2⟩ := mj_pR_e hm1
    exact fun H locs ls hP hS hl => lv_dup2_11 hx hbc hdg rfl rfl (hk _ _ _ hm2 H locs ls hP hS hl)
  | getfield x =>
    have hok : len = 3 ∧ mj_okF TB CL own x a b ∧ mj_tc (TY a b) = cx := hok
    obtain ⟨rfl, hF, hc⟩ := hok
    obtain ⟨q, r, rfl, hm1⟩ := mj_pR_e hm
    obtain ⟨n, hq, hm2⟩ := mj_sh_e hm1
    obtain ⟨hb, hm3⟩ := mj_if_e hm2
    have hb : b < n := by simpa using hb
    split at hm3
    · exact mj_getf X Y hF hq hb hdg (by rw [hc]; rfl) (hk _ _ _ hm3)
    · exact mj_getf X Y hF hq hb hdg (by rw [hc]; rfl) (hk _ _ _ hm3)
    · rename_i n1 n2
      refine mj_getf X Y hF hq hb hdg ?_ (hk _ _ _ hm3)
      rw [hc, mj_fvI n1 n2]
      rfl
  | putfield x =>
    have hok : len = 3 ∧ mj_okF TB CL own x a b ∧ mj_tc (TY a b) = cx ∧ cx < 4 ∧ (∃ q, CL[a]? = some q ∧ (q.2.1 b).2.2.2 = false) := hok
    obtain ⟨rfl, hF, hc, hc4, hfin⟩ := hok
    simp only [mj_ins] at hm
    split at hm
    · obtain ⟨u, r, rfl, hm1⟩ := mj_pL_e hm
      obtain ⟨q, r, rfl, hm2⟩ := mj_pR_e hm1
      obtain ⟨n, hq, hm3⟩ := mj_sh_e hm2
      obtain ⟨hb, hm4⟩ := mj_if_e hm3
      have hb : b < n := by simpa using hb
      exact mj_putf (h' := (h.1, mj_up h.2.1 q b u, h.2.2)) X Y hF hfin hq hb hdg (mj_narL hc).1 (mj_narL hc).2 (fun k => mj_fv2 (fun e => by rw [e]; exact hc)) (fun k hk y => mj_ce_up2 hk y) (hk _ _ _ hm4)
    · obtain ⟨u, r, rfl, hm5⟩ := mj_pR_e hm
      obtain ⟨q, r, rfl, hm6⟩ := mj_pR_e hm5
      obtain ⟨n, hq, hm7⟩ := mj_sh_e hm6
      obtain ⟨hb, hm8⟩ := mj_if_e hm7
      have hb : b < n := by simpa using hb
      exact mj_putf (h' := (h.1, h.2.1, mj_up h.2.2 q b u)) X Y hF hfin hq hb hdg (mj_narR hc).1 (mj_narR hc).2 (fun k => mj_fv3 (fun e => by rw [e]; exact hc)) (fun k hk y => mj_ce_up3 hk y) (hk _ _ _ hm8)
    · obtain ⟨u, r, rfl, hm9⟩ := mj_pI_e hm
      obtain ⟨q, r, rfl, hm10⟩ := mj_pR_e hm9
      obtain ⟨n, hq, hm11⟩ := mj_sh_e hm10
      obtain ⟨hb, hu, hm12⟩ := mj_if_e hm11
      have hb : b < n := by simpa using hb
      exact mj_putf (h' := (mj_up h.1 q b u, h.2.1, h.2.2)) X Y hF hfin hq hb hdg (mj_narZ hc hu).1 (mj_narZ hc hu).2 (fun k => mj_fv1 (fun e => by rw [e, hc]; decide)) (fun k hk y => mj_ce_up1 hk y) (hk _ _ _ hm12)
    · rename_i n1 n2 n3
      have hc0 : cx = 0 := by
        have a1 : cx ≠ 1 := fun z => n1 z
        have a2 : cx ≠ 2 := fun z => n2 z
        have a3 : cx ≠ 3 := fun z => n3 z
        omega
      subst hc0
      obtain ⟨u, r, rfl, hm13⟩ := mj_pI_e hm
      obtain ⟨q, r, rfl, hm14⟩ := mj_pR_e hm13
      obtain ⟨n, hq, hm15⟩ := mj_sh_e hm14
      obtain ⟨hb, hm16⟩ := mj_if_e hm15
      have hb : b < n := by simpa using hb
      exact mj_putf (h' := (mj_up h.1 q b u, h.2.1, h.2.2)) X Y hF hfin hq hb hdg (mj_narI hc).1 (mj_narI hc).2 (fun k => mj_fv1 (fun e => by rw [e, hc]; decide)) (fun k hk y => mj_ce_up1 hk y) (hk _ _ _ hm16)
  | iaload =>
    have hok : len = 1 := hok
    subst hok
    obtain ⟨y, r, rfl, hm1⟩ := mj_pI_e hm
    obtain ⟨q, r, rfl, hm2⟩ := mj_pR_e hm1
    rcases mj_ia_e hm2 with ⟨rfl, hin, hm3⟩ | ⟨n, hq, hin, hm3⟩
    · exact fun H locs ls hP hS hl => va_ti hx hbc hMO.2 hS hin rfl hdg (hk _ _ _ hm3 H locs ls hP hS hl)
    · exact fun H locs ls hP hS hl => va_iald hx hbc hK hP q 0 (mj_W_at hq) rfl hin hdg (hk _ _ _ hm3 H locs ls hP hS hl)
  | getstatic x =>
    obtain ⟨hok1, hG⟩ := hok
    have hok1 : len = 3 := hok1
    subst hok1
    rcases hG with hG | ⟨host, hG⟩
    · exact fun H locs ls hP hS hl => va_gets hx hbc hMO.1 hS hown (hts _ (mj_good_in hG rfl)) (fun _ h9 => h9) hdg (hk _ _ _ hm H locs ls hP hS hl)
    · exact fun H locs ls hP hS hl => va_getsN hx hbc hMO.1 hS hown (va_Nw.use rfl (hN _ hG rfl)) (fun _ h9 => h9) hdg (hk _ _ _ hm H locs ls hP hS hl)
  | laload =>
    have hok : len = 1 := hok
    subst hok
    obtain ⟨y, r, rfl, hm1⟩ := mj_pI_e hm
    obtain ⟨q, r, rfl, hm2⟩ := mj_pR_e hm1
    obtain ⟨n, hq, hin, hm3⟩ := mj_sh_e hm2
    exact fun H locs ls hP hS hl => va_lald hx hbc hK hP q 1 (mj_W_at hq) rfl hin hdg (hk _ _ _ hm3 H locs ls hP hS hl)
  | baload =>
    have hok : len = 1 := hok
    subst hok
    obtain ⟨y, r, rfl, hm1⟩ := mj_pI_e hm
    obtain ⟨q, r, rfl, hm2⟩ := mj_pR_e hm1
    obtain ⟨n, hq, hin, hm3⟩ := mj_sh_e hm2
    exact fun H locs ls hP hS hl => va_zald hx hbc hK hP q 2 (mj_W_at hq) rfl hin hdg (hk _ _ _ hm3 H locs ls hP hS hl)
  | iastore =>
    have hok : len = 1 := hok
    subst hok
    obtain ⟨u, r, rfl, hm1⟩ := mj_pI_e hm
    obtain ⟨y, r, rfl, hm2⟩ := mj_pI_e hm1
    obtain ⟨q, r, rfl, hm3⟩ := mj_pR_e hm2
    obtain ⟨n, hq, hin, hm4⟩ := mj_sh_e hm3
    refine fun H locs ls hP hS hl => va_iast hx hbc hK hP (mj_W_D hinj) hS q 0 (mj_W_at hq) rfl hin hdg (fun H1 locs1 g1 g2 g3 => ?_)
    rw [← mj_upq, show ((Sum.inl (T3.1, n, Sum.inl (mj_up h.1 q y.toNatClampNeg u q)) : va_E)) = mj_ce TY T3 ad (mj_up h.1 q y.toNatClampNeg u, h.2.1, h.2.2) q (0, n) from rfl, mj_W_set hq (fun k hk y => mj_ce_up1 hk y)] at g1
    exact hk _ _ _ hm4 H1 locs1 ls g1 g3 hl
  | lastore =>
    have hok : len = 1 := hok
    subst hok
    obtain ⟨u, r, rfl, hm1⟩ := mj_pL_e hm
    obtain ⟨y, r, rfl, hm2⟩ := mj_pI_e hm1
    obtain ⟨q, r, rfl, hm3⟩ := mj_pR_e hm2
    obtain ⟨n, hq, hin, hm4⟩ := mj_sh_e hm3
    refine fun H locs ls hP hS hl => va_last hx hbc hK hP (mj_W_D hinj) hS q 1 (mj_W_at hq) rfl hin hdg (fun H1 locs1 g1 g2 g3 => ?_)
    rw [← mj_upqL, show ((Sum.inl (T3.2.1, n, Sum.inr (Sum.inl (mj_up h.2.1 q y.toNatClampNeg u q))) : va_E)) = mj_ce TY T3 ad (h.1, mj_up h.2.1 q y.toNatClampNeg u, h.2.2) q (1, n) from rfl, mj_W_set hq (fun k hk y => mj_ce_up2 hk y)] at g1
    exact hk _ _ _ hm4 H1 locs1 ls g1 g3 hl
  | bastore =>
    have hok : len = 1 := hok
    subst hok
    obtain ⟨u, r, rfl, hm1⟩ := mj_pI_e hm
    obtain ⟨y, r, rfl, hm2⟩ := mj_pI_e hm1
    obtain ⟨q, r, rfl, hm3⟩ := mj_pR_e hm2
    obtain ⟨n, hq, hin, hm4⟩ := mj_sh_e hm3
    refine fun H locs ls hP hS hl => va_zast hx hbc hK hP (mj_W_D hinj) hS q 2 (mj_W_at hq) rfl hin hdg (fun H1 locs1 g1 g2 g3 => ?_)
    rw [← mj_upq, show ((Sum.inl (T3.2.2, n, Sum.inl (mj_up h.1 q y.toNatClampNeg (vp_nar .boolean u) q)) : va_E)) = mj_ce TY T3 ad (mj_up h.1 q y.toNatClampNeg (vp_nar .boolean u), h.2.1, h.2.2) q (2, n) from rfl, mj_W_set hq (fun k hk y => mj_ce_up1 hk y)] at g1
    exact hk _ _ _ hm4 H1 locs1 ls g1 g3 hl
  | goto off =>
    obtain ⟨rfl, ht⟩ := hok
    exact fun H locs ls hP hS hl => lv_goto hx hbc hdg ht (hj _ _ _ _ hm H locs ls hP hS hl)
  | ifCond o off =>
    obtain ⟨rfl, ht⟩ := hok
    obtain ⟨x, r, rfl, hm1⟩ := mj_pI_e hm
    intro H locs ls hP hS hl
    cases o with
    | eq =>
      dsimp only at hm1
      refine lv_if_eq hx hbc hdg ht (fun q => ?_) (fun q => ?_)
      · rw [if_pos q] at hm1; exact hj _ _ _ _ hm1 H locs ls hP hS hl
      · rw [if_neg q] at hm1; exact hk _ _ _ hm1 H locs ls hP hS hl
    | ne =>
      dsimp only at hm1
      refine lv_if_ne hx hbc hdg ht (fun q => ?_) (fun q => ?_)
      · rw [if_neg q] at hm1; exact hj _ _ _ _ hm1 H locs ls hP hS hl
      · rw [if_pos (by simpa using q)] at hm1; exact hk _ _ _ hm1 H locs ls hP hS hl
    | lt =>
      dsimp only at hm1
      refine lv_if_lt hx hbc hdg ht (fun q => ?_) (fun q => ?_)
      · rw [if_pos q] at hm1; exact hj _ _ _ _ hm1 H locs ls hP hS hl
      · rw [if_neg q] at hm1; exact hk _ _ _ hm1 H locs ls hP hS hl
    | ge =>
      dsimp only at hm1
      refine lv_if_ge hx hbc hdg ht (fun q => ?_) (fun q => ?_)
      · rw [if_neg (by simpa using q)] at hm1; exact hj _ _ _ _ hm1 H locs ls hP hS hl
      · rw [if_pos (by simpa using q)] at hm1; exact hk _ _ _ hm1 H locs ls hP hS hl
    | gt =>
      dsimp only at hm1
      refine lv_if_gt hx hbc hdg ht (fun q => ?_) (fun q => ?_)
      · rw [if_neg (by simpa using q)] at hm1; exact hj _ _ _ _ hm1 H locs ls hP hS hl
      · rw [if_pos (by simpa using q)] at hm1; exact hk _ _ _ hm1 H locs ls hP hS hl
    | le =>
      dsimp only at hm1
      refine lv_if_le hx hbc hdg ht (fun q => ?_) (fun q => ?_)
      · rw [if_pos q] at hm1; exact hj _ _ _ _ hm1 H locs ls hP hS hl
      · rw [if_neg q] at hm1; exact hk _ _ _ hm1 H locs ls hP hS hl
  | if_icmp o off =>
    obtain ⟨rfl, ht⟩ := hok
    obtain ⟨y, r, rfl, hm1⟩ := mj_pI_e hm
    obtain ⟨x, r, rfl, hm2⟩ := mj_pI_e hm1
    intro H locs ls hP hS hl
    cases o with
    | eq =>
      dsimp only at hm2
      refine lv_icmp_eq hx hbc hdg ht (fun q => ?_) (fun q => ?_)
      · rw [if_pos q] at hm2; exact hj _ _ _ _ hm2 H locs ls hP hS hl
      · rw [if_neg q] at hm2; exact hk _ _ _ hm2 H locs ls hP hS hl
    | ne =>
      dsimp only at hm2
      refine lv_icmp_ne hx hbc hdg ht (fun q => ?_) (fun q => ?_)
      · rw [if_neg q] at hm2; exact hj _ _ _ _ hm2 H locs ls hP hS hl
      · rw [if_pos (by simpa using q)] at hm2; exact hk _ _ _ hm2 H locs ls hP hS hl
    | lt =>
      dsimp only at hm2
      refine lv_icmp_lt hx hbc hdg ht (fun q => ?_) (fun q => ?_)
      · rw [if_pos q] at hm2; exact hj _ _ _ _ hm2 H locs ls hP hS hl
      · rw [if_neg q] at hm2; exact hk _ _ _ hm2 H locs ls hP hS hl
    | ge =>
      dsimp only at hm2
      refine lv_icmp_ge hx hbc hdg ht (fun q => ?_) (fun q => ?_)
      · rw [if_pos q] at hm2; exact hj _ _ _ _ hm2 H locs ls hP hS hl
      · rw [if_neg q] at hm2; exact hk _ _ _ hm2 H locs ls hP hS hl
    | gt =>
      dsimp only at hm2
      refine lv_icmp_gt hx hbc hdg ht (fun q => ?_) (fun q => ?_)
      · rw [if_pos q] at hm2; exact hj _ _ _ _ hm2 H locs ls hP hS hl
      · rw [if_neg q] at hm2; exact hk _ _ _ hm2 H locs ls hP hS hl
    | le =>
      dsimp only at hm2
      refine lv_icmp_le hx hbc hdg ht (fun q => ?_) (fun q => ?_)
      · rw [if_pos q] at hm2; exact hj _ _ _ _ hm2 H locs ls hP hS hl
      · rw [if_neg q] at hm2; exact hk _ _ _ hm2 H locs ls hP hS hl
  | tableswitch df lo hi offs =>
    have hok : (pc : Int) + df = (a : Int) ∧ lo + sw.length = hi + 1 ∧ ∀ k, k < sw.length → (sw.getD k (0, 0)).1.toInt = lo + k ∧ offs[k]? = some (((sw.getD k (0, 0)).2 : Int) - pc) := hok
    obtain ⟨hd, hhi, hall⟩ := hok
    obtain ⟨x, r, rfl, hm1⟩ := mj_pI_e hm
    intro H locs ls hP hS hl
    rcases mj_sw_e hm1 with ⟨h1, h2⟩ | ⟨k9, h1, h2, h3⟩
    · refine lv_tableOut hx hbc hdg ?_ hd (hj _ _ _ _ h2 H locs ls hP hS hl)
      rcases Int.lt_or_le x.toInt lo with q1 | q1
      · exact Or.inl q1
      · rcases Int.lt_or_le hi x.toInt with q2 | q2
        · exact Or.inr q2
        · exfalso
          have q3 : (x.toInt - lo).toNat < sw.length := by omega
          refine h1 _ q3 ?_
          have q4 := (hall _ q3).1
          exact Int32.toInt_inj.mp (by rw [q4]; omega)
    · have q4 := hall _ h1
      have q5 : x.toInt = lo + k9 := by rw [h2]; exact q4.1
      refine lv_tableIn hx hbc hdg (by omega) (by omega) (off := ((sw.getD k9 (0, 0)).2 : Int) - pc) ?_ (by omega) (hj _ _ _ _ h3 H locs ls hP hS hl)
      rw [show (x.toInt - lo).toNat = k9 by omega]
      exact q4.2
  | lookupswitch df ps =>
    have hok : (pc : Int) + df = (a : Int) ∧ (ps.toList.zip (ps.toList.drop 1)).all (fun (a, next) => a.1 < next.1) = true ∧ ps.toList = sw.map (fun q => (q.1.toInt, (q.2 : Int) - pc)) := hok
    obtain ⟨hd, hpp, hps⟩ := hok
    obtain ⟨x, r, rfl, hm1⟩ := mj_pI_e hm
    intro H locs ls hP hS hl
    obtain ⟨t, h1, h2⟩ := mj_sw_l (pc := pc) hm1
    refine lv_lookup hx hbc hdg hpp (off := (t : Int) - pc) ?_ (by omega) (hj _ _ _ _ h1 H locs ls hP hS hl)
    rw [hps, show df = (a : Int) - pc by omega]
    exact h2
  | invokevirtual x =>
    obtain ⟨rfl, hV⟩ := hok
    obtain ⟨hb, hrc, hrt2⟩ := mj_if_e hm
    rw [Bool.and_eq_true] at hb
    obtain ⟨q, hq, r', hF, hr'⟩ := mj_rt_e ad hrt2
    exact mj_s_virt X hV (Nat.le_of_ble_eq_true hb.1) (Nat.le_of_ble_eq_true hb.2) rfl hrc (hcal _ _ _ _ hq) hr' hdg (hk _ _ _ hF)
  | invokestatic x =>
    obtain ⟨rfl, hok⟩ := hok
    simp only [mj_ins] at hm
    split at hm
    · rename_i e9
      have e9 : a = 999 := Nat.eq_of_beq_eq_true e9
      rcases hok with ⟨-, hC⟩ | ⟨hne, -⟩
      · obtain ⟨n, r, rfl, hm1⟩ := mj_pI_e hm
        obtain ⟨dp, r, rfl, hm2⟩ := mj_pI_e hm1
        obtain ⟨y, r, rfl, hm3⟩ := mj_pR_e hm2
        obtain ⟨sp, r, rfl, hm4⟩ := mj_pI_e hm3
        obtain ⟨q, r, rfl, hm5⟩ := mj_pR_e hm4
        obtain ⟨n0, hq, hm6⟩ := mj_sh_e hm5
        obtain ⟨n1, hy, ⟨c1, c2, c3, c4, c5⟩, hm7⟩ := mj_sh_e hm6
        obtain ⟨h8, hm8⟩ := mj_if_e hm7
        obtain ⟨w1, w2, w3, w4⟩ := hC
        intro H locs ls hP hS hl
        have hfw : nativeFrameWords "java/lang/System" "arraycopy" 5 + 11 ≤ 50 := by decide +kernel
        refine va_copyi hx hbc (by rw [hml]; exact hl.1.symm) hown (hts _ (mj_good_in w1 rfl)) (hts _ (mj_good_in w2 rfl)) (hts _ (mj_good_in w3 rfl)) (hts _ (mj_good_in w4 rfl)) hK hP (mj_W_D hinj) hS q y 0 0 (mj_W_at hq) (mj_W_at hy) rfl rfl rfl c1 c2 c3 c4 c5 (fun _ _ => rfl) (by simp only [mj_rm]; omega) ?_ hdg (fun H1 locs1 g1 g2 g3 => ?_)
        · rw [mj_sz_eq]
          have := Nat.le_of_ble_eq_true h8
          simp only [mj_rm]
          omega
        · rw [← mj_cpq, show ((Sum.inl (T3.1, n1, Sum.inl (mj_cp h.1 q sp.toNatClampNeg y dp.toNatClampNeg n.toNatClampNeg y)) : va_E)) = mj_ce TY T3 ad (mj_cp h.1 q sp.toNatClampNeg y dp.toNatClampNeg n.toNatClampNeg, h.2.1, h.2.2) y (0, n1) from rfl, mj_W_set hy (fun k hk y => mj_ce_cp hk y)] at g1
          exact hk _ _ _ hm8 H1 locs1 ls g1 g3 hl
      · exact absurd e9 hne
    · rename_i e9
      rcases hok with ⟨e8, -⟩ | ⟨-, hV⟩
      · subst e8
        exact absurd e9 (by decide)
      · obtain ⟨hb, hrc, hrt2⟩ := mj_if_e hm
        rw [Bool.and_eq_true] at hb
        obtain ⟨q, hq, r', hF, hr'⟩ := mj_rt_e ad hrt2
        exact mj_s_stat X hV (Nat.le_of_ble_eq_true hb.1) (Nat.le_of_ble_eq_true hb.2) rfl (hcal _ _ _ _ hq) hr' hdg (hk _ _ _ hF)
  | return_ =>
    obtain ⟨rfl, hr⟩ := hok
    simp only [mj_ins] at hm
    split at hm
    · subst hm
      exact fun H locs ls hP hS hl => W.vret hx hbc (hrt.trans hr) (fun t ht hW => ⟨rfl, by rw [ht]; exact hP, hS.F ht⟩) hS.2.2 hdg hlocks
    · exact hm.elim
  | ireturn =>
    obtain ⟨rfl, hr⟩ := hok
    simp only [mj_ins] at hm
    split at hm
    · split at hm
      · subst hm
        exact fun H locs ls hP hS hl => W.iret hx hbc (hrt.trans hr) (fun t ht hW => ⟨rfl, by rw [ht]; exact hP, hS.F ht⟩) hS.2.2 hdg hlocks
      · rename_i n1
        obtain ⟨h01, hm1⟩ := hm
        subst hm1
        refine fun H locs ls hP hS hl => W.zret (ty := .boolean) hx hbc (hrt.trans (hr.trans ?_)) (by rcases h01 with rfl | rfl <;> rfl) (fun t ht hW => ⟨rfl, by rw [ht]; exact hP, hS.F ht⟩) hS.2.2 hdg hlocks
        show some (match a with | 0 => FieldType.int | _ => .boolean) = some .boolean
        cases a with
        | zero => exact absurd rfl n1
        | succ _ => rfl
    · exact hm.elim
  | lreturn =>
    obtain ⟨rfl, hr⟩ := hok
    simp only [mj_ins] at hm
    split at hm
    · subst hm
      exact fun H locs ls hP hS hl => W.lret hx hbc (hrt.trans hr) (fun t ht hW => ⟨rfl, by rw [ht]; exact hP, hS.F ht⟩) hS.2.2 hdg hlocks
    · exact hm.elim
  | areturn =>
    obtain ⟨rfl, n9, hr⟩ := hok
    simp only [mj_ins] at hm
    split at hm
    · subst hm
      exact fun H locs ls hP hS hl => W.aret hx hbc (hrt.trans hr) (Or.inl ⟨n9, rfl⟩) (Or.inr ⟨_, rfl⟩) (fun t ht hW => ⟨rfl, by rw [ht]; exact hP, hS.F ht⟩) hS.2.2 hdg hlocks
    · exact hm.elim
  | _ => exact hm.elim
end MJJ
