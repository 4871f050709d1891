/-! the law's walk: calls on two worlds that lie beside each other -/
section LWK
variable {p : Program} {l : Launch} {e : Env} {s : State} {m : MethodId} {below : List Frame} {meth : Method} {c : Code} {b L : Nat} {xs : Nat → Int32}
variable {Dg : va_G} {T3 : Nat × Nat × Nat} {CC SS : Nat}
theorem lw_keep {S S' : mj_S} {ad ad' : Nat → Nat} {g' : mj_H} {H H1 : Heap} (hP2 : va_P Dg mj_CL (mj_W S' mj_TY T3 ad' g') H) (hdis : ∀ i j, i < S.length → j < S'.length → ad i ≠ ad' j) (hk : ∀ q : Nat, q < H.size → ¬ mj_A ad S.length H.size q → H1[q]? = H[q]?) : va_P Dg mj_CL (mj_W S' mj_TY T3 ad' g') H1 := by
  refine hP2.kept (fun k q hq => ?_)
  have hlt := (hP2 k q hq).lt
  obtain ⟨h1, e1⟩ := mj_W_inv hq
  refine hk _ hlt ?_
  rintro (⟨i, hi, e2⟩ | h)
  · rw [e1] at e2
    exact hdis i k hi h1 e2.symm
  · omega
theorem lw_call {S S' : mj_S} {ad ad' : Nat → Nat} {g g' : mj_H} {x n d pc : Nat} {y : mj_M} {as rest : List Value} {q : mj_R} {H : Heap} {locs : List Loc} {ls : Array Slot}
    (hx : p.tables.exec = Jvm.exec) (hb : c.code = code) (hml : c.maxLocals = 4) (hown : s.vm.findClass R_law = some m.cls) (hts : ∀ w ∈ lw_tbl, w.before #[Value.ref b] s = true) (hK : va_K Dg mj_CL (mj_tys T3) s) (hMO : mj_MO ad (fun q => s.heap.size ≤ q) s s.heap)
    (hdis : ∀ i j, i < S.length → j < S'.length → ad i ≠ ad' j) (hnew : ∀ i, i < S.length → s.heap.size ≤ ad i)
    (hok : mj_okV lw_tbl mj_CL R_law x y (n + 1) d) (hrc : mj_rc S d (.ref 0 :: as)) (hM : mj_Met l lw_tbl mj_CL mj_TY S Dg T3 ad 900 y (.ref 0 :: as) g q) (hlen : as.length = n) (h8 : (rest.map fun v => v.category).sum ≤ 8) (hdg : decode code pc = .ok (.invokevirtual x, 3))
    (hcc : CC ≤ 600000 ∧ SS ≤ 7302250) (hP : va_P Dg mj_CL (mj_W S mj_TY T3 ad g) H) (hP2 : va_P Dg mj_CL (mj_W S' mj_TY T3 ad' g') H) (hS : va_S (fun q : Nat => s.heap.size ≤ q) s.heap H locs) (hl : ls.size = 4)
    (kk : ∀ (H1 : Heap) (locs1 : List Loc), va_P Dg mj_CL (mj_W S mj_TY T3 ad q.2) H1 → va_P Dg mj_CL (mj_W S' mj_TY T3 ad' g') H1 → va_S (fun q : Nat => s.heap.size ≤ q) s.heap H1 locs1 → W p l e room_1 s m #[Value.ref b] below meth c H1 locs1 CC SS (lw_Z below #[Value.ref b] s) (F0 m (pc + 3) ls ((mj_rv ad q.1).toList ++ rest))) :
    W p l e room_1 s m #[Value.ref b] below meth c H locs CC SS (lw_Z below #[Value.ref b] s) (F0 m pc ls ((as.map (mj_tr ad)).reverse ++ .ref (ad 0) :: rest)) := by
  obtain ⟨hlk, hin, hsel, ⟨ci, T, N, rfl, hcl⟩, ⟨kn, hkn, hpar⟩, hY⟩ := hok
  have hkn : n = kn := Nat.succ.inj hkn
  subst hkn
  obtain ⟨q0, as', n0, e0, hq0⟩ := mj_rc_e hrc
  cases e0
  have hts2 : ∀ w ∈ lw_tbl.filter goodWord, w.before #[Value.ref b] s = true := fun w hw => hts w (List.mem_filter.mp hw).1
  have hN : ∀ w ∈ lw_tbl, mj_nest w = true → va_Nw w s := by
    intro w hw hn
    have h1 := hts w hw
    cases w <;> first | exact va_Nw.of rfl h1 | exact absurd (show false = true from hn) (by decide)
  have he := mj_W_at (TY := mj_TY) (T3 := T3) (ad := ad) (h := g) hq0
  have hA : ∀ q : Nat, mj_A ad S.length H.size q → s.heap.size ≤ q := by
    rintro q (⟨i, hi, rfl⟩ | h)
    · exact hnew i hi
    · exact Nat.le_trans hS.1 h
  have hpre : PreV s H y.1.cls (ad 0) (mj_Pc lw_tbl mj_CL mj_TY S Dg T3 ad (.ref 0 :: as) g H.size) (as.map (mj_tr ad)) :=
    ⟨mj_blind, va_recv hK hP hcl he, fun U hU hW => ⟨rfl, by rw [hU], by rw [hU]; exact hP, va_K.moved hW.alike hK, mj_nw hW hN, by rw [hU]; exact mj_MO.moved hW.alike ((hMO.kept hS.2.1).narrow hA)⟩⟩
  have h9 : 2 * (F0 m pc ls ((as.map (mj_tr ad)).reverse ++ .ref (ad 0) :: rest)).monitorRoom + (rest.map fun v => v.category).sum ≤ 8 := lv_room h8
  have hn' : (as.map (mj_tr ad)).length = n := by rw [List.length_map]; exact hlen
  have hY2 := hY
  obtain ⟨hco, hini, hmx, hpl, hnm1, hnm2⟩ := hY2
  have hR : (mj_rm 900).frames + 1 ≤ room_1.frames ∧ 8 + (y.2.2.1 + 11) + (mj_rm 900).locals ≤ room_1.locals := by
    simp only [mj_rm, room_1]
    omega
  have back : ∀ hr : va_Run p l e room_1 s m #[Value.ref b] below meth c H locs CC SS 0 0 (F0 m pc ls ((as.map (mj_tr ad)).reverse ++ .ref (ad 0) :: rest)) rest (mj_Qc mj_CL mj_TY S Dg T3 ad q H.size ((Value.ref (ad 0) :: as.map (mj_tr ad)).toArray)) (mj_A ad S.length H.size),
      W p l e room_1 s m #[Value.ref b] below meth c H locs CC SS (lw_Z below #[Value.ref b] s) (F0 m pc ls ((as.map (mj_tr ad)).reverse ++ .ref (ad 0) :: rest)) := by
    intro hr T hT X
    obtain ⟨v, st₀, t, T', L, h0, X', hL, e1, e2, ⟨hv, hp, hz, hk⟩, st⟩ := hr T hT X
    cases hv
    rw [h0] at hz hk
    obtain ⟨t2, a1, b1⟩ := kk T'.heap (locs ++ L) (by rw [e1]; exact hp) (lw_keep hP2 hdis (fun q h1 h2 => by rw [e1]; exact hk q h1 h2))
      ⟨Nat.le_trans hS.1 (by rw [e1]; exact hz), fun q h1 h2 => by rw [e1, hk q (Nat.lt_of_lt_of_le h1 hS.1) (fun z => h2 (hA q z))]; exact hS.2.1 q h1 h2, fun q hq => by
        rcases List.mem_append.mp hq with h | h
        · exact hS.2.2 q h
        · exact hA _ (hL q h)⟩ T' rfl X'
    exact ⟨t2, st t2 a1, b1⟩
  rcases hlk with hlk | ⟨host, hlk⟩
  · have hT : GoodIn (lw_tbl.filter goodWord) (wsV R_law x y.1.cls y.1 (mj_ws lw_tbl y)) := by
      intro w hw
      rcases List.mem_append.mp hw with hw | hw
      · simp only [List.mem_cons, List.not_mem_nil, or_false] at hw
        rcases hw with rfl | rfl | rfl | rfl
        · exact ⟨mj_good_in hlk rfl, good_of_word rfl⟩
        · exact ⟨mj_good_in hin rfl, good_of_word rfl⟩
        · exact ⟨mj_good_in hsel rfl, good_of_word rfl⟩
        · exact ⟨mj_good_in hini rfl, good_of_word rfl⟩
      · exact mj_goodIn hY w hw
    exact back (va_runV (As := as.map (mj_tr ad)) (rest := rest) ⟨hx, hb, hml, hown, hts2⟩ (hM H.size) (cwV n hts2 hT rfl rfl rfl ⟨rfl, hnm1, hnm2, hpar⟩ hR) hpre rfl hn' hl rfl h9 hdg ⟨hcc.1, hcc.2⟩)
  · exact back (va_runVN (As := as.map (mj_tr ad)) (rest := rest) ⟨hx, hb, hml, hown, hts2⟩ (hM H.size) ⟨va_cnB n hts2 (mj_goodIn hY) rfl rfl rfl (hN _ hlk rfl) (hts2 _ (mj_good_in hini rfl)) ⟨hnm1, hnm2, hpar⟩ hR, hts2 _ (mj_good_in hin rfl), hts2 _ (mj_good_in hsel rfl)⟩ hpre rfl hn' hl rfl h9 hdg ⟨hcc.1, hcc.2⟩)
end LWK
