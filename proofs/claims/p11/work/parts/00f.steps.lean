/-! each instruction is sound -/
theorem mj_rc_e {S : mj_S} {ci : Nat} {as : List Value} (h : mj_rc S (ci + 1) as) : ∃ q r n, as = .ref q :: r ∧ S[q]? = some (ci + 3, n) := by
  unfold mj_rc at h
  match as, h with
  | .ref q :: r, h =>
    obtain ⟨n, h1, -⟩ := mj_sh_e h
    exact ⟨q, r, n, rfl, h1⟩
theorem mj_rt_e {c : Nat} {f : mj_R → Prop} {r : List Value} {g : mj_H} {F : List Value → mj_H → Prop} (ad : Nat → Nat) (h : mj_rt c f r g F) : ∃ q : mj_R, f q ∧ ∃ r', F r' q.2 ∧ (mj_rv ad q.1).toList ++ r.map (mj_tr ad) = r'.map (mj_tr ad) := by
  match c, h with
  | 0, h => obtain ⟨I, J, h1, h2⟩ := h; exact ⟨_, h1, _, h2, rfl⟩
  | 1, h => obtain ⟨x, I, J, h1, h2⟩ := h; exact ⟨_, h1, _, h2, rfl⟩
  | 2, h => obtain ⟨x, I, J, h1, h2⟩ := h; exact ⟨_, h1, _, h2, rfl⟩
  | _ + 3, h => obtain ⟨x, I, h1, h2⟩ := h; exact ⟨_, h1, _, h2, rfl⟩
theorem mj_sw_e {x : Int32} {d : Nat} {F : Nat → Prop} : ∀ {sw : List (Int32 × Nat)}, mj_sw sw d x F → ((∀ k, k < sw.length → x ≠ (sw.getD k (0, 0)).1) ∧ F d) ∨ ∃ k, k < sw.length ∧ x = (sw.getD k (0, 0)).1 ∧ F (sw.getD k (0, 0)).2
  | [], h => Or.inl ⟨fun k hk => absurd hk (Nat.not_lt_zero k), h⟩
  | q :: r, h => by
    unfold mj_sw at h
    by_cases e : x = q.1
    · rw [if_pos e] at h
      exact Or.inr ⟨0, Nat.succ_pos _, e, h⟩
    · rw [if_neg e] at h
      rcases mj_sw_e h with ⟨h1, h2⟩ | ⟨k, h1, h2, h3⟩
      · refine Or.inl ⟨fun k hk => ?_, h2⟩
        cases k with
        | zero => exact e
        | succ k => exact h1 k (Nat.lt_of_succ_lt_succ hk)
      · exact Or.inr ⟨k + 1, Nat.succ_lt_succ h1, h2, h3⟩
theorem mj_sw_l {x : Int32} {d pc : Nat} {F : Nat → Prop} : ∀ {sw : List (Int32 × Nat)}, mj_sw sw d x F → ∃ t : Nat, F t ∧ Op.lookupswitch.offset (sw.map (fun q => (q.1.toInt, (q.2 : Int) - pc))) ((d : Int) - pc) x.toInt = (t : Int) - pc
  | [], h => ⟨d, h, rfl⟩
  | q :: r, h => by
    unfold mj_sw at h
    by_cases e : x = q.1
    · rw [if_pos e] at h
      refine ⟨q.2, h, ?_⟩
      rw [List.map_cons, Op.lookupswitch.offset_cons, if_pos (by rw [e])]
    · rw [if_neg e] at h
      obtain ⟨t, h1, h2⟩ := mj_sw_l h
      refine ⟨t, h1, ?_⟩
      rw [List.map_cons, lv_osw e rfl]
      exact h2
section MJI
variable {p : Program} {l : Launch} {e : Env} {s : State} {m : MethodId} {args : Array Value} {below : List Frame} {meth : Method} {c : Code}
variable {TB : List Cond} {CL : List vw_C} {TY : Nat → Nat → FieldType} {MS : Nat → mj_M} {S : mj_S} {Dg : va_G} {T3 : Nat × Nat × Nat} {ad : Nat → Nat} {cc : ByteArray} {nL D : Nat} {own : String} {rr : mj_R} {rt : Option FieldType}
theorem mj_s_virt (X : mj_Cx p s m args meth c TB CL S Dg T3 ad cc nL own rt) {x n d pc : Nat} {y : mj_M} {L : mj_L} {st : List Value} {h : mj_H} {as : List Value} {q : mj_R} {r' : List Value}
    (hok : mj_okV TB CL own x y n d) (hn : n ≤ st.length) (h8 : mj_sz (st.drop n) ≤ 8) (has : as = (st.take n).reverse) (hrc : mj_rc S d as) (hM : mj_Met l TB CL TY S Dg T3 ad D y as h q) (hr' : (mj_rv ad q.1).toList ++ (st.drop n).map (mj_tr ad) = r'.map (mj_tr ad)) (hdg : decode cc pc = .ok (.invokevirtual x, 3))
    (hk : mj_Go p l e s m args below meth c CL TY S Dg T3 ad nL (D + 1) rr (pc + 3) L r' q.2) : mj_Go p l e s m args below meth c CL TY S Dg T3 ad nL (D + 1) rr pc L st h := by
  obtain ⟨hlk, hin, hsel, ⟨ci, T, N, rfl, hcl⟩, ⟨kn, rfl, hpar⟩, hY⟩ := hok
  obtain ⟨q0, as', n0, e0, hq0⟩ := mj_rc_e hrc
  have e1 : st = as'.reverse ++ .ref q0 :: st.drop (kn + 1) := by
    have e2 : st.take (kn + 1) = as.reverse := by rw [has, List.reverse_reverse]
    calc st = st.take (kn + 1) ++ st.drop (kn + 1) := (List.take_append_drop _ _).symm
      _ = as'.reverse ++ .ref q0 :: st.drop (kn + 1) := by rw [e2, e0]; simp
  have hlen : as'.length = kn := by
    have h1 : as.length = kn + 1 := by rw [has, List.length_reverse, List.length_take, Nat.min_eq_left hn]
    rw [e0] at h1
    simpa using h1
  subst e0
  intro H locs ls hP hS hl
  obtain ⟨hx, hbc, hml, hown, hts, hK, hN, hinj, -⟩ := id X
  have he := mj_W_at (TY := TY) (T3 := T3) (ad := ad) (h := h) hq0
  have hpre : PreV s H y.1.cls (ad q0) (mj_Pc TB CL TY S Dg T3 ad (.ref q0 :: as') h H.size) (as'.map (mj_tr ad)) := ⟨mj_blind, va_recv hK hP hcl he, mj_pre (z := y) X hP hS⟩
  have hst : st.map (mj_tr ad) = (as'.map (mj_tr ad)).reverse ++ .ref (ad q0) :: (st.drop (kn + 1)).map (mj_tr ad) := by
    conv => lhs; rw [e1]
    rw [List.map_append, List.map_reverse]
    rfl
  have h9 : 2 * (F0 m pc ls (st.map (mj_tr ad))).monitorRoom + (((st.drop (kn + 1)).map (mj_tr ad)).map fun v => v.category).sum ≤ 8 := lv_room (by rw [mj_sz_eq]; exact h8)
  have hn' : (as'.map (mj_tr ad)).length = kn := by rw [List.length_map]; exact hlen
  have hY2 := hY
  obtain ⟨hco, hini, hmx, hpl, hnm1, hnm2⟩ := hY2
  rcases hlk with hlk | ⟨host, hlk⟩
  · have hT : GoodIn (TB.filter goodWord) (wsV own x y.1.cls y.1 (mj_ws TB y)) := by
      intro w hw
      rcases List.mem_append.mp hw with hw | hw
      · simp only [List.mem_cons, List.not_mem_nil, or_false] at hw
        rcases hw with rfl | rfl | rfl | rfl
        · exact ⟨mj_good_in hlk rfl, good_of_word rfl⟩
        · exact ⟨mj_good_in hin rfl, good_of_word rfl⟩
        · exact ⟨mj_good_in hsel rfl, good_of_word rfl⟩
        · exact ⟨mj_good_in hini rfl, good_of_word rfl⟩
      · exact mj_goodIn hY w hw
    refine mj_back (va_runV (As := as'.map (mj_tr ad)) (rest := (st.drop (kn + 1)).map (mj_tr ad)) ⟨hx, hbc, hml, hown, hts⟩ (hM H.size) (cwV kn hts hT rfl rfl rfl ⟨rfl, hnm1, hnm2, hpar⟩ (mj_room hmx)) hpre rfl hn' hl.1 hst h9 hdg ⟨by simp [mj_rm], by simp [mj_rm]⟩) hS (fun H1 locs1 hP1 hS1 => ?_)
    rw [hr']
    exact hk H1 locs1 ls hP1 hS1 hl
  · refine mj_back (va_runVN (As := as'.map (mj_tr ad)) (rest := (st.drop (kn + 1)).map (mj_tr ad)) ⟨hx, hbc, hml, hown, hts⟩ (hM H.size) ⟨va_cnB kn hts (mj_goodIn hY) rfl rfl rfl (hN _ hlk rfl) (hts _ (mj_good_in hini rfl)) ⟨hnm1, hnm2, hpar⟩ (mj_room hmx), hts _ (mj_good_in hin rfl), hts _ (mj_good_in hsel rfl)⟩ hpre rfl hn' hl.1 hst h9 hdg ⟨by simp [mj_rm], by simp [mj_rm]⟩) hS (fun H1 locs1 hP1 hS1 => ?_)
    rw [hr']
    exact hk H1 locs1 ls hP1 hS1 hl
theorem mj_s_stat (X : mj_Cx p s m args meth c TB CL S Dg T3 ad cc nL own rt) {x n pc : Nat} {y : mj_M} {L : mj_L} {st : List Value} {h : mj_H} {as : List Value} {q : mj_R} {r' : List Value}
    (hok : mj_okS TB own x y n) (hn : n ≤ st.length) (h8 : mj_sz (st.drop n) ≤ 8) (has : as = (st.take n).reverse) (hM : mj_Met l TB CL TY S Dg T3 ad D y as h q) (hr' : (mj_rv ad q.1).toList ++ (st.drop n).map (mj_tr ad) = r'.map (mj_tr ad)) (hdg : decode cc pc = .ok (.invokestatic x, 3))
    (hk : mj_Go p l e s m args below meth c CL TY S Dg T3 ad nL (D + 1) rr (pc + 3) L r' q.2) : mj_Go p l e s m args below meth c CL TY S Dg T3 ad nL (D + 1) rr pc L st h := by
  obtain ⟨hlk, hsta, hpar, hY⟩ := hok
  have e1 : st = as.reverse ++ st.drop n := by rw [has, List.reverse_reverse, List.take_append_drop]
  have hlen : as.length = n := by rw [has, List.length_reverse, List.length_take, Nat.min_eq_left hn]
  intro H locs ls hP hS hl
  obtain ⟨hx, hbc, hml, hown, hts, hK, hN, hinj, -⟩ := id X
  have hpre : PreS s H (mj_Pc TB CL TY S Dg T3 ad as h H.size) (as.map (mj_tr ad)) := ⟨mj_blind, mj_pre (z := y) X hP hS⟩
  have hst : st.map (mj_tr ad) = (as.map (mj_tr ad)).reverse ++ (st.drop n).map (mj_tr ad) := by
    conv => lhs; rw [e1]
    rw [List.map_append, List.map_reverse]
  have h9 : 2 * (F0 m pc ls (st.map (mj_tr ad))).monitorRoom + (((st.drop n).map (mj_tr ad)).map fun v => v.category).sum ≤ 8 := lv_room (by rw [mj_sz_eq]; exact h8)
  have hn' : (as.map (mj_tr ad)).length = n := by rw [List.length_map]; exact hlen
  have hY2 := hY
  obtain ⟨hco, hini, hmx, hpl, hnm1, hnm2⟩ := hY2
  rcases hlk with hlk | ⟨host, hlk⟩
  · have hT : GoodIn (TB.filter goodWord) (va_wsS own x y.1 (mj_ws TB y)) := by
      intro w hw
      rcases List.mem_append.mp hw with hw | hw
      · simp only [List.mem_cons, List.not_mem_nil, or_false] at hw
        rcases hw with rfl | rfl | rfl
        · exact ⟨mj_good_in hlk rfl, good_of_word rfl⟩
        · exact ⟨mj_good_in hsta rfl, good_of_word rfl⟩
        · exact ⟨mj_good_in hini rfl, good_of_word rfl⟩
      · exact mj_goodIn hY w hw
    refine mj_back (va_runS (As := as.map (mj_tr ad)) (rest := (st.drop n).map (mj_tr ad)) ⟨hx, hbc, hml, hown, hts⟩ (hM H.size) (va_cwS n hts hT rfl rfl rfl ⟨hnm1, hnm2, hpar⟩ (mj_room hmx)) hpre rfl hn' hl.1 hst h9 hdg ⟨by simp [mj_rm], by simp [mj_rm]⟩) hS (fun H1 locs1 hP1 hS1 => ?_)
    rw [hr']
    exact hk H1 locs1 ls hP1 hS1 hl
  · refine mj_back (va_runSN (As := as.map (mj_tr ad)) (rest := (st.drop n).map (mj_tr ad)) ⟨hx, hbc, hml, hown, hts⟩ (hM H.size) ⟨va_cnB n hts (mj_goodIn hY) rfl rfl rfl (hN _ hlk rfl) (hts _ (mj_good_in hini rfl)) ⟨hnm1, hnm2, hpar⟩ (mj_room hmx), hts _ (mj_good_in hsta rfl), trivial⟩ hpre rfl hn' hl.1 hst h9 hdg ⟨by simp [mj_rm], by simp [mj_rm]⟩) hS (fun H1 locs1 hP1 hS1 => ?_)
    rw [hr']
    exact hk H1 locs1 ls hP1 hS1 hl
end MJI
