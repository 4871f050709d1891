/-! what stays, when some parts of the state change -/
def mkI (D : List Nat) (E : List (Nat × Nat)) (I : Nat → Nat → Int32) : Nat → Nat → Int32 := fun q j => if D.elem q || E.elem (q, j) then 0 else I q j
def mkJ (D : List Nat) (E : List (Nat × Nat)) (J : Nat → Nat → Int64) : Nat → Nat → Int64 := fun q j => if D.elem q || E.elem (q, j) then 0 else J q j
theorem mkI_of {D : List Nat} {E : List (Nat × Nat)} {I I' : Nat → Nat → Int32} (h : ∀ q j, D.elem q = false → E.elem (q, j) = false → I' q j = I q j) : mkI D E I' = mkI D E I := by
  funext q j
  unfold mkI
  cases h1 : D.elem q with
  | true => rfl
  | false =>
    cases h2 : E.elem (q, j) with
    | true => rfl
    | false =>
      show (if (false || false) = true then 0 else I' q j) = (if (false || false) = true then 0 else I q j)
      rw [h q j h1 h2]
theorem mkJ_of {D : List Nat} {E : List (Nat × Nat)} {I I' : Nat → Nat → Int64} (h : ∀ q j, D.elem q = false → E.elem (q, j) = false → I' q j = I q j) : mkJ D E I' = mkJ D E I := by
  funext q j
  unfold mkJ
  cases h1 : D.elem q with
  | true => rfl
  | false =>
    cases h2 : E.elem (q, j) with
    | true => rfl
    | false =>
      show (if (false || false) = true then 0 else I' q j) = (if (false || false) = true then 0 else I q j)
      rw [h q j h1 h2]
theorem mkI_up {D : List Nat} {E : List (Nat × Nat)} {I : Nat → Nat → Int32} {q j : Nat} {v : Int32} (h : (D.elem q || E.elem (q, j)) = true) : mkI D E (mj_up I q j v) = mkI D E I := by
  funext a c
  unfold mkI
  by_cases e : a = q ∧ c = j
  · rw [e.1, e.2, h]; rfl
  · rw [up_n (by omega)]
theorem mkJ_up {D : List Nat} {E : List (Nat × Nat)} {I : Nat → Nat → Int64} {q j : Nat} {v : Int64} (h : (D.elem q || E.elem (q, j)) = true) : mkJ D E (mj_up I q j v) = mkJ D E I := by
  funext a c
  unfold mkJ
  by_cases e : a = q ∧ c = j
  · rw [e.1, e.2, h]; rfl
  · rw [up_n (by omega)]
theorem elem_app {α : Type} [BEq α] {a : α} : ∀ {l m : List α}, (l ++ m).elem a = (l.elem a || m.elem a)
  | [], m => by simp
  | x :: l, m => by
    have ih := elem_app (a := a) (l := l) (m := m)
    show (match a == x with | true => true | false => (l ++ m).elem a) = ((match a == x with | true => true | false => l.elem a) || m.elem a)
    cases a == x with
    | true => rfl
    | false => exact ih
theorem mkI_k1 {D : List Nat} {E : List (Nat × Nat)} {I I' : Nat → Nat → Int32} (h : k1 I' = k1 I) : mkI (D ++ sc1) (E ++ sl1) I' = mkI (D ++ sc1) (E ++ sl1) I := by
  refine mkI_of fun q j h1 h2 => ?_
  refine k1_at h ?_
  unfold co1
  rw [elem_app] at h1 h2
  simp only [Bool.or_eq_false_iff] at h1 h2
  rw [h1.2, h2.2]
  rfl
theorem mkI_k2 {D : List Nat} {E : List (Nat × Nat)} {I I' : Nat → Nat → Int32} (h : k2 I' = k2 I) : mkI (D ++ sc2) (E ++ sl2) I' = mkI (D ++ sc2) (E ++ sl2) I := by
  refine mkI_of fun q j h1 h2 => ?_
  refine k2_at h ?_
  unfold co2
  rw [elem_app] at h1 h2
  simp only [Bool.or_eq_false_iff] at h1 h2
  rw [h1.2, h2.2]
  rfl
def rsG (b W Rn Kn Tn Hn Un g : Nat) (I1 : Nat → Nat → Int32) (J1 : Nat → Nat → Int64) (I2 : Nat → Nat → Int32) (J2 : Nat → Nat → Int64) : Prop := I2 0 12 = nI b ∧ Tl 1 b W Rn Kn Tn Hn Un I1 I2 J2 ∧ rlT I1 I2 ∧ rlF I1 I2 ∧ rlW W Rn I1 J1 ∧ rlH W I1 I2 J1 ∧ rlK I1 I2 ∧ rlS Rn I1 I2 ∧ rlP W I1 I2 J1 J2 ∧ rlC J1 J2 ∧ rlO I1 ∧ rlZ W Hn Un I1 J1
set_option maxRecDepth 100000 in
theorem rsG_m {b W Rn Kn Tn Hn Un g : Nat} {I1 I2 : Nat → Nat → Int32} {J1 J2 : Nat → Nat → Int64} : rsG b W Rn Kn Tn Hn Un g (mkI ([51, 52] ++ sc1) ([] ++ sl1) I1) (mkJ ([] ++ scJ1) [] J1) (mkI ([] ++ sc2) ([(0, 63)] ++ sl2) I2) (mkJ ([] ++ scJ2) slJ2 J2) = rsG b W Rn Kn Tn Hn Un g I1 J1 I2 J2 := rfl
theorem Rl_G {b W Rn Kn Tn Hn Un g : Nat} {I1 I1' I2 I2' : Nat → Nat → Int32} {J1 J1' J2 J2' : Nat → Nat → Int64} {g' : Nat} (h : Rl b W Rn Kn Tn Hn Un g I1 J1 I2 J2) (e1 : mkI ([51, 52] ++ sc1) ([] ++ sl1) I1' = mkI ([51, 52] ++ sc1) ([] ++ sl1) I1) (e2 : mkJ ([] ++ scJ1) [] J1' = mkJ ([] ++ scJ1) [] J1) (e3 : mkI ([] ++ sc2) ([(0, 63)] ++ sl2) I2' = mkI ([] ++ sc2) ([(0, 63)] ++ sl2) I2) (e4 : mkJ ([] ++ scJ2) slJ2 J2' = mkJ ([] ++ scJ2) slJ2 J2) (hG : rlG W g' I1' I2') : Rl b W Rn Kn Tn Hn Un g' I1' J1' I2' J2' := by
  obtain ⟨ab0, aTl, aT, aF, aW, aH, aG, aK, aS, aP, aC, aO, aZ⟩ := h
  have r : rsG b W Rn Kn Tn Hn Un g I1' J1' I2' J2' := by
    rw [← rsG_m, e1, e2, e3, e4, rsG_m]
    exact ⟨ab0, aTl, aT, aF, aW, aH, aK, aS, aP, aC, aO, aZ⟩
  obtain ⟨cb0, cTl, cT, cF, cW, cH, cK, cS, cP, cC, cO, cZ⟩ := r
  exact ⟨cb0, cTl, cT, cF, cW, cH, hG, cK, cS, cP, cC, cO, cZ⟩
def rsK (b W Rn Kn Tn Hn Un g : Nat) (I1 : Nat → Nat → Int32) (J1 : Nat → Nat → Int64) (I2 : Nat → Nat → Int32) (J2 : Nat → Nat → Int64) : Prop := I2 0 12 = nI b ∧ Tl 1 b W Rn Kn Tn Hn Un I1 I2 J2 ∧ rlT I1 I2 ∧ rlF I1 I2 ∧ rlW W Rn I1 J1 ∧ rlH W I1 I2 J1 ∧ rlG W g I1 I2 ∧ rlS Rn I1 I2 ∧ rlP W I1 I2 J1 J2 ∧ rlC J1 J2 ∧ rlO I1 ∧ rlZ W Hn Un I1 J1
set_option maxRecDepth 100000 in
theorem rsK_m {b W Rn Kn Tn Hn Un g : Nat} {I1 I2 : Nat → Nat → Int32} {J1 J2 : Nat → Nat → Int64} : rsK b W Rn Kn Tn Hn Un g (mkI ([50] ++ sc1) ([(47, 4)] ++ sl1) I1) (mkJ ([] ++ scJ1) [] J1) (mkI ([41] ++ sc2) ([(0, 65)] ++ sl2) I2) (mkJ ([] ++ scJ2) slJ2 J2) = rsK b W Rn Kn Tn Hn Un g I1 J1 I2 J2 := rfl
theorem Rl_K {b W Rn Kn Tn Hn Un g : Nat} {I1 I1' I2 I2' : Nat → Nat → Int32} {J1 J1' J2 J2' : Nat → Nat → Int64} (h : Rl b W Rn Kn Tn Hn Un g I1 J1 I2 J2) (e1 : mkI ([50] ++ sc1) ([(47, 4)] ++ sl1) I1' = mkI ([50] ++ sc1) ([(47, 4)] ++ sl1) I1) (e2 : mkJ ([] ++ scJ1) [] J1' = mkJ ([] ++ scJ1) [] J1) (e3 : mkI ([41] ++ sc2) ([(0, 65)] ++ sl2) I2' = mkI ([41] ++ sc2) ([(0, 65)] ++ sl2) I2) (e4 : mkJ ([] ++ scJ2) slJ2 J2' = mkJ ([] ++ scJ2) slJ2 J2) (hK : rlK I1' I2') : Rl b W Rn Kn Tn Hn Un g I1' J1' I2' J2' := by
  obtain ⟨ab0, aTl, aT, aF, aW, aH, aG, aK, aS, aP, aC, aO, aZ⟩ := h
  have r : rsK b W Rn Kn Tn Hn Un g I1' J1' I2' J2' := by
    rw [← rsK_m, e1, e2, e3, e4, rsK_m]
    exact ⟨ab0, aTl, aT, aF, aW, aH, aG, aS, aP, aC, aO, aZ⟩
  obtain ⟨cb0, cTl, cT, cF, cW, cH, cG, cS, cP, cC, cO, cZ⟩ := r
  exact ⟨cb0, cTl, cT, cF, cW, cH, cG, hK, cS, cP, cC, cO, cZ⟩
def rsS (b W Rn Kn Tn Hn Un g : Nat) (I1 : Nat → Nat → Int32) (J1 : Nat → Nat → Int64) (I2 : Nat → Nat → Int32) (J2 : Nat → Nat → Int64) : Prop := I2 0 12 = nI b ∧ Tl 1 b W Rn Kn Tn Hn Un I1 I2 J2 ∧ rlT I1 I2 ∧ rlF I1 I2 ∧ rlW W Rn I1 J1 ∧ rlH W I1 I2 J1 ∧ rlG W g I1 I2 ∧ rlK I1 I2 ∧ rlP W I1 I2 J1 J2 ∧ rlC J1 J2 ∧ rlO I1 ∧ rlZ W Hn Un I1 J1
set_option maxRecDepth 100000 in
theorem rsS_m {b W Rn Kn Tn Hn Un g : Nat} {I1 I2 : Nat → Nat → Int32} {J1 J2 : Nat → Nat → Int64} : rsS b W Rn Kn Tn Hn Un g (mkI ([54, 55] ++ sc1) ([(53, 0)] ++ sl1) I1) (mkJ ([] ++ scJ1) [] J1) (mkI ([43, 44] ++ sc2) ([(0, 68)] ++ sl2) I2) (mkJ ([] ++ scJ2) slJ2 J2) = rsS b W Rn Kn Tn Hn Un g I1 J1 I2 J2 := rfl
theorem Rl_S {b W Rn Kn Tn Hn Un g : Nat} {I1 I1' I2 I2' : Nat → Nat → Int32} {J1 J1' J2 J2' : Nat → Nat → Int64} (h : Rl b W Rn Kn Tn Hn Un g I1 J1 I2 J2) (e1 : mkI ([54, 55] ++ sc1) ([(53, 0)] ++ sl1) I1' = mkI ([54, 55] ++ sc1) ([(53, 0)] ++ sl1) I1) (e2 : mkJ ([] ++ scJ1) [] J1' = mkJ ([] ++ scJ1) [] J1) (e3 : mkI ([43, 44] ++ sc2) ([(0, 68)] ++ sl2) I2' = mkI ([43, 44] ++ sc2) ([(0, 68)] ++ sl2) I2) (e4 : mkJ ([] ++ scJ2) slJ2 J2' = mkJ ([] ++ scJ2) slJ2 J2) (hS : rlS Rn I1' I2') : Rl b W Rn Kn Tn Hn Un g I1' J1' I2' J2' := by
  obtain ⟨ab0, aTl, aT, aF, aW, aH, aG, aK, aS, aP, aC, aO, aZ⟩ := h
  have r : rsS b W Rn Kn Tn Hn Un g I1' J1' I2' J2' := by
    rw [← rsS_m, e1, e2, e3, e4, rsS_m]
    exact ⟨ab0, aTl, aT, aF, aW, aH, aG, aK, aP, aC, aO, aZ⟩
  obtain ⟨cb0, cTl, cT, cF, cW, cH, cG, cK, cP, cC, cO, cZ⟩ := r
  exact ⟨cb0, cTl, cT, cF, cW, cH, cG, cK, hS, cP, cC, cO, cZ⟩
def rsP (b W Rn Kn Tn Hn Un g : Nat) (I1 : Nat → Nat → Int32) (J1 : Nat → Nat → Int64) (I2 : Nat → Nat → Int32) (J2 : Nat → Nat → Int64) : Prop := I2 0 12 = nI b ∧ Tl 1 b W Rn Kn Tn Hn Un I1 I2 J2 ∧ rlT I1 I2 ∧ rlF I1 I2 ∧ rlW W Rn I1 J1 ∧ rlH W I1 I2 J1 ∧ rlG W g I1 I2 ∧ rlK I1 I2 ∧ rlS Rn I1 I2 ∧ rlC J1 J2 ∧ rlO I1 ∧ rlZ W Hn Un I1 J1
set_option maxRecDepth 100000 in
theorem rsP_m {b W Rn Kn Tn Hn Un g : Nat} {I1 I2 : Nat → Nat → Int32} {J1 J2 : Nat → Nat → Int64} : rsP b W Rn Kn Tn Hn Un g (mkI ([59, 60] ++ sc1) ([] ++ sl1) I1) (mkJ ([61] ++ scJ1) [] J1) (mkI ([48] ++ sc2) ([] ++ sl2) I2) (mkJ ([49] ++ scJ2) slJ2 J2) = rsP b W Rn Kn Tn Hn Un g I1 J1 I2 J2 := rfl
theorem Rl_P {b W Rn Kn Tn Hn Un g : Nat} {I1 I1' I2 I2' : Nat → Nat → Int32} {J1 J1' J2 J2' : Nat → Nat → Int64} (h : Rl b W Rn Kn Tn Hn Un g I1 J1 I2 J2) (e1 : mkI ([59, 60] ++ sc1) ([] ++ sl1) I1' = mkI ([59, 60] ++ sc1) ([] ++ sl1) I1) (e2 : mkJ ([61] ++ scJ1) [] J1' = mkJ ([61] ++ scJ1) [] J1) (e3 : mkI ([48] ++ sc2) ([] ++ sl2) I2' = mkI ([48] ++ sc2) ([] ++ sl2) I2) (e4 : mkJ ([49] ++ scJ2) slJ2 J2' = mkJ ([49] ++ scJ2) slJ2 J2) (hP : rlP W I1' I2' J1' J2') : Rl b W Rn Kn Tn Hn Un g I1' J1' I2' J2' := by
  obtain ⟨ab0, aTl, aT, aF, aW, aH, aG, aK, aS, aP, aC, aO, aZ⟩ := h
  have r : rsP b W Rn Kn Tn Hn Un g I1' J1' I2' J2' := by
    rw [← rsP_m, e1, e2, e3, e4, rsP_m]
    exact ⟨ab0, aTl, aT, aF, aW, aH, aG, aK, aS, aC, aO, aZ⟩
  obtain ⟨cb0, cTl, cT, cF, cW, cH, cG, cK, cS, cC, cO, cZ⟩ := r
  exact ⟨cb0, cTl, cT, cF, cW, cH, cG, cK, cS, hP, cC, cO, cZ⟩
def rsH (b W Rn Kn Tn Hn Un g : Nat) (I1 : Nat → Nat → Int32) (J1 : Nat → Nat → Int64) (I2 : Nat → Nat → Int32) (J2 : Nat → Nat → Int64) : Prop := I2 0 12 = nI b ∧ Tl 1 b W Rn Kn Tn Hn Un I1 I2 J2 ∧ rlT I1 I2 ∧ rlF I1 I2 ∧ rlW W Rn I1 J1 ∧ rlG W g I1 I2 ∧ rlK I1 I2 ∧ rlS Rn I1 I2 ∧ rlP W I1 I2 J1 J2 ∧ rlC J1 J2 ∧ rlO I1
set_option maxRecDepth 100000 in
theorem rsH_m {b W Rn Kn Tn Hn Un g : Nat} {I1 I2 : Nat → Nat → Int32} {J1 J2 : Nat → Nat → Int64} : rsH b W Rn Kn Tn Hn Un g (mkI ([39, 44, 45] ++ sc1) ([(38, 0), (38, 1), (0, 9)] ++ sl1) I1) (mkJ ([40, 46] ++ scJ1) [] J1) (mkI ([37, 38, 39] ++ sc2) ([(0, 58), (0, 59)] ++ sl2) I2) (mkJ ([] ++ scJ2) slJ2 J2) = rsH b W Rn Kn Tn Hn Un g I1 J1 I2 J2 := rfl
theorem Rl_H {b W Rn Kn Tn Hn Un g : Nat} {I1 I1' I2 I2' : Nat → Nat → Int32} {J1 J1' J2 J2' : Nat → Nat → Int64} (h : Rl b W Rn Kn Tn Hn Un g I1 J1 I2 J2) (e1 : mkI ([39, 44, 45] ++ sc1) ([(38, 0), (38, 1), (0, 9)] ++ sl1) I1' = mkI ([39, 44, 45] ++ sc1) ([(38, 0), (38, 1), (0, 9)] ++ sl1) I1) (e2 : mkJ ([40, 46] ++ scJ1) [] J1' = mkJ ([40, 46] ++ scJ1) [] J1) (e3 : mkI ([37, 38, 39] ++ sc2) ([(0, 58), (0, 59)] ++ sl2) I2' = mkI ([37, 38, 39] ++ sc2) ([(0, 58), (0, 59)] ++ sl2) I2) (e4 : mkJ ([] ++ scJ2) slJ2 J2' = mkJ ([] ++ scJ2) slJ2 J2) (hH : rlH W I1' I2' J1') (hZ : rlZ W Hn Un I1' J1') : Rl b W Rn Kn Tn Hn Un g I1' J1' I2' J2' := by
  obtain ⟨ab0, aTl, aT, aF, aW, aH, aG, aK, aS, aP, aC, aO, aZ⟩ := h
  have r : rsH b W Rn Kn Tn Hn Un g I1' J1' I2' J2' := by
    rw [← rsH_m, e1, e2, e3, e4, rsH_m]
    exact ⟨ab0, aTl, aT, aF, aW, aG, aK, aS, aP, aC, aO⟩
  obtain ⟨cb0, cTl, cT, cF, cW, cG, cK, cS, cP, cC, cO⟩ := r
  exact ⟨cb0, cTl, cT, cF, cW, hH, cG, cK, cS, cP, cC, cO, hZ⟩
section S59
variable {D b W Rn Kn Tn Hn Un g : Nat} {I1 I2 : Nat → Nat → Int32} {J1 J2 : Nat → Nat → Int64}
theorem al_grid {x : Int32} (h : Rl b W Rn Kn Tn Hn Un g I1 J1 I2 J2) : AI 236 88 [.int x] I1 J1 I2 J2 (fun f1 h1 f2 h2 => ∃ g', Rl b W Rn Kn Tn Hn Un g' f1 h1 f2 h2) := by
  obtain ⟨a1, a2, -⟩ := h.N
  have hW4 := h.rB.2.2.2.1
  by_cases c : x < 1
  · exact AI.same 0 (mj_mk (D := 899) (e236 _ (by rw [if_pos c]; exact ⟨Or.inl rfl, rfl⟩))) (mj_mk (D := 899) (e88 _ ⟨trivial, _, _, _, r_is, if_tf (fun f => absurd c f.1) (fun _ => ⟨Or.inl rfl, rfl⟩)⟩)) ⟨g, h⟩
  by_cases d : x ≤ 12
  · have x0 : ¬ x < 0 := fun q => c (by
      rw [Int32.lt_iff_toInt_lt] at q ⊢
      have h1 : (0 : Int32).toInt = 0 := by decide
      have h2 : (1 : Int32).toInt = 1 := by decide
      omega)
    obtain ⟨n, hn, rfl⟩ := nI_of2 (n := 12) (by decide) x0 d
    have hn1 : 1 ≤ n := by
      rcases Nat.eq_zero_or_pos n with q | q
      · rw [q] at c; exact absurd (by decide) c
      · exact q
    obtain ⟨I1', hc, hA, hF⟩ := c_make (D := 896) (I := I1) (J := J1) hW4 hn
    refine ⟨1, I1', J1, mj_up I2 0 63 (nI n), J2, mj_mk (D := 899) (e236 _ ?_), mj_mk (D := 899) (e88 _ ?_), n, ?_⟩
    · rw [if_neg c, if_pos d, show ((0 : Int32)).toNatClampNeg = 0 from rfl, a1]
      exact ⟨vp_in_nI (n := 0) (by decide) (by decide), trivial, _, _, hc, Or.inr rfl, rfl⟩
    · exact ⟨trivial, _, _, _, r_is, if_tf (fun _ => ⟨Or.inr rfl, rfl⟩) (fun f => absurd ⟨c, fun q => absurd d (Int32.not_le.mpr q)⟩ f)⟩
    · refine Rl_G h (mkI_of fun q j h1 h2 => ?_) rfl (mkI_up rfl) rfl ?_
      · rw [hF q (fun e => by rw [e] at h1; exact absurd h1 (by decide)) (fun e => by rw [e] at h1; exact absurd h1 (by decide))]
      · obtain ⟨q0, q1, q2, q3⟩ := hA
        refine ⟨hn1, hn, q0, up_s, q1, q2, fun m r hr w x hx => ?_⟩
        have hl := (wl_ok hn hW4).2.2 r (List.mem_of_getElem? hr)
        have hw : w < W := by
          have := (List.getElem?_eq_some_iff.mp hx).1
          omega
        rw [q3 m r hr w hw, List.getD_eq_getElem?_getD, hx]
        rfl
  · refine AI.same 0 (mj_mk (D := 899) (e236 _ (by rw [if_neg c, if_neg d]; exact ⟨Or.inl rfl, rfl⟩))) (mj_mk (D := 899) (e88 _ ⟨trivial, _, _, _, r_is, if_tf (fun f => absurd (Int32.not_lt.mp f.2) d) (fun _ => ⟨Or.inl rfl, rfl⟩)⟩)) ⟨g, h⟩
end S59
