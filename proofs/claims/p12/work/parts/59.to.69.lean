section
/-! what stays, when some parts of the state change -/
def mkI (D : List Nat) (E : List (Nat × Nat)) (I : Nat → Nat → Int32) : Nat → Nat → Int32 := fun q j => if D.elem q || E.elem (q, j) then 0 else I q j
def mkJ (D : List Nat) (E : List (Nat × Nat)) (J : Nat → Nat → Int64) : Nat → Nat → Int64 := fun q j => if D.elem q || E.elem (q, j) then 0 else J q j
theorem mkI_of {D : List Nat} {E : List (Nat × Nat)} {I I' : Nat → Nat → Int32} (h : ∀ q j, D.elem q = false → E.elem (q, j) = false → I' q j = I q j) : mkI D E I' = mkI D E I := by
  funext q j
  unfold mkI
  cases h1 : D.elem q with
  | true => rfl
  | false =>
    cases h2 : E.elem (q, j) with
    | true => rfl
    | false =>
      show (if (false || false) = true then 0 else I' q j) = (if (false || false) = true then 0 else I q j)
      rw [h q j h1 h2]
theorem mkJ_of {D : List Nat} {E : List (Nat × Nat)} {I I' : Nat → Nat → Int64} (h : ∀ q j, D.elem q = false → E.elem (q, j) = false → I' q j = I q j) : mkJ D E I' = mkJ D E I := by
  funext q j
  unfold mkJ
  cases h1 : D.elem q with
  | true => rfl
  | false =>
    cases h2 : E.elem (q, j) with
    | true => rfl
    | false =>
      show (if (false || false) = true then 0 else I' q j) = (if (false || false) = true then 0 else I q j)
      rw [h q j h1 h2]
theorem mkI_up {D : List Nat} {E : List (Nat × Nat)} {I : Nat → Nat → Int32} {q j : Nat} {v : Int32} (h : (D.elem q || E.elem (q, j)) = true) : mkI D E (mj_up I q j v) = mkI D E I := by
  funext a c
  unfold mkI
  by_cases e : a = q ∧ c = j
  · rw [e.1, e.2, h]; rfl
  · rw [up_n (by omega)]
theorem mkJ_up {D : List Nat} {E : List (Nat × Nat)} {I : Nat → Nat → Int64} {q j : Nat} {v : Int64} (h : (D.elem q || E.elem (q, j)) = true) : mkJ D E (mj_up I q j v) = mkJ D E I := by
  funext a c
  unfold mkJ
  by_cases e : a = q ∧ c = j
  · rw [e.1, e.2, h]; rfl
  · rw [up_n (by omega)]
theorem elem_app {α : Type} [BEq α] {a : α} : ∀ {l m : List α}, (l ++ m).elem a = (l.elem a || m.elem a)
  | [], m => by simp
  | x :: l, m => by
    have ih := elem_app (a := a) (l := l) (m := m)
    show (match a == x with | true => true | false => (l ++ m).elem a) = ((match a == x with | true => true | false => l.elem a) || m.elem a)
    cases a == x with
    | true => rfl
    | false => exact ih
theorem mkI_k1 {D : List Nat} {E : List (Nat × Nat)} {I I' : Nat → Nat → Int32} (h : k1 I' = k1 I) : mkI (D ++ sc1) (E ++ sl1) I' = mkI (D ++ sc1) (E ++ sl1) I := by
  refine mkI_of fun q j h1 h2 => ?_
  refine k1_at h ?_
  unfold co1
  rw [elem_app] at h1 h2
  simp only [Bool.or_eq_false_iff] at h1 h2
  rw [h1.2, h2.2]
  rfl
theorem mkI_k2 {D : List Nat} {E : List (Nat × Nat)} {I I' : Nat → Nat → Int32} (h : k2 I' = k2 I) : mkI (D ++ sc2) (E ++ sl2) I' = mkI (D ++ sc2) (E ++ sl2) I := by
  refine mkI_of fun q j h1 h2 => ?_
  refine k2_at h ?_
  unfold co2
  rw [elem_app] at h1 h2
  simp only [Bool.or_eq_false_iff] at h1 h2
  rw [h1.2, h2.2]
  rfl
def rsG (b W Rn Kn Tn Hn Un g : Nat) (I1 : Nat → Nat → Int32) (J1 : Nat → Nat → Int64) (I2 : Nat → Nat → Int32) (J2 : Nat → Nat → Int64) : Prop := I2 0 12 = nI b ∧ Tl 1 b W Rn Kn Tn Hn Un I1 I2 J2 ∧ rlT I1 I2 ∧ rlF I1 I2 ∧ rlW W Rn I1 J1 ∧ rlH W I1 I2 J1 ∧ rlK I1 I2 ∧ rlS Rn I1 I2 ∧ rlP W I1 I2 J1 J2 ∧ rlC J1 J2 ∧ rlO I1 ∧ rlZ W Hn Un I1 J1
set_option maxRecDepth 100000 in
theorem rsG_m {b W Rn Kn Tn Hn Un g : Nat} {I1 I2 : Nat → Nat → Int32} {J1 J2 : Nat → Nat → Int64} : rsG b W Rn Kn Tn Hn Un g (mkI ([51, 52] ++ sc1) ([] ++ sl1) I1) (mkJ ([] ++ scJ1) [] J1) (mkI ([] ++ sc2) ([(0, 63)] ++ sl2) I2) (mkJ ([] ++ scJ2) slJ2 J2) = rsG b W Rn Kn Tn Hn Un g I1 J1 I2 J2 := rfl
theorem Rl_G {b W Rn Kn Tn Hn Un g : Nat} {I1 I1' I2 I2' : Nat → Nat → Int32} {J1 J1' J2 J2' : Nat → Nat → Int64} {g' : Nat} (h : Rl b W Rn Kn Tn Hn Un g I1 J1 I2 J2) (e1 : mkI ([51, 52] ++ sc1) ([] ++ sl1) I1' = mkI ([51, 52] ++ sc1) ([] ++ sl1) I1) (e2 : mkJ ([] ++ scJ1) [] J1' = mkJ ([] ++ scJ1) [] J1) (e3 : mkI ([] ++ sc2) ([(0, 63)] ++ sl2) I2' = mkI ([] ++ sc2) ([(0, 63)] ++ sl2) I2) (e4 : mkJ ([] ++ scJ2) slJ2 J2' = mkJ ([] ++ scJ2) slJ2 J2) (hG : rlG W g' I1' I2') : Rl b W Rn Kn Tn Hn Un g' I1' J1' I2' J2' := by
  obtain ⟨ab0, aTl, aT, aF, aW, aH, aG, aK, aS, aP, aC, aO, aZ⟩ := h
  have r : rsG b W Rn Kn Tn Hn Un g I1' J1' I2' J2' := by
    rw [← rsG_m, e1, e2, e3, e4, rsG_m]
    exact ⟨ab0, aTl, aT, aF, aW, aH, aK, aS, aP, aC, aO, aZ⟩
  obtain ⟨cb0, cTl, cT, cF, cW, cH, cK, cS, cP, cC, cO, cZ⟩ := r
  exact ⟨cb0, cTl, cT, cF, cW, cH, hG, cK, cS, cP, cC, cO, cZ⟩
def rsK (b W Rn Kn Tn Hn Un g : Nat) (I1 : Nat → Nat → Int32) (J1 : Nat → Nat → Int64) (I2 : Nat → Nat → Int32) (J2 : Nat → Nat → Int64) : Prop := I2 0 12 = nI b ∧ Tl 1 b W Rn Kn Tn Hn Un I1 I2 J2 ∧ rlT I1 I2 ∧ rlF I1 I2 ∧ rlW W Rn I1 J1 ∧ rlH W I1 I2 J1 ∧ rlG W g I1 I2 ∧ rlS Rn I1 I2 ∧ rlP W I1 I2 J1 J2 ∧ rlC J1 J2 ∧ rlO I1 ∧ rlZ W Hn Un I1 J1
set_option maxRecDepth 100000 in
theorem rsK_m {b W Rn Kn Tn Hn Un g : Nat} {I1 I2 : Nat → Nat → Int32} {J1 J2 : Nat → Nat → Int64} : rsK b W Rn Kn Tn Hn Un g (mkI ([50] ++ sc1) ([(47, 4)] ++ sl1) I1) (mkJ ([] ++ scJ1) [] J1) (mkI ([41] ++ sc2) ([(0, 65)] ++ sl2) I2) (mkJ ([] ++ scJ2) slJ2 J2) = rsK b W Rn Kn Tn Hn Un g I1 J1 I2 J2 := rfl
theorem Rl_K {b W Rn Kn Tn Hn Un g : Nat} {I1 I1' I2 I2' : Nat → Nat → Int32} {J1 J1' J2 J2' : Nat → Nat → Int64} (h : Rl b W Rn Kn Tn Hn Un g I1 J1 I2 J2) (e1 : mkI ([50] ++ sc1) ([(47, 4)] ++ sl1) I1' = mkI ([50] ++ sc1) ([(47, 4)] ++ sl1) I1) (e2 : mkJ ([] ++ scJ1) [] J1' = mkJ ([] ++ scJ1) [] J1) (e3 : mkI ([41] ++ sc2) ([(0, 65)] ++ sl2) I2' = mkI ([41] ++ sc2) ([(0, 65)] ++ sl2) I2) (e4 : mkJ ([] ++ scJ2) slJ2 J2' = mkJ ([] ++ scJ2) slJ2 J2) (hK : rlK I1' I2') : Rl b W Rn Kn Tn Hn Un g I1' J1' I2' J2' := by
  obtain ⟨ab0, aTl, aT, aF, aW, aH, aG, aK, aS, aP, aC, aO, aZ⟩ := h
  have r : rsK b W Rn Kn Tn Hn Un g I1' J1' I2' J2' := by
    rw [← rsK_m, e1, e2, e3, e4, rsK_m]
    exact ⟨ab0, aTl, aT, aF, aW, aH, aG, aS, aP, aC, aO, aZ⟩
  obtain ⟨cb0, cTl, cT, cF, cW, cH, cG, cS, cP, cC, cO, cZ⟩ := r
  exact ⟨cb0, cTl, cT, cF, cW, cH, cG, hK, cS, cP, cC, cO, cZ⟩
def rsS (b W Rn Kn Tn Hn Un g : Nat) (I1 : Nat → Nat → Int32) (J1 : Nat → Nat → Int64) (I2 : Nat → Nat → Int32) (J2 : Nat → Nat → Int64) : Prop := I2 0 12 = nI b ∧ Tl 1 b W Rn Kn Tn Hn Un I1 I2 J2 ∧ rlT I1 I2 ∧ rlF I1 I2 ∧ rlW W Rn I1 J1 ∧ rlH W I1 I2 J1 ∧ rlG W g I1 I2 ∧ rlK I1 I2 ∧ rlP W I1 I2 J1 J2 ∧ rlC J1 J2 ∧ rlO I1 ∧ rlZ W Hn Un I1 J1
set_option maxRecDepth 100000 in
theorem rsS_m {b W Rn Kn Tn Hn Un g : Nat} {I1 I2 : Nat → Nat → Int32} {J1 J2 : Nat → Nat → Int64} : rsS b W Rn Kn Tn Hn Un g (mkI ([54, 55] ++ sc1) ([(53, 0)] ++ sl1) I1) (mkJ ([] ++ scJ1) [] J1) (mkI ([43, 44] ++ sc2) ([(0, 68)] ++ sl2) I2) (mkJ ([] ++ scJ2) slJ2 J2) = rsS b W Rn Kn Tn Hn Un g I1 J1 I2 J2 := rfl
theorem Rl_S {b W Rn Kn Tn Hn Un g : Nat} {I1 I1' I2 I2' : Nat → Nat → Int32} {J1 J1' J2 J2' : Nat → Nat → Int64} (h : Rl b W Rn Kn Tn Hn Un g I1 J1 I2 J2) (e1 : mkI ([54, 55] ++ sc1) ([(53, 0)] ++ sl1) I1' = mkI ([54, 55] ++ sc1) ([(53, 0)] ++ sl1) I1) (e2 : mkJ ([] ++ scJ1) [] J1' = mkJ ([] ++ scJ1) [] J1) (e3 : mkI ([43, 44] ++ sc2) ([(0, 68)] ++ sl2) I2' = mkI ([43, 44] ++ sc2) ([(0, 68)] ++ sl2) I2) (e4 : mkJ ([] ++ scJ2) slJ2 J2' = mkJ ([] ++ scJ2) slJ2 J2) (hS : rlS Rn I1' I2') : Rl b W Rn Kn Tn Hn Un g I1' J1' I2' J2' := by
  obtain ⟨ab0, aTl, aT, aF, aW, aH, aG, aK, aS, aP, aC, aO, aZ⟩ := h
  have r : rsS b W Rn Kn Tn Hn Un g I1' J1' I2' J2' := by
    rw [← rsS_m, e1, e2, e3, e4, rsS_m]
    exact ⟨ab0, aTl, aT, aF, aW, aH, aG, aK, aP, aC, aO, aZ⟩
  obtain ⟨cb0, cTl, cT, cF, cW, cH, cG, cK, cP, cC, cO, cZ⟩ := r
  exact ⟨cb0, cTl, cT, cF, cW, cH, cG, cK, hS, cP, cC, cO, cZ⟩
def rsP (b W Rn Kn Tn Hn Un g : Nat) (I1 : Nat → Nat → Int32) (J1 : Nat → Nat → Int64) (I2 : Nat → Nat → Int32) (J2 : Nat → Nat → Int64) : Prop := I2 0 12 = nI b ∧ Tl 1 b W Rn Kn Tn Hn Un I1 I2 J2 ∧ rlT I1 I2 ∧ rlF I1 I2 ∧ rlW W Rn I1 J1 ∧ rlH W I1 I2 J1 ∧ rlG W g I1 I2 ∧ rlK I1 I2 ∧ rlS Rn I1 I2 ∧ rlC J1 J2 ∧ rlO I1 ∧ rlZ W Hn Un I1 J1
set_option maxRecDepth 100000 in
theorem rsP_m {b W Rn Kn Tn Hn Un g : Nat} {I1 I2 : Nat → Nat → Int32} {J1 J2 : Nat → Nat → Int64} : rsP b W Rn Kn Tn Hn Un g (mkI ([59, 60] ++ sc1) ([] ++ sl1) I1) (mkJ ([61] ++ scJ1) [] J1) (mkI ([48] ++ sc2) ([] ++ sl2) I2) (mkJ ([49] ++ scJ2) slJ2 J2) = rsP b W Rn Kn Tn Hn Un g I1 J1 I2 J2 := rfl
theorem Rl_P {b W Rn Kn Tn Hn Un g : Nat} {I1 I1' I2 I2' : Nat → Nat → Int32} {J1 J1' J2 J2' : Nat → Nat → Int64} (h : Rl b W Rn Kn Tn Hn Un g I1 J1 I2 J2) (e1 : mkI ([59, 60] ++ sc1) ([] ++ sl1) I1' = mkI ([59, 60] ++ sc1) ([] ++ sl1) I1) (e2 : mkJ ([61] ++ scJ1) [] J1' = mkJ ([61] ++ scJ1) [] J1) (e3 : mkI ([48] ++ sc2) ([] ++ sl2) I2' = mkI ([48] ++ sc2) ([] ++ sl2) I2) (e4 : mkJ ([49] ++ scJ2) slJ2 J2' = mkJ ([49] ++ scJ2) slJ2 J2) (hP : rlP W I1' I2' J1' J2') : Rl b W Rn Kn Tn Hn Un g I1' J1' I2' J2' := by
  obtain ⟨ab0, aTl, aT, aF, aW, aH, aG, aK, aS, aP, aC, aO, aZ⟩ := h
  have r : rsP b W Rn Kn Tn Hn Un g I1' J1' I2' J2' := by
    rw [← rsP_m, e1, e2, e3, e4, rsP_m]
    exact ⟨ab0, aTl, aT, aF, aW, aH, aG, aK, aS, aC, aO, aZ⟩
  obtain ⟨cb0, cTl, cT, cF, cW, cH, cG, cK, cS, cC, cO, cZ⟩ := r
  exact ⟨cb0, cTl, cT, cF, cW, cH, cG, cK, cS, hP, cC, cO, cZ⟩
def rsH (b W Rn Kn Tn Hn Un g : Nat) (I1 : Nat → Nat → Int32) (J1 : Nat → Nat → Int64) (I2 : Nat → Nat → Int32) (J2 : Nat → Nat → Int64) : Prop := I2 0 12 = nI b ∧ Tl 1 b W Rn Kn Tn Hn Un I1 I2 J2 ∧ rlT I1 I2 ∧ rlF I1 I2 ∧ rlW W Rn I1 J1 ∧ rlG W g I1 I2 ∧ rlK I1 I2 ∧ rlS Rn I1 I2 ∧ rlP W I1 I2 J1 J2 ∧ rlC J1 J2 ∧ rlO I1
set_option maxRecDepth 100000 in
theorem rsH_m {b W Rn Kn Tn Hn Un g : Nat} {I1 I2 : Nat → Nat → Int32} {J1 J2 : Nat → Nat → Int64} : rsH b W Rn Kn Tn Hn Un g (mkI ([39, 44, 45] ++ sc1) ([(38, 0), (38, 1), (0, 9)] ++ sl1) I1) (mkJ ([40, 46] ++ scJ1) [] J1) (mkI ([37, 38, 39] ++ sc2) ([(0, 58), (0, 59)] ++ sl2) I2) (mkJ ([] ++ scJ2) slJ2 J2) = rsH b W Rn Kn Tn Hn Un g I1 J1 I2 J2 := rfl
theorem Rl_H {b W Rn Kn Tn Hn Un g : Nat} {I1 I1' I2 I2' : Nat → Nat → Int32} {J1 J1' J2 J2' : Nat → Nat → Int64} (h : Rl b W Rn Kn Tn Hn Un g I1 J1 I2 J2) (e1 : mkI ([39, 44, 45] ++ sc1) ([(38, 0), (38, 1), (0, 9)] ++ sl1) I1' = mkI ([39, 44, 45] ++ sc1) ([(38, 0), (38, 1), (0, 9)] ++ sl1) I1) (e2 : mkJ ([40, 46] ++ scJ1) [] J1' = mkJ ([40, 46] ++ scJ1) [] J1) (e3 : mkI ([37, 38, 39] ++ sc2) ([(0, 58), (0, 59)] ++ sl2) I2' = mkI ([37, 38, 39] ++ sc2) ([(0, 58), (0, 59)] ++ sl2) I2) (e4 : mkJ ([] ++ scJ2) slJ2 J2' = mkJ ([] ++ scJ2) slJ2 J2) (hH : rlH W I1' I2' J1') (hZ : rlZ W Hn Un I1' J1') : Rl b W Rn Kn Tn Hn Un g I1' J1' I2' J2' := by
  obtain ⟨ab0, aTl, aT, aF, aW, aH, aG, aK, aS, aP, aC, aO, aZ⟩ := h
  have r : rsH b W Rn Kn Tn Hn Un g I1' J1' I2' J2' := by
    rw [← rsH_m, e1, e2, e3, e4, rsH_m]
    exact ⟨ab0, aTl, aT, aF, aW, aG, aK, aS, aP, aC, aO⟩
  obtain ⟨cb0, cTl, cT, cF, cW, cG, cK, cS, cP, cC, cO⟩ := r
  exact ⟨cb0, cTl, cT, cF, cW, hH, cG, cK, cS, cP, cC, cO, hZ⟩
section S59
variable {D b W Rn Kn Tn Hn Un g : Nat} {I1 I2 : Nat → Nat → Int32} {J1 J2 : Nat → Nat → Int64}
theorem al_grid {x : Int32} (h : Rl b W Rn Kn Tn Hn Un g I1 J1 I2 J2) : AI 236 88 [.int x] I1 J1 I2 J2 (fun f1 h1 f2 h2 => ∃ g', Rl b W Rn Kn Tn Hn Un g' f1 h1 f2 h2) := by
  obtain ⟨a1, a2, -⟩ := h.N
  have hW4 := h.rB.2.2.2.1
  by_cases c : x < 1
  · exact AI.same 0 (mj_mk (D := 899) (e236 _ (by rw [if_pos c]; exact ⟨Or.inl rfl, rfl⟩))) (mj_mk (D := 899) (e88 _ ⟨trivial, _, _, _, r_is, if_tf (fun f => absurd c f.1) (fun _ => ⟨Or.inl rfl, rfl⟩)⟩)) ⟨g, h⟩
  by_cases d : x ≤ 12
  · have x0 : ¬ x < 0 := fun q => c (by
      rw [Int32.lt_iff_toInt_lt] at q ⊢
      have h1 : (0 : Int32).toInt = 0 := by decide
      have h2 : (1 : Int32).toInt = 1 := by decide
      omega)
    obtain ⟨n, hn, rfl⟩ := nI_of2 (n := 12) (by decide) x0 d
    have hn1 : 1 ≤ n := by
      rcases Nat.eq_zero_or_pos n with q | q
      · rw [q] at c; exact absurd (by decide) c
      · exact q
    obtain ⟨I1', hc, hA, hF⟩ := c_make (D := 896) (I := I1) (J := J1) hW4 hn
    refine ⟨1, I1', J1, mj_up I2 0 63 (nI n), J2, mj_mk (D := 899) (e236 _ ?_), mj_mk (D := 899) (e88 _ ?_), n, ?_⟩
    · rw [if_neg c, if_pos d, show ((0 : Int32)).toNatClampNeg = 0 from rfl, a1]
      exact ⟨vp_in_nI (n := 0) (by decide) (by decide), trivial, _, _, hc, Or.inr rfl, rfl⟩
    · exact ⟨trivial, _, _, _, r_is, if_tf (fun _ => ⟨Or.inr rfl, rfl⟩) (fun f => absurd ⟨c, fun q => absurd d (Int32.not_le.mpr q)⟩ f)⟩
    · refine Rl_G h (mkI_of fun q j h1 h2 => ?_) rfl (mkI_up rfl) rfl ?_
      · rw [hF q (fun e => by rw [e] at h1; exact absurd h1 (by decide)) (fun e => by rw [e] at h1; exact absurd h1 (by decide))]
      · obtain ⟨q0, q1, q2, q3⟩ := hA
        refine ⟨hn1, hn, q0, up_s, q1, q2, fun m r hr w x hx => ?_⟩
        have hl := (wl_ok hn hW4).2.2 r (List.mem_of_getElem? hr)
        have hw : w < W := by
          have := (List.getElem?_eq_some_iff.mp hx).1
          omega
        rw [q3 m r hr w hw, List.getD_eq_getElem?_getD, hx]
        rfl
  · refine AI.same 0 (mj_mk (D := 899) (e236 _ (by rw [if_neg c, if_neg d]; exact ⟨Or.inl rfl, rfl⟩))) (mj_mk (D := 899) (e88 _ ⟨trivial, _, _, _, r_is, if_tf (fun f => absurd (Int32.not_lt.mp f.2) d) (fun _ => ⟨Or.inl rfl, rfl⟩)⟩)) ⟨g, h⟩
end S59
end
section
/-! sayings: rather, unsay, agreement, agree -/
theorem wl_le : ∀ g, g < 13 → ∀ W, W < 5 → ((wl W g).all fun r => r.all fun x => decide (x ≤ 12)) = true := by decide +kernel
/-- bits of a set as a number -/
noncomputable def nb : Nat → (Nat → Prop) → Nat
  | 0, _ => 0
  | n + 1, p => nb n p + @ite _ (p n) (Classical.propDecidable (p n)) (2 ^ n) 0
theorem nb_t {n : Nat} {p : Nat → Prop} (h : p n) : nb (n + 1) p = nb n p + 2 ^ n := congrArg _ (@if_pos (p n) (Classical.propDecidable _) h _ _ _)
theorem nb_f {n : Nat} {p : Nat → Prop} (h : ¬ p n) : nb (n + 1) p = nb n p := congrArg _ (@if_neg (p n) (Classical.propDecidable _) h _ _ _)
theorem nb_lt {p : Nat → Prop} : ∀ {n : Nat}, nb n p < 2 ^ n
  | 0 => Nat.zero_lt_one
  | n + 1 => by
    have ih := nb_lt (p := p) (n := n)
    rw [Nat.pow_succ]
    rcases Classical.em (p n) with c | c
    · rw [nb_t c]; omega
    · rw [nb_f c]; omega
theorem or_add {n x : Nat} (h : x < 2 ^ n) : 2 ^ n + x = 2 ^ n ||| x := by
  have := Nat.two_pow_add_eq_or_of_lt h 1
  rwa [Nat.mul_one] at this
theorem nb_full {p : Nat → Prop} : ∀ {n : Nat}, nb n p = 2 ^ n - 1 ↔ ∀ i, i < n → p i
  | 0 => ⟨fun _ i hi => absurd hi (Nat.not_lt_zero i), fun _ => rfl⟩
  | n + 1 => by
    have ih := nb_full (p := p) (n := n)
    have hl := nb_lt (p := p) (n := n)
    have h2 := Nat.two_pow_pos n
    rw [Nat.pow_succ]
    rcases Classical.em (p n) with c | c
    · rw [nb_t c]
      constructor
      · intro q i hi
        by_cases e : i = n
        · rw [e]; exact c
        · exact ih.mp (by omega) i (by omega)
      · intro q
        have := ih.mpr fun i hi => q i (by omega)
        omega
    · rw [nb_f c]
      exact ⟨fun q => by omega, fun q => absurd (q n (by omega)) c⟩
theorem nb_bit {p : Nat → Prop} : ∀ {n i : Nat}, (nb n p).testBit i = true ↔ i < n ∧ p i
  | 0, i => by
    show (0 : Nat).testBit i = true ↔ _
    simp
  | n + 1, i => by
    have ih := nb_bit (p := p) (n := n) (i := i)
    have hl := nb_lt (p := p) (n := n)
    rcases Classical.em (p n) with c | c
    · rw [nb_t c, Nat.add_comm, or_add hl, Nat.testBit_or, Nat.testBit_two_pow, Bool.or_eq_true, ih, decide_eq_true_eq]
      constructor
      · rintro (q | ⟨q1, q2⟩)
        · exact ⟨by omega, q ▸ c⟩
        · exact ⟨by omega, q2⟩
      · rintro ⟨q1, q2⟩
        by_cases e : n = i
        · exact Or.inl e
        · exact Or.inr ⟨by omega, q2⟩
    · rw [nb_f c, ih]
      constructor
      · rintro ⟨q1, q2⟩; exact ⟨by omega, q2⟩
      · rintro ⟨q1, q2⟩
        by_cases e : i = n
        · exact absurd (e ▸ q2) c
        · exact ⟨by omega, q2⟩
theorem nx_or (a b : Nat) : nI a ||| nI b = nI (a ||| b) := by
  apply Int32.toBitVec_inj.1
  show BitVec.ofNat 32 a ||| BitVec.ofNat 32 b = BitVec.ofNat 32 (a ||| b)
  apply BitVec.eq_of_getLsbD_eq
  intro i hi
  simp [hi]
theorem sh1 {n : Nat} (h : n < 32) : (1 : Int32) <<< (nI n &&& 31) = nI (2 ^ n) := by
  have : ∀ n, n < 32 → (1 : Int32) <<< (nI n &&& 31) = nI (2 ^ n) := by decide +kernel
  exact this n h
theorem nb_or {n : Nat} {p : Nat → Prop} (hn : n < 31) (h : p n) : nI (nb n p) ||| ((1 : Int32) <<< (nI n &&& 31)) = nI (nb (n + 1) p) := by
  rw [sh1 (by omega), nx_or, nb_t h, Nat.or_comm, ← or_add nb_lt, Nat.add_comm]
theorem nb_or0 {n : Nat} {p : Nat → Prop} (h : ¬ p n) : nI (nb n p) ||| (0 : Int32) = nI (nb (n + 1) p) := by
  rw [show (0 : Int32) = nI 0 from rfl, nx_or, nb_f h, Nat.or_zero]
section S60
variable {D b W Rn Kn Tn Hn Un g : Nat} {I I1 I2 : Nat → Nat → Int32} {J J1 J2 : Nat → Nat → Int64}
theorem al_rather {x y : Int32} (h : Rl b W Rn Kn Tn Hn Un g I1 J1 I2 J2) : AI 256 105 [.int x, .int y] I1 J1 I2 J2 (Rl b W Rn Kn Tn Hn Un g) := by
  obtain ⟨w1, w2, w3, w4⟩ := h.W24
  have hB := h.rB
  obtain ⟨n, n1, n2, n3, n4⟩ := h.2.2.2.2.2.2.2.2.1
  have bad : ∀ (hc : C1 900 256 [.ref 0, .int x, .int y] I1 J1 (.int (-1)) I1 J1) (hr : C2 900 105 [.ref 0, .int x, .int y] I2 J2 (.int (-1)) I2 J2), AI 256 105 [.int x, .int y] I1 J1 I2 J2 (Rl b W Rn Kn Tn Hn Un g) := fun hc hr => AI.same (-1) hc hr h
  rcases Classical.em (∃ j, j < Rn ∧ x = nI j) with p | p
  · rcases Classical.em (∃ j, j < Rn ∧ y = nI j) with q | q
    · obtain ⟨r, hr, rfl⟩ := p
      obtain ⟨u, hu, rfl⟩ := q
      by_cases ok : ¬ lbit (J1 24 5) r ∧ ¬ lbit (J1 24 5) u ∧ r ≠ u ∧ n < 12
      · obtain ⟨ok1, ok2, ok3, ok4⟩ := ok
        refine ⟨nI (n + 1), mj_up (mj_up (mj_up I1 54 n (nI r)) 55 n (nI u)) 53 0 (nI (n + 1)), J1, mj_up (mj_up (mj_up I2 43 n (nI r)) 44 n (nI u)) 0 68 (nI (n + 1)), J2, mj_mk (D := 899) (e256 _ _ ?_), mj_mk (D := 899) (e105 _ _ ?_), ?_⟩
        · refine ⟨trivial, _, _, _, c_judged (n := Rn) w1 w2, if_tf (fun c => ?_) (fun c => absurd ((c_jud hr).mpr ok1) c)⟩
          refine ⟨trivial, _, _, _, c_judged (n := Rn) w1 w2, if_tf (fun d => ?_) (fun d => absurd ((c_jud hu).mpr ok2) d)⟩
          refine if_eq (by omega) (by omega) (fun e => absurd e ok3) (fun _ => ?_)
          rw [n2]
          refine if_lt (b := 12) (by omega) (by decide) (fun _ => ?_) (fun e => absurd e (by omega))
          refine ⟨trivial, _, _, _, mj_mk (e257 _ _ ?_), rfl⟩
          rw [n2, nI_clamp (by omega), nI_1]
          exact ⟨vp_in_nI ok4 (by decide), vp_in_nI ok4 (by decide), rfl⟩
        · refine ⟨trivial, _, _, _, r_isRow hB, if_tf (fun _ => ?_) (fun f => absurd ⟨r, hr, rfl⟩ f)⟩
          refine ⟨trivial, _, _, _, r_isRow hB, if_tf (fun _ => ?_) (fun f => absurd ⟨u, hu, rfl⟩ f)⟩
          refine if_eq (by omega) (by omega) (fun e => absurd e ok3) (fun _ => ?_)
          refine ⟨trivial, _, _, _, r_isAside hB (by omega), if_tf (fun c => absurd ((h.asd hr).mp c) ok1) (fun _ => ?_)⟩
          refine ⟨trivial, _, _, _, r_isAside hB (by omega), if_tf (fun c => absurd ((h.asd hu).mp c) ok2) (fun _ => ?_)⟩
          rw [n3]
          refine if_eq (b := 12) (by omega) (by decide) (fun e => absurd e (by omega)) (fun _ => ?_)
          rw [nI_clamp (by omega), nI_1]
          exact ⟨vp_in_nI ok4 (by decide), vp_in_nI ok4 (by decide), rfl⟩
        · refine Rl_S h ?_ rfl ?_ rfl ?_
          · rw [mkI_up rfl, mkI_up rfl, mkI_up rfl]
          · rw [mkI_up rfl, mkI_up rfl, mkI_up rfl]
          · refine ⟨n + 1, by omega, up_s, up_s, fun i hi => ?_⟩
            have c43 : mj_up (mj_up (mj_up I2 43 n (nI r)) 44 n (nI u)) 0 68 (nI (n + 1)) 43 = mj_up I2 43 n (nI r) 43 := by rw [up_c (q := 0) (by decide), up_c (q := 44) (by decide)]
            have c44 : mj_up (mj_up (mj_up I2 43 n (nI r)) 44 n (nI u)) 0 68 (nI (n + 1)) 44 = mj_up (mj_up I2 43 n (nI r)) 44 n (nI u) 44 := by rw [up_c (q := 0) (by decide)]
            have c54 : mj_up (mj_up (mj_up I1 54 n (nI r)) 55 n (nI u)) 53 0 (nI (n + 1)) 54 = mj_up I1 54 n (nI r) 54 := by rw [up_c (q := 53) (by decide), up_c (q := 55) (by decide)]
            have c55 : mj_up (mj_up (mj_up I1 54 n (nI r)) 55 n (nI u)) 53 0 (nI (n + 1)) 55 = mj_up (mj_up I1 54 n (nI r)) 55 n (nI u) 55 := by rw [up_c (q := 53) (by decide)]
            rw [c43, c44, c54, c55]
            by_cases e : i = n
            · subst e
              rw [up_s, up_s, up_s, up_s]
              exact ⟨rfl, rfl, r, u, hr, hu, rfl, rfl⟩
            · rw [up_j e, up_j e, up_j e, up_j e, up_c (k := 44) (q := 43) (by decide), up_c (k := 55) (q := 54) (by decide)]
              exact n4 i (by omega)
      · refine bad (mj_mk (D := 899) (e256 _ _ ?_)) (mj_mk (D := 899) (e105 _ _ ?_))
        · refine ⟨trivial, _, _, _, c_judged (n := Rn) w1 w2, if_tf (fun c => ?_) (fun c => rfl)⟩
          refine ⟨trivial, _, _, _, c_judged (n := Rn) w1 w2, if_tf (fun d => ?_) (fun d => rfl)⟩
          refine if_eq (by omega) (by omega) (fun e => rfl) (fun e => ?_)
          rw [n2]
          exact if_lt (b := 12) (by omega) (by decide) (fun f => absurd ⟨(c_jud hr).mp c, (c_jud hu).mp d, e, f⟩ ok) (fun _ => rfl)
        · refine ⟨trivial, _, _, _, r_isRow hB, if_tf (fun _ => ?_) (fun f => absurd ⟨r, hr, rfl⟩ f)⟩
          refine ⟨trivial, _, _, _, r_isRow hB, if_tf (fun _ => ?_) (fun f => absurd ⟨u, hu, rfl⟩ f)⟩
          refine if_eq (by omega) (by omega) (fun e => rfl) (fun e => ?_)
          refine ⟨trivial, _, _, _, r_isAside hB (by omega), if_tf (fun c => rfl) (fun c => ?_)⟩
          refine ⟨trivial, _, _, _, r_isAside hB (by omega), if_tf (fun d => rfl) (fun d => ?_)⟩
          rw [n3]
          refine if_eq (b := 12) (by omega) (by decide) (fun _ => rfl) (fun f => absurd ⟨fun z => c ((h.asd hr).mpr z), fun z => d ((h.asd hu).mpr z), e, by omega⟩ ok)
    · refine bad (mj_mk (D := 899) (e256 _ _ ?_)) (mj_mk (D := 899) (e105 _ _ ?_))
      · refine ⟨trivial, _, _, _, c_judged (n := Rn) w1 w2, if_tf (fun c => ?_) (fun c => rfl)⟩
        exact ⟨trivial, _, _, _, c_judged (n := Rn) w1 w2, if_tf (fun ⟨j, hj, e, _⟩ => absurd ⟨j, hj, e⟩ q) (fun _ => rfl)⟩
      · refine ⟨trivial, _, _, _, r_isRow hB, if_tf (fun _ => ?_) (fun f => absurd p f)⟩
        exact ⟨trivial, _, _, _, r_isRow hB, if_tf (fun f => absurd f q) (fun _ => rfl)⟩
  · refine bad (mj_mk (D := 899) (e256 _ _ ?_)) (mj_mk (D := 899) (e105 _ _ ?_))
    · exact ⟨trivial, _, _, _, c_judged (n := Rn) w1 w2, if_tf (fun ⟨j, hj, e, _⟩ => absurd ⟨j, hj, e⟩ p) (fun _ => rfl)⟩
    · exact ⟨trivial, _, _, _, r_isRow hB, if_tf (fun f => absurd f p) (fun _ => rfl)⟩
theorem al_unsay (h : Rl b W Rn Kn Tn Hn Un g I1 J1 I2 J2) : AI 258 106 [] I1 J1 I2 J2 (Rl b W Rn Kn Tn Hn Un g) := by
  obtain ⟨n, n1, n2, n3, n4⟩ := h.2.2.2.2.2.2.2.2.1
  cases n with
  | zero => exact AI.same (-1) (mj_mk (D := 899) (e258 (by rw [n2]; rfl))) (mj_mk (D := 899) (e106 (by rw [n3]; rfl))) h
  | succ n =>
    refine ⟨nI n, mj_up I1 53 0 (nI n), J1, mj_up I2 0 68 (nI n), J2, mj_mk (D := 899) (e258 ?_), mj_mk (D := 899) (e106 ?_), ?_⟩
    · rw [n2, if_neg (nI_ne0 (by omega) (by omega)), n1_sub]
    · rw [n3, if_neg (nI_ne0 (by omega) (by omega)), n1_sub]
    · refine Rl_S h (mkI_up rfl) rfl (mkI_up rfl) rfl ⟨n, by omega, up_s, up_s, fun i hi => ?_⟩
      rw [up_c (k := 43) (by decide), up_c (k := 44) (by decide), up_c (k := 54) (by decide), up_c (k := 55) (by decide)]
      exact n4 i (by omega)
/-- a row's worth by r -/
def rwo (I : Nat → Nat → Int32) (W : Nat) (r : List Nat) (u : Nat) : Int32 := wo r (fun w => I 25 (4 * u + w)) W
/-- saying s is agreed with by r -/
def saA (I : Nat → Nat → Int32) (J : Nat → Nat → Int64) (W s : Nat) (r : List Nat) : Prop := lbit (J 24 5) (I 54 s).toNatClampNeg ∨ lbit (J 24 5) (I 55 s).toNatClampNeg ∨ rwo I W r (I 54 s).toNatClampNeg ≤ rwo I W r (I 55 s).toNatClampNeg
def sAg (I : Nat → Nat → Int32) (J : Nat → Nat → Int64) (W n : Nat) (r : List Nat) : Prop := ∀ s, s < n → saA I J W s r
theorem c_sayAg {s n : Nat} {r : List Nat} {x y : Nat} (w1 : I 24 0 = nI Rn) (w2 : Rn ≤ 40) (h1 : I 51 1 = nI W) (hW : W ≤ 4) (hs : s < 12) (hx : I 54 s = nI x) (hy : I 55 s = nI y) (hx2 : x < Rn) (hy2 : y < Rn) (hn : n < 455) (hr : wro I W n r) : C1 (D + 3) 261 [.ref 53, .int (nI s), .int (nI n), .ref 51, .ref 24] I J (.int (tf (saA I J W s r))) I J := by
  have e : saA I J W s r ↔ lbit (J 24 5) x ∨ lbit (J 24 5) y ∨ rwo I W r x ≤ rwo I W r y := by
    unfold saA
    rw [hx, hy, nI_clamp (by omega), nI_clamp (by omega)]
  rw [tf_iff e]
  refine mj_mk (e261 _ _ ?_)
  rw [nI_clamp (by omega), hx, hy, ix4m, ix4m]
  have hv : vp_in (nI s) 12 := vp_in_nI hs (by decide)
  refine ⟨hv, hv, trivial, _, _, _, c_judged (n := Rn) w1 w2, if_tf (fun c => ?_) (fun c => mzT (Or.inl (Classical.byContradiction fun q => c ((c_jud hx2).mpr q))))⟩
  refine ⟨trivial, _, _, _, c_judged (n := Rn) w1 w2, if_tf (fun d => ?_) (fun d => mzT (Or.inr (Or.inl (Classical.byContradiction fun q => d ((c_jud hy2).mpr q)))))⟩
  have c := (c_jud hx2).mp c
  have d := (c_jud hy2).mp d
  refine ⟨trivial, _, _, _, c_weigh_a h1 hW hn (by omega) hr, trivial, _, _, _, c_weigh_a h1 hW hn (by omega) hr, if_i (fun f => mzF ?_) (fun f => mzT (Or.inr (Or.inr (Int32.not_lt.mp f))))⟩
  rintro (q | q | q)
  · exact c q
  · exact d q
  · exact absurd q (Int32.not_le.mpr f)
/-- how many sayings, and what they are -/
theorem Rl.S (h : Rl b W Rn Kn Tn Hn Un g I1 J1 I2 J2) : ∃ n, n ≤ 12 ∧ I1 53 0 = nI n ∧ I2 0 68 = nI n ∧ ∀ i, i < n → ∃ x y, x < Rn ∧ y < Rn ∧ I1 54 i = nI x ∧ I1 55 i = nI y ∧ I2 43 i = nI x ∧ I2 44 i = nI y := by
  obtain ⟨n, n1, n2, n3, n4⟩ := h.2.2.2.2.2.2.2.2.1
  refine ⟨n, n1, n2, n3, fun i hi => ?_⟩
  obtain ⟨q1, q2, x, y, q3, q4, q5, q6⟩ := n4 i hi
  exact ⟨x, y, q3, q4, q5, q6, by rw [q1, q5], by rw [q2, q6]⟩
theorem c_isAg (h : Rl b W Rn Kn Tn Hn Un g I1 J1 I2 J2) {n S : Nat} {r : List Nat} (hS : I1 53 0 = nI S) (hS2 : S ≤ 12) (e1 : k1 I = k1 I1) (hr : (wl W g)[n]? = some r) : C1 (D + 4) 260 [.ref 53, .int (nI n), .ref 51, .ref 24] I J1 (.int (tf (sAg I1 J1 W S r))) I J1 := by
  obtain ⟨S', s1, s2, s3, s4⟩ := h.S
  obtain ⟨hG, g1, g2, g3, g4, g5⟩ := h.G
  obtain ⟨w1, w2, w3, w4⟩ := h.W24
  have hn : n < 455 := by
    have := (List.getElem?_eq_some_iff.mp hr).1
    omega
  obtain rfl : S = S' := by rw [hS] at s2; exact (nI_eq (by omega) (by omega)).mp s2
  have hsa : ∀ s, saA I J1 W s r ↔ saA I1 J1 W s r := fun s => by
    unfold saA rwo
    rw [k1_at e1 (q := 54) rfl, k1_at e1 (q := 55) rfl]
    rw [wo_c (f' := fun w => I1 25 (4 * (I1 54 s).toNatClampNeg + w)) fun w _ => k1_at e1 rfl, wo_c (f' := fun w => I1 25 (4 * (I1 55 s).toNatClampNeg + w)) fun w _ => k1_at e1 rfl]
  have hwr : wro I W n r := fun w hw => by rw [k1_at e1 rfl]; exact h.wr hr w hw
  refine mj_mk (e260 _ ?_)
  refine lp_up (n := S) (fun i => (∀ s, s < i → saA I1 J1 W s r) → E1 260 (D + 3) (fun q => q = (.int (tf (sAg I1 J1 W S r)), (I, J1, mj_R1))) 3 [(0, .ref 53), (1, .int (nI n)), (2, .ref 51), (3, .ref 24), (4, .int (nI i))] I J1) (fun i hi ih hp => ?_) 0 (Nat.zero_le _) (fun s hs => absurd hs (Nat.not_lt_zero s))
  refine mj_on (s260_3 _ _ ?_)
  rw [k1_at e1 (q := 53) (j := 0) rfl, s2, nI_1]
  refine if_le (by omega) (by omega) (fun c => mzT fun s hs => hp s (by omega)) (fun c => ?_)
  obtain ⟨x, y, q1, q2, q3, q4, -, -⟩ := s4 i c
  refine ⟨trivial, _, _, _, c_sayAg (by rw [k1_at e1 rfl]; exact w1) w2 (by rw [k1_at e1 rfl]; exact g3) w4 (by omega) (by rw [k1_at e1 rfl]; exact q3) (by rw [k1_at e1 rfl]; exact q4) q1 q2 hn hwr, if_tf (fun d => ?_) (fun d => mzF fun q => d ((hsa i).mpr (q i c)))⟩
  refine ih c fun s hs => ?_
  by_cases e : s = i
  · rw [e]; exact (hsa i).mp d
  · exact hp s (by omega)
-- the reference
theorem r_rowWorth (h : Rl b W Rn Kn Tn Hn Un g I1 J1 I2 J2) {u : Nat} {r : List Nat} (e2 : k2 I = k2 I2) (hu : u < Rn) (hr : wgh I W r) : C2 (D + 3) 110 [.ref 0, .int (nI u)] I J (.int (rwo I1 W r u)) I J := by
  have hB := rB_k h.rB e2
  obtain ⟨b1, b2, b3, b4, b5, b6⟩ := id hB
  have hL : ∀ w, w < W → rL I b u w = I1 25 (4 * u + w) := fun w hw => by
    rw [← h.ls hu hw]
    unfold rL
    rw [k2_at e2 rfl, k2_at e2 rfl]
  refine mj_mk (e110 _ ?_)
  unfold rwo
  refine lp_up (n := W) (fun i => E2 110 (D + 2) (fun q => q = (.int (wo r (fun w => I1 25 (4 * u + w)) W), (I, J, mj_R2))) 4 [(0, .ref 0), (1, .int (nI u)), (2, .int (wo r (fun w => I1 25 (4 * u + w)) i)), (3, .int (nI i))] I J) (fun i hi ih => ?_) 0 (Nat.zero_le _)
  refine mj_on (s110_4 _ _ _ ?_)
  rw [b1, nI_clamp (by omega), b3, nI_1, nI_clamp (by omega)]
  refine ⟨vp_in_nI b2 (by decide), if_le (by omega) (by omega) (fun c => ?_) (fun c => ⟨vp_in_nI (by omega) (by decide), trivial, _, _, _, r_rowLoss hB (by omega) c, ?_⟩)⟩
  · obtain rfl : i = W := by omega
    rfl
  · rw [hr i c, hL i c]
    exact ih c
theorem r_agreed (h : Rl b W Rn Kn Tn Hn Un g I1 J1 I2 J2) {S : Nat} {r : List Nat} (e2 : k2 I = k2 I2) (hS : I1 53 0 = nI S) (hS2 : S ≤ 12) (hr : wgh I W r) : C2 (D + 4) 109 [.ref 0] I J (.int (nI (nb S (fun s => saA I1 J1 W s r)))) I J := by
  have hB := rB_k h.rB e2
  obtain ⟨S', s1, s2, s3, s4⟩ := h.S
  obtain rfl : S = S' := by rw [hS] at s2; exact (nI_eq (by omega) (by omega)).mp s2
  refine mj_mk (e109 ?_)
  refine lp_up (n := S) (fun i => E2 109 (D + 3) (fun q => q = (.int (nI (nb S (fun s => saA I1 J1 W s r))), (I, J, mj_R2))) 4 [(0, .ref 0), (1, .int (nI (nb i (fun s => saA I1 J1 W s r)))), (2, .int (nI i))] I J) (fun i hi ih => ?_) 0 (Nat.zero_le _)
  refine mj_on (s109_4 _ _ ?_)
  rw [k2_at e2 (q := 0) (j := 68) rfl, s3, nI_1, nI_clamp (by omega)]
  refine if_le (by omega) (by omega) (fun c => ?_) (fun c => ?_)
  · obtain rfl : i = S := by omega
    rfl
  obtain ⟨x, y, q1, q2, q3, q4, q5, q6⟩ := s4 i c
  have hB6 := hB.2.2.2.2.2
  have hv : vp_in (nI i) 12 := vp_in_nI (by omega) (by decide)
  have e : saA I1 J1 W i r ↔ lbit (J1 24 5) x ∨ lbit (J1 24 5) y ∨ rwo I1 W r x ≤ rwo I1 W r y := by
    unfold saA
    rw [q3, q4, nI_clamp (by omega), nI_clamp (by omega)]
  have as : ∀ {u}, u < Rn → (rA I b W u ↔ lbit (J1 24 5) u) := fun {u} hu => by
    rw [← h.asd hu]
    unfold rA
    exact exists_congr fun w => by rw [k2_at e2 rfl]
  have yes : saA I1 J1 W i r → E2 109 (D + 3) (fun q => q = (.int (nI (nb S (fun s => saA I1 J1 W s r))), (I, J, mj_R2))) 4 [(0, .ref 0), (1, .int (nI (nb i (fun s => saA I1 J1 W s r)) ||| ((1 : Int32) <<< (nI i &&& 31)))), (2, .int (nI (i + 1)))] I J := fun q => by
    rw [nb_or (by omega) q]
    exact ih c
  have r43 : I 43 i = nI x := by rw [k2_at e2 rfl, q5]
  have r44 : I 44 i = nI y := by rw [k2_at e2 rfl, q6]
  rw [r43]
  refine ⟨hv, trivial, _, _, _, r_isAside hB (by omega), if_tf (fun d => yes (e.mpr (Or.inl ((as q1).mp d)))) (fun d => ?_)⟩
  rw [r44]
  refine ⟨hv, trivial, _, _, _, r_isAside hB (by omega), if_tf (fun f => yes (e.mpr (Or.inr (Or.inl ((as q2).mp f))))) (fun f => ?_)⟩
  rw [r43]
  refine ⟨hv, trivial, _, _, _, r_rowWorth h e2 q1 hr, ?_⟩
  rw [r44]
  refine ⟨hv, trivial, _, _, _, r_rowWorth h e2 q2 hr, if_i (fun z => ?_) (fun z => yes (e.mpr (Or.inr (Or.inr (Int32.not_lt.mp z)))))⟩
  rw [nb_or0]
  · exact ih c
  · intro q
    rcases e.mp q with q | q | q
    · exact d ((as q1).mpr q)
    · exact f ((as q2).mpr q)
    · exact absurd q (Int32.not_le.mpr z)
theorem r_agrees (h : Rl b W Rn Kn Tn Hn Un g I1 J1 I2 J2) {S : Nat} {r : List Nat} (e2 : k2 I = k2 I2) (hS : I1 53 0 = nI S) (hS2 : S ≤ 12) (hr : wgh I W r) : C2 (D + 5) 108 [.ref 0] I J (.int (tf (sAg I1 J1 W S r))) I J := by
  obtain ⟨S', s1, s2, s3, s4⟩ := h.S
  obtain rfl : S = S' := by rw [hS] at s2; exact (nI_eq (by omega) (by omega)).mp s2
  refine mj_mk (e108 ?_)
  refine ⟨trivial, _, _, _, r_agreed h e2 hS hS2 hr, ?_⟩
  have hp := Nat.two_pow_pos S
  have hp2 : 2 ^ S ≤ 2 ^ 12 := Nat.pow_le_pow_right (by decide) hS2
  have hl := nb_lt (n := S) (p := fun s => saA I1 J1 W s r)
  rw [k2_at e2 (q := 0) (j := 68) rfl, s3, sh1 (by omega), show (1 : Int32) = nI 1 from rfl, pk_sub hp]
  refine if_eq (by omega) (by omega) (fun c => mzT (nb_full.mp c)) (fun c => mzF fun q => c (nb_full.mpr q))
end S60
end
section
/-! agree, could, stop: by weighings that agree -/
noncomputable def fl (P : List Nat → Prop) (l : List (List Nat)) : List (List Nat) := l.filter (fun r => @decide (P r) (Classical.propDecidable _))
theorem fl_t {P : List Nat → Prop} {l : List (List Nat)} {r : List Nat} (h : P r) : fl P (l ++ [r]) = fl P l ++ [r] := by
  unfold fl
  rw [List.filter_append]
  simp [h]
theorem fl_f {P : List Nat → Prop} {l : List (List Nat)} {r : List Nat} (h : ¬ P r) : fl P (l ++ [r]) = fl P l := by
  unfold fl
  rw [List.filter_append]
  simp [h]
theorem fl_len {P : List Nat → Prop} {l : List (List Nat)} : (fl P l).length ≤ l.length := List.length_filter_le _ _
theorem fl_mem {P : List Nat → Prop} {l : List (List Nat)} {r : List Nat} (h : r ∈ fl P l) : r ∈ l := (List.mem_filter.mp h).1
noncomputable def lor (f : List Nat → Int64) (l : List (List Nat)) : Int64 := l.foldl (fun a r => a ||| f r) 0
theorem lor_s {f : List Nat → Int64} {l : List (List Nat)} {r : List Nat} : lor f (l ++ [r]) = lor f l ||| f r := by
  unfold lor
  rw [List.foldl_append]
  rfl
theorem bs_0 {p : Nat → Prop} : ∀ {n : Nat}, (∀ i, i < n → ¬ p i) → bs n p = 0
  | 0, _ => rfl
  | n + 1, h => by rw [bs_f0 (h n (by omega)), bs_0 fun i hi => h i (by omega)]
theorem wo_rng {r : List Nat} {f : Nat → Int32} (hr : ∀ i, r.getD i 0 ≤ 12) : ∀ {k : Nat}, k ≤ 4 → (∀ w, w < k → ∃ y : Int, -9999 ≤ y ∧ y ≤ 9999 ∧ f w = iI y) → ∃ z : Int, -(119988 * (k : Int)) ≤ z ∧ z ≤ 119988 * (k : Int) ∧ wo r f k = iI z
  | 0, _, _ => ⟨0, by omega, by omega, rfl⟩
  | k + 1, hk, h => by
    obtain ⟨z, z1, z2, z3⟩ := wo_rng hr (k := k) (by omega) fun w hw => h w (by omega)
    obtain ⟨y, y1, y2, y3⟩ := h k (by omega)
    have h12 := hr k
    obtain ⟨m, hm⟩ : ∃ m, m = r.getD k 0 := ⟨_, rfl⟩
    rw [← hm] at h12
    refine ⟨z + m * y, ?_, ?_, ?_⟩
    · have : (m : Int) * y ≥ -(12 * 9999) := by
        have h1 : (m : Int) * y ≥ (m : Int) * (-9999) := Int.mul_le_mul_of_nonneg_left y1 (by omega)
        omega
      omega
    · have : (m : Int) * y ≤ 12 * 9999 := by
        have h1 : (m : Int) * y ≤ (m : Int) * 9999 := Int.mul_le_mul_of_nonneg_left y2 (by omega)
        omega
      omega
    · show wo r f k + nI (r.getD k 0) * f k = _
      rw [z3, y3, ← hm, ← iI_nI, iI_mul, iI_add]
section S61
variable {D b W Rn Kn Tn Hn Un g : Nat} {I I1 I2 : Nat → Nat → Int32} {J J1 J2 : Nat → Nat → Int64}
theorem Rl.lrng (h : Rl b W Rn Kn Tn Hn Un g I1 J1 I2 J2) {u w : Nat} (hu : u < Rn) (hw : w < W) : ∃ y : Int, -9999 ≤ y ∧ y ≤ 9999 ∧ I1 25 (4 * u + w) = iI y := by
  obtain ⟨-, -, -, h4, -⟩ := h.2.2.2.2.1
  rw [(h4 u hu w hw).1]
  have := lo_rng (m := I1 4 w) (h.2.1.2.2.1 u hu w hw).2.1
  exact ⟨_, this.1, this.2, iI_of _⟩
theorem Rl.rle (h : Rl b W Rn Kn Tn Hn Un g I1 J1 I2 J2) {r : List Nat} (hr : r ∈ wl W g) (i : Nat) : r.getD i 0 ≤ 12 := by
  obtain ⟨hG, -⟩ := h.G
  have hW := h.rB.2.2.2.1
  have h1 := List.all_eq_true.mp (wl_le g (by have := hG.2; omega) W (by omega)) r hr
  have h2 := List.all_eq_true.mp h1
  rw [List.getD_eq_getElem?_getD]
  cases hc : r[i]? with
  | none => exact Nat.zero_le _
  | some x => exact of_decide_eq_true (h2 x (List.mem_of_getElem? hc))
theorem Rl.wrng (h : Rl b W Rn Kn Tn Hn Un g I1 J1 I2 J2) {r : List Nat} (hr : r ∈ wl W g) {u : Nat} (hu : u < Rn) : ∃ z : Int, -479952 ≤ z ∧ z ≤ 479952 ∧ rwo I1 W r u = iI z := by
  have hW := h.rB.2.2.2.1
  obtain ⟨z, z1, z2, z3⟩ := wo_rng (f := fun w => I1 25 (4 * u + w)) (h.rle hr) hW fun w hw => h.lrng hu hw
  exact ⟨z, by omega, by omega, z3⟩
/-- among p, those by whom none is better by more than d -/
def fbP (n : Nat) (p : Nat → Prop) (v : Nat → Int32) (d : Int) (u : Nat) : Prop := p u ∧ ∀ o, o < n → p o → (v u).toInt ≤ (v o).toInt + d
noncomputable def fb (I : Nat → Nat → Int32) (J : Nat → Nat → Int64) (W Rn : Nat) (d : Int) (r : List Nat) : Int64 := bs Rn (fbP Rn (lbit (J 24 6)) (rwo I W r) d)
theorem c_min {x y : Int32} : C1 (D + 1) 0 [.int x, .int y] I J (.int (if y < x then y else x)) I J := by
  refine mj_mk (e0 _ _ ?_)
  exact if_i (fun c => mqi (if_pos c).symm) (fun c => mqi (if_neg c).symm)
theorem c_firstBy (h : Rl b W Rn Kn Tn Hn Un g I1 J1 I2 J2) {n d : Nat} {r : List Nat} (e1 : k1 I = k1 I1) (hr : (wl W g)[n]? = some r) (hd : d ≤ 200000) : ∃ I', C1 (D + 2) 263 [.ref 24, .int (nI n), .ref 51, .int (nI d)] I J1 (.long (fb I1 J1 W Rn d r)) I' J1 ∧ (∀ q, q ≠ 28 → I' q = I q) ∧ ∀ u, u < Rn → I' 28 u = rwo I1 W r u := by
  obtain ⟨hG, g1, g2, g3, g4, g5⟩ := h.G
  obtain ⟨w1, w2, w3, w4⟩ := h.W24
  have hn : n < 455 := by
    have := (List.getElem?_eq_some_iff.mp hr).1
    omega
  have hrm := List.mem_of_getElem? hr
  suffices hs : ∃ v I' J', C1 (D + 2) 263 [.ref 24, .int (nI n), .ref 51, .int (nI d)] I J1 (.long v) I' J' ∧ (v = fb I1 J1 W Rn d r ∧ J' = J1 ∧ (∀ q, q ≠ 28 → I' q = I q) ∧ ∀ u, u < Rn → I' 28 u = rwo I1 W r u) by
    obtain ⟨v, I', J', hc, rfl, rfl, q1, q2⟩ := hs
    exact ⟨I', hc, q1, q2⟩
  refine mj_cL (e263 _ _ ?_)
  obtain ⟨Q, hQ⟩ : ∃ Q, Q = qL mj_R1 (fun v I' J' => v = fb I1 J1 W Rn d r ∧ J' = J1 ∧ (∀ q, q ≠ 28 → I' q = I q) ∧ ∀ u, u < Rn → I' 28 u = rwo I1 W r u) := ⟨_, rfl⟩
  rw [← hQ]
  have lst := lp_up (n := Rn) (fun i => ∀ I0 x4, (∀ q, q ≠ 28 → I0 q = I q) → (∀ u, u < i → I0 28 u = rwo I1 W r u) → ((x4 = (2000000000 : Int32) ∧ ∀ o, o < i → ¬ lbit (J1 24 6) o) ∨ (∃ o, o < i ∧ lbit (J1 24 6) o ∧ x4 = rwo I1 W r o ∧ ∀ p, p < i → lbit (J1 24 6) p → rwo I1 W r o ≤ rwo I1 W r p)) →
    E1 263 (D + 1) Q 7 [(0, .ref 24), (1, .int (nI n)), (2, .ref 51), (3, .int (nI d)), (4, .int x4), (5, .int (nI i))] I0 J1) (fun i hi ih I0 x4 hF hw hm => ?_) 0 (Nat.zero_le _) I _ (fun _ _ => rfl) (fun u hu => absurd hu (Nat.not_lt_zero u)) (Or.inl ⟨rfl, fun o ho => absurd ho (Nat.not_lt_zero o)⟩)
  · exact lst
  refine mj_on (s263_7 _ _ _ _ ?_)
  rw [hF 24 (by decide), k1_at e1 (q := 24) (j := 0) rfl, w1, ix4m, nI_1]
  refine if_le (by omega) (by omega) (fun c => ?_) (fun c => ?_)
  · -- the second loop
    obtain rfl : i = Rn := by omega
    have l2 := lp_up (n := i) (fun k => E1 263 (D + 1) Q 74 [(0, .ref 24), (3, .int (nI d)), (4, .int x4), (5, .long (bs k (fbP i (lbit (J1 24 6)) (rwo I1 W r) d))), (7, .int (nI k))] I0 J1) (fun k hk ih2 => ?_) 0 (Nat.zero_le _)
    · exact l2
    refine mj_on (s263_74 _ _ _ _ ?_)
    rw [hF 24 (by decide), k1_at e1 (q := 24) (j := 0) rfl, w1, nI_1]
    refine if_le (by omega) (by omega) (fun c2 => ?_) (fun c2 => ?_)
    · obtain rfl : k = i := by omega
      rw [hQ]
      exact ⟨_, _, _, rfl, rfl, rfl, hF, hw⟩
    refine ⟨trivial, _, _, _, c_isIn (by omega), if_tf (fun f => ?_) (fun f => ?_)⟩
    · rw [nI_clamp (by omega), hw k c2]
      rcases hm with ⟨-, q⟩ | ⟨o, o1, o2, o3, o4⟩
      · exact absurd f (q k c2)
      obtain ⟨z, z1, z2, z3⟩ := h.wrng hrm c2
      obtain ⟨y, y1, y2, y3⟩ := h.wrng hrm o1
      have et : (nI d < rwo I1 W r k - x4) ↔ ¬ fbP i (lbit (J1 24 6)) (rwo I1 W r) d k := by
        rw [o3, z3, y3, iI_sub, ← iI_nI, Int32.lt_iff_toInt_lt, iI_toInt (by omega) (by omega), iI_toInt (by omega) (by omega)]
        constructor
        · intro q hp
          have := hp.2 o o1 o2
          rw [z3, y3, iI_toInt (by omega) (by omega), iI_toInt (by omega) (by omega)] at this
          omega
        · intro q
          refine Int.lt_of_not_ge fun q2 => q ⟨f, fun p p1 p2 => ?_⟩
          have h1 := Int32.le_iff_toInt_le.mp (o4 p p1 p2)
          rw [y3, iI_toInt (by omega) (by omega)] at h1
          rw [z3, iI_toInt (by omega) (by omega)]
          omega
      refine ⟨vp_in_nI (by omega) (by decide), if_i (fun q => ?_) (fun q => ?_)⟩
      · rw [← bs_f0 (n := k) (et.mp q)]
        exact ih2 c2
      · have q2 : fbP i (lbit (J1 24 6)) (rwo I1 W r) d k := Classical.byContradiction fun z => q (et.mpr z)
        rw [← bs_t (n := k) q2]
        exact ih2 c2
    · rw [← bs_f0 (n := k) (p := fbP i (lbit (J1 24 6)) (rwo I1 W r) d) (fun q => f q.1)]
      exact ih2 c2
  · have e1' : k1 I0 = k1 I1 := by
      rw [← e1]
      funext q j
      unfold k1
      by_cases e : q = 28
      · rw [e]; rfl
      · rw [hF q e]
    have hwr : wro I0 W n r := fun w hw => by rw [k1_at e1' rfl]; exact h.wr hr w hw
    have hwv : wo r (fun w => I0 25 (4 * i + w)) W = rwo I1 W r i := wo_c fun w _ => k1_at e1' rfl
    refine ⟨trivial, _, _, _, c_weigh_a (by rw [k1_at e1' rfl]; exact g3) w4 hn (by omega) hwr, vp_in_nI (by omega) (by decide), ?_⟩
    rw [nI_clamp (by omega), hwv]
    have hF2 : ∀ q, q ≠ 28 → mj_up I0 28 i (rwo I1 W r i) q = I q := fun q hq => by rw [up_c hq, hF q hq]
    have hw2 : ∀ u, u < i + 1 → mj_up I0 28 i (rwo I1 W r i) 28 u = rwo I1 W r u := fun u hu => by
      by_cases e : u = i
      · rw [e, up_s]
      · rw [up_j e]; exact hw u (by omega)
    refine ⟨trivial, _, _, _, c_isIn (by omega), if_tf (fun f => ?_) (fun f => ?_)⟩
    · refine ⟨vp_in_nI (by omega) (by decide), trivial, _, _, _, c_min, ?_⟩
      rw [hw2 i (by omega)]
      refine ih c _ _ hF2 hw2 (Or.inr ?_)
      obtain ⟨z, z1, z2, z3⟩ := h.wrng hrm c
      rcases hm with ⟨q1, q2⟩ | ⟨o, o1, o2, o3, o4⟩
      · refine ⟨i, by omega, f, ?_, fun p hp q => ?_⟩
        · rw [if_pos]
          rw [q1, z3, Int32.lt_iff_toInt_lt, iI_toInt (by omega) (by omega)]
          have : (2000000000 : Int32).toInt = 2000000000 := by decide
          omega
        · by_cases e : p = i
          · rw [e]; exact Int32.le_refl _
          · exact absurd q (q2 p (by omega))
      · by_cases lt : rwo I1 W r i < x4
        · rw [if_pos lt]
          refine ⟨i, by omega, f, rfl, fun p hp q => ?_⟩
          by_cases e : p = i
          · rw [e]; exact Int32.le_refl _
          · rw [o3] at lt
            exact Int32.le_trans (Int32.le_of_lt lt) (o4 p (by omega) q)
        · rw [if_neg lt]
          refine ⟨o, by omega, o2, o3, fun p hp q => ?_⟩
          by_cases e : p = i
          · rw [e, ← o3]; exact Int32.not_lt.mp lt
          · exact o4 p (by omega) q
    · refine ih c _ _ hF2 hw2 ?_
      rcases hm with ⟨q1, q2⟩ | ⟨o, o1, o2, o3, o4⟩
      · exact Or.inl ⟨q1, fun o ho => by
          by_cases e : o = i
          · rw [e]; exact f
          · exact q2 o (by omega)⟩
      · refine Or.inr ⟨o, by omega, o2, o3, fun p hp q => ?_⟩
        by_cases e : p = i
        · rw [e] at q; exact absurd q f
        · exact o4 p (by omega) q
theorem k1_28 {I' : Nat → Nat → Int32} (h : ∀ q, q ≠ 28 → I' q = I q) : k1 I' = k1 I := by
  funext q j
  unfold k1
  by_cases e : q = 28
  · rw [e]; rfl
  · rw [h q e]
theorem al_agree (h : Rl b W Rn Kn Tn Hn Un g I1 J1 I2 J2) : AI 259 107 [] I1 J1 I2 J2 (Rl b W Rn Kn Tn Hn Un g) := by
  obtain ⟨a1, a2, -⟩ := h.N
  have hB := h.rB
  obtain ⟨b1, b2, b3, b4, b5, b6⟩ := id hB
  obtain ⟨hG, g1, g2, g3, g4, g5⟩ := h.G
  obtain ⟨S, s1, s2, -, -⟩ := h.S
  by_cases hW : W = 0
  · refine AI.same (-1) (mj_mk (D := 899) (e259 ?_)) (mj_mk (D := 899) (e107 ?_)) h
    · rw [show ((0 : Int32)).toNatClampNeg = 0 from rfl, a1, hW]
      exact ⟨vp_in_nI (n := 0) (by decide) (by decide), rfl⟩
    · rw [b1, nI_clamp (by omega), b3, hW]
      exact ⟨vp_in_nI b2 (by decide), rfl⟩
  obtain ⟨P, hP⟩ : ∃ P, P = sAg I1 J1 W S := ⟨_, rfl⟩
  obtain ⟨v, hv⟩ : ∃ v, v = lct P (wl W g) := ⟨_, rfl⟩
  have cl : C1 900 259 [.ref 0] I1 J1 (.int (nI v)) I1 J1 := by
    refine mj_mk (D := 899) (e259 ?_)
    rw [show ((0 : Int32)).toNatClampNeg = 0 from rfl, a1, if_neg (nI_ne0 (by omega) (by omega))]
    refine ⟨vp_in_nI (n := 0) (by decide) (by decide), ?_⟩
    refine lp_up (n := (wl W g).length) (fun n => E1 259 899 (fun q => q = (.int (nI v), (I1, J1, mj_R1))) 18 [(0, .ref 0), (1, .int (nI (lct P ((wl W g).take n)))), (2, .int (nI n))] I1 J1) (fun n hn ih => ?_) 0 (Nat.zero_le _)
    refine mj_on (s259_18 _ _ ?_)
    rw [g4, nI_1, nI_1]
    refine if_le (by omega) (by omega) (fun c => ?_) (fun c => ?_)
    · rw [tk_e c, hv]
    · obtain ⟨r, hr, -, -⟩ := gt_of c
      have hs := ih c
      rw [tk_s hr] at hs
      refine ⟨trivial, _, _, _, c_isAg h s2 s1 rfl hr, if_tf (fun d => ?_) (fun d => ?_)⟩
      · rw [← hP] at d
        rw [lct_t d] at hs
        exact hs
      · rw [← hP] at d
        rw [lct_f d] at hs
        exact hs
  have hN : wnum g W ≤ 2197 := wnum_le hG.2 b4
  have rf : ∃ r I2' J2', C2 900 107 [.ref 0] I2 J2 (.int r) I2' J2' ∧ (r = nI v ∧ k2 I2' = k2 I2 ∧ J2' = J2) := by
    refine mj_cI (D := 899) (e107 ?_)
    rw [b1, nI_clamp (by omega), b3, if_neg (nI_ne0 (by omega) (by omega))]
    refine ⟨vp_in_nI b2 (by decide), ?_⟩
    refine lp_up (n := wnum g W) (fun n => ∀ I, k2 I = k2 I2 → E2 107 899 (qI mj_R2 (fun r I' J' => r = nI v ∧ k2 I' = k2 I2 ∧ J' = J2)) 18 [(0, .ref 0), (1, .int (nI (lct P (wpre g W n)))), (2, .int (nI n))] I J2) (fun n hn ih I hI => ?_) 0 (Nat.zero_le _) I2 rfl
    refine mj_on (s107_18 _ _ ?_)
    rw [show (0 : Int32) = nI 0 from rfl, nI_add, Nat.add_zero, nI_1, nI_1]
    refine ⟨trivial, _, _, _, r_numbers (rB_k hB hI) (rG_k hG hI), if_le (by omega) (by omega) (fun c => ?_) (fun c => ?_)⟩
    · obtain rfl : n = wnum g W := by omega
      refine ⟨_, _, _, rfl, ?_, hI, rfl⟩
      rw [hv]
      unfold wpre
      rw [(wl_ok hG.2 b4).1]
    · obtain ⟨I', hc, q1, q2⟩ := r_isWeighing (D := 898) (J := J2) (rB_k hB hI) (rG_k hG hI) (by omega) (show n < 2197 by omega)
      have hI' : k2 I' = k2 I2 := (k2_40 q1).trans hI
      refine ⟨trivial, _, _, _, hc, if_tf (fun d => ?_) (fun d => ?_)⟩
      · obtain ⟨r, hr⟩ := Option.ne_none_iff_exists'.mp d
        have hs := ih c I' hI'
        rw [wpre_t hr] at hs
        refine ⟨trivial, _, _, _, r_agrees h hI' s2 s1 (q2 r hr), if_tf (fun d => ?_) (fun d => ?_)⟩
        · rw [← hP] at d
          rw [lct_t d] at hs
          exact hs
        · rw [← hP] at d
          rw [lct_f d] at hs
          exact hs
      · have d : wval g W n = none := Classical.byContradiction fun q => d q
        have hs := ih c I' hI'
        rw [wpre_f d] at hs
        exact hs
  obtain ⟨r, I2', J2', hc, rfl, q1, rfl⟩ := rf
  exact ⟨_, I1, J1, I2', J2', cl, hc, Rl_same h rfl rfl q1 rfl⟩
end S61
end
section
/-! the reference gathers what agrees; could -/
theorem fbP_0 {n : Nat} {p : Nat → Prop} {v : Nat → Int32} {u : Nat} : fbP n p v 0 u ↔ p u ∧ ∀ o, o < n → p o → v u ≤ v o := by
  unfold fbP
  refine and_congr_right fun _ => forall_congr' fun o => forall_congr' fun _ => forall_congr' fun _ => ?_
  rw [Int.add_zero, Int32.le_iff_toInt_le]
section S62
variable {D b W Rn Kn Tn Hn Un g : Nat} {I I1 I2 : Nat → Nat → Int32} {J J1 J2 : Nat → Nat → Int64}
/-- what lies in the reference's rows of what agrees -/
def gaP (I1 : Nat → Nat → Int32) (J1 : Nat → Nat → Int64) (W Rn : Nat) (A : List (List Nat)) (I : Nat → Nat → Int32) (J : Nat → Nat → Int64) : Prop :=
  I 0 71 = nI A.length ∧ ∀ k r, A[k]? = some r → J 46 k = fb I1 J1 W Rn 0 r ∧ ∀ u, u < Rn → lbit (J1 24 6) u → I 45 (40 * k + u) = rwo I1 W r u
theorem r_gather (h : Rl b W Rn Kn Tn Hn Un g I1 J1 I2 J2) {S : Nat} (hS : I1 53 0 = nI S) (hS2 : S ≤ 12) : ∃ I' J', C2 (D + 7) 112 [.ref 0] I2 J2 .null I' J' ∧ k2 I' = k2 I2 ∧ kJ2 J' = kJ2 J2 ∧ gaP I1 J1 W Rn (fl (sAg I1 J1 W S) (wl W g)) I' J' := by
  have hB := h.rB
  obtain ⟨b1, b2, b3, b4, b5, b6⟩ := id hB
  obtain ⟨hG, -⟩ := h.G
  have hN : wnum g W ≤ 2197 := wnum_le hG.2 b4
  obtain ⟨P, hP⟩ : ∃ P, P = sAg I1 J1 W S := ⟨_, rfl⟩
  have hlen : (fl P (wl W g)).length ≤ 455 := Nat.le_trans fl_len (wl_ok hG.2 b4).2.1
  have hpre : ∀ x, x ≤ wnum g W → ∃ t, wpre g W x ++ t = wl W g := fun x hx => by
    have e := (wl_ok hG.2 b4).1
    refine ⟨(List.range' x (wnum g W - x)).filterMap (wval g W), ?_⟩
    unfold wpre
    rw [← List.filterMap_append, ← e]
    congr 1
    rw [List.range_eq_range', List.range_eq_range']
    have := List.range'_append_1 (s := 0) (m := x) (n := wnum g W - x)
    rw [Nat.zero_add] at this
    rw [this]
    congr 1
    omega
  rw [← hP]
  refine mj_cN (e112 ?_)
  obtain ⟨Q, hQ⟩ : ∃ Q, Q = qN mj_R2 (fun I' J' => k2 I' = k2 I2 ∧ kJ2 J' = kJ2 J2 ∧ gaP I1 J1 W Rn (fl P (wl W g)) I' J') := ⟨_, rfl⟩
  rw [← hQ]
  refine ⟨trivial, _, _, _, h.rfront, ?_⟩
  -- the rows of one that agrees
  have inner : ∀ (r : List Nat) (A : List (List Nat)) (x : Nat) (J0 : Nat → Nat → Int64), r ∈ wl W g → A.length < 455 →
      (∀ I' J', k2 I' = k2 I2 → kJ2 J' = kJ2 J2 → gaP I1 J1 W Rn (A ++ [r]) I' J' → E2 112 (D + 6) Q 12 [(0, .ref 0), (1, .long (J1 24 6)), (3, .int (nI (x + 1)))] I' J') →
      kJ2 J0 = kJ2 J2 → ∀ i, i ≤ Rn → ∀ (I0 : Nat → Nat → Int32) (x4 : Int32) (x5 : Int64), k2 I0 = k2 I2 → gaP I1 J1 W Rn A I0 J0 → wgh I0 W r → (∀ u, u < i → lbit (J1 24 6) u → I0 45 (40 * A.length + u) = rwo I1 W r u) →
      x5 = bs i (fun u => lbit (J1 24 6) u ∧ ∀ o, o < i → lbit (J1 24 6) o → rwo I1 W r u ≤ rwo I1 W r o) → ((x5 = 0 ∧ ∀ o, o < i → ¬ lbit (J1 24 6) o) ∨ (x5 ≠ 0 ∧ ∃ o, o < i ∧ lbit (J1 24 6) o ∧ x4 = rwo I1 W r o ∧ ∀ p, p < i → lbit (J1 24 6) p → rwo I1 W r o ≤ rwo I1 W r p)) →
      E2 112 (D + 6) Q 47 [(0, .ref 0), (1, .long (J1 24 6)), (3, .int (nI x)), (4, .int x4), (5, .long x5), (7, .int (nI i))] I0 J0 := by
    intro r A x J0 hrm hA K hJ0
    refine lp_up (n := Rn) (fun i => ∀ (I0 : Nat → Nat → Int32) (x4 : Int32) (x5 : Int64), k2 I0 = k2 I2 → gaP I1 J1 W Rn A I0 J0 → wgh I0 W r → (∀ u, u < i → lbit (J1 24 6) u → I0 45 (40 * A.length + u) = rwo I1 W r u) →
      x5 = bs i (fun u => lbit (J1 24 6) u ∧ ∀ o, o < i → lbit (J1 24 6) o → rwo I1 W r u ≤ rwo I1 W r o) → ((x5 = 0 ∧ ∀ o, o < i → ¬ lbit (J1 24 6) o) ∨ (x5 ≠ 0 ∧ ∃ o, o < i ∧ lbit (J1 24 6) o ∧ x4 = rwo I1 W r o ∧ ∀ p, p < i → lbit (J1 24 6) p → rwo I1 W r o ≤ rwo I1 W r p)) →
      E2 112 (D + 6) Q 47 [(0, .ref 0), (1, .long (J1 24 6)), (3, .int (nI x)), (4, .int x4), (5, .long x5), (7, .int (nI i))] I0 J0) (fun i hi ih I0 x4 x5 hk hg hw hr h5 hc => ?_)
    have hBI := rB_k hB hk
    refine mj_on (s112_47 _ _ _ _ _ ?_)
    rw [hBI.1, nI_clamp (by omega), hBI.2.2.2.2.1, hg.1, nI_1, nI_clamp (by omega)]
    refine ⟨vp_in_nI b2 (by decide), if_le (by omega) (by omega) (fun c => ⟨vp_in_nI (by omega) (by decide), ?_⟩) (fun c => ?_)⟩
    · obtain rfl : i = Rn := by omega
      rw [nI_1]
      refine K _ _ ?_ ?_ ⟨?_, fun k r' hr' => ?_⟩
      · rw [k2_up rfl]; exact hk
      · rw [kJ2_up rfl]; exact hJ0
      · rw [up_s, List.length_append]; rfl
      · by_cases e : k < A.length
        · rw [List.getElem?_append_left e] at hr'
          obtain ⟨q1, q2⟩ := hg.2 k r' hr'
          refine ⟨by rw [up_j (by omega)]; exact q1, fun u hu hb => by rw [up_c (by decide)]; exact q2 u hu hb⟩
        · have hk2 : k = A.length ∧ r' = r := by
            rw [List.getElem?_append_right (by omega)] at hr'
            cases hz : k - A.length with
            | zero => rw [hz] at hr'; cases hr'; exact ⟨by omega, rfl⟩
            | succ z => rw [hz] at hr'; cases hr'
          obtain ⟨rfl, rfl⟩ := hk2
          refine ⟨?_, fun u hu hb => by rw [up_c (by decide)]; exact hr u hu hb⟩
          rw [up_s, h5]
          exact bs_iff fun u hu => fbP_0.symm
    -- one more row
    have fin : ∀ (I0' : Nat → Nat → Int32) (y4 : Int32) (y5 : Int64), k2 I0' = k2 I2 → gaP I1 J1 W Rn A I0' J0 → wgh I0' W r → (∀ u, u < i + 1 → lbit (J1 24 6) u → I0' 45 (40 * A.length + u) = rwo I1 W r u) → y5 = bs (i + 1) (fun u => lbit (J1 24 6) u ∧ ∀ o, o < i + 1 → lbit (J1 24 6) o → rwo I1 W r u ≤ rwo I1 W r o) → ((y5 = 0 ∧ ∀ o, o < i + 1 → ¬ lbit (J1 24 6) o) ∨ (y5 ≠ 0 ∧ ∃ o, o < i + 1 ∧ lbit (J1 24 6) o ∧ y4 = rwo I1 W r o ∧ ∀ p, p < i + 1 → lbit (J1 24 6) p → rwo I1 W r o ≤ rwo I1 W r p)) →
        E2 112 (D + 6) Q 141 [(0, .ref 0), (1, .long (J1 24 6)), (3, .int (nI x)), (4, .int y4), (5, .long y5), (7, .int (nI i))] I0' J0 := fun I0' y4 y5 q1 q2 q3 q4 q5 q6 => by
      refine mj_on (s112_141 _ _ _ _ _ ?_)
      rw [nI_1]
      exact ih c I0' y4 y5 q1 q2 q3 q4 q5 q6
    refine if_i (fun f => ?_) (fun f => ?_)
    · have f := (sb_0 (by omega)).mp f
      refine fin I0 x4 x5 hk hg hw (fun u hu hb => ?_) ?_ ?_
      · by_cases e : u = i
        · rw [e] at hb; exact absurd hb f
        · exact hr u (by omega) hb
      · rw [bs_f0 (n := i) (fun q => f q.1), h5]
        exact bs_iff fun u hu => and_congr_right fun _ => ⟨fun q o ho hb => by
          by_cases e : o = i
          · rw [e] at hb; exact absurd hb f
          · exact q o (by omega) hb, fun q o ho hb => q o (by omega) hb⟩
      · rcases hc with ⟨q1, q2⟩ | ⟨q1, o, q2, q3, q4, q5⟩
        · exact Or.inl ⟨q1, fun o ho => by
            by_cases e : o = i
            · rw [e]; exact f
            · exact q2 o (by omega)⟩
        · refine Or.inr ⟨q1, o, by omega, q3, q4, fun p hp hb => ?_⟩
          by_cases e : p = i
          · rw [e] at hb; exact absurd hb f
          · exact q5 p (by omega) hb
    · have f : lbit (J1 24 6) i := Classical.byContradiction fun q => f ((sb_0 (by omega)).mpr q)
      refine ⟨trivial, _, _, _, r_rowWorth h hk c hw, ?_⟩
      rw [hg.1, show (40 : Int32) * nI A.length + nI i = nI (40 * A.length + i) from ix40 _ _, nI_clamp (by omega)]
      obtain ⟨Ia, hIa⟩ : ∃ Ia, Ia = mj_up I0 45 (40 * A.length + i) (rwo I1 W r i) := ⟨_, rfl⟩
      rw [← hIa]
      have a1 : k2 Ia = k2 I2 := by rw [hIa, k2_up rfl]; exact hk
      have a2 : gaP I1 J1 W Rn A Ia J0 := by
        refine ⟨by rw [hIa, up_c (by decide)]; exact hg.1, fun k r' hr' => ⟨(hg.2 k r' hr').1, fun u hu hb => ?_⟩⟩
        have hkl := (List.getElem?_eq_some_iff.mp hr').1
        rw [hIa, up_j (by omega)]
        exact (hg.2 k r' hr').2 u hu hb
      have a3 : wgh Ia W r := fun w hw2 => by rw [hIa, up_c (by decide)]; exact hw w hw2
      have a4 : ∀ u, u < i + 1 → lbit (J1 24 6) u → Ia 45 (40 * A.length + u) = rwo I1 W r u := fun u hu hb => by
        rw [hIa]
        by_cases e : u = i
        · rw [e, up_s]
        · rw [up_j (by omega)]; exact hr u (by omega) hb
      -- with a least one y4 and the bits y5 of those before that are as little
      have bit : ∀ (y4 : Int32) (y5 : Int64), (∃ o, o < i + 1 ∧ lbit (J1 24 6) o ∧ y4 = rwo I1 W r o ∧ ∀ p, p < i + 1 → lbit (J1 24 6) p → rwo I1 W r o ≤ rwo I1 W r p) → y5 = bs i (fun u => lbit (J1 24 6) u ∧ ∀ o, o < i + 1 → lbit (J1 24 6) o → rwo I1 W r u ≤ rwo I1 W r o) →
          E2 112 (D + 6) Q 121 [(0, .ref 0), (1, .long (J1 24 6)), (3, .int (nI x)), (4, .int y4), (5, .long y5), (7, .int (nI i)), (8, .int (rwo I1 W r i))] Ia J0 := by
        rintro y4 y5 ⟨o, o1, o2, o3, o4⟩ hy5
        have nz : ∀ {z : Int64}, z = bs (i + 1) (fun u => lbit (J1 24 6) u ∧ ∀ o, o < i + 1 → lbit (J1 24 6) o → rwo I1 W r u ≤ rwo I1 W r o) → z ≠ 0 := fun {z} ez e0 => by
          have hb := (bs_bit (p := fun u => lbit (J1 24 6) u ∧ ∀ o, o < i + 1 → lbit (J1 24 6) o → rwo I1 W r u ≤ rwo I1 W r o) (n := i + 1) (by omega) o).mpr ⟨o1, o2, fun p hp hb => o4 p hp hb⟩
          rw [← ez, e0] at hb
          revert hb
          simp
        refine mj_on (s112_121 _ _ _ _ _ _ ?_)
        refine if_i (fun e => ?_) (fun e => ?_)
        · have hm : lbit (J1 24 6) i ∧ ∀ o, o < i + 1 → lbit (J1 24 6) o → rwo I1 W r i ≤ rwo I1 W r o := ⟨f, fun p hp hb => by rw [e, o3]; exact o4 p hp hb⟩
          have ey : y5 ||| ((1 : Int64) <<< ((nI i).toInt64 &&& 63)) = bs (i + 1) (fun u => lbit (J1 24 6) u ∧ ∀ o, o < i + 1 → lbit (J1 24 6) o → rwo I1 W r u ≤ rwo I1 W r o) := by rw [bs_t (n := i) hm, hy5]
          exact fin Ia y4 _ a1 a2 a3 a4 ey (Or.inr ⟨nz ey, o, o1, o2, o3, o4⟩)
        · have hm : ¬ (lbit (J1 24 6) i ∧ ∀ o, o < i + 1 → lbit (J1 24 6) o → rwo I1 W r i ≤ rwo I1 W r o) := fun q => e (by
            rw [o3]
            exact Int32.le_antisymm (q.2 o o1 o2) (o4 i (by omega) f))
          have ey : y5 ||| (0 : Int64) = bs (i + 1) (fun u => lbit (J1 24 6) u ∧ ∀ o, o < i + 1 → lbit (J1 24 6) o → rwo I1 W r u ≤ rwo I1 W r o) := by rw [bs_f (n := i) hm, hy5]
          exact fin Ia y4 _ a1 a2 a3 a4 ey (Or.inr ⟨nz ey, o, o1, o2, o3, o4⟩)
      refine ⟨vp_in_nI (by omega) (by decide), ?_⟩
      rcases hc with ⟨q1, q2⟩ | ⟨q1, o, q2, q3, q4, q5⟩
      · rw [if_pos (cmp0.mpr q1)]
        refine bit _ _ ⟨i, by omega, f, rfl, fun p hp hb => ?_⟩ ?_
        · by_cases e : p = i
          · rw [e]; exact Int32.le_refl _
          · exact absurd hb (q2 p (by omega))
        · rw [bs_0 fun u hu q => q2 u hu q.1]
      · rw [if_neg (fun z => q1 (cmp0.mp z))]
        refine if_i (fun d => ?_) (fun d => ?_)
        · refine bit _ _ ⟨o, by omega, q3, q4, fun p hp hb => ?_⟩ ?_
          · by_cases e : p = i
            · rw [e, ← q4]; exact d
            · exact q5 p (by omega) hb
          · rw [h5]
            refine bs_iff fun u hu => and_congr_right fun hb => ⟨fun q p hp hb2 => ?_, fun q p hp hb2 => q p (by omega) hb2⟩
            by_cases e : p = i
            · rw [e]; rw [q4] at d; exact Int32.le_trans (q o q2 q3) d
            · exact q p (by omega) hb2
        · have d := Int32.not_le.mp d
          refine bit _ _ ⟨i, by omega, f, rfl, fun p hp hb => ?_⟩ ?_
          · by_cases e : p = i
            · rw [e]; exact Int32.le_refl _
            · rw [q4] at d
              exact Int32.le_trans (Int32.le_of_lt d) (q5 p (by omega) hb)
          · rw [bs_0]
            intro u hu q
            have h1 := q.2 i (by omega) f
            have h2 := q5 u hu q.1
            rw [q4] at d
            exact absurd (Int32.le_trans h2 h1) (Int32.not_le.mpr d)
  have outer := lp_up (n := wnum g W) (fun x => ∀ I0 J0, k2 I0 = k2 I2 → kJ2 J0 = kJ2 J2 → gaP I1 J1 W Rn (fl P (wpre g W x)) I0 J0 → E2 112 (D + 6) Q 12 [(0, .ref 0), (1, .long (J1 24 6)), (3, .int (nI x))] I0 J0) (fun x hx ih I0 J0 hk hj hg => ?_) 0 (Nat.zero_le _) (mj_up I2 0 71 0) J2 (k2_up rfl) rfl ⟨up_s, fun k r hr => by cases hr⟩
  · exact outer
  refine mj_on (s112_12 _ _ ?_)
  rw [nI_1]
  refine ⟨trivial, _, _, _, r_numbers (rB_k hB hk) (rG_k hG hk), if_le (by omega) (by omega) (fun c => ?_) (fun c => ?_)⟩
  · obtain rfl : x = wnum g W := by omega
    rw [hQ]
    refine ⟨_, _, rfl, hk, hj, ?_⟩
    unfold wpre at hg
    rw [(wl_ok hG.2 b4).1] at hg
    exact hg
  · have hW1 : 1 ≤ W := by
      rcases Nat.eq_zero_or_pos W with q | q
      · rw [q] at c; exact absurd c (Nat.not_lt_zero _)
      · exact q
    obtain ⟨I', hc, q1, q2⟩ := r_isWeighing (D := D + 5) (J := J0) (rB_k hB hk) (rG_k hG hk) hW1 (show x < 2197 by omega)
    have hk' : k2 I' = k2 I2 := (k2_40 q1).trans hk
    have hg' : gaP I1 J1 W Rn (fl P (wpre g W x)) I' J0 := by
      refine ⟨by rw [q1 0 (by decide)]; exact hg.1, fun k r hr => ⟨(hg.2 k r hr).1, fun u hu hb => by rw [q1 45 (by decide)]; exact (hg.2 k r hr).2 u hu hb⟩⟩
    refine ⟨trivial, _, _, _, hc, if_tf (fun d => ?_) (fun d => ?_)⟩
    · obtain ⟨r, hr⟩ := Option.ne_none_iff_exists'.mp d
      have ih := ih c
      rw [wpre_t hr] at ih
      obtain ⟨t, ht⟩ := hpre (x + 1) (by omega)
      rw [wpre_t hr] at ht
      have hrm : r ∈ wl W g := by rw [← ht]; simp
      refine ⟨trivial, _, _, _, r_agrees h hk' hS hS2 (q2 r hr), if_tf (fun f => ?_) (fun f => ?_)⟩
      · rw [← hP] at f
        rw [fl_t f] at ih
        have hl : (fl P (wpre g W x)).length < 455 := by
          have h1 : (fl P (wpre g W x ++ [r])).length ≤ (fl P (wl W g)).length := by
            rw [← ht]
            unfold fl
            rw [List.filter_append (wpre g W x ++ [r])]
            rw [List.length_append]
            omega
          rw [fl_t f, List.length_append] at h1
          have : ([r] : List (List Nat)).length = 1 := rfl
          omega
        exact inner r (fl P (wpre g W x)) x J0 hrm hl (fun I3 J3 z1 z2 z3 => ih I3 J3 z1 z2 z3) hj 0 (Nat.zero_le _) I' 0 0 hk' hg' (q2 r hr) (fun u hu => absurd hu (Nat.not_lt_zero u)) rfl (Or.inl ⟨rfl, fun o ho => absurd ho (Nat.not_lt_zero o)⟩)
      · rw [← hP] at f
        rw [fl_f f] at ih
        exact ih I' J0 hk' hj hg'
    · have d : wval g W x = none := Classical.byContradiction fun q => d q
      have ih := ih c
      rw [wpre_f d] at ih
      exact ih I' J0 hk' hj hg'
theorem al_could (h : Rl b W Rn Kn Tn Hn Un g I1 J1 I2 J2) : AJ 262 111 [] I1 J1 I2 J2 (Rl b W Rn Kn Tn Hn Un g) := by
  obtain ⟨S, s1, s2, -, -⟩ := h.S
  obtain ⟨hG, g1, g2, g3, g4, g5⟩ := h.G
  obtain ⟨P, hP⟩ : ∃ P, P = sAg I1 J1 W S := ⟨_, rfl⟩
  obtain ⟨f, hf⟩ : ∃ f, f = fb I1 J1 W Rn 0 := ⟨_, rfl⟩
  obtain ⟨v, hv⟩ : ∃ v, v = lor f (fl P (wl W g)) := ⟨_, rfl⟩
  have cl : ∃ r I1' J1', C1 900 262 [.ref 0] I1 J1 (.long r) I1' J1' ∧ (r = v ∧ k1 I1' = k1 I1 ∧ J1' = J1) := by
    refine mj_cL (D := 899) (e262 ?_)
    refine lp_up (n := (wl W g).length) (fun n => ∀ I, k1 I = k1 I1 → E1 262 899 (qL mj_R1 (fun r I' J' => r = v ∧ k1 I' = k1 I1 ∧ J' = J1)) 4 [(0, .ref 0), (1, .long (lor f (fl P ((wl W g).take n)))), (3, .int (nI n))] I J1) (fun n hn ih I hI => ?_) 0 (Nat.zero_le _) I1 rfl
    refine mj_on (s262_4 _ _ ?_)
    rw [k1_at hI (q := 51) (j := 2) rfl, g4, nI_1]
    refine if_le (by omega) (by omega) (fun c => ?_) (fun c => ?_)
    · rw [tk_e c]
      exact ⟨_, _, _, rfl, hv.symm, hI, rfl⟩
    · obtain ⟨r, hr, -, -⟩ := gt_of c
      have hs := ih c
      rw [tk_s hr] at hs
      refine ⟨trivial, _, _, _, c_isAg h s2 s1 hI hr, if_tf (fun d => ?_) (fun d => ?_)⟩
      · rw [← hP] at d
        rw [fl_t d, lor_s] at hs
        obtain ⟨I', hc, q1, q2⟩ := c_firstBy (D := 897) h (d := 0) hI hr (by omega)
        refine ⟨trivial, _, _, _, hc, ?_⟩
        rw [hf] at hs ⊢
        exact hs I' ((k1_28 q1).trans hI)
      · rw [← hP] at d
        rw [fl_f d] at hs
        exact hs I hI
  have rf : ∃ r I2' J2', C2 900 111 [.ref 0] I2 J2 (.long r) I2' J2' ∧ (r = v ∧ k2 I2' = k2 I2 ∧ kJ2 J2' = kJ2 J2) := by
    obtain ⟨I', J', hc, q1, q2, q3, q4⟩ := r_gather (D := 892) h s2 s1
    rw [← hP] at q3 q4
    refine mj_cL (D := 899) (e111 ?_)
    refine ⟨trivial, _, _, hc, ?_⟩
    have hl : (fl P (wl W g)).length ≤ 455 := Nat.le_trans fl_len g5
    refine lp_up (n := (fl P (wl W g)).length) (fun n => E2 111 899 (qL mj_R2 (fun r I' J' => r = v ∧ k2 I' = k2 I2 ∧ kJ2 J' = kJ2 J2)) 8 [(0, .ref 0), (1, .long (lor f ((fl P (wl W g)).take n))), (3, .int (nI n))] I' J') (fun n hn ih => ?_) 0 (Nat.zero_le _)
    refine mj_on (s111_8 _ _ ?_)
    rw [q3, nI_1, nI_clamp (by omega)]
    refine if_le (by omega) (by omega) (fun c => ?_) (fun c => ⟨vp_in_nI (by omega) (by decide), ?_⟩)
    · rw [tk_e c]
      exact ⟨_, _, _, rfl, hv.symm, q1, q2⟩
    · obtain ⟨r, hr, -, -⟩ := gt_of c
      have hs := ih c
      rw [tk_s hr, lor_s] at hs
      rw [(q4 n r hr).1, ← hf]
      exact hs
  obtain ⟨r, I1', J1', hc, rfl, p1, rfl⟩ := cl
  obtain ⟨r, I2', J2', hc2, rfl, p2, p3⟩ := rf
  exact ⟨_, _, _, _, _, hc, hc2, Rl_same h p1 rfl p2 p3⟩
end S62
end
section
/-! question -/
theorem i32_max {a b : Nat} (ha : a < 2 ^ 31) (hb : b < 2 ^ 31) : (if nI a < nI b then nI b else nI a) = nI (max a b) ∧ (if nI a ≤ nI b then nI b else nI a) = nI (max a b) := by
  constructor
  · by_cases h : a < b
    · rw [if_pos (nI_lt h hb), Nat.max_eq_right (Nat.le_of_lt h)]
    · rw [if_neg (nI_nlt (by omega) ha), Nat.max_eq_left (by omega)]
  · by_cases h : a ≤ b
    · rw [if_pos (nI_le h hb), Nat.max_eq_right h]
    · rw [if_neg (nI_ge (by omega) ha), Nat.max_eq_left (by omega)]
theorem pcn_le : ∀ (k m : Nat), pcn k m ≤ k
  | 0, _ => Nat.le_refl 0
  | k + 1, m => by
    have := pcn_le k (m / 2)
    show m % 2 + pcn k (m / 2) ≤ k + 1
    omega
/-- what a question leaves -/
noncomputable def lvs (I : Nat → Nat → Int32) (J : Nat → Nat → Int64) (W Rn : Nat) (A : List (List Nat)) (x y : Nat) : Int64 := lor (fb I J W Rn 0) (fl (fun r => rwo I W r x ≤ rwo I W r y) A)
noncomputable def lvN (I : Nat → Nat → Int32) (J : Nat → Nat → Int64) (W Rn : Nat) (A : List (List Nat)) (x y : Nat) : Nat := max (pcL (lvs I J W Rn A x y)) (pcL (lvs I J W Rn A y x))
/-- one question tried: first, second, how many it leaves -/
noncomputable def qs1 (p : Nat → Prop) (v : Nat → Nat → Nat) (x y : Nat) (s : Int32 × Int32 × Int32) : Int32 × Int32 × Int32 := @ite _ (p x ∧ p y ∧ (s.2.2 = -1 ∨ nI (v x y) < s.2.2)) (Classical.propDecidable _) (nI x, nI y, nI (v x y)) s
theorem qs1_t {p : Nat → Prop} {v : Nat → Nat → Nat} {x y : Nat} {s : Int32 × Int32 × Int32} (h : p x ∧ p y ∧ (s.2.2 = -1 ∨ nI (v x y) < s.2.2)) : qs1 p v x y s = (nI x, nI y, nI (v x y)) := @if_pos _ (Classical.propDecidable _) h _ _ _
theorem qs1_f {p : Nat → Prop} {v : Nat → Nat → Nat} {x y : Nat} {s : Int32 × Int32 × Int32} (h : ¬ (p x ∧ p y ∧ (s.2.2 = -1 ∨ nI (v x y) < s.2.2))) : qs1 p v x y s = s := @if_neg _ (Classical.propDecidable _) h _ _ _
noncomputable def qsB (p : Nat → Prop) (v : Nat → Nat → Nat) (x : Nat) : Nat → Nat → Int32 × Int32 × Int32 → Int32 × Int32 × Int32
  | 0, _, s => s
  | k + 1, y, s => qsB p v x k (y + 1) (qs1 p v x y s)
noncomputable def qsA (p : Nat → Prop) (v : Nat → Nat → Nat) (n : Nat) : Nat → Nat → Int32 × Int32 × Int32 → Int32 × Int32 × Int32
  | 0, _, s => s
  | k + 1, x, s => qsA p v n k (x + 1) (qsB p v x (n - (x + 1)) (x + 1) s)
theorem qsB_s {p : Nat → Prop} {v : Nat → Nat → Nat} {x y n : Nat} {s : Int32 × Int32 × Int32} (h : y < n) : qsB p v x (n - y) y s = qsB p v x (n - (y + 1)) (y + 1) (qs1 p v x y s) := by
  rw [show n - y = (n - (y + 1)) + 1 by omega]
  rfl
theorem qsB_e {p : Nat → Prop} {v : Nat → Nat → Nat} {x y n : Nat} {s : Int32 × Int32 × Int32} (h : n ≤ y) : qsB p v x (n - y) y s = s := by
  rw [show n - y = 0 by omega]
  rfl
theorem qsA_s {p : Nat → Prop} {v : Nat → Nat → Nat} {x n : Nat} {s : Int32 × Int32 × Int32} (h : x < n) : qsA p v n (n - x) x s = qsA p v n (n - (x + 1)) (x + 1) (qsB p v x (n - (x + 1)) (x + 1) s) := by
  rw [show n - x = (n - (x + 1)) + 1 by omega]
  rfl
theorem qsA_e {p : Nat → Prop} {v : Nat → Nat → Nat} {x n : Nat} {s : Int32 × Int32 × Int32} (h : n ≤ x) : qsA p v n (n - x) x s = s := by
  rw [show n - x = 0 by omega]
  rfl
/-- how many it leaves is a number, or -1 with both others -/
def qok (s : Int32 × Int32 × Int32) : Prop := (s = (-1, -1, -1)) ∨ ∃ x y n : Nat, n ≤ 64 ∧ x < 64 ∧ y < 64 ∧ s = (nI x, nI y, nI n)
section S63
variable {D b W Rn Kn Tn Hn Un g : Nat} {I I1 I2 : Nat → Nat → Int32} {J J1 J2 : Nat → Nat → Int64}
theorem lvN_le {A : List (List Nat)} {x y : Nat} : lvN I J W Rn A x y ≤ 64 := Nat.max_le.mpr ⟨pcn_le 64 _, pcn_le 64 _⟩
theorem c_max {x y : Int32} : C1 (D + 1) 1 [.int x, .int y] I J (.int (if x < y then y else x)) I J := by
  refine mj_mk (e1 _ _ ?_)
  exact if_i (fun c => mqi (if_pos c).symm) (fun c => mqi (if_neg c).symm)
/-- the class' rows of what questions leave -/
def lvP (I1 : Nat → Nat → Int32) (J1 : Nat → Nat → Int64) (W Rn : Nat) (A : List (List Nat)) (J : Nat → Nat → Int64) : Prop := ∀ x y, x < Rn → y < Rn → J 56 (40 * x + y) = lvs I1 J1 W Rn A x y
theorem c_note (h : Rl b W Rn Kn Tn Hn Un g I1 J1 I2 J2) {A : List (List Nat)} {r : List Nat} (e1 : k1 I = k1 I1) (hw : ∀ u, u < Rn → I 28 u = rwo I1 W r u) (hJ : lvP I1 J1 W Rn A J) : ∃ J', C1 (D + 1) 266 [.ref 53, .long (fb I1 J1 W Rn 0 r), .ref 24] I J .null I J' ∧ (∀ q, q ≠ 56 → J' q = J q) ∧ lvP I1 J1 W Rn (A ++ [r]) J' := by
  obtain ⟨w1, w2, w3, w4⟩ := h.W24
  have w1' : I 24 0 = nI Rn := by rw [k1_at e1 rfl]; exact w1
  suffices hs : ∃ I' J', C1 (D + 1) 266 [.ref 53, .long (fb I1 J1 W Rn 0 r), .ref 24] I J .null I' J' ∧ (I' = I ∧ (∀ q, q ≠ 56 → J' q = J q) ∧ lvP I1 J1 W Rn (A ++ [r]) J') by
    obtain ⟨I', J', hc, rfl, q⟩ := hs
    exact ⟨J', hc, q⟩
  refine mj_cN (e266 _ ?_)
  obtain ⟨Q, hQ⟩ : ∃ Q, Q = qN mj_R1 (fun I' J' => I' = I ∧ (∀ q, q ≠ 56 → J' q = J q) ∧ lvP I1 J1 W Rn (A ++ [r]) J') := ⟨_, rfl⟩
  rw [← hQ]
  have stp : ∀ {x y}, (rwo I1 W r x ≤ rwo I1 W r y → lvs I1 J1 W Rn (A ++ [r]) x y = lvs I1 J1 W Rn A x y ||| fb I1 J1 W Rn 0 r) ∧ (¬ rwo I1 W r x ≤ rwo I1 W r y → lvs I1 J1 W Rn (A ++ [r]) x y = lvs I1 J1 W Rn A x y) := fun {x y} => by
    unfold lvs
    exact ⟨fun q => by rw [fl_t q, lor_s], fun q => by rw [fl_f q]⟩
  -- done up to row x, column y
  have key := lp_up (n := Rn) (fun x => ∀ J0, (∀ q, q ≠ 56 → J0 q = J q) → (∀ u v, u < Rn → v < Rn → J0 56 (40 * u + v) = if u < x then lvs I1 J1 W Rn (A ++ [r]) u v else lvs I1 J1 W Rn A u v) → E1 266 D Q 3 [(0, .ref 53), (1, .long (fb I1 J1 W Rn 0 r)), (3, .ref 24), (4, .int (nI x))] I J0) (fun x hx ih J0 hF hL => ?_) 0 (Nat.zero_le _) J (fun _ _ => rfl) (fun u v hu hv => by rw [if_neg (Nat.not_lt_zero u)]; exact hJ u v hu hv)
  · exact key
  refine mj_on (s266_3 _ _ ?_)
  rw [w1']
  refine if_le (by omega) (by omega) (fun c => ?_) (fun c => ?_)
  · rw [hQ]
    refine ⟨_, _, rfl, rfl, hF, fun u v hu hv => ?_⟩
    rw [hL u v hu hv, if_pos (by omega)]
  have inner := lp_up (n := Rn) (fun y => ∀ J0, (∀ q, q ≠ 56 → J0 q = J q) → (∀ u v, u < Rn → v < Rn → J0 56 (40 * u + v) = if u < x ∨ (u = x ∧ v < y) then lvs I1 J1 W Rn (A ++ [r]) u v else lvs I1 J1 W Rn A u v) → E1 266 D Q 15 [(0, .ref 53), (1, .long (fb I1 J1 W Rn 0 r)), (3, .ref 24), (4, .int (nI x)), (5, .int (nI y))] I J0) (fun y hy ih2 J0 hF hL => ?_) 0 (Nat.zero_le _) J0 hF (fun u v hu hv => by
    rw [hL u v hu hv]
    by_cases e : u < x
    · rw [if_pos e, if_pos (Or.inl e)]
    · rw [if_neg e, if_neg (by omega)])
  · exact inner
  refine mj_on (s266_15 _ _ _ ?_)
  rw [w1', nI_1, nI_1]
  refine if_le (by omega) (by omega) (fun d => ?_) (fun d => ?_)
  · refine ih c J0 hF fun u v hu hv => ?_
    rw [hL u v hu hv]
    by_cases e : u < x + 1
    · rw [if_pos e, if_pos (by omega)]
    · rw [if_neg e, if_neg (by omega)]
  have hvx : vp_in (nI x) 40 := vp_in_nI (by omega) (by decide)
  have hvy : vp_in (nI y) 40 := vp_in_nI (by omega) (by decide)
  have ei : nI x * (40 : Int32) + nI y = nI (40 * x + y) := by rw [show (40 : Int32) = nI 40 from rfl, pk_mul, nI_add, Nat.mul_comm]
  rw [nI_clamp (by omega), nI_clamp (by omega), hw x c, hw y d, ei, nI_clamp (by omega)]
  have old : J0 56 (40 * x + y) = lvs I1 J1 W Rn A x y := by rw [hL x y c d, if_neg (by omega)]
  refine ⟨hvx, hvy, if_i (fun f => ?_) (fun f => ⟨vp_in_nI (by omega) (by decide), vp_in_nI (by omega) (by decide), ?_⟩)⟩
  · refine ih2 d J0 hF fun u v hu hv => ?_
    by_cases e : u = x ∧ v = y
    · rw [e.1, e.2, old, if_pos (by omega), stp.2 (Int32.not_le.mpr f)]
    · rw [hL u v hu hv]
      by_cases e2 : u < x ∨ (u = x ∧ v < y)
      · rw [if_pos e2, if_pos (by omega)]
      · rw [if_neg e2, if_neg (by omega)]
  · refine ih2 d _ (fun q hq => by rw [up_c hq, hF q hq]) fun u v hu hv => ?_
    by_cases e : u = x ∧ v = y
    · rw [e.1, e.2, up_s, old, if_pos (by omega), stp.1 (Int32.not_lt.mp f)]
    · rw [up_j (by omega), hL u v hu hv]
      by_cases e2 : u < x ∨ (u = x ∧ v < y)
      · rw [if_pos e2, if_pos (by omega)]
      · rw [if_neg e2, if_neg (by omega)]
/-- where the class keeps the question -/
def qAt (I : Nat → Nat → Int32) (s : Int32 × Int32 × Int32) : Prop := I 53 7 = s.2.2 ∧ (s.2.2 ≠ -1 → I 53 5 = s.1 ∧ I 53 6 = s.2.1)
theorem kJ1_56 {J' : Nat → Nat → Int64} (h : ∀ q, q ≠ 56 → J' q = J q) : kJ1 J' = kJ1 J := by
  funext q j
  unfold kJ1
  by_cases e : q = 56
  · rw [e]; rfl
  · rw [h q e]
theorem c_try {A : List (List Nat)} {x y : Nat} {s : Int32 × Int32 × Int32} (hx : x < Rn) (hy : y < Rn) (hR : Rn ≤ 40) (hL : lvP I1 J1 W Rn A J) (hs : qAt I s) (p : Nat → Prop) (hp : p x ∧ p y) : ∃ I', C1 (D + 2) 267 [.ref 53, .int (nI x), .int (nI y)] I J .null I' J ∧ k1 I' = k1 I ∧ qAt I' (qs1 p (lvN I1 J1 W Rn A) x y s) := by
  obtain ⟨v, hv⟩ : ∃ v, v = lvN I1 J1 W Rn A := ⟨_, rfl⟩
  rw [← hv]
  suffices hs : ∃ I' J', C1 (D + 2) 267 [.ref 53, .int (nI x), .int (nI y)] I J .null I' J' ∧ (J' = J ∧ k1 I' = k1 I ∧ qAt I' (qs1 p v x y s)) by
    obtain ⟨I', J', hc, rfl, q⟩ := hs
    exact ⟨I', hc, q⟩
  refine mj_cN (e267 _ _ ?_)
  have ei : ∀ {x y : Nat}, nI x * (40 : Int32) + nI y = nI (40 * x + y) := fun {x y} => by rw [show (40 : Int32) = nI 40 from rfl, pk_mul, nI_add, Nat.mul_comm]
  obtain ⟨ca, hca⟩ : ∃ n, n = pcL (lvs I1 J1 W Rn A x y) := ⟨_, rfl⟩
  obtain ⟨cb, hcb⟩ : ∃ n, n = pcL (lvs I1 J1 W Rn A y x) := ⟨_, rfl⟩
  have la : ca ≤ 64 := by rw [hca]; exact pcn_le 64 _
  have lb : cb ≤ 64 := by rw [hcb]; exact pcn_le 64 _
  have ka : C1 (D + 1) 2 [.long (lvs I1 J1 W Rn A x y)] I J (.int (nI ca)) I J := by rw [hca]; exact c_bcL
  have kb : C1 (D + 1) 2 [.long (lvs I1 J1 W Rn A y x)] I J (.int (nI cb)) I J := by rw [hcb]; exact c_bcL
  have hvN : v x y = max ca cb := by rw [hv, hca, hcb]; unfold lvN; rfl
  clear hca hcb hv
  rw [ei, ei, nI_clamp (by omega), hL x y hx hy]
  refine ⟨vp_in_nI (by omega) (by decide), trivial, _, _, _, ka, vp_in_nI (by omega) (by decide), ?_⟩
  rw [nI_clamp (by omega), hL y x hy hx]
  refine ⟨trivial, _, _, _, kb, trivial, _, _, _, c_max, ?_⟩
  rw [(i32_max (a := ca) (b := cb) (by omega) (by omega)).1, hs.1, ← hvN]
  have go : (s.2.2 = -1 ∨ nI (v x y) < s.2.2) → E1 267 (D + 1) (qN mj_R1 (fun I' J' => J' = J ∧ k1 I' = k1 I ∧ qAt I' (qs1 p v x y s))) 48 [(0, .ref 53), (1, .int (nI x)), (2, .int (nI y)), (3, .int (nI (v x y)))] I J := by
    intro hc
    refine mj_on (s267_48 _ _ _ ?_)
    refine ⟨_, _, rfl, rfl, ?_, ?_⟩
    · rw [k1_up rfl, k1_up rfl, k1_up rfl]
    · rw [qs1_t ⟨hp.1, hp.2, hc⟩]
      refine ⟨up_s, fun _ => ⟨?_, ?_⟩⟩
      · rw [up_j (by decide), up_j (by decide), up_s]
      · rw [up_j (by decide), up_s]
  refine if_i (fun c => go (Or.inl c)) (fun c => if_i (fun d => ?_) (fun d => go (Or.inr (Int32.not_le.mp d))))
  refine ⟨_, _, rfl, rfl, rfl, ?_⟩
  rw [qs1_f]
  · exact hs
  · rintro ⟨-, -, q | q⟩
    · exact c q
    · exact absurd q (Int32.not_lt.mpr d)
theorem c_ask (h : Rl b W Rn Kn Tn Hn Un g I1 J1 I2 J2) {S : Nat} (hS : I1 53 0 = nI S) (hS2 : S ≤ 12) : ∃ I' J' s, C1 (D + 5) 265 [.ref 53, .ref 51, .ref 24] I1 J1 (.int (tf (s.2.2 ≠ -1))) I' J' ∧ k1 I' = k1 I1 ∧ kJ1 J' = kJ1 J1 ∧ qAt I' s ∧ s = qsA (lbit (J1 24 6)) (lvN I1 J1 W Rn (fl (sAg I1 J1 W S) (wl W g))) Rn (Rn - 0) 0 (-1, -1, -1) := by
  obtain ⟨hG, g1, g2, g3, g4, g5⟩ := h.G
  obtain ⟨w1, w2, w3, w4⟩ := h.W24
  obtain ⟨P, hP⟩ : ∃ P, P = sAg I1 J1 W S := ⟨_, rfl⟩
  rw [← hP]
  obtain ⟨A, hA⟩ : ∃ A, A = fl P (wl W g) := ⟨_, rfl⟩
  rw [← hA]
  obtain ⟨v, hv⟩ : ∃ v, v = lvN I1 J1 W Rn A := ⟨_, rfl⟩
  rw [← hv]
  obtain ⟨s0, hs0⟩ : ∃ s, s = qsA (lbit (J1 24 6)) v Rn (Rn - 0) 0 (-1, -1, -1) := ⟨_, rfl⟩
  rw [← hs0]
  suffices hs : ∃ z I' J', C1 (D + 5) 265 [.ref 53, .ref 51, .ref 24] I1 J1 (.int z) I' J' ∧ (z = tf (s0.2.2 ≠ -1) ∧ k1 I' = k1 I1 ∧ kJ1 J' = kJ1 J1 ∧ qAt I' s0) by
    obtain ⟨z, I', J', hc, rfl, q1, q2, q3⟩ := hs
    exact ⟨I', J', s0, hc, q1, q2, q3, rfl⟩
  refine mj_cI (e265 ?_)
  obtain ⟨Q, hQ⟩ : ∃ Q, Q = qI mj_R1 (fun z I' J' => z = tf (s0.2.2 ≠ -1) ∧ k1 I' = k1 I1 ∧ kJ1 J' = kJ1 J1 ∧ qAt I' s0) := ⟨_, rfl⟩
  rw [← hQ]
  -- the pairs
  have pairs : ∀ J0, kJ1 J0 = kJ1 J1 → lvP I1 J1 W Rn A J0 → ∀ x, x ≤ Rn → ∀ I0 s, k1 I0 = k1 I1 → qAt I0 s → qsA (lbit (J1 24 6)) v Rn (Rn - x) x s = s0 → E1 265 (D + 4) Q 67 [(0, .ref 53), (2, .ref 24), (3, .int (nI x))] I0 J0 := by
    intro J0 hj hL
    refine lp_up (n := Rn) (fun x => ∀ I0 s, k1 I0 = k1 I1 → qAt I0 s → qsA (lbit (J1 24 6)) v Rn (Rn - x) x s = s0 → E1 265 (D + 4) Q 67 [(0, .ref 53), (2, .ref 24), (3, .int (nI x))] I0 J0) (fun x hx ih I0 s hk hq he => ?_)
    refine mj_on (s265_67 _ ?_)
    rw [k1_at hk (q := 24) (j := 0) rfl, w1, nI_1, hq.1]
    refine if_le (by omega) (by omega) (fun c => ?_) (fun c => ?_)
    · rw [qsA_e c] at he
      rw [hQ]
      refine if_i (fun d => ⟨Or.inl rfl, _, _, _, rfl, ?_, hk, hj, he ▸ hq⟩) (fun d => ⟨Or.inr rfl, _, _, _, rfl, ?_, hk, hj, he ▸ hq⟩)
      · rw [tf_f]
        rw [← he]
        exact fun q => q d
      · rw [tf_t]
        rw [← he]
        exact d
    rw [qsA_s c] at he
    have inner := lp_up (n := Rn) (fun y => ∀ I0 s, k1 I0 = k1 I1 → qAt I0 s → qsA (lbit (J1 24 6)) v Rn (Rn - (x + 1)) (x + 1) (qsB (lbit (J1 24 6)) v x (Rn - y) y s) = s0 → E1 265 (D + 4) Q 80 [(0, .ref 53), (2, .ref 24), (3, .int (nI x)), (4, .int (nI y))] I0 J0) (fun y hy ih2 I0 s hk hq he => ?_) (x + 1) (by omega) I0 s hk hq he
    · exact inner
    refine mj_on (s265_80 _ _ ?_)
    rw [k1_at hk (q := 24) (j := 0) rfl, w1, nI_1, nI_1, kJ1_at hj (q := 24) rfl]
    refine if_le (by omega) (by omega) (fun d => ?_) (fun d => ?_)
    · rw [qsB_e d] at he
      exact ih c I0 s hk hq he
    rw [qsB_s d] at he
    refine ⟨trivial, _, _, _, c_isIn (by omega), if_tf (fun f => ?_) (fun f => ?_)⟩
    · rw [kJ1_at hj (q := 24) rfl]
      refine ⟨trivial, _, _, _, c_isIn (by omega), if_tf (fun f2 => ?_) (fun f2 => ?_)⟩
      · obtain ⟨I', hc, q1, q2⟩ := c_try (D := D + 2) c d w2 hL hq (lbit (J1 24 6)) ⟨f, f2⟩
        refine ⟨trivial, _, _, hc, ?_⟩
        rw [← hv] at q2
        exact ih2 d I' _ (q1.trans hk) q2 he
      · rw [qs1_f (fun q => f2 q.2.1)] at he
        exact ih2 d I0 s hk hq he
    · rw [qs1_f (fun q => f q.1)] at he
      exact ih2 d I0 s hk hq he
  -- the weighings
  have weighs : ∀ n, n ≤ (wl W g).length → ∀ I0 J0, k1 I0 = k1 I1 → kJ1 J0 = kJ1 J1 → lvP I1 J1 W Rn (fl P ((wl W g).take n)) J0 → E1 265 (D + 4) Q 24 [(0, .ref 53), (1, .ref 51), (2, .ref 24), (3, .int (nI n))] I0 J0 := by
    refine lp_up (n := (wl W g).length) (fun n => ∀ I0 J0, k1 I0 = k1 I1 → kJ1 J0 = kJ1 J1 → lvP I1 J1 W Rn (fl P ((wl W g).take n)) J0 → E1 265 (D + 4) Q 24 [(0, .ref 53), (1, .ref 51), (2, .ref 24), (3, .int (nI n))] I0 J0) (fun n hn ih I0 J0 hk hj hL => ?_)
    refine mj_on (s265_24 _ ?_)
    rw [k1_at hk (q := 51) (j := 2) rfl, g4, nI_1]
    refine if_le (by omega) (by omega) (fun c => ?_) (fun c => ?_)
    · rw [tk_e c, ← hA] at hL
      refine pairs J0 hj hL 0 (Nat.zero_le _) _ (-1, -1, -1) ?_ ⟨up_s, fun q => absurd rfl q⟩ hs0.symm
      rw [k1_up rfl]
      exact hk
    · obtain ⟨r, hr, -, -⟩ := gt_of c
      have ih := ih c
      rw [tk_s hr] at ih
      have hag : C1 (D + 4) 260 [.ref 53, .int (nI n), .ref 51, .ref 24] I0 J0 (.int (tf (P r))) I0 J0 := by
        rw [hP]
        have hRl : Rl b W Rn Kn Tn Hn Un g I1 J0 I2 J2 := Rl_same h rfl hj rfl rfl
        have e := c_isAg (D := D) hRl hS hS2 hk hr
        have e2 : sAg I1 J0 W S = sAg I1 J1 W S := by
          funext r
          unfold sAg saA
          rw [kJ1_at hj (q := 24) rfl]
        rw [e2] at e
        exact e
      refine ⟨trivial, _, _, _, hag, if_tf (fun d => ?_) (fun d => ?_)⟩
      · rw [fl_t d] at ih
        have hRl : Rl b W Rn Kn Tn Hn Un g I1 J0 I2 J2 := Rl_same h rfl hj rfl rfl
        obtain ⟨I', hc, q1, q2⟩ := c_firstBy (D := D + 2) hRl (d := 0) hk hr (by omega)
        have ef : fb I1 J0 W Rn (0 : Nat) r = fb I1 J1 W Rn 0 r := by
          unfold fb
          rw [kJ1_at hj (q := 24) rfl]
          rfl
        rw [ef] at hc
        have hk' := (k1_28 q1).trans hk
        obtain ⟨J', hc2, z1, z2⟩ := c_note (D := D + 3) h (A := fl P ((wl W g).take n)) (r := r) hk' q2 hL
        exact ⟨trivial, _, _, _, hc, trivial, _, _, hc2, ih I' J' hk' ((kJ1_56 z1).trans hj) z2⟩
      · rw [fl_f d] at ih
        exact ih I0 J0 hk hj hL
  -- the rows made empty
  have clr := lp_up (n := 1600) (fun i => ∀ J0, (∀ q, q ≠ 56 → J0 q = J1 q) → (∀ j, j < i → J0 56 j = 0) → E1 265 (D + 4) Q 2 [(0, .ref 53), (1, .ref 51), (2, .ref 24), (3, .int (nI i))] I1 J0) (fun i hi ih J0 hF h0 => ?_) 0 (Nat.zero_le _) J1 (fun _ _ => rfl) (fun j hj => absurd hj (Nat.not_lt_zero j))
  · exact clr
  refine mj_on (s265_2 _ ?_)
  rw [nI_1]
  refine if_le (a := 1600) (by decide) (by omega) (fun c => ?_) (fun c => ⟨vp_in_nI (by omega) (by decide), ?_⟩)
  · refine weighs 0 (Nat.zero_le _) I1 J0 rfl (kJ1_56 hF) fun x y hx hy => ?_
    rw [h0 _ (by omega)]
    rfl
  · rw [nI_clamp (by omega)]
    refine ih c _ (fun q hq => by rw [up_c hq, hF q hq]) fun j hj => ?_
    by_cases e : j = i
    · rw [e, up_s]
    · rw [up_j e]; exact h0 j (by omega)
theorem r_leaves {A : List (List Nat)} {x y : Nat} (hx : x < Rn) (hy : y < Rn) (hR : Rn ≤ 40) (hA : A.length ≤ 455) (bx : lbit (J1 24 6) x) (by' : lbit (J1 24 6) y) (hg : gaP I1 J1 W Rn A I J) : C2 (D + 2) 114 [.ref 0, .int (nI x), .int (nI y)] I J (.int (nI (pcL (lvs I1 J1 W Rn A x y)))) I J := by
  refine mj_mk (e114 _ _ ?_)
  refine lp_up (n := A.length) (fun n => E2 114 (D + 1) (fun q => q = (.int (nI (pcL (lvs I1 J1 W Rn A x y))), (I, J, mj_R2))) 5 [(0, .ref 0), (1, .int (nI x)), (2, .int (nI y)), (3, .long (lvs I1 J1 W Rn (A.take n) x y)), (5, .int (nI n))] I J) (fun n hn ih => ?_) 0 (Nat.zero_le _)
  refine mj_on (s114_5 _ _ _ _ ?_)
  rw [hg.1, nI_1]
  refine if_le (by omega) (by omega) (fun c => ?_) (fun c => ?_)
  · rw [tk_e c]
    exact ⟨trivial, _, _, _, r_bits, rfl⟩
  · obtain ⟨r, hr, -, -⟩ := gt_of c
    have ih := ih c
    rw [tk_s hr] at ih
    obtain ⟨q1, q2⟩ := hg.2 n r hr
    rw [ix40, ix40, nI_clamp (by omega), nI_clamp (by omega), nI_clamp (by omega), q2 x hx bx, q2 y hy by', q1]
    refine ⟨vp_in_nI (by omega) (by decide), vp_in_nI (by omega) (by decide), if_i (fun d => ?_) (fun d => ⟨vp_in_nI (by omega) (by decide), ?_⟩)⟩
    · have e : lvs I1 J1 W Rn (A.take n ++ [r]) x y = lvs I1 J1 W Rn (A.take n) x y := by
        unfold lvs
        rw [fl_f (Int32.not_le.mpr d)]
      rw [e] at ih
      rw [show lvs I1 J1 W Rn (A.take n) x y ||| 0 = lvs I1 J1 W Rn (A.take n) x y by simp]
      exact ih
    · have e : lvs I1 J1 W Rn (A.take n ++ [r]) x y = lvs I1 J1 W Rn (A.take n) x y ||| fb I1 J1 W Rn 0 r := by
        unfold lvs
        rw [fl_t (Int32.not_lt.mp d), lor_s]
      rw [e] at ih
      exact ih
theorem qok_1 {p : Nat → Prop} {v : Nat → Nat → Nat} {x y : Nat} {s : Int32 × Int32 × Int32} (hx : x < 64) (hy : y < 64) (hv : ∀ x y, v x y ≤ 64) (h : qok s) : qok (qs1 p v x y s) := by
  rcases Classical.em (p x ∧ p y ∧ (s.2.2 = -1 ∨ nI (v x y) < s.2.2)) with c | c
  · rw [qs1_t c]
    exact Or.inr ⟨x, y, v x y, hv x y, hx, hy, rfl⟩
  · rw [qs1_f c]
    exact h
theorem sb_2 {x : Int64} {a c : Nat} (ha : a < 64) (hc : c < 64) : lg_cmp (((x >>> ((nI a).toInt64 &&& 63)) &&& (x >>> ((nI c).toInt64 &&& 63))) &&& 1) 0 = 0 ↔ ¬ (lbit x a ∧ lbit x c) := by
  have e : ((x >>> ((nI a).toInt64 &&& 63)) &&& (x >>> ((nI c).toInt64 &&& 63))) &&& 1 = ((x >>> ((nI a).toInt64 &&& 63)) &&& 1) &&& ((x >>> ((nI c).toInt64 &&& 63)) &&& 1) := by
    apply Int64.toBitVec_inj.mp
    simp only [Int64.toBitVec_and]
    apply BitVec.eq_of_getLsbD_eq
    intro i hi
    simp only [BitVec.getLsbD_and]
    cases (x >>> ((nI a).toInt64 &&& 63)).toBitVec.getLsbD i <;> cases (x >>> ((nI c).toInt64 &&& 63)).toBitVec.getLsbD i <;> simp
  rw [cmp0, e, sb_v ha, sb_v hc]
  unfold lbit
  cases x.toBitVec.getLsbD a <;> cases x.toBitVec.getLsbD c <;> decide
theorem al_question {x : Int32} (h : Rl b W Rn Kn Tn Hn Un g I1 J1 I2 J2) : AI 264 113 [.int x] I1 J1 I2 J2 (Rl b W Rn Kn Tn Hn Un g) := by
  obtain ⟨S, s1, s2, -, -⟩ := h.S
  obtain ⟨hG, g1, g2, g3, g4, g5⟩ := h.G
  have hB := h.rB
  obtain ⟨b1, b2, b3, b4, b5, b6⟩ := id hB
  by_cases ok : ¬ x < 0 ∧ ¬ (2 : Int32) < x
  · obtain ⟨I1', J1', s, hc, p1, p2, p3, p4⟩ := c_ask (D := 894) h s2 s1
    obtain ⟨A, hA⟩ : ∃ A, A = fl (sAg I1 J1 W S) (wl W g) := ⟨_, rfl⟩
    obtain ⟨I', J', hc2, q1, q2, q3⟩ := r_gather (D := 892) h s2 s1
    rw [← hA] at p4 q3
    have hAl : A.length ≤ 455 := by rw [hA]; exact Nat.le_trans fl_len g5
    obtain ⟨v, hv⟩ : ∃ v, v = lvN I1 J1 W Rn A := ⟨_, rfl⟩
    have hv64 : ∀ x y, v x y ≤ 64 := fun x y => by rw [hv]; exact lvN_le
    rw [← hv] at p4
    have hBI := rB_k hB q1
    have out : ∀ t : Int32 × Int32 × Int32, qok t → t = s → mj_Cl mj_S2 mj_CD 899 = mj_Cl mj_S2 mj_CD 899 ∧ qok s := fun t h1 h2 => ⟨rfl, h2 ▸ h1⟩
    have rf : ∀ x0 : Int32, ¬ x0 < 0 → ¬ (2 : Int32) < x0 → C2 900 113 [.ref 0, .int x0] I2 J2 (.int (if x0 = 0 then s.1 else if x0 = 1 then s.2.1 else s.2.2)) I' J' ∧ qok s := by
      intro x0 k1 k2'
      have st : qok s ∧ mj_Ev mj_S2 (mj_CD 113) (mj_Cl mj_S2 mj_CD 899) (fun q => q = (.int (if x0 = 0 then s.1 else if x0 = 1 then s.2.1 else s.2.2), (I', J', mj_R2))) 32 [(0, .ref 0), (1, .int x0), (2, .long (J1 24 6)), (4, .int (-1)), (5, .int (-1)), (6, .int (-1)), (7, .int (nI 0))] [] (I', J', mj_R2) := by
        have outer := lp_up (n := Rn) (fun i => ∀ t : Int32 × Int32 × Int32, qok t → qsA (lbit (J1 24 6)) v Rn (Rn - i) i t = s → qok s ∧ E2 113 899 (fun q => q = (.int (if x0 = 0 then s.1 else if x0 = 1 then s.2.1 else s.2.2), (I', J', mj_R2))) 32 [(0, .ref 0), (1, .int x0), (2, .long (J1 24 6)), (4, .int t.1), (5, .int t.2.1), (6, .int t.2.2), (7, .int (nI i))] I' J') (fun i hi ih t ht he => ?_) 0 (Nat.zero_le _) (-1, -1, -1) (Or.inl rfl) p4.symm
        · exact outer
        by_cases c : i < Rn
        · rw [qsA_s c] at he
          have inner := lp_up (n := Rn) (fun y => ∀ t : Int32 × Int32 × Int32, qok t → qsA (lbit (J1 24 6)) v Rn (Rn - (i + 1)) (i + 1) (qsB (lbit (J1 24 6)) v i (Rn - y) y t) = s → qok s ∧ E2 113 899 (fun q => q = (.int (if x0 = 0 then s.1 else if x0 = 1 then s.2.1 else s.2.2), (I', J', mj_R2))) 52 [(0, .ref 0), (1, .int x0), (2, .long (J1 24 6)), (4, .int t.1), (5, .int t.2.1), (6, .int t.2.2), (7, .int (nI i)), (8, .int (nI y))] I' J') (fun y hy ih2 t ht he => ?_) (i + 1) (by omega) t ht he
          · refine ⟨inner.1, mj_on (s113_32 _ _ _ _ _ _ ?_)⟩
            rw [hBI.1, nI_clamp (by omega), hBI.2.2.2.2.1, nI_1]
            exact ⟨vp_in_nI b2 (by decide), if_le (by omega) (by omega) (fun d => absurd d (by omega)) (fun _ => inner.2)⟩
          by_cases d : y < Rn
          · rw [qsB_s d] at he
            have ih2 := ih2 d _ (qok_1 (by omega) (by omega) hv64 ht) he
            refine ⟨ih2.1, mj_on (s113_52 _ _ _ _ _ _ _ ?_)⟩
            rw [hBI.1, nI_clamp (by omega), hBI.2.2.2.2.1, nI_1, nI_1]
            refine ⟨vp_in_nI b2 (by decide), if_le (by omega) (by omega) (fun d2 => absurd d2 (by omega)) (fun _ => ?_)⟩
            refine if_i (fun f => ?_) (fun f => ?_)
            · have f := (sb_2 (by omega) (by omega)).mp f
              have ih2 := ih2.2
              rw [qs1_f (fun q => f ⟨q.1, q.2.1⟩)] at ih2
              exact ih2
            · have f : lbit (J1 24 6) i ∧ lbit (J1 24 6) y := Classical.byContradiction fun q => f ((sb_2 (by omega) (by omega)).mpr q)
              obtain ⟨ca, hca⟩ : ∃ n, n = pcL (lvs I1 J1 W Rn A i y) := ⟨_, rfl⟩
              obtain ⟨cb, hcb⟩ : ∃ n, n = pcL (lvs I1 J1 W Rn A y i) := ⟨_, rfl⟩
              have la : ca ≤ 64 := by rw [hca]; exact pcn_le 64 _
              have lb : cb ≤ 64 := by rw [hcb]; exact pcn_le 64 _
              have ka : C2 899 114 [.ref 0, .int (nI i), .int (nI y)] I' J' (.int (nI ca)) I' J' := by rw [hca]; exact r_leaves (D := 897) c d b6 hAl f.1 f.2 q3
              have kb : C2 899 114 [.ref 0, .int (nI y), .int (nI i)] I' J' (.int (nI cb)) I' J' := by rw [hcb]; exact r_leaves (D := 897) d c b6 hAl f.2 f.1 q3
              have hvN : v i y = max ca cb := by rw [hv, hca, hcb]; unfold lvN; rfl
              clear hca hcb
              refine ⟨trivial, _, _, _, ka, trivial, _, _, _, kb, ?_⟩
              have em := (i32_max (a := ca) (b := cb) (by omega) (by omega)).2
              rw [← hvN] at em
              have go : E2 113 899 (fun q => q = (.int (if x0 = 0 then s.1 else if x0 = 1 then s.2.1 else s.2.2), (I', J', mj_R2))) 121 [(0, .ref 0), (1, .int x0), (2, .long (J1 24 6)), (4, .int t.1), (5, .int t.2.1), (6, .int t.2.2), (7, .int (nI i)), (8, .int (nI y)), (11, .int (nI (v i y)))] I' J' := by
                refine mj_on (s113_121 _ _ _ _ _ _ _ _ ?_)
                rw [nI_1]
                have yes : (t.2.2 = -1 ∨ nI (v i y) < t.2.2) → E2 113 899 (fun q => q = (.int (if x0 = 0 then s.1 else if x0 = 1 then s.2.1 else s.2.2), (I', J', mj_R2))) 137 [(0, .ref 0), (1, .int x0), (2, .long (J1 24 6)), (7, .int (nI i)), (8, .int (nI y)), (11, .int (nI (v i y)))] I' J' := by
                  intro hh
                  refine mj_on (s113_137 _ _ _ _ _ ?_)
                  rw [nI_1]
                  have ih2 := ih2.2
                  rw [qs1_t ⟨f.1, f.2, hh⟩] at ih2
                  exact ih2
                refine if_i (fun z => yes (Or.inl z)) (fun z => if_i (fun z2 => yes (Or.inr z2)) (fun z2 => ?_))
                have ih2 := ih2.2
                rw [qs1_f] at ih2
                · exact ih2
                · rintro ⟨-, -, q | q⟩
                  · exact z q
                  · exact z2 q
              refine if_i (fun z => ?_) (fun z => ?_)
              · rw [if_pos z] at em; rw [em]; exact go
              · rw [if_neg z] at em; rw [em]; exact go
          · rw [qsB_e (by omega)] at he
            have ih := ih c t ht he
            refine ⟨ih.1, mj_on (s113_52 _ _ _ _ _ _ _ ?_)⟩
            rw [hBI.1, nI_clamp (by omega), hBI.2.2.2.2.1, nI_1, nI_1]
            exact ⟨vp_in_nI b2 (by decide), if_le (by omega) (by omega) (fun _ => ih.2) (fun d2 => absurd d2 d)⟩
        · rw [qsA_e (by omega)] at he
          refine ⟨he ▸ ht, mj_on (s113_32 _ _ _ _ _ _ ?_)⟩
          rw [hBI.1, nI_clamp (by omega), hBI.2.2.2.2.1]
          refine ⟨vp_in_nI b2 (by decide), if_le (by omega) (by omega) (fun _ => ?_) (fun d => absurd d c)⟩
          rw [he]
          refine if_i (fun z => by rw [if_pos z]) (fun z => if_i (fun z2 => by rw [if_neg z, if_pos z2]) (fun z2 => by rw [if_neg z, if_neg z2]))
      refine ⟨mj_mk (D := 899) (e113 _ ?_), st.1⟩
      exact ⟨trivial, _, _, _, r_is, if_tf (fun _ => ⟨trivial, _, _, _, h.rfront, trivial, _, _, hc2, st.2⟩) (fun f => absurd ⟨k1, k2'⟩ f)⟩
    obtain ⟨rc, hq⟩ := rf x ok.1 ok.2
    obtain ⟨n, hn, rfl⟩ := nI_of2 (n := 2) (by decide) ok.1 (Int32.not_lt.mp ok.2)
    refine ⟨_, I1', J1', I', J', mj_mk (D := 899) (e264 _ ?_), rc, Rl_same h p1 p2 q1 q2⟩
    rw [if_neg ok.1, if_neg ok.2]
    refine ⟨trivial, _, _, _, hc, if_tf (fun c => ?_) (fun c => ?_)⟩
    · have e7 := p3.1
      obtain ⟨e5, e6⟩ := p3.2 c
      rw [e5, e6, e7]
      match n, hn with
      | 0, _ => rfl
      | 1, _ => rfl
      | 2, _ => rfl
    · have c : s.2.2 = -1 := Classical.byContradiction fun q => c q
      rcases hq with rfl | ⟨x, y, m, m1, m2, m3, rfl⟩
      · match n, hn with
        | 0, _ => rfl
        | 1, _ => rfl
        | 2, _ => rfl
      · exfalso
        have c2 : nI m = -1 := c
        have := congrArg Int32.toInt c2
        rw [nI_toInt (by omega)] at this
        have h3 : (-1 : Int32).toInt = -1 := by decide
        omega
  · refine AI.same (-1) (mj_mk (D := 899) (e264 _ ?_)) (mj_mk (D := 899) (e113 _ ?_)) h
    · exact if_i (fun _ => rfl) (fun c => if_i (fun _ => rfl) (fun d => absurd ⟨c, d⟩ ok))
    · exact ⟨trivial, _, _, _, r_is, if_tf (fun f => absurd f ok) (fun _ => rfl)⟩
end S63
end
section
/-! stop -/
theorem xb_nI {n i : Nat} (hi : i < 32) : xb (nI n) i = n.testBit i := by
  show (BitVec.ofNat 32 n).getLsbD i = _
  rw [BitVec.getLsbD_ofNat]
  simp [hi]
theorem tz_mask {m i : Nat} (hi : i < 32) (h1 : m.testBit i = true) (h2 : ∀ j, j < i → m.testBit j = false) : (nI m ^^^ (-1)) &&& (nI m - 1) = nI (2 ^ i - 1) := by
  obtain ⟨q, hq⟩ : ∃ q, m = 2 ^ i * (2 * q + 1) := by
    have e1 : m % 2 ^ i = 0 := by
      apply Nat.eq_of_testBit_eq
      intro j
      rw [Nat.testBit_mod_two_pow, Nat.zero_testBit]
      by_cases h : j < i
      · simp [h, h2 j h]
      · simp [h]
    have e2 : m / 2 ^ i % 2 = 1 := by
      rw [Nat.testBit_eq_decide_div_mod_eq] at h1
      exact of_decide_eq_true h1
    refine ⟨m / 2 ^ i / 2, ?_⟩
    have e3 := Nat.div_add_mod m (2 ^ i)
    have e4 := Nat.div_add_mod (m / 2 ^ i) 2
    rw [e1, Nat.add_zero] at e3
    rw [e2] at e4
    rw [e4, e3]
  have hp := Nat.two_pow_pos i
  have hm1 : 1 ≤ m := by
    rw [hq]
    exact Nat.mul_pos hp (by omega)
  have em : m - 1 = 2 ^ (i + 1) * q + (2 ^ i - 1) := by
    rw [hq, Nat.pow_succ, Nat.mul_add, Nat.mul_one, ← Nat.mul_assoc]
    omega
  have hlt : 2 ^ i - 1 < 2 ^ (i + 1) := by rw [Nat.pow_succ]; omega
  have e1 : nI m - 1 = nI (m - 1) := pk_sub (b := 1) hm1
  rw [e1]
  apply b_ext
  intro j hj
  rw [b_and, b_xor, b_m1 j hj, xb_nI hj, xb_nI hj, xb_nI hj, em, Nat.testBit_two_pow_mul_add q hlt, Nat.testBit_two_pow_sub_one]
  by_cases c : j < i
  · rw [h2 j c, if_pos (by omega)]
    simp [c]
  · by_cases e : j = i
    · rw [e, h1]
      simp
    · rw [if_neg (by omega)]
      have : m.testBit j = q.testBit (j - (i + 1)) := by
        have e5 : m = 2 ^ (i + 1) * q + 2 ^ i := by
          rw [hq, Nat.pow_succ, Nat.mul_add, Nat.mul_one, ← Nat.mul_assoc]
        rw [e5, Nat.testBit_two_pow_mul_add q (by rw [Nat.pow_succ]; omega), if_neg (by omega)]
      rw [this]
      simp [c]
section S64
variable {D b W Rn Kn Tn Hn Un g : Nat} {I I1 I2 : Nat → Nat → Int32} {J J1 J2 : Nat → Nat → Int64}
theorem pw_le : ∀ k s, k ≤ 31 → s ≤ 16 → 1 ≤ s → (nI (2 ^ k - 1) ≤ nI (2 ^ s) ↔ k ≤ s) := by
  have : ∀ k, k < 32 → ∀ s, s < 17 → 1 ≤ s → (nI (2 ^ k - 1) ≤ nI (2 ^ s) ↔ k ≤ s) := by decide +kernel
  exact fun k s h1 h2 h3 => this k (by omega) s (by omega) h3
theorem pw_sh {k s : Nat} (hk : k ≤ 31) (hs : s ≤ k) (v : Int32) (hv : ((v.toUInt32 &&& Int32.toUInt32 31).toBitVec % 32).toNat = s) : ((nI (2 ^ k - 1)).toUInt32 >>> (v.toUInt32 &&& Int32.toUInt32 31)).toInt32 = nI (2 ^ (k - s) - 1) := by
  have h1 : 2 ^ k - 1 < 2 ^ 32 := by
    have : 2 ^ k ≤ 2 ^ 31 := Nat.pow_le_pow_right (by decide) hk
    omega
  rw [pk_ushrN h1 v s hv]
  congr 1
  have : ∀ k, k < 32 → ∀ s, s < 32 → s ≤ k → (2 ^ k - 1) / 2 ^ s = 2 ^ (k - s) - 1 := by decide +kernel
  exact this k (by omega) s (by omega) hs
theorem c_tzI {m i : Nat} (hi : i < 32) (h1 : m.testBit i = true) (h2 : ∀ j, j < i → m.testBit j = false) : C1 (D + 1) 8 [.int (nI m)] I J (.int (nI i)) I J := by
  refine mj_mk (e8 _ ?_)
  rw [tz_mask hi h1 h2]
  have fin : ∀ k c : Nat, c + k = i + 1 → 1 ≤ k → k ≤ 2 → E1 8 D (fun q => q = (.int (nI i), (I, J, mj_R1))) 74 [(0, .int (nI (2 ^ k - 1))), (1, .int (nI c))] I J := by
    intro k c hc hk1 hk
    refine mj_on (s8_74 _ _ ?_)
    have e : ((nI (2 ^ k - 1)).toUInt32 >>> ((1 : Int32).toUInt32 &&& Int32.toUInt32 31)).toInt32 = nI (2 ^ (k - 1) - 1) := pw_sh (by omega) hk1 1 (by decide)
    rw [e, nI_add]
    match k, hk1, hk with
    | 1, _, _ => rw [show c + (2 ^ (1 - 1) - 1) = i by simp; omega]
    | 2, _, _ => rw [show c + (2 ^ (2 - 1) - 1) = i by simp; omega]
  have s62 : ∀ k c : Nat, c + k = i + 1 → 1 ≤ k → k ≤ 4 → E1 8 D (fun q => q = (.int (nI i), (I, J, mj_R1))) 62 [(0, .int (nI (2 ^ k - 1))), (1, .int (nI c))] I J := by
    intro k c hc hk1 hk
    refine mj_on (s8_62 _ _ ?_)
    refine if_i (fun q => fin k c hc hk1 ((pw_le k 2 (by omega) (by omega) (by omega)).mp q)) (fun q => ?_)
    have hk2 : 2 < k := Nat.lt_of_not_le fun z => q ((pw_le k 2 (by omega) (by omega) (by omega)).mpr z)
    rw [pw_sh (by omega) (show 2 ≤ k by omega) 2 (by decide), show (2 : Int32) = nI 2 from rfl, nI_add]
    exact fin (k - 2) (c + 2) (by omega) (by omega) (by omega)
  have s49 : ∀ k c : Nat, c + k = i + 1 → 1 ≤ k → k ≤ 8 → E1 8 D (fun q => q = (.int (nI i), (I, J, mj_R1))) 49 [(0, .int (nI (2 ^ k - 1))), (1, .int (nI c))] I J := by
    intro k c hc hk1 hk
    refine mj_on (s8_49 _ _ ?_)
    refine if_i (fun q => s62 k c hc hk1 ((pw_le k 4 (by omega) (by omega) (by omega)).mp q)) (fun q => ?_)
    have hk2 : 4 < k := Nat.lt_of_not_le fun z => q ((pw_le k 4 (by omega) (by omega) (by omega)).mpr z)
    rw [pw_sh (by omega) (show 4 ≤ k by omega) 4 (by decide), show (4 : Int32) = nI 4 from rfl, nI_add]
    exact s62 (k - 4) (c + 4) (by omega) (by omega) (by omega)
  have s34 : ∀ k c : Nat, c + k = i + 1 → 1 ≤ k → k ≤ 16 → E1 8 D (fun q => q = (.int (nI i), (I, J, mj_R1))) 34 [(0, .int (nI (2 ^ k - 1))), (1, .int (nI c))] I J := by
    intro k c hc hk1 hk
    refine mj_on (s8_34 _ _ ?_)
    refine if_i (fun q => s49 k c hc hk1 ((pw_le k 8 (by omega) (by omega) (by omega)).mp q)) (fun q => ?_)
    have hk2 : 8 < k := Nat.lt_of_not_le fun z => q ((pw_le k 8 (by omega) (by omega) (by omega)).mpr z)
    rw [pw_sh (by omega) (show 8 ≤ k by omega) 8 (by decide), show (8 : Int32) = nI 8 from rfl, nI_add]
    exact s49 (k - 8) (c + 8) (by omega) (by omega) (by omega)
  by_cases i0 : i = 0
  · subst i0
    rw [if_pos (show nI (2 ^ 0 - 1) ≤ 0 by decide)]
    rfl
  · have hz : ¬ nI (2 ^ i - 1) ≤ 0 := by
      have : ∀ i, i < 32 → i ≠ 0 → ¬ nI (2 ^ i - 1) ≤ 0 := by decide +kernel
      exact this i hi i0
    rw [if_neg hz]
    refine if_i (fun q => s34 i 1 (by omega) (by omega) ((pw_le i 16 (by omega) (by omega) (by omega)).mp q)) (fun q => ?_)
    have hk2 : 16 < i := Nat.lt_of_not_le fun z => q ((pw_le i 16 (by omega) (by omega) (by omega)).mpr z)
    rw [pw_sh (by omega) (show 16 ≤ i by omega) 16 (by decide), show (1 : Int32) + 16 = nI 17 from rfl]
    exact s34 (i - 16) 17 (by omega) (by omega) (by omega)
theorem lb_nat {m i : Nat} (hm : m < 2 ^ 64) (hi : i < 64) : lbit (lN m) i ↔ m.testBit i = true := by
  unfold lbit
  show (BitVec.ofNat 64 m).getLsbD i = true ↔ _
  rw [BitVec.getLsbD_ofNat]
  simp [hi]
theorem c_tzL {x : Int64} {i : Nat} (hi : i < 64) (h1 : lbit x i) (h2 : ∀ j, j < i → ¬ lbit x j) : C1 (D + 2) 7 [.long x] I J (.int (nI i)) I J := by
  obtain ⟨m, hm, rfl⟩ := wb_of x
  have t1 : m.testBit i = true := (lb_nat hm hi).mp h1
  have t2 : ∀ j, j < i → m.testBit j = false := fun j hj => by
    have := h2 j hj
    rw [lb_nat hm (by omega)] at this
    exact Bool.not_eq_true _ ▸ this
  refine mj_mk (e7 _ ?_)
  rw [lN_i]
  by_cases c : i < 32
  · have nz : ¬ nI m = 0 := fun e => by
      have := congrArg (fun y => xb y i) e
      simp only [xb_nI c, b_0, t1] at this
      cases this
    rw [if_neg nz]
    exact ⟨trivial, _, _, _, c_tzI c t1 t2, rfl⟩
  · have z : nI m = 0 := by
      apply b_ext
      intro j hj
      rw [xb_nI hj, b_0, t2 j (by omega)]
    rw [if_pos z]
    have e : ((lN m).toUInt64 >>> ((32 : Int32).toInt64.toUInt64 &&& Int64.toUInt64 63)).toInt64 = lN (m / 2 ^ 32) := wb_shr (k := 32) hm (by decide)
    rw [e, lN_i]
    refine ⟨trivial, _, _, _, c_tzI (i := i - 32) (by omega) ?_ ?_, ?_⟩
    · rw [Nat.testBit_div_two_pow, show i - 32 + 32 = i by omega]
      exact t1
    · intro j hj
      rw [Nat.testBit_div_two_pow]
      exact t2 _ (by omega)
    · rw [show (32 : Int32) = nI 32 from rfl, nI_add, show 32 + (i - 32) = i by omega]
theorem al_stop {x : Int32} (h : Rl b W Rn Kn Tn Hn Un g I1 J1 I2 J2) : AI 273 117 [.int x] I1 J1 I2 J2 (Rl b W Rn Kn Tn Hn Un g) := by
  obtain ⟨S, s1, s2, -, -⟩ := h.S
  obtain ⟨hG, g1, g2, g3, g4, g5⟩ := h.G
  obtain ⟨w1, w2, w3, w4⟩ := h.W24
  have hB := h.rB
  obtain ⟨b1, b2, b3, b4, b5, b6⟩ := id hB
  by_cases ok : ¬ x < 0 ∧ x ≤ 9999
  · obtain ⟨d, hd, rfl⟩ := nI_of2 (n := 9999) (by decide) ok.1 ok.2
    obtain ⟨P, hP⟩ : ∃ P, P = sAg I1 J1 W S := ⟨_, rfl⟩
    obtain ⟨A, hA⟩ : ∃ A, A = fl P (wl W g) := ⟨_, rfl⟩
    have hgb := hG.2
    have hdg : d * g ≤ 200000 := Nat.le_trans (Nat.mul_le_mul hd hgb) (by decide)
    -- the row that is told
    obtain ⟨T, hT⟩ : ∃ T : List (List Nat) → Nat → Prop, T = fun A u => lbit (J1 24 6) u ∧ ∀ r, r ∈ A → fbP Rn (lbit (J1 24 6)) (rwo I1 W r) (d * g : Nat) u := ⟨_, rfl⟩
    have bfr : ∀ {u}, lbit (J1 24 6) u → u < Rn := fun {u} q => by
      rw [h.2.2.2.2.1.2.2.2.2] at q
      exact ((bs_bit (by omega) u).mp q).1
    obtain ⟨v, hv1, hv2⟩ : ∃ v : Int32, (A = [] → v = -1) ∧ (A ≠ [] → v = fs (T A) (Rn - 0) 0) := by
      by_cases e : A = []
      · exact ⟨-1, fun _ => rfl, fun q => absurd e q⟩
      · exact ⟨_, fun q => absurd q e, fun _ => rfl⟩
    have cl : ∃ r I1' J1', C1 900 273 [.ref 0, .int (nI d)] I1 J1 (.int r) I1' J1' ∧ (r = v ∧ k1 I1' = k1 I1 ∧ J1' = J1) := by
      refine mj_cI (D := 899) (e273 _ ?_)
      rw [if_neg ok.1, if_pos ok.2]
      have key := lp_up (n := (wl W g).length) (fun n => ∀ I B, k1 I = k1 I1 → (∀ i, i < 64 → (lbit B i ↔ T (fl P ((wl W g).take n)) i)) → E1 273 899 (qI mj_R1 (fun r I' J' => r = v ∧ k1 I' = k1 I1 ∧ J' = J1)) 26 [(0, .ref 0), (1, .int (nI d)), (2, .int (tf (fl P ((wl W g).take n) ≠ []))), (3, .long B), (5, .int (nI n))] I J1) (fun n hn ih I B hI hB2 => ?_) 0 (Nat.zero_le _) I1 (J1 24 6) rfl (fun i hi => by
        rw [hT]
        exact ⟨fun q => ⟨q, fun r hr => by cases hr⟩, fun q => q.1⟩)
      · rw [show tf (fl P ((wl W g).take 0) ≠ []) = 0 from tf_f (fun q => q rfl)] at key
        exact key
      refine mj_on (s273_26 _ _ _ _ ?_)
      rw [k1_at hI (q := 51) (j := 2) rfl, g4, nI_1]
      refine if_le (by omega) (by omega) (fun c => ?_) (fun c => ?_)
      · rw [tk_e c] at hB2 ⊢
        rw [← hA] at hB2 ⊢
        refine if_tf (fun q => ?_) (fun q => ?_)
        · by_cases z : B = 0
          · rw [if_pos (cmp0.mpr z)]
            refine ⟨_, _, _, rfl, ?_, hI, rfl⟩
            rw [hv2 q]
            have : ∀ k i, k + i = Rn → fs (T A) k i = -1 := by
              intro k
              induction k with
              | zero => intro i _; rfl
              | succ k ih =>
                intro i hi
                have e : fs (T A) (k + 1) i = fs (T A) k (i + 1) := @if_neg _ (Classical.propDecidable _) (fun q => by
                  have := (hB2 i (by omega)).mpr q
                  rw [z] at this
                  exact absurd this (by unfold lbit; simp)) _ _ _
                rw [e]
                exact ih (i + 1) (by omega)
            exact (this Rn 0 (by omega)).symm
          · rw [if_neg (fun e => z (cmp0.mp e))]
            obtain ⟨i, hi, t1, t2⟩ : ∃ i, i < Rn ∧ T A i ∧ ∀ j, j < i → ¬ T A j := by
              have ex : ∃ i, i < 64 ∧ lbit B i := by
                refine Classical.byContradiction fun q => z (i64_ext fun i hi => ?_)
                refine ⟨fun y => absurd ⟨i, hi, y⟩ q, fun y => absurd y (by simp)⟩
              obtain ⟨i, hi, hb⟩ := ex
              have tA := (hB2 i hi).mp hb
              have : ∀ k, k ≤ i + 1 → (∃ i, i < k ∧ T A i ∧ ∀ j, j < i → ¬ T A j) ∨ ∀ j, j < k → ¬ T A j := by
                intro k
                induction k with
                | zero => exact fun _ => Or.inr fun j hj => absurd hj (Nat.not_lt_zero j)
                | succ k ih =>
                  intro hk
                  rcases ih (by omega) with ⟨u, q1, q2, q3⟩ | q
                  · exact Or.inl ⟨u, by omega, q2, q3⟩
                  · rcases Classical.em (T A k) with y | y
                    · exact Or.inl ⟨k, by omega, y, q⟩
                    · exact Or.inr fun j hj => by
                        by_cases e : j = k
                        · rw [e]; exact y
                        · exact q j (by omega)
              rcases this (i + 1) (Nat.le_refl _) with ⟨u, q1, q2, q3⟩ | q
              · have hu : lbit (J1 24 6) u := by rw [hT] at q2; exact q2.1
                exact ⟨u, bfr hu, q2, q3⟩
              · exact absurd tA (q i (by omega))
            refine ⟨trivial, _, _, _, c_tzL (D := 897) (i := i) (by omega) ((hB2 i (by omega)).mpr t1) (fun j hj y => t2 j hj ((hB2 j (by omega)).mp y)), ?_⟩
            refine ⟨_, _, _, rfl, ?_, hI, rfl⟩
            rw [hv2 q]
            have : ∀ k j, j ≤ i → k + j = Rn → fs (T A) k j = nI i := by
              intro k
              induction k with
              | zero => intro j h1 h2; omega
              | succ k ih =>
                intro j h1 h2
                by_cases e : j = i
                · subst e
                  exact @if_pos _ (Classical.propDecidable _) t1 _ _ _
                · have e : fs (T A) (k + 1) j = fs (T A) k (j + 1) := @if_neg _ (Classical.propDecidable _) (t2 j (by omega)) _ _ _
                  rw [e]
                  exact ih (j + 1) (by omega) (by omega)
            exact (this Rn 0 (Nat.zero_le _) (by omega)).symm
        · refine ⟨_, _, _, rfl, ?_, hI, rfl⟩
          rw [hv1 (Classical.byContradiction q)]
      · obtain ⟨r, hr, -, -⟩ := gt_of c
        have ih := ih c
        rw [tk_s hr] at ih
        refine ⟨trivial, _, _, _, c_isAg (D := 895) h s2 s1 hI hr, if_tf (fun f => ?_) (fun f => ?_)⟩
        · rw [← hP] at f
          rw [fl_t f] at ih
          obtain ⟨I', hc, q1, q2⟩ := c_firstBy (D := 897) h (d := d * g) hI hr hdg
          rw [k1_at hI (q := 51) (j := 0) rfl, g2, pk_mul]
          refine ⟨trivial, _, _, _, hc, ?_⟩
          have z := ih I' (B &&& fb I1 J1 W Rn (d * g : Nat) r) ((k1_28 q1).trans hI) (fun i hi => ?_)
          · rw [show tf (fl P (List.take n (wl W g)) ++ [r] ≠ []) = 1 from tf_t (by simp)] at z
            exact z
          · have e1 : lbit (B &&& fb I1 J1 W Rn (d * g : Nat) r) i ↔ lbit B i ∧ lbit (fb I1 J1 W Rn (d * g : Nat) r) i := by
              unfold lbit
              rw [Int64.toBitVec_and, BitVec.getLsbD_and, Bool.and_eq_true]
            rw [e1, hB2 i hi, hT]
            have e2 : lbit (fb I1 J1 W Rn (d * g : Nat) r) i ↔ i < Rn ∧ fbP Rn (lbit (J1 24 6)) (rwo I1 W r) (d * g : Nat) i := bs_bit (by omega) i
            rw [e2]
            constructor
            · rintro ⟨⟨q1, q2⟩, q3, q4⟩
              refine ⟨q1, fun r' hr' => ?_⟩
              rcases List.mem_append.mp hr' with z | z
              · exact q2 r' z
              · rw [List.mem_singleton.mp z]; exact q4
            · rintro ⟨q1, q2⟩
              exact ⟨⟨q1, fun r' hr' => q2 r' (List.mem_append_left _ hr')⟩, bfr q1, q2 r (List.mem_append_right _ List.mem_cons_self)⟩
        · rw [← hP] at f
          rw [fl_f f] at ih
          exact ih I B hI hB2
    have rf : ∃ r I2' J2', C2 900 117 [.ref 0, .int (nI d)] I2 J2 (.int r) I2' J2' ∧ (r = v ∧ k2 I2' = k2 I2 ∧ kJ2 J2' = kJ2 J2) := by
      obtain ⟨I', J', hc2, q1, q2, q3⟩ := r_gather (D := 892) h s2 s1
      rw [← hP, ← hA] at q3
      have hAl : A.length ≤ 455 := by rw [hA]; exact Nat.le_trans fl_len g5
      have hBI := rB_k hB q1
      have hAm : ∀ r, r ∈ A → r ∈ wl W g := fun r hr => by rw [hA] at hr; exact fl_mem hr
      refine mj_cI (D := 899) (e117 _ ?_)
      have e9 : ¬ (9999 : Int32) < nI d := Int32.not_lt.mpr ok.2
      refine ⟨trivial, _, _, _, r_is, if_tf (fun _ => ⟨trivial, _, _, _, h.rfront, trivial, _, _, hc2, ?_⟩) (fun f => absurd ⟨ok.1, e9⟩ f)⟩
      obtain ⟨Q, hQ⟩ : ∃ Q, Q = qI mj_R2 (fun r I' J' => r = v ∧ k2 I' = k2 I2 ∧ kJ2 J' = kJ2 J2) := ⟨_, rfl⟩
      rw [← hQ]
      have fin : ∀ r : Int32, r = v → Q (.int r, (I', J', mj_R2)) := fun r hr => by rw [hQ]; exact ⟨_, _, _, rfl, hr, q1, q2⟩
      refine lp_up (n := Rn) (fun u => (A ≠ [] → fs (T A) (Rn - u) u = v) → E2 117 899 Q 25 [(0, .ref 0), (1, .int (nI d)), (2, .long (J1 24 6)), (4, .int (nI u))] I' J') (fun u hu ih he => ?_) 0 (Nat.zero_le _) (fun e => (hv2 e).symm)
      refine mj_on (s117_25 _ _ _ ?_)
      rw [hBI.1, nI_clamp (by omega), hBI.2.2.2.2.1, q3.1]
      refine ⟨vp_in_nI b2 (by decide), if_le (by omega) (by omega) (fun c => fin _ ?_) (fun c => ?_)⟩
      · by_cases e : A = []
        · exact (hv1 e).symm
        · rw [← he e, fs_e c]
      refine if_le (b := 0) (by omega) (by decide) (fun z => fin _ (hv1 (List.eq_nil_of_length_eq_zero (by omega))).symm) (fun z => ?_)
      have hne : A ≠ [] := fun e => by rw [e] at z; exact absurd z (Nat.not_lt_zero _)
      have he := he hne
      -- over those that agree
      have over : ∀ n, n ≤ A.length → ∀ B : Prop, (B ↔ T (A.take n) u) → E2 117 899 Q 67 [(0, .ref 0), (1, .int (nI d)), (2, .long (J1 24 6)), (4, .int (nI u)), (5, .int (tf B)), (6, .int (nI n))] I' J' := by
        have last : ∀ B : Prop, (B ↔ T A u) → E2 117 899 Q 201 [(0, .ref 0), (1, .int (nI d)), (2, .long (J1 24 6)), (4, .int (nI u)), (5, .int (tf B))] I' J' := by
          intro B hB'
          refine mj_on (s117_201 _ _ _ _ ?_)
          rw [nI_1]
          refine if_tf (fun q => fin _ ?_) (fun q => ih c fun _ => ?_)
          · rw [← he, fs_t c (hB'.mp q)]
          · rw [← he, fs_f c (fun y => q (hB'.mpr y))]
        refine lp_up (n := A.length) (fun n => ∀ B : Prop, (B ↔ T (A.take n) u) → E2 117 899 Q 67 [(0, .ref 0), (1, .int (nI d)), (2, .long (J1 24 6)), (4, .int (nI u)), (5, .int (tf B)), (6, .int (nI n))] I' J') (fun n hn ih2 B hB' => ?_)
        refine mj_on (s117_67 _ _ _ _ _ ?_)
        rw [q3.1, ix40, nI_clamp (by omega)]
        refine if_le (by omega) (by omega) (fun f => ?_) (fun f => ?_)
        · rw [tk_e f] at hB'
          exact last B hB'
        refine if_tf (fun q => ?_) (fun q => ?_)
        · have hTu := hB'.mp q
          have hbu : lbit (J1 24 6) u := by rw [hT] at hTu; exact hTu.1
          obtain ⟨r, hr, hrA, -⟩ := gt_of f
          obtain ⟨-, wv⟩ := q3.2 n r hr
          refine ⟨vp_in_nI (by omega) (by decide), ?_⟩
          rw [wv u c hbu]
          -- the least worth
          have least := lp_up (n := Rn) (fun i => ∀ x7, (∃ o, o < Rn ∧ lbit (J1 24 6) o ∧ x7 = rwo I1 W r o) → (∀ p, p < i → lbit (J1 24 6) p → x7 ≤ rwo I1 W r p) → x7 ≤ rwo I1 W r u → E2 117 899 Q 99 [(0, .ref 0), (1, .int (nI d)), (2, .long (J1 24 6)), (4, .int (nI u)), (6, .int (nI n)), (7, .int x7), (8, .int (nI i))] I' J') (fun i hi ih3 x7 h1 h2 h3 => ?_) 0 (Nat.zero_le _) (rwo I1 W r u) ⟨u, c, hbu, rfl⟩ (fun p hp => absurd hp (Nat.not_lt_zero p)) (Int32.le_refl _)
          · exact least
          refine mj_on (s117_99 _ _ _ _ _ _ ?_)
          rw [hBI.1, nI_clamp (by omega), hBI.2.2.2.2.1, ix40, ix40, nI_clamp (by omega), nI_clamp (by omega), wv u c hbu, nI_1, nI_1, k2_at q1 (q := 0) (j := 63) rfl, hG.1, pk_mul]
          refine ⟨vp_in_nI b2 (by decide), if_le (by omega) (by omega) (fun y => ⟨vp_in_nI (by omega) (by decide), ?_⟩) (fun y => ?_)⟩
          · obtain ⟨o, o1, o2, o3⟩ := h1
            obtain ⟨zu, zu1, zu2, zu3⟩ := h.wrng (hAm r hrA) c
            obtain ⟨zo, zo1, zo2, zo3⟩ := h.wrng (hAm r hrA) o1
            have et : (x7 + nI (d * g) < rwo I1 W r u) ↔ ¬ fbP Rn (lbit (J1 24 6)) (rwo I1 W r) (d * g : Nat) u := by
              rw [o3, zo3, zu3, ← iI_nI, iI_add, Int32.lt_iff_toInt_lt, iI_toInt (by omega) (by omega), iI_toInt (by omega) (by omega)]
              constructor
              · intro q5 hp
                have := hp.2 o o1 o2
                rw [zu3, zo3, iI_toInt (by omega) (by omega), iI_toInt (by omega) (by omega)] at this
                omega
              · intro q5
                refine Int.lt_of_not_ge fun q6 => q5 ⟨hbu, fun p p1 p2 => ?_⟩
                have h7 := Int32.le_iff_toInt_le.mp (h2 p (by omega) p2)
                rw [o3, zo3, iI_toInt (by omega) (by omega)] at h7
                rw [zu3, iI_toInt (by omega) (by omega)]
                omega
            have hs : ∀ C : Prop, (C ↔ fbP Rn (lbit (J1 24 6)) (rwo I1 W r) (d * g : Nat) u) → (C ↔ T (A.take (n + 1)) u) := fun C hC => by
              rw [tk_s hr, hC, hT]
              constructor
              · intro q5
                refine ⟨hbu, fun r' hr' => ?_⟩
                rcases List.mem_append.mp hr' with z | z
                · rw [hT] at hTu; exact hTu.2 r' z
                · rw [List.mem_singleton.mp z]; exact q5
              · exact fun q5 => q5.2 r (List.mem_append_right _ List.mem_cons_self)
            refine if_i (fun q5 => ?_) (fun q5 => ?_)
            · have z := ih2 f False (hs False ⟨fun y => y.elim, fun y => et.mp q5 y⟩)
              rw [tf_f id] at z
              exact z
            · have z := ih2 f True (hs True ⟨fun _ => Classical.byContradiction fun y => q5 (et.mpr y), fun _ => trivial⟩)
              rw [tf_t trivial] at z
              exact z
          · refine if_i (fun q5 => ?_) (fun q5 => ?_)
            · have hbi := (sb_1 (by omega)).mp q5
              rw [wv i y hbi]
              refine ⟨vp_in_nI (by omega) (by decide), if_i (fun q6 => ?_) (fun q6 => ⟨vp_in_nI (by omega) (by decide), ?_⟩)⟩
              · refine ih3 y x7 h1 (fun p hp hb => ?_) h3
                by_cases e : p = i
                · rw [e]; exact q6
                · exact h2 p (by omega) hb
              · have q6 := Int32.not_le.mp q6
                refine ih3 y _ ⟨i, y, hbi, rfl⟩ (fun p hp hb => ?_) (Int32.le_trans (Int32.le_of_lt q6) h3)
                by_cases e : p = i
                · rw [e]; exact Int32.le_refl _
                · exact Int32.le_trans (Int32.le_of_lt q6) (h2 p (by omega) hb)
            · have hbi : ¬ lbit (J1 24 6) i := fun z => q5 ((sb_1 (by omega)).mpr z)
              refine ih3 y x7 h1 (fun p hp hb => ?_) h3
              by_cases e : p = i
              · rw [e] at hb; exact absurd hb hbi
              · exact h2 p (by omega) hb
        · refine last B ⟨fun y => absurd y q, fun y => absurd (hB'.mpr ?_) q⟩
          rw [hT] at y ⊢
          exact ⟨y.1, fun r hr => y.2 r (List.mem_of_mem_take hr)⟩
      have go : ∀ B : Prop, (B ↔ lbit (J1 24 6) u) → E2 117 899 Q 64 [(0, .ref 0), (1, .int (nI d)), (2, .long (J1 24 6)), (4, .int (nI u)), (5, .int (tf B))] I' J' := by
        intro B hB'
        refine mj_on (s117_64 _ _ _ _ ?_)
        refine over 0 (Nat.zero_le _) B ?_
        rw [hB', hT]
        exact ⟨fun q => ⟨q, fun r hr => by cases hr⟩, fun q => q.1⟩
      refine if_i (fun q => ?_) (fun q => ?_)
      · have z := go True ⟨fun _ => (sb_1 (by omega)).mp q, fun _ => trivial⟩
        rw [tf_t trivial] at z
        exact z
      · have z := go False ⟨fun y => y.elim, fun y => q ((sb_1 (by omega)).mpr y)⟩
        rw [tf_f id] at z
        exact z
    obtain ⟨r, I1', J1', hc, rfl, p1, rfl⟩ := cl
    obtain ⟨r, I2', J2', hc2, rfl, p2, p3⟩ := rf
    exact ⟨_, _, _, _, _, hc, hc2, Rl_same h p1 rfl p2 p3⟩
  · refine AI.same (-1) (mj_mk (D := 899) (e273 _ ?_)) (mj_mk (D := 899) (e117 _ ?_)) h
    · exact if_i (fun _ => rfl) (fun c => if_i (fun d => absurd ⟨c, d⟩ ok) (fun _ => rfl))
    · exact ⟨trivial, _, _, _, r_is, if_tf (fun f => absurd ⟨f.1, Int32.not_lt.mp f.2⟩ ok) (fun _ => rfl)⟩
end S64
end
section
/-! quarrel -/
theorem nar_1 : vp_nar .boolean 1 = 1 := by decide +kernel
theorem nar_0 : vp_nar .boolean 0 = 0 := by decide +kernel
theorem i64_small (m : Nat) (h : m < 4096) : (nI m).toInt64 = lN m := by
  have : ∀ a, a < 64 → ∀ c, c < 64 → (nI (64 * a + c)).toInt64 = lN (64 * a + c) := by decide +kernel
  have e := this (m / 64) (by omega) (m % 64) (by omega)
  rwa [Nat.div_add_mod] at e
theorem pw12 {S : Nat} (h : S ≤ 12) : 1 ≤ 2 ^ S ∧ 2 ^ S ≤ 4096 := ⟨Nat.two_pow_pos S, Nat.pow_le_pow_right (by decide) h⟩
def ahd (x y : Nat) : Prop := nI (pcn 32 x) - nI (pcn 32 y) < 0 ∨ (nI (pcn 32 x) - nI (pcn 32 y) = 0 ∧ ¬ ((nI x &&& (nI x ^^^ nI y)) &&& (-(nI x ^^^ nI y))) = 0)
noncomputable def qr1 (P : Nat → Prop) (i f : Nat) : Nat := @ite _ (¬ P i ∧ (f = 0 ∨ ahd i f)) (Classical.propDecidable _) i f
theorem qr1_t {P : Nat → Prop} {i f : Nat} (h : ¬ P i ∧ (f = 0 ∨ ahd i f)) : qr1 P i f = i := @if_pos _ (Classical.propDecidable _) h _ _ _
theorem qr1_f {P : Nat → Prop} {i f : Nat} (h : ¬ (¬ P i ∧ (f = 0 ∨ ahd i f))) : qr1 P i f = f := @if_neg _ (Classical.propDecidable _) h _ _ _
noncomputable def qr (P : Nat → Prop) : Nat → Nat → Nat → Nat
  | 0, _, f => f
  | k + 1, i, f => qr P k (i + 1) (qr1 P i f)
theorem qr_s {P : Nat → Prop} {n i f : Nat} (h : i < n) : qr P (n - i) i f = qr P (n - (i + 1)) (i + 1) (qr1 P i f) := by
  rw [show n - i = n - (i + 1) + 1 by omega]
  rfl
theorem qr_e {P : Nat → Prop} {n i f : Nat} (h : n ≤ i) : qr P (n - i) i f = f := by
  rw [show n - i = 0 by omega]
  rfl
theorem clr_at {x s : Nat} (hx : x < 4096) (hs : s < 12) : ∃ y, y < 4096 ∧ nI x &&& (((1 : Int32) <<< (nI s &&& 31)) ^^^ (-1)) = nI y ∧ ∀ i, y.testBit i = (x.testBit i && !decide (s = i)) := by
  have hb : ∀ i, (x &&& (4095 ^^^ 2 ^ s)).testBit i = (x.testBit i && !decide (s = i)) := fun i => by
    rw [Nat.testBit_and, Nat.testBit_xor, Nat.testBit_two_pow, show (4095 : Nat) = 2 ^ 12 - 1 from rfl, Nat.testBit_two_pow_sub_one]
    by_cases c : i < 12
    · simp [c]
    · have hp : 2 ^ 12 ≤ 2 ^ i := Nat.pow_le_pow_right (by decide) (by omega)
      have : x.testBit i = false := Nat.testBit_lt_two_pow (Nat.lt_of_lt_of_le hx hp)
      rw [this, Bool.false_and, Bool.false_and]
  refine ⟨x &&& (4095 ^^^ 2 ^ s), Nat.lt_of_le_of_lt Nat.and_le_left hx, ?_, hb⟩
  rw [sh1 (by omega)]
  apply b_ext
  intro i hi
  rw [b_and, b_xor, b_m1 i hi, xb_nI hi, xb_nI hi, xb_nI hi, hb, Nat.testBit_two_pow]
  simp
section S65
variable {D b W Rn Kn Tn Hn Un g : Nat} {I I1 I2 : Nat → Nat → Int32} {J J1 J2 : Nat → Nat → Int64}
theorem saA_k1 (e1 : k1 I = k1 I1) {s : Nat} {r : List Nat} : saA I J1 W s r ↔ saA I1 J1 W s r := by
  unfold saA rwo
  rw [k1_at e1 (q := 54) rfl, k1_at e1 (q := 55) rfl]
  rw [wo_c (f' := fun w => I1 25 (4 * (I1 54 s).toNatClampNeg + w)) fun w _ => k1_at e1 rfl, wo_c (f' := fun w => I1 25 (4 * (I1 55 s).toNatClampNeg + w)) fun w _ => k1_at e1 rfl]
theorem c_agSet (h : Rl b W Rn Kn Tn Hn Un g I1 J1 I2 J2) {n S : Nat} {r : List Nat} (hS : I1 53 0 = nI S) (hS2 : S ≤ 12) (e1 : k1 I = k1 I1) (hr : (wl W g)[n]? = some r) : C1 (D + 4) 270 [.ref 53, .int (nI n), .ref 51, .ref 24] I J1 (.int (nI (nb S (fun s => saA I1 J1 W s r)))) I J1 := by
  obtain ⟨S', s1, s2, s3, s4⟩ := h.S
  obtain ⟨hG, g1, g2, g3, g4, g5⟩ := h.G
  obtain ⟨w1, w2, w3, w4⟩ := h.W24
  have hn : n < 455 := by
    have := (List.getElem?_eq_some_iff.mp hr).1
    omega
  obtain rfl : S = S' := by rw [hS] at s2; exact (nI_eq (by omega) (by omega)).mp s2
  have hwr : wro I W n r := fun w hw => by rw [k1_at e1 rfl]; exact h.wr hr w hw
  refine mj_mk (e270 _ ?_)
  refine lp_up (n := S) (fun i => E1 270 (D + 3) (fun q => q = (.int (nI (nb S (fun s => saA I1 J1 W s r))), (I, J1, mj_R1))) 6 [(0, .ref 53), (1, .int (nI n)), (2, .ref 51), (3, .ref 24), (4, .int (nI (nb i (fun s => saA I1 J1 W s r)))), (5, .int (nI i))] I J1) (fun i hi ih => ?_) 0 (Nat.zero_le _)
  refine mj_on (s270_6 _ _ _ ?_)
  rw [k1_at e1 (q := 53) (j := 0) rfl, s2, nI_1]
  refine if_le (by omega) (by omega) (fun c => ?_) (fun c => ?_)
  · obtain rfl : i = S := by omega
    rfl
  obtain ⟨x, y, q1, q2, q3, q4, -, -⟩ := s4 i c
  refine ⟨trivial, _, _, _, c_sayAg (by rw [k1_at e1 rfl]; exact w1) w2 (by rw [k1_at e1 rfl]; exact g3) w4 (by omega) (by rw [k1_at e1 rfl]; exact q3) (by rw [k1_at e1 rfl]; exact q4) q1 q2 hn hwr, if_tf (fun d => ?_) (fun d => ?_)⟩
  · rw [nb_or (by omega) ((saA_k1 e1).mp d)]
    exact ih c
  · have z := ih c
    rw [nb_f (fun q => d ((saA_k1 e1).mpr q))] at z
    exact z
/-- what is held of the sets -/
def hdP (I : Nat → Nat → Int32) (T : Nat) (H : Nat → Prop) : Prop := ∀ x, x < T → I 57 x = tf (H x)
theorem hdP_up {T y : Nat} {H H' : Nat → Prop} (h : hdP I T H) (e : ∀ x, x < T → (H' x ↔ H x ∨ x = y)) : hdP (mj_up I 57 y 1) T H' := fun x hx => by
  by_cases c : x = y
  · rw [c, up_s, tf_t ((e y (c ▸ hx)).mpr (Or.inr rfl))]
  · rw [up_j c, h x hx]
    exact tf_iff ⟨fun q => (e x hx).mpr (Or.inl q), fun q => ((e x hx).mp q).resolve_right c⟩
theorem hdP_c {T : Nat} {H H' : Nat → Prop} (h : hdP I T H) (e : ∀ x, x < T → (H' x ↔ H x)) : hdP I T H' := fun x hx => by
  rw [h x hx]
  exact tf_iff (e x hx).symm
def spc (L : Nat → Prop) (p x : Nat) : Prop := ∃ a, L a ∧ ∀ i, (i < p → x.testBit i = true → a.testBit i = true) ∧ (p ≤ i → x.testBit i = a.testBit i)
theorem c_spread {S : Nat} {L : Nat → Prop} (hS : I 53 0 = nI S) (hS2 : S ≤ 12) (hH : hdP I (2 ^ S) L) : ∃ I', C1 (D + 1) 271 [.ref 53, .int (nI (2 ^ S))] I J .null I' J ∧ k1 I' = k1 I ∧ hdP I' (2 ^ S) (spc L S) := by
  obtain ⟨p1, p2⟩ := pw12 hS2
  suffices hs : ∃ I' J', C1 (D + 1) 271 [.ref 53, .int (nI (2 ^ S))] I J .null I' J' ∧ k1 I' = k1 I ∧ J' = J ∧ hdP I' (2 ^ S) (spc L S) by
    obtain ⟨I', J', q1, q2, rfl, q3⟩ := hs
    exact ⟨I', q1, q2, q3⟩
  refine mj_cN (e271 _ ?_)
  obtain ⟨Q, hQ⟩ : ∃ Q, Q = qN mj_R1 (fun I' J' => k1 I' = k1 I ∧ J' = J ∧ hdP I' (2 ^ S) (spc L S)) := ⟨_, rfl⟩
  rw [← hQ]
  refine lp_up (n := S) (fun p => ∀ I0, k1 I0 = k1 I → hdP I0 (2 ^ S) (spc L p) → E1 271 D Q 2 [(0, .ref 53), (1, .int (nI (2 ^ S))), (2, .int (nI p))] I0 J) (fun p hp ih I0 hk hh => ?_) 0 (Nat.zero_le _) I rfl (hdP_c hH fun x hx => ?_)
  · refine mj_on (s271_2 _ _ ?_)
    rw [k1_at hk (q := 53) (j := 0) rfl, hS]
    refine if_le (by omega) (by omega) (fun c => ?_) (fun c => ?_)
    · obtain rfl : p = S := by omega
      rw [hQ]
      exact ⟨_, _, rfl, hk, rfl, hh⟩
    refine lp_up (n := 2 ^ S) (fun j => ∀ I0, k1 I0 = k1 I → hdP I0 (2 ^ S) (fun x => spc L p x ∨ (x.testBit p = false ∧ ∃ x', x' < j ∧ spc L p x' ∧ x'.testBit p = true ∧ ∀ i, i ≠ p → x.testBit i = x'.testBit i)) → E1 271 D Q 12 [(0, .ref 53), (1, .int (nI (2 ^ S))), (2, .int (nI p)), (3, .int (nI j))] I0 J) (fun j hj ih2 I0 hk hh => ?_) 0 (Nat.zero_le _) I0 hk (hdP_c hh fun x hx => ⟨fun q => q.resolve_right (fun ⟨_, x', q, _⟩ => absurd q (Nat.not_lt_zero _)), Or.inl⟩)
    refine mj_on (s271_12 _ _ _ ?_)
    rw [nI_1, nI_1, nI_clamp (by omega)]
    refine if_le (by omega) (by omega) (fun d => ?_) (fun d => ⟨vp_in_nI (by omega) (by decide), ?_⟩)
    · refine ih c I0 hk (hdP_c hh fun x hx => ⟨?_, ?_⟩)
      · rintro ⟨a, ha, hi⟩
        by_cases e : x.testBit p = a.testBit p
        · refine Or.inl ⟨a, ha, fun i => ⟨fun q => (hi i).1 (by omega), fun q => ?_⟩⟩
          by_cases z : i = p
          · rw [z]; exact e
          · exact (hi i).2 (by omega)
        · have xf : x.testBit p = false := by
            cases hx1 : x.testBit p with
            | false => rfl
            | true => exact absurd (hx1.trans ((hi p).1 (by omega) hx1).symm) e
          have hb : ∀ i, (x ||| 2 ^ p).testBit i = (x.testBit i || decide (p = i)) := fun i => by rw [Nat.testBit_or, Nat.testBit_two_pow]
          have at1 : a.testBit p = true := by
            cases ha1 : a.testBit p with
            | false => exact absurd (xf.trans ha1.symm) e
            | true => rfl
          refine Or.inr ⟨xf, x ||| 2 ^ p, Nat.lt_of_lt_of_le (Nat.or_lt_two_pow hx (wb_lt2 c)) (by omega), ⟨a, ha, fun i => ⟨fun q y => ?_, fun q => ?_⟩⟩, by rw [hb]; simp, fun i hi2 => ?_⟩
          · rw [hb] at y
            have : ¬ p = i := by omega
            simp [this] at y
            exact (hi i).1 (by omega) y
          · rw [hb]
            by_cases z : p = i
            · subst z; simp [at1]
            · simp [z]; exact (hi i).2 (by omega)
          · rw [hb]
            have : ¬ p = i := fun e => hi2 e.symm
            simp [this]
      · rintro (⟨a, ha, hi⟩ | ⟨xf, x', q1, ⟨a, ha, hi⟩, q3, q4⟩)
        · refine ⟨a, ha, fun i => ⟨fun q y => ?_, fun q => (hi i).2 (by omega)⟩⟩
          by_cases z : i < p
          · exact (hi i).1 z y
          · rw [← (hi i).2 (by omega)]; exact y
        · refine ⟨a, ha, fun i => ⟨fun q y => ?_, fun q => ?_⟩⟩
          · by_cases z : i = p
            · rw [z, xf] at y; cases y
            · rw [q4 i z] at y
              exact (hi i).1 (by omega) y
          · rw [q4 i (by omega)]
            exact (hi i).2 (by omega)
    · rw [hh j d]
      obtain ⟨y, y1, y2, y3⟩ := clr_at (x := j) (s := p) (by omega) (by omega)
      rw [y2, nI_clamp (by omega)]
      have same : (∀ x, x < 2 ^ S → (spc L p x ∨ (x.testBit p = false ∧ ∃ x', x' < j + 1 ∧ spc L p x' ∧ x'.testBit p = true ∧ ∀ i, i ≠ p → x.testBit i = x'.testBit i) ↔ (spc L p x ∨ (x.testBit p = false ∧ ∃ x', x' < j ∧ spc L p x' ∧ x'.testBit p = true ∧ ∀ i, i ≠ p → x.testBit i = x'.testBit i)) ∨ (spc L p j ∧ j.testBit p = true ∧ x = y))) := fun x hx => by
        constructor
        · rintro (q | ⟨q1, x', q2, q3, q4, q5⟩)
          · exact Or.inl (Or.inl q)
          · by_cases z : x' = j
            · subst z
              refine Or.inr ⟨q3, q4, Nat.eq_of_testBit_eq fun i => ?_⟩
              rw [y3]
              by_cases w : p = i
              · subst w; simp [q1]
              · simp [w]; exact q5 i (fun e => w e.symm)
            · exact Or.inl (Or.inr ⟨q1, x', by omega, q3, q4, q5⟩)
        · rintro ((q | ⟨q1, x', q2, q3, q4, q5⟩) | ⟨q1, q2, q3⟩)
          · exact Or.inl q
          · exact Or.inr ⟨q1, x', by omega, q3, q4, q5⟩
          · refine Or.inr ⟨by rw [q3, y3]; simp, j, by omega, q1, q2, fun i hi => ?_⟩
            rw [q3, y3]
            have : ¬ p = i := fun e => hi e.symm
            simp [this]
      refine if_tf (fun f => ⟨vp_in_nI (by omega) (by decide), ?_⟩) (fun f => ?_)
      · rw [nar_1]
        refine ih2 d _ (by rw [k1_up rfl]; exact hk) (hdP_up hh fun x hx => ?_)
        rw [same x hx]
        constructor
        · rintro (q | q)
          · exact Or.inl q
          · exact Or.inr q.2.2
        · rintro (q | q)
          · exact Or.inl q
          · cases jb : j.testBit p with
            | true => exact Or.inr ⟨f.resolve_right (fun z => by rw [jb] at z; cases z.1), rfl, q⟩
            | false =>
              have : y = j := Nat.eq_of_testBit_eq fun i => by
                rw [y3]
                by_cases w : p = i
                · subst w; simp [jb]
                · simp [w]
              rw [q, this]
              exact Or.inl f
      · refine ih2 d _ hk (hdP_c hh fun x hx => ?_)
        rw [same x hx]
        exact ⟨fun q => q.resolve_right (fun z => f (Or.inl z.1)), Or.inl⟩
  · constructor
    · rintro ⟨a, ha, hi⟩
      have : x = a := Nat.eq_of_testBit_eq fun i => (hi i).2 (Nat.zero_le _)
      rw [this]; exact ha
    · exact fun q => ⟨x, q, fun i => ⟨fun z => absurd z (Nat.not_lt_zero _), fun _ => rfl⟩⟩
theorem c_ahead {x y : Nat} (hx : x < 4096) (hy : y < 4096) : C1 (D + 2) 272 [.int (nI x), .int (nI y)] I J (.int (tf (ahd x y))) I J := by
  refine mj_mk (e272 _ _ ?_)
  have cx : C1 (D + 1) 3 [.int (nI x)] I J (.int (nI (pcn 32 x))) I J := c_bcI (by omega)
  have cy : C1 (D + 1) 3 [.int (nI y)] I J (.int (nI (pcn 32 y))) I J := c_bcI (by omega)
  unfold ahd
  generalize nI (pcn 32 x) = u at *
  generalize nI (pcn 32 y) = v at *
  refine ⟨trivial, _, _, _, cx, trivial, _, _, _, cy, if_i (fun c => mzT (Or.inl c)) (fun c => if_i (fun d => if_i (fun f => mzF ?_) (fun f => mzT (Or.inr ⟨d, f⟩))) (fun d => mzF ?_))⟩
  · rintro (q | q)
    · exact c q
    · exact q.2 f
  · rintro (q | q)
    · exact c q
    · exact d q.1
def qaP (I : Nat → Nat → Int32) (J : Nat → Nat → Int64) (W g S x : Nat) : Prop := ∃ r, r ∈ wl W g ∧ ∀ s, s < S → x.testBit s = true → saA I J W s r
theorem c_fewest (h : Rl b W Rn Kn Tn Hn Un g I1 J1 I2 J2) {S : Nat} (hS : I1 53 0 = nI S) (hS2 : S ≤ 12) : ∃ r I' J', C1 (D + 5) 269 [.ref 53, .ref 51, .ref 24] I1 J1 (.int r) I' J' ∧ (r = nI (qr (qaP I1 J1 W g S) (2 ^ S - 1) 1 0) ∧ k1 I' = k1 I1 ∧ J' = J1) := by
  obtain ⟨p1, p2⟩ := pw12 hS2
  obtain ⟨hG, g1, g2, g3, g4, g5⟩ := h.G
  obtain ⟨v, hv⟩ : ∃ v, v = qr (qaP I1 J1 W g S) (2 ^ S - 1) 1 0 := ⟨_, rfl⟩
  rw [← hv]
  refine mj_cI (e269 ?_)
  rw [hS, sh1 (by omega)]
  obtain ⟨Q, hQ⟩ : ∃ Q, Q = qI mj_R1 (fun r I' J' => r = nI v ∧ k1 I' = k1 I1 ∧ J' = J1) := ⟨_, rfl⟩
  rw [← hQ]
  refine lp_up (n := 2 ^ S) (fun i => ∀ I0, k1 I0 = k1 I1 → (∀ x, x < i → I0 57 x = 0) → E1 269 (D + 4) Q 10 [(0, .ref 53), (1, .ref 51), (2, .ref 24), (3, .int (nI (2 ^ S))), (4, .int (nI i))] I0 J1) (fun i hi ih I0 hk hz => ?_) 0 (Nat.zero_le _) I1 rfl (fun x hx => absurd hx (Nat.not_lt_zero x))
  refine mj_on (s269_10 _ _ ?_)
  rw [nI_1, nI_clamp (by omega), nar_0]
  refine if_le (by omega) (by omega) (fun c => ?_) (fun c => ⟨vp_in_nI (by omega) (by decide), ih c _ (by rw [k1_up rfl]; exact hk) fun x hx => by
    by_cases e : x = i
    · rw [e, up_s]
    · rw [up_j e]; exact hz x (by omega)⟩)
  refine lp_up (n := (wl W g).length) (fun n => ∀ I0, k1 I0 = k1 I1 → hdP I0 (2 ^ S) (fun x => ∃ r, r ∈ (wl W g).take n ∧ x = nb S (fun s => saA I1 J1 W s r)) → E1 269 (D + 4) Q 33 [(0, .ref 53), (1, .ref 51), (2, .ref 24), (3, .int (nI (2 ^ S))), (4, .int (nI n))] I0 J1) (fun n hn ih2 I0 hk hh => ?_) 0 (Nat.zero_le _) I0 hk (fun x hx => by
    rw [hz x (by omega), tf_f]
    rintro ⟨r, hr, -⟩
    cases hr)
  refine mj_on (s269_33 _ _ ?_)
  rw [k1_at hk (q := 51) (j := 2) rfl, g4, nI_1]
  refine if_le (by omega) (by omega) (fun d => ?_) (fun d => ?_)
  · rw [tk_e d] at hh
    obtain ⟨I', hc, q1, q2⟩ := c_spread (D := D + 3) (J := J1) (by rw [k1_at hk rfl]; exact hS) hS2 hh
    refine ⟨trivial, _, _, hc, ?_⟩
    have hk' := q1.trans hk
    have hq : ∀ x, x < 2 ^ S → I' 57 x = tf (qaP I1 J1 W g S x) := fun x hx => by
      rw [q2 x hx]
      refine tf_iff ⟨?_, ?_⟩
      · rintro ⟨a, ⟨r, hr, rfl⟩, hi⟩
        exact ⟨r, hr, fun s hs hb => (nb_bit.mp ((hi s).1 hs hb)).2⟩
      · rintro ⟨r, hr, hs⟩
        refine ⟨_, ⟨r, hr, rfl⟩, fun i => ⟨fun q y => nb_bit.mpr ⟨q, hs i q y⟩, fun q => ?_⟩⟩
        have hp := Nat.pow_le_pow_right (n := 2) (by decide) q
        rw [Nat.testBit_lt_two_pow (Nat.lt_of_lt_of_le hx hp), Nat.testBit_lt_two_pow (Nat.lt_of_lt_of_le nb_lt hp)]
    refine lp_up (n := 2 ^ S) (fun i => ∀ f, f < 2 ^ S → 1 ≤ i → qr (qaP I1 J1 W g S) (2 ^ S - i) i f = v → E1 269 (D + 4) Q 73 [(0, .ref 53), (3, .int (nI (2 ^ S))), (4, .int (nI f)), (5, .int (nI i))] I' J1) (fun i hi ih3 f hf hi1 hs => ?_) 1 p1 0 p1 (Nat.le_refl _) hv.symm
    refine mj_on (s269_73 _ _ _ ?_)
    rw [nI_1, nI_clamp (by omega)]
    refine if_le (by omega) (by omega) (fun u => ?_) (fun u => ⟨vp_in_nI (by omega) (by decide), ?_⟩)
    · rw [qr_e u] at hs
      rw [hQ]
      exact ⟨_, _, _, rfl, by rw [hs], hk', rfl⟩
    rw [qr_s u] at hs
    rw [hq i u]
    have no : ¬ (¬ qaP I1 J1 W g S i ∧ (f = 0 ∨ ahd i f)) → E1 269 (D + 4) Q 73 [(0, .ref 53), (3, .int (nI (2 ^ S))), (4, .int (nI f)), (5, .int (nI (i + 1)))] I' J1 := fun z => by
      rw [qr1_f z] at hs
      exact ih3 u f hf (by omega) hs
    have yes : (¬ qaP I1 J1 W g S i ∧ (f = 0 ∨ ahd i f)) → E1 269 (D + 4) Q 73 [(0, .ref 53), (3, .int (nI (2 ^ S))), (4, .int (nI i)), (5, .int (nI (i + 1)))] I' J1 := fun z => by
      rw [qr1_t z] at hs
      exact ih3 u i u (by omega) hs
    refine if_tf (fun y => no fun z => z.1 y) (fun y => if_eq (b := 0) (by omega) (by decide) (fun e => yes ⟨y, Or.inl e⟩) (fun e => ⟨trivial, _, _, _, c_ahead (by omega) (by omega), if_tf (fun z => yes ⟨y, Or.inr z⟩) (fun z => no fun w => ?_)⟩))
    rcases w.2 with w | w
    · exact e w
    · exact z w
  · obtain ⟨r, hr, hm, -⟩ := gt_of d
    have hl := nb_lt (n := S) (p := fun s => saA I1 J1 W s r)
    refine ⟨trivial, _, _, _, c_agSet h hS hS2 hk hr, vp_in_nI (by omega) (by decide), ?_⟩
    rw [nar_1, nI_clamp (by omega)]
    refine ih2 d _ (by rw [k1_up rfl]; exact hk) (hdP_up hh fun x hx => ?_)
    rw [tk_s hr]
    constructor
    · rintro ⟨r', q1, q2⟩
      rcases List.mem_append.mp q1 with z | z
      · exact Or.inl ⟨r', z, q2⟩
      · rw [List.mem_singleton.mp z] at q2
        exact Or.inr q2
    · rintro (⟨r', q1, q2⟩ | q)
      · exact ⟨r', List.mem_append_left _ q1, q2⟩
      · exact ⟨r, List.mem_append_right _ List.mem_cons_self, q⟩
theorem r_isAgreed {S x : Nat} (hI : ∀ k r, (wl W g)[k]? = some r → I 47 k = nI (nb S (fun s => saA I1 J1 W s r))) (hL : (wl W g).length ≤ 455) (hS2 : S ≤ 12) (hx : x < 2 ^ S) : C2 (D + 1) 116 [.ref 0, .int (nI (wl W g).length), .int (nI x)] I J (.int (tf (qaP I1 J1 W g S x))) I J := by
  obtain ⟨p1, p2⟩ := pw12 hS2
  refine mj_mk (e116 _ _ ?_)
  refine lp_up (n := (wl W g).length) (fun i => (∀ k r, k < i → (wl W g)[k]? = some r → ¬ ∀ s, s < S → x.testBit s = true → saA I1 J1 W s r) → E2 116 D (fun q => q = (.int (tf (qaP I1 J1 W g S x)), (I, J, mj_R2))) 2 [(0, .ref 0), (1, .int (nI (wl W g).length)), (2, .int (nI x)), (3, .int (nI i))] I J) (fun i hi ih hp => ?_) 0 (Nat.zero_le _) (fun k r hk => absurd hk (Nat.not_lt_zero k))
  refine mj_on (s116_2 _ _ _ ?_)
  rw [nI_1, nI_clamp (by omega)]
  refine if_le (by omega) (by omega) (fun c => mzF ?_) (fun c => ⟨vp_in_nI (by omega) (by decide), ?_⟩)
  · rintro ⟨r, hr, hs⟩
    obtain ⟨k, hk, rfl⟩ := List.getElem_of_mem hr
    exact hp k _ (by omega) (List.getElem?_eq_getElem hk) hs
  · obtain ⟨r, hr, hm, -⟩ := gt_of c
    rw [hI i r hr, nx_and]
    have hl := nb_lt (n := S) (p := fun s => saA I1 J1 W s r)
    have hle : nb S (fun s => saA I1 J1 W s r) &&& x ≤ x := Nat.and_le_right
    have e : (nb S (fun s => saA I1 J1 W s r) &&& x = x) ↔ ∀ s, s < S → x.testBit s = true → saA I1 J1 W s r := by
      constructor
      · intro q s hs hb
        rw [← q, Nat.testBit_and, Bool.and_eq_true] at hb
        exact (nb_bit.mp hb.1).2
      · intro q
        apply Nat.eq_of_testBit_eq
        intro i
        rw [Nat.testBit_and]
        cases hb : x.testBit i with
        | false => simp
        | true =>
          have hi : i < S := by
            refine Nat.lt_of_not_le fun z => ?_
            rw [Nat.testBit_lt_two_pow (Nat.lt_of_lt_of_le hx (Nat.pow_le_pow_right (by decide) z))] at hb
            cases hb
          rw [nb_bit.mpr ⟨hi, q i hi hb⟩]
          rfl
    refine if_eq (by omega) (by omega) (fun d => mzT ⟨r, hm, e.mp d⟩) (fun d => ih c fun k r' hk hr' => ?_)
    by_cases z : k = i
    · subst z
      rw [hr] at hr'
      cases hr'
      exact fun q => d (e.mpr q)
    · exact hp k r' (by omega) hr'
theorem al_quarrel (h : Rl b W Rn Kn Tn Hn Un g I1 J1 I2 J2) : AI 268 115 [] I1 J1 I2 J2 (Rl b W Rn Kn Tn Hn Un g) := by
  obtain ⟨S, s1, s2, s3, -⟩ := h.S
  obtain ⟨p1, p2⟩ := pw12 s1
  obtain ⟨hG, g1, g2, g3, g4, g5⟩ := h.G
  have hB := h.rB
  obtain ⟨b1, b2, b3, b4, b5, b6⟩ := id hB
  obtain ⟨r, I1', J1', hc, rfl, q1, q5⟩ := c_fewest (D := 894) h s2 s1
  rw [q5] at hc
  obtain ⟨v, hv⟩ : ∃ v, v = qr (qaP I1 J1 W g S) (2 ^ S - 1) 1 0 := ⟨_, rfl⟩
  rw [← hv] at hc
  have cl : C1 900 268 [.ref 0] I1 J1 (.int (nI v)) I1' J1 := mj_mk (D := 899) (e268 ⟨trivial, _, _, _, hc, rfl⟩)
  have hN : wnum g W ≤ 2197 := wnum_le hG.2 b4
  have rf : ∃ r I2' J2', C2 900 115 [.ref 0] I2 J2 (.int r) I2' J2' ∧ (r = nI v ∧ k2 I2' = k2 I2 ∧ J2' = J2) := by
    refine mj_cI (D := 899) (e115 ?_)
    obtain ⟨Q, hQ⟩ : ∃ Q, Q = qI mj_R2 (fun r I' J' => r = nI v ∧ k2 I' = k2 I2 ∧ J' = J2) := ⟨_, rfl⟩
    rw [← hQ]
    refine lp_up (n := wnum g W) (fun n => ∀ I, k2 I = k2 I2 → (∀ k r, (wpre g W n)[k]? = some r → I 47 k = nI (nb S (fun s => saA I1 J1 W s r))) → E2 115 899 Q 4 [(0, .ref 0), (1, .int (nI (wpre g W n).length)), (2, .int (nI n))] I J2) (fun n hn ih I hI ha => ?_) 0 (Nat.zero_le _) I2 rfl (fun k r hr => by cases hr)
    have hpl : (wpre g W n).length ≤ (wl W g).length := by
      rw [← (wl_ok hG.2 b4).1]
      unfold wpre
      have : List.range (wnum g W) = List.range n ++ (List.range' n (wnum g W - n)) := by
        rw [List.range_eq_range', List.range_eq_range']
        have := List.range'_append_1 (s := 0) (m := n) (n := wnum g W - n)
        rw [Nat.zero_add] at this
        rw [this]
        congr 1
        omega
      rw [this, List.filterMap_append, List.length_append]
      omega
    refine mj_on (s115_4 _ _ ?_)
    rw [nI_1, nI_1]
    refine ⟨trivial, _, _, _, r_numbers (rB_k hB hI) (rG_k hG hI), if_le (by omega) (by omega) (fun c => ?_) (fun c => ?_)⟩
    · obtain rfl : n = wnum g W := by omega
      have eL : wpre g W (wnum g W) = wl W g := (wl_ok hG.2 b4).1
      rw [eL] at ha ⊢
      refine lp_up (n := 2 ^ S) (fun i => ∀ f, f < 2 ^ S → 1 ≤ i → qr (qaP I1 J1 W g S) (2 ^ S - i) i f = v → E2 115 899 Q 46 [(0, .ref 0), (1, .int (nI (wl W g).length)), (2, .int (nI f)), (3, .int (nI i))] I J2) (fun i hi ih3 f hf hi1 hs => ?_) 1 p1 0 p1 (Nat.le_refl _) hv.symm
      refine mj_on (s115_46 _ _ _ ?_)
      rw [k2_at hI (q := 0) (j := 68) rfl, s3, sh1 (by omega), nI_1]
      refine if_le (by omega) (by omega) (fun u => ?_) (fun u => ?_)
      · rw [qr_e u] at hs
        rw [hQ]
        exact ⟨_, _, _, rfl, by rw [hs], hI, rfl⟩
      rw [qr_s u] at hs
      have no : ¬ (¬ qaP I1 J1 W g S i ∧ (f = 0 ∨ ahd i f)) → E2 115 899 Q 46 [(0, .ref 0), (1, .int (nI (wl W g).length)), (2, .int (nI f)), (3, .int (nI (i + 1)))] I J2 := fun z => by
        rw [qr1_f z] at hs
        exact ih3 u f hf (by omega) hs
      have yes : (¬ qaP I1 J1 W g S i ∧ (f = 0 ∨ ahd i f)) → E2 115 899 Q 46 [(0, .ref 0), (1, .int (nI (wl W g).length)), (2, .int (nI i)), (3, .int (nI (i + 1)))] I J2 := fun z => by
        rw [qr1_t z] at hs
        exact ih3 u i u (by omega) hs
      refine ⟨trivial, _, _, _, r_isAgreed ha g5 s1 u, if_tf (fun y => no fun z => z.1 y) (fun y => if_eq (b := 0) (by omega) (by decide) (fun e => ?_) (fun e => ?_))⟩
      · refine mj_on (s115_89 _ _ _ _ ?_)
        rw [if_pos (by decide), nI_1]
        exact yes ⟨y, Or.inl e⟩
      · rw [i64_small i (by omega), i64_small f (by omega)]
        have pe : ∀ m, m < 4096 → pcL (lN m) = pcn 32 m := fun m hm => by
          rw [pcL_lN (by omega)]
          exact pcn_big 32 32 m (by omega)
        have ci : C2 899 63 [.long (lN i)] I J2 (.int (nI (pcn 32 i))) I J2 := by rw [← pe i (by omega)]; exact r_bits
        have cf : C2 899 63 [.long (lN f)] I J2 (.int (nI (pcn 32 f))) I J2 := by rw [← pe f (by omega)]; exact r_bits
        unfold ahd at yes no
        generalize nI (pcn 32 i) = pi at *
        generalize nI (pcn 32 f) = pf at *
        refine ⟨trivial, _, _, _, ci, trivial, _, _, _, cf, ?_⟩
        refine mj_on (s115_89 _ _ _ _ ?_)
        rw [nI_1]
        refine if_i (fun z => yes ⟨y, Or.inr (Or.inl z)⟩) (fun z => if_i (fun d => if_i (fun w => no ?_) (fun w => yes ⟨y, Or.inr (Or.inr ⟨d, w⟩)⟩)) (fun d => no ?_))
        · rintro ⟨-, q | q | q⟩
          · exact e q
          · exact z q
          · exact q.2 w
        · rintro ⟨-, q | q | q⟩
          · exact e q
          · exact z q
          · exact d q.1
    · obtain ⟨I', hc, q1, q2⟩ := r_isWeighing (D := 898) (J := J2) (rB_k hB hI) (rG_k hG hI) (by
        refine Nat.pos_of_ne_zero fun e => ?_
        rw [e] at c
        exact absurd c (Nat.not_lt_zero _)) (show n < 2197 by omega)
      have hI' : k2 I' = k2 I2 := (k2_40 q1).trans hI
      have ha' : ∀ k r, (wpre g W n)[k]? = some r → I' 47 k = nI (nb S (fun s => saA I1 J1 W s r)) := fun k r hr => by
        rw [q1 47 (by decide)]
        exact ha k r hr
      refine ⟨trivial, _, _, _, hc, if_tf (fun d => ?_) (fun d => ?_)⟩
      · obtain ⟨r, hr⟩ := Option.ne_none_iff_exists'.mp d
        have hl2 : (wpre g W (n + 1)).length ≤ 455 := by
          have e := (wl_ok hG.2 b4).1
          have : (wpre g W (n + 1)).length ≤ (wl W g).length := by
            rw [← e]
            unfold wpre
            have : List.range (wnum g W) = List.range (n + 1) ++ (List.range' (n + 1) (wnum g W - (n + 1))) := by
              rw [List.range_eq_range', List.range_eq_range']
              have := List.range'_append_1 (s := 0) (m := n + 1) (n := wnum g W - (n + 1))
              rw [Nat.zero_add] at this
              rw [this]
              congr 1
              omega
            rw [this, List.filterMap_append, List.length_append]
            omega
          omega
        rw [wpre_t hr, List.length_append] at hl2
        have hl2 : (wpre g W n).length + 1 ≤ 455 := hl2
        have hs := ih c
        rw [wpre_t hr, List.length_append] at hs
        refine ⟨trivial, _, _, _, r_agreed h hI' s2 s1 (q2 r hr), vp_in_nI (by omega) (by decide), ?_⟩
        rw [nI_clamp (by omega)]
        refine hs _ (by rw [k2_up rfl]; exact hI') (fun k r' hr' => ?_)
        by_cases z : k < (wpre g W n).length
        · rw [List.getElem?_append_left z] at hr'
          rw [up_j (by omega)]
          exact ha' k r' hr'
        · rw [List.getElem?_append_right (by omega)] at hr'
          cases hz : k - (wpre g W n).length with
          | zero =>
            rw [hz] at hr'
            cases hr'
            obtain rfl : k = (wpre g W n).length := by omega
            rw [up_s]
          | succ z => rw [hz] at hr'; cases hr'
      · have d : wval g W n = none := Classical.byContradiction fun q => d q
        have hs := ih c I' hI'
        rw [wpre_f d] at hs
        exact hs ha'
  obtain ⟨r, I2', J2', hc2, rfl, q2, rfl⟩ := rf
  exact ⟨_, _, _, _, _, cl, hc2, Rl_same h q1 rfl q2 rfl⟩
end S65
end
section
/-! person, bar -/
theorem leI {a b : Nat} (ha : a < 2 ^ 31) (hb : b < 2 ^ 31) : nI a ≤ nI b ↔ a ≤ b := by
  rw [Int32.le_iff_toInt_le, nI_toInt ha, nI_toInt hb]
  omega
theorem up4_at {F : Nat → Nat → Int32} {c p q w : Nat} {x y z u : Int32} (hw : w < 4) : mj_up (mj_up (mj_up (mj_up F c (4 * p) x) c (4 * p + 1) y) c (4 * p + 2) z) c (4 * p + 3) u c (4 * q + w) = if q = p then (if w = 0 then x else if w = 1 then y else if w = 2 then z else u) else F c (4 * q + w) := by
  by_cases e : q = p
  · subst e
    rw [if_pos rfl]
    rcases (by omega : w = 0 ∨ w = 1 ∨ w = 2 ∨ w = 3) with rfl | rfl | rfl | rfl
    · rw [up_j (by omega), up_j (by omega), up_j (by omega), Nat.add_zero, up_s]; rfl
    · rw [up_j (by omega), up_j (by omega), up_s]; rfl
    · rw [up_j (by omega), up_s]; rfl
    · rw [up_s]; rfl
  · rw [if_neg e, up_j (by omega), up_j (by omega), up_j (by omega), up_j (by omega)]
theorem up4_c {F : Nat → Nat → Int32} {c k p j : Nat} {x y z u : Int32} (h : k ≠ c) : mj_up (mj_up (mj_up (mj_up F c (4 * p) x) c (4 * p + 1) y) c (4 * p + 2) z) c (4 * p + 3) u k j = F k j := by
  rw [up_c h, up_c h, up_c h, up_c h]
section S66
variable {D b W Rn Kn Tn Hn Un g : Nat} {I I1 I2 : Nat → Nat → Int32} {J J1 J2 : Nat → Nat → Int64}
theorem c_isOne {x : Int32} : C1 (D + 1) 275 [.int x] I J (.int (tf (∃ j, j < 6 ∧ x = nI j))) I J := by
  refine mj_mk (e275 _ ?_)
  rw [show (6 : Int32) = nI 6 from rfl]
  refine if_rg (by decide) (fun j hj e => mzT ⟨j, hj, e⟩) (fun q => mzF fun ⟨j, hj, e⟩ => q j hj e)
theorem r_isPerson {x : Int32} : C2 (D + 1) 119 [.int x] I J (.int (tf (∃ j, j < 6 ∧ x = nI j))) I J := by
  refine mj_mk (e119 _ ?_)
  rw [show (6 : Int32) = nI 6 from rfl]
  refine if_rg (by decide) (fun j hj e => mzT ⟨j, hj, e⟩) (fun q => mzF fun ⟨j, hj, e⟩ => q j hj e)
/-- a weight of the wish w -/
def wtk (W w : Nat) (x : Int32) : Prop := ∃ n, n ≤ 9 ∧ x = nI n ∧ (W ≤ w → n = 0)
theorem wtk_ref {W w : Nat} {x : Int32} (h1 : ¬ x < 0 ∧ ¬ 9 < x) (h2 : W ≤ w → x ≤ 0) : wtk W w x := by
  obtain ⟨n, hn, rfl⟩ := nI_of2 (n := 9) (by decide) h1.1 (Int32.not_lt.mp h1.2)
  exact ⟨n, hn, rfl, fun q => Nat.le_zero.mp ((leI (a := n) (b := 0) (by omega) (by decide)).mp (h2 q))⟩
theorem wtk_of {W w : Nat} {x : Int32} (h : wtk W w x) : (¬ x < 0 ∧ ¬ 9 < x) ∧ (W ≤ w → x ≤ 0) := by
  obtain ⟨n, hn, rfl, hw⟩ := h
  exact ⟨⟨nI_pos (by omega), Int32.not_lt.mpr ((leI (a := n) (b := 9) (by omega) (by decide)).mpr hn)⟩, fun q => by rw [hw q]; decide⟩
theorem c_isWeight {w : Nat} {x : Int32} (hW : W ≤ 4) (hw : w < 4) : C1 (D + 1) 276 [.int x, .int (nI w), .int (nI W)] I J (.int (tf (wtk W w x))) I J := by
  refine mj_mk (e276 _ _ _ ?_)
  refine if_i (fun c => mzF fun q => (wtk_of q).1.1 c) (fun c => if_le (by omega) (by omega) (fun d => if_i (fun f => mzF fun q => absurd ((wtk_of q).2 d) (Int32.not_le.mpr f)) (fun f => mzT ?_)) (fun d => if_i (fun f => mzF fun q => (wtk_of q).1.2 f) (fun f => mzT (wtk_ref ⟨c, f⟩ fun z => ?_))))
  · have f := Int32.not_lt.mp f
    refine wtk_ref ⟨c, fun z => ?_⟩ (fun _ => f)
    exact absurd (Int32.lt_of_lt_of_le z f) (by decide)
  · exact absurd z (by omega)
theorem al_person {x1 x2 x3 x4 x5 : Int32} (h : Rl b W Rn Kn Tn Hn Un g I1 J1 I2 J2) : AI 274 118 [.int x1, .int x2, .int x3, .int x4, .int x5] I1 J1 I2 J2 (Rl b W Rn Kn Tn Hn Un g) := by
  obtain ⟨a1, a2, -⟩ := h.N
  have hB := h.rB
  obtain ⟨b1, b2, b3, b4, b5, b6⟩ := id hB
  have hv0 : vp_in 0 6 := vp_in_nI (n := 0) (by decide) (by decide)
  by_cases all : (∃ j, j < 6 ∧ x1 = nI j) ∧ wtk W 0 x2 ∧ wtk W 1 x3 ∧ wtk W 2 x4 ∧ wtk W 3 x5
  · obtain ⟨h0, k2', k3, k4, k5⟩ := id all
    obtain ⟨p, hp, rfl⟩ := h0
    obtain ⟨n2, m2, rfl, z2⟩ := id k2'
    obtain ⟨n3, m3, rfl, z3⟩ := id k3
    obtain ⟨n4, m4, rfl, z4⟩ := id k4
    obtain ⟨n5, m5, rfl, z5⟩ := id k5
    obtain ⟨f, hf⟩ : ∃ f : Nat → Nat, f = fun w => if w = 0 then n2 else if w = 1 then n3 else if w = 2 then n4 else n5 := ⟨_, rfl⟩
    have hff : ∀ w, w < 4 → (if w = 0 then nI n2 else if w = 1 then nI n3 else if w = 2 then nI n4 else nI n5) = nI (f w) ∧ f w ≤ 9 ∧ (W ≤ w → f w = 0) := fun w hw => by
      rw [hf]
      rcases (by omega : w = 0 ∨ w = 1 ∨ w = 2 ∨ w = 3) with rfl | rfl | rfl | rfl
      · exact ⟨rfl, m2, z2⟩
      · exact ⟨rfl, m3, z3⟩
      · exact ⟨rfl, m4, z4⟩
      · exact ⟨rfl, m5, z5⟩
    have hz : (((nI n2 ||| nI n3) ||| nI n4) ||| nI n5) = nI (n2 ||| n3 ||| n4 ||| n5) := by rw [nx_or, nx_or, nx_or]
    have hz0 : (((nI n2 ||| nI n3) ||| nI n4) ||| nI n5) = 0 ↔ ∀ w, w < 4 → f w = 0 := by
      rw [hz]
      have hl : ∀ {x y : Nat}, x < 16 → y < 16 → x ||| y < 16 := fun h1 h2 => Nat.or_lt_two_pow (n := 4) h1 h2
      have hb : n2 ||| n3 ||| n4 ||| n5 < 16 := hl (hl (hl (by omega) (by omega)) (by omega)) (by omega)
      rw [show (0 : Int32) = nI 0 from rfl, nI_eq (by omega) (by decide), Nat.or_eq_zero_iff, Nat.or_eq_zero_iff, Nat.or_eq_zero_iff, hf]
      constructor
      · rintro ⟨⟨⟨q1, q2⟩, q3⟩, q4⟩ w hw
        rcases (by omega : w = 0 ∨ w = 1 ∨ w = 2 ∨ w = 3) with rfl | rfl | rfl | rfl
        · exact q1
        · exact q2
        · exact q3
        · exact q4
      · exact fun q => ⟨⟨⟨q 0 (by decide), q 1 (by decide)⟩, q 2 (by decide)⟩, q 3 (by decide)⟩
    have ix : ∀ (j : Nat), j < 4 → nI p * 4 + nI j = nI (4 * p + j) ∧ vp_in (nI (4 * p + j)) 24 := fun j hj => ⟨ix4 _ _, vp_in_nI (by omega) (by decide)⟩
    obtain ⟨F1, hF1⟩ : ∃ F1, F1 = mj_up (mj_up (mj_up (mj_up I1 59 (4 * p) (nI n2)) 59 (4 * p + 1) (nI n3)) 59 (4 * p + 2) (nI n4)) 59 (4 * p + 3) (nI n5) := ⟨_, rfl⟩
    obtain ⟨F2, hF2⟩ : ∃ F2, F2 = mj_up (mj_up (mj_up (mj_up I2 48 (4 * p) (nI n2)) 48 (4 * p + 1) (nI n3)) 48 (4 * p + 2) (nI n4)) 48 (4 * p + 3) (nI n5) := ⟨_, rfl⟩
    have at1 : ∀ q w, w < 4 → F1 59 (4 * q + w) = if q = p then nI (f w) else I1 59 (4 * q + w) := fun q w hw => by rw [hF1, up4_at hw, (hff w hw).1]
    have at2 : ∀ q w, w < 4 → F2 48 (4 * q + w) = if q = p then nI (f w) else I2 48 (4 * q + w) := fun q w hw => by rw [hF2, up4_at hw, (hff w hw).1]
    have c1 : ∀ k j, k ≠ 59 → F1 k j = I1 k j := fun k j hk => by rw [hF1, up4_c hk]
    have rl : ∀ v : Int32, ((v = 0 ∧ ∀ w, w < 4 → f w = 0) ∨ (v = 1 ∧ ∃ w, w < 4 ∧ f w ≠ 0)) → Rl b W Rn Kn Tn Hn Un g (mj_up F1 60 p v) J1 F2 J2 := fun v hv => by
      refine Rl_P h ?_ rfl ?_ rfl ?_
      · rw [mkI_up rfl, hF1, mkI_up rfl, mkI_up rfl, mkI_up rfl, mkI_up rfl]
      · rw [hF2, mkI_up rfl, mkI_up rfl, mkI_up rfl, mkI_up rfl]
      · intro q hq
        obtain ⟨o1, o2, o3⟩ := h.2.2.2.2.2.2.2.2.2.1 q hq
        by_cases e : q = p
        · subst e
          refine ⟨o1, fun w hw => ⟨f w, (hff w hw).2.1, by rw [at2 q w hw, if_pos rfl], (hff w hw).2.2⟩, ?_⟩
          rw [up_s]
          rcases hv with ⟨rfl, hv⟩ | ⟨rfl, w, hw, hv⟩
          · exact Or.inl ⟨rfl, fun w hw => by rw [at2 q w hw, if_pos rfl, hv w hw]⟩
          · refine Or.inr ⟨rfl, fun w hw => by rw [up_c (by decide), at1 q w hw, at2 q w hw, if_pos rfl, if_pos rfl], w, hw, ?_⟩
            rw [at2 q w hw, if_pos rfl]
            have := (hff w hw).2.1
            exact fun z => hv ((nI_eq (by omega) (by decide)).mp z)
        · have o2' : ∀ w, w < 4 → F2 48 (4 * q + w) = I2 48 (4 * q + w) := fun w hw => by rw [at2 q w hw, if_neg e]
          have o1' : ∀ w, w < 4 → mj_up F1 60 p v 59 (4 * q + w) = I1 59 (4 * q + w) := fun w hw => by rw [up_c (by decide), at1 q w hw, if_neg e]
          refine ⟨o1, fun w hw => by rw [o2' w hw]; exact o2 w hw, ?_⟩
          rw [up_j e, c1 60 q (by decide)]
          rcases o3 with ⟨y1, y2⟩ | ⟨y1, y2, w, y3, y4⟩
          · exact Or.inl ⟨y1, fun w hw => by rw [o2' w hw]; exact y2 w hw⟩
          · exact Or.inr ⟨y1, fun w hw => by rw [o2' w hw, o1' w hw]; exact y2 w hw, w, y3, by rw [o2' w y3]; exact y4⟩
    have rf : C2 900 118 [.ref 0, .int (nI p), .int (nI n2), .int (nI n3), .int (nI n4), .int (nI n5)] I2 J2 (.int 1) F2 J2 := by
      obtain ⟨g2, y2⟩ := wtk_of k2'
      obtain ⟨g3, y3⟩ := wtk_of k3
      obtain ⟨g4, y4⟩ := wtk_of k4
      obtain ⟨g5, y5⟩ := wtk_of k5
      refine mj_mk (D := 899) (e118 _ _ _ _ _ ?_)
      refine ⟨trivial, _, _, _, r_isPerson, if_tf (fun _ => ?_) (fun q => absurd ⟨p, hp, rfl⟩ q)⟩
      refine ⟨trivial, _, _, _, r_is, if_tf (fun _ => ?_) (fun q => absurd g2 q)⟩
      refine ⟨trivial, _, _, _, r_is, if_tf (fun _ => ?_) (fun q => absurd g3 q)⟩
      refine ⟨trivial, _, _, _, r_is, if_tf (fun _ => ?_) (fun q => absurd g4 q)⟩
      refine ⟨trivial, _, _, _, r_is, if_tf (fun _ => ?_) (fun q => absurd g5 q)⟩
      rw [b1, nI_clamp (by omega), b3]
      refine ⟨vp_in_nI b2 (by decide), ?_⟩
      have go4 : E2 118 899 (fun q => q = (.int 1, (F2, J2, mj_R2))) 106 [(0, .ref 0), (1, .int (nI p)), (2, .int (nI n2)), (3, .int (nI n3)), (4, .int (nI n4)), (5, .int (nI n5))] I2 J2 := by
        refine mj_on (s118_106 _ _ _ _ _ ?_)
        rw [show (4 : Int32) * nI p = nI (4 * p) from pk_mul 4 p, show (1 : Int32) = nI 1 from rfl, show (2 : Int32) = nI 2 from rfl, show (3 : Int32) = nI 3 from rfl, nI_add, nI_add, nI_add, nI_clamp (by omega), nI_clamp (by omega), nI_clamp (by omega), nI_clamp (by omega), ← hF2]
        exact ⟨vp_in_nI (by omega) (by decide), vp_in_nI (by omega) (by decide), vp_in_nI (by omega) (by decide), vp_in_nI (by omega) (by decide), mj_on (s118_150 ⟨Or.inr rfl, rfl⟩)⟩
      have go3 : E2 118 899 (fun q => q = (.int 1, (F2, J2, mj_R2))) 93 [(0, .ref 0), (1, .int (nI p)), (2, .int (nI n2)), (3, .int (nI n3)), (4, .int (nI n4)), (5, .int (nI n5)), (6, .int (nI W))] I2 J2 :=
        mj_on (s118_93 _ _ _ _ _ _ (if_le (a := 4) (by decide) (by omega) (fun z => go4) (fun z => if_i (fun _ => go4) (fun y => absurd (y5 (by omega)) y))))
      have go2 : E2 118 899 (fun q => q = (.int 1, (F2, J2, mj_R2))) 82 [(0, .ref 0), (1, .int (nI p)), (2, .int (nI n2)), (3, .int (nI n3)), (4, .int (nI n4)), (5, .int (nI n5)), (6, .int (nI W))] I2 J2 :=
        mj_on (s118_82 _ _ _ _ _ _ (if_le (a := 3) (by decide) (by omega) (fun z => go3) (fun z => if_i (fun _ => go3) (fun y => absurd (y4 (by omega)) y))))
      have go1 : E2 118 899 (fun q => q = (.int 1, (F2, J2, mj_R2))) 72 [(0, .ref 0), (1, .int (nI p)), (2, .int (nI n2)), (3, .int (nI n3)), (4, .int (nI n4)), (5, .int (nI n5)), (6, .int (nI W))] I2 J2 :=
        mj_on (s118_72 _ _ _ _ _ _ (if_le (a := 2) (by decide) (by omega) (fun z => go2) (fun z => if_i (fun _ => go2) (fun y => absurd (y3 (by omega)) y))))
      exact if_le (a := 1) (by decide) (by omega) (fun z => go1) (fun z => if_i (fun _ => go1) (fun y => absurd (y2 (by omega)) y))
    have cl : ∃ v : Int32, C1 900 274 [.ref 0, .int (nI p), .int (nI n2), .int (nI n3), .int (nI n4), .int (nI n5)] I1 J1 (.int 1) (mj_up F1 60 p v) J1 ∧ ((v = 0 ∧ ∀ w, w < 4 → f w = 0) ∨ (v = 1 ∧ ∃ w, w < 4 ∧ f w ≠ 0)) := by
      have main : ∀ v : Int32, (E1 274 899 (fun q => q = (.int 1, (mj_up F1 60 p v, J1, mj_R1))) 119 [(0, .ref 0), (1, .int (nI p)), (2, .int (nI n2)), (3, .int (nI n3)), (4, .int (nI n4)), (5, .int (nI n5))] F1 J1) → C1 900 274 [.ref 0, .int (nI p), .int (nI n2), .int (nI n3), .int (nI n4), .int (nI n5)] I1 J1 (.int 1) (mj_up F1 60 p v) J1 := fun v e => by
        refine mj_mk (D := 899) (e274 _ _ _ _ _ ?_)
        rw [show ((0 : Int32)).toNatClampNeg = 0 from rfl, a1]
        refine ⟨hv0, trivial, _, _, _, c_isOne, if_tf (fun _ => ?_) (fun q => absurd ⟨p, hp, rfl⟩ q)⟩
        refine ⟨trivial, _, _, _, c_isWeight (w := 0) b4 (by decide), if_tf (fun _ => ?_) (fun q => absurd k2' q)⟩
        refine ⟨trivial, _, _, _, c_isWeight (w := 1) b4 (by decide), if_tf (fun _ => ?_) (fun q => absurd k3 q)⟩
        refine ⟨trivial, _, _, _, c_isWeight (w := 2) b4 (by decide), if_tf (fun _ => ?_) (fun q => absurd k4 q)⟩
        refine ⟨trivial, _, _, _, c_isWeight (w := 3) b4 (by decide), if_tf (fun _ => ?_) (fun q => absurd k5 q)⟩
        rw [ix4m, show (1 : Int32) = nI 1 from rfl, show (2 : Int32) = nI 2 from rfl, show (3 : Int32) = nI 3 from rfl, nI_add, nI_add, nI_add, nI_clamp (by omega), nI_clamp (by omega), nI_clamp (by omega), nI_clamp (by omega), ← hF1]
        exact ⟨vp_in_nI (by omega) (by decide), vp_in_nI (by omega) (by decide), vp_in_nI (by omega) (by decide), vp_in_nI (by omega) (by decide), e⟩
      by_cases z : ∀ w, w < 4 → f w = 0
      · refine ⟨0, main 0 (mj_on (s274_119 _ _ _ _ _ ?_)), Or.inl ⟨rfl, z⟩⟩
        rw [if_pos (hz0.mpr z), nar_0, nI_clamp (by omega)]
        exact ⟨vp_in_nI hp (by decide), Or.inr rfl, rfl⟩
      · refine ⟨1, main 1 (mj_on (s274_119 _ _ _ _ _ ?_)), Or.inr ⟨rfl, ?_⟩⟩
        · rw [if_neg (fun q => z (hz0.mp q)), nar_1, nI_clamp (by omega)]
          exact ⟨vp_in_nI hp (by decide), Or.inr rfl, rfl⟩
        · refine Classical.byContradiction fun q => z fun w hw => Classical.byContradiction fun y => q ⟨w, hw, y⟩
    obtain ⟨v, hc, hv⟩ := cl
    exact ⟨_, _, _, _, _, hc, rf, rl v hv⟩
  · refine AI.same 0 (mj_mk (D := 899) (e274 _ _ _ _ _ ?_)) (mj_mk (D := 899) (e118 _ _ _ _ _ ?_)) h
    · rw [show ((0 : Int32)).toNatClampNeg = 0 from rfl, a1]
      refine ⟨hv0, trivial, _, _, _, c_isOne, if_tf (fun q1 => ?_) (fun _ => ⟨Or.inl rfl, rfl⟩)⟩
      refine ⟨trivial, _, _, _, c_isWeight (w := 0) b4 (by decide), if_tf (fun q2 => ?_) (fun _ => ⟨Or.inl rfl, rfl⟩)⟩
      refine ⟨trivial, _, _, _, c_isWeight (w := 1) b4 (by decide), if_tf (fun q3 => ?_) (fun _ => ⟨Or.inl rfl, rfl⟩)⟩
      refine ⟨trivial, _, _, _, c_isWeight (w := 2) b4 (by decide), if_tf (fun q4 => ?_) (fun _ => ⟨Or.inl rfl, rfl⟩)⟩
      refine ⟨trivial, _, _, _, c_isWeight (w := 3) b4 (by decide), if_tf (fun q5 => ?_) (fun _ => ⟨Or.inl rfl, rfl⟩)⟩
      exact absurd ⟨q1, q2, q3, q4, q5⟩ all
    · refine ⟨trivial, _, _, _, r_isPerson, if_tf (fun q1 => ?_) (fun _ => ⟨Or.inl rfl, rfl⟩)⟩
      refine ⟨trivial, _, _, _, r_is, if_tf (fun q2 => ?_) (fun _ => ⟨Or.inl rfl, rfl⟩)⟩
      refine ⟨trivial, _, _, _, r_is, if_tf (fun q3 => ?_) (fun _ => ⟨Or.inl rfl, rfl⟩)⟩
      refine ⟨trivial, _, _, _, r_is, if_tf (fun q4 => ?_) (fun _ => ⟨Or.inl rfl, rfl⟩)⟩
      refine ⟨trivial, _, _, _, r_is, if_tf (fun q5 => ?_) (fun _ => ⟨Or.inl rfl, rfl⟩)⟩
      rw [b1, nI_clamp (by omega), b3]
      refine ⟨vp_in_nI b2 (by decide), ?_⟩
      have go : ∀ (w1 : W ≤ 0 → x2 ≤ 0), E2 118 899 (fun q => q = (.int 0, (I2, J2, mj_R2))) 72 [(0, .ref 0), (1, .int x1), (2, .int x2), (3, .int x3), (4, .int x4), (5, .int x5), (6, .int (nI W))] I2 J2 := fun w1 => by
        refine mj_on (s118_72 _ _ _ _ _ _ ?_)
        have go : ∀ (w2 : W ≤ 1 → x3 ≤ 0), E2 118 899 (fun q => q = (.int 0, (I2, J2, mj_R2))) 82 [(0, .ref 0), (1, .int x1), (2, .int x2), (3, .int x3), (4, .int x4), (5, .int x5), (6, .int (nI W))] I2 J2 := fun w2 => by
          refine mj_on (s118_82 _ _ _ _ _ _ ?_)
          have go : ∀ (w3 : W ≤ 2 → x4 ≤ 0), E2 118 899 (fun q => q = (.int 0, (I2, J2, mj_R2))) 93 [(0, .ref 0), (1, .int x1), (2, .int x2), (3, .int x3), (4, .int x4), (5, .int x5), (6, .int (nI W))] I2 J2 := fun w3 => by
            refine mj_on (s118_93 _ _ _ _ _ _ ?_)
            have no : ∀ w4 : W ≤ 3 → x5 ≤ 0, False := fun w4 => all ⟨q1, wtk_ref q2 w1, wtk_ref q3 w2, wtk_ref q4 w3, wtk_ref q5 w4⟩
            exact if_le (a := 4) (by decide) (by omega) (fun z => (no fun y => by omega).elim) (fun z => if_i (fun y => (no fun _ => y).elim) (fun _ => ⟨Or.inl rfl, rfl⟩))
          exact if_le (a := 3) (by decide) (by omega) (fun z => go fun y => by omega) (fun z => if_i (fun y => go fun _ => y) (fun _ => ⟨Or.inl rfl, rfl⟩))
        exact if_le (a := 2) (by decide) (by omega) (fun z => go fun y => by omega) (fun z => if_i (fun y => go fun _ => y) (fun _ => ⟨Or.inl rfl, rfl⟩))
      exact if_le (a := 1) (by decide) (by omega) (fun z => go fun y => by omega) (fun z => if_i (fun y => go fun _ => y) (fun _ => ⟨Or.inl rfl, rfl⟩))
theorem al_bar {x1 x2 x3 : Int32} (h : Rl b W Rn Kn Tn Hn Un g I1 J1 I2 J2) : AI 277 120 [.int x1, .int x2, .int x3] I1 J1 I2 J2 (Rl b W Rn Kn Tn Hn Un g) := by
  obtain ⟨a1, a2, -⟩ := h.N
  have hB := h.rB
  obtain ⟨b1, b2, b3, b4, b5, b6⟩ := id hB
  by_cases all : (∃ j, j < 6 ∧ x1 = nI j) ∧ ∃ j, j < Rn ∧ x2 = nI j
  · obtain ⟨⟨p, hp, rfl⟩, ⟨r, hr, rfl⟩⟩ := id all
    have rl : ∀ v : Int64, Rl b W Rn Kn Tn Hn Un g I1 (mj_up J1 61 p v) I2 (mj_up J2 49 p v) := fun v => by
      refine Rl_P h rfl (mkJ_up rfl) rfl (mkJ_up rfl) fun q hq => ?_
      obtain ⟨o1, o2, o3⟩ := h.2.2.2.2.2.2.2.2.2.1 q hq
      refine ⟨?_, o2, o3⟩
      by_cases e : q = p
      · rw [e]
        show mj_up J2 49 p v 49 p = mj_up J1 61 p v 61 p
        simp [mj_up]
      · show mj_up J2 49 p v 49 q = mj_up J1 61 p v 61 q
        simp [mj_up, e, o1]
    have e49 : J2 49 p = J1 61 p := (h.2.2.2.2.2.2.2.2.2.1 p hp).1
    have hv : vp_in (nI p) 6 := vp_in_nI hp (by decide)
    by_cases c : x3 = 0
    · refine ⟨1, I1, mj_up J1 61 p ((J1 61 p) &&& (((1 : Int64) <<< ((nI r).toInt64 &&& 63)) ^^^ (-1))), I2, mj_up J2 49 p ((J1 61 p) &&& (((1 : Int64) <<< ((nI r).toInt64 &&& 63)) ^^^ (-1))), mj_mk (D := 899) (e277 _ _ _ ?_), mj_mk (D := 899) (e120 _ _ _ ?_), rl _⟩
      · refine ⟨trivial, _, _, _, c_isOne, if_tf (fun _ => ?_) (fun q => absurd ⟨p, hp, rfl⟩ q)⟩
        refine ⟨trivial, _, _, _, c_there (k := 1) a2 b6 (by decide), if_tf (fun _ => ?_) (fun q => absurd ⟨r, hr, rfl⟩ q)⟩
        rw [if_pos c, nI_clamp (by omega)]
        exact ⟨hv, hv, Or.inr rfl, rfl⟩
      · refine ⟨trivial, _, _, _, r_isPerson, if_tf (fun _ => ?_) (fun q => absurd ⟨p, hp, rfl⟩ q)⟩
        refine ⟨trivial, _, _, _, r_isRow hB, if_tf (fun _ => ?_) (fun q => absurd ⟨r, hr, rfl⟩ q)⟩
        rw [if_pos c, nI_clamp (by omega), e49]
        exact ⟨hv, hv, Or.inr rfl, rfl⟩
    · refine ⟨1, I1, mj_up J1 61 p ((J1 61 p) ||| ((1 : Int64) <<< ((nI r).toInt64 &&& 63))), I2, mj_up J2 49 p ((J1 61 p) ||| ((1 : Int64) <<< ((nI r).toInt64 &&& 63))), mj_mk (D := 899) (e277 _ _ _ ?_), mj_mk (D := 899) (e120 _ _ _ ?_), rl _⟩
      · refine ⟨trivial, _, _, _, c_isOne, if_tf (fun _ => ?_) (fun q => absurd ⟨p, hp, rfl⟩ q)⟩
        refine ⟨trivial, _, _, _, c_there (k := 1) a2 b6 (by decide), if_tf (fun _ => ?_) (fun q => absurd ⟨r, hr, rfl⟩ q)⟩
        rw [if_neg c, nI_clamp (by omega)]
        exact ⟨hv, hv, Or.inr rfl, rfl⟩
      · refine ⟨trivial, _, _, _, r_isPerson, if_tf (fun _ => ?_) (fun q => absurd ⟨p, hp, rfl⟩ q)⟩
        refine ⟨trivial, _, _, _, r_isRow hB, if_tf (fun _ => ?_) (fun q => absurd ⟨r, hr, rfl⟩ q)⟩
        rw [if_neg c, nI_clamp (by omega), e49]
        exact ⟨hv, hv, Or.inr rfl, rfl⟩
  · refine AI.same 0 (mj_mk (D := 899) (e277 _ _ _ ?_)) (mj_mk (D := 899) (e120 _ _ _ ?_)) h
    · refine ⟨trivial, _, _, _, c_isOne, if_tf (fun q1 => ?_) (fun _ => ⟨Or.inl rfl, rfl⟩)⟩
      exact ⟨trivial, _, _, _, c_there (k := 1) a2 b6 (by decide), if_tf (fun q2 => absurd ⟨q1, q2⟩ all) (fun _ => ⟨Or.inl rfl, rfl⟩)⟩
    · refine ⟨trivial, _, _, _, r_isPerson, if_tf (fun q1 => ?_) (fun _ => ⟨Or.inl rfl, rfl⟩)⟩
      exact ⟨trivial, _, _, _, r_isRow hB, if_tf (fun q2 => absurd ⟨q1, q2⟩ all) (fun _ => ⟨Or.inl rfl, rfl⟩)⟩
end S66
end
section
/-! those who have a say: what they weigh, whom they put where -/
theorem upJ_s {f : Nat → Nat → Int64} {q j : Nat} {v : Int64} : mj_up f q j v q j = v := by simp [mj_up]
theorem ct_up {p : Nat → Prop} {n : Nat} : ∀ {m : Nat}, n ≤ m → (∀ i, n ≤ i → i < m → ¬ p i) → ct m p = ct n p
  | 0, h, _ => by rw [show n = 0 by omega]
  | m + 1, h, q => by
    by_cases e : n = m + 1
    · rw [e]
    · rw [ct_f (q m (by omega) (by omega))]
      exact ct_up (by omega) fun i h1 h2 => q i h1 (by omega)
theorem ct_pos {p : Nat → Prop} : ∀ {n : Nat}, 0 < ct n p ↔ ∃ i, i < n ∧ p i
  | 0 => ⟨fun h => absurd h (Nat.lt_irrefl 0), fun ⟨i, h, _⟩ => absurd h (Nat.not_lt_zero i)⟩
  | n + 1 => by
    rcases Classical.em (p n) with h | h
    · rw [ct_t h]
      exact ⟨fun _ => ⟨n, by omega, h⟩, fun _ => by omega⟩
    · rw [ct_f h, ct_pos]
      refine ⟨fun ⟨i, h1, h2⟩ => ⟨i, by omega, h2⟩, fun ⟨i, h1, h2⟩ => ⟨i, ?_, h2⟩⟩
      by_cases e : i = n
      · exact absurd (e ▸ h2) h
      · omega
def vot (I : Nat → Nat → Int32) (p : Nat) : Prop := I 60 p ≠ 0
def pwo (I : Nat → Nat → Int32) (p r : Nat) : Nat → Int32
  | 0 => 0
  | k + 1 => pwo I p r k + I 59 (4 * p + k) * I 25 (4 * r + k)
def cnd (J : Nat → Nat → Int64) : Nat → Int64
  | 0 => J 24 6
  | k + 1 => cnd J k &&& (J 61 k ^^^ (-1))
def aP (I : Nat → Nat → Int32) (W p o u : Nat) : Prop := pwo I p o W < pwo I p u W ∨ (pwo I p o W = pwo I p u W ∧ o < u)
noncomputable def vN (I : Nat → Nat → Int32) : Nat := ct 6 (vot I)
def wn (I : Nat → Nat → Int32) (W o u : Nat) : Prop := vN I < 2 * ct 6 (fun p => vot I p ∧ aP I W p o u)
noncomputable def rk (I : Nat → Nat → Int32) (W Rn : Nat) (C : Int64) (p u : Nat) : Nat := ct Rn (fun o => lbit C o ∧ aP I W p o u)
theorem cnd_bit {J : Nat → Nat → Int64} {i : Nat} : ∀ {k : Nat}, lbit (cnd J k) i → lbit (J 24 6) i
  | 0, h => h
  | k + 1, h => by
    refine cnd_bit (k := k) ?_
    unfold lbit cnd at h
    rw [Int64.toBitVec_and, BitVec.getLsbD_and, Bool.and_eq_true] at h
    exact h.1
section S67
variable {D b W Rn Kn Tn Hn Un g : Nat} {I I1 I2 : Nat → Nat → Int32} {J J1 J2 : Nat → Nat → Int64}
theorem Rl.cbit (h : Rl b W Rn Kn Tn Hn Un g I1 J1 I2 J2) {i : Nat} (q : lbit (cnd J1 6) i) : i < Rn := by
  have q := cnd_bit q
  rw [h.2.2.2.2.1.2.2.2.2] at q
  exact ((bs_bit (by have := h.rB.2.2.2.2.2; omega) i).mp q).1
theorem Rl.vw (h : Rl b W Rn Kn Tn Hn Un g I1 J1 I2 J2) {p : Nat} (hp : p < 6) : (I1 60 p = 0 ∨ I1 60 p = 1) ∧ (vot I1 p ↔ ∃ w, w < 4 ∧ I2 48 (4 * p + w) ≠ nI 0) ∧ (vot I1 p → ∀ w, w < 4 → I1 59 (4 * p + w) = I2 48 (4 * p + w)) ∧ ∀ w, w < 4 → ∃ x, x ≤ 9 ∧ I2 48 (4 * p + w) = nI x := by
  obtain ⟨o1, o2, o3⟩ := h.2.2.2.2.2.2.2.2.2.1 p hp
  have o4 : ∀ w, w < 4 → ∃ x, x ≤ 9 ∧ I2 48 (4 * p + w) = nI x := fun w hw => by
    obtain ⟨x, q1, q2, -⟩ := o2 w hw
    exact ⟨x, q1, q2⟩
  rcases o3 with ⟨y1, y2⟩ | ⟨y1, y2, y3⟩
  · exact ⟨Or.inl y1, ⟨fun q => absurd y1 q, fun ⟨w, hw, q⟩ => absurd (y2 w hw) q⟩, fun q => absurd y1 q, o4⟩
  · exact ⟨Or.inr y1, ⟨fun _ => y3, fun _ => by unfold vot; rw [y1]; decide⟩, fun _ => y2, o4⟩
theorem Rl.prng (h : Rl b W Rn Kn Tn Hn Un g I1 J1 I2 J2) {p r : Nat} (hp : p < 6) (hv : vot I1 p) (hr : r < Rn) : ∀ k, k ≤ W → ∃ z : Int, -(89991 * (k : Int)) ≤ z ∧ z ≤ 89991 * (k : Int) ∧ pwo I1 p r k = iI z
  | 0, _ => ⟨0, by omega, by omega, rfl⟩
  | k + 1, hk => by
    obtain ⟨z, z1, z2, z3⟩ := h.prng hp hv hr k (by omega)
    obtain ⟨y, y1, y2, y3⟩ := h.lrng hr (w := k) (by omega)
    have b4 := h.rB.2.2.2.1
    obtain ⟨-, -, q3, q4⟩ := h.vw hp
    obtain ⟨x, x1, x2⟩ := q4 k (by omega)
    refine ⟨z + x * y, ?_, ?_, ?_⟩
    · have : -(9 * 9999 : Int) ≤ x * y := by
        have e1 : (x : Int) * y ≥ x * (-9999) := Int.mul_le_mul_of_nonneg_left y1 (by omega)
        omega
      rw [Int.natCast_add, Int.mul_add]
      omega
    · have : x * y ≤ (9 * 9999 : Int) := by
        have e1 : (x : Int) * y ≤ x * 9999 := Int.mul_le_mul_of_nonneg_left y2 (by omega)
        omega
      rw [Int.natCast_add, Int.mul_add]
      omega
    · show pwo I1 p r k + I1 59 (4 * p + k) * I1 25 (4 * r + k) = _
      rw [z3, y3, q3 hv k (by omega), x2, ← iI_nI, iI_mul, iI_add]
theorem Rl.acmp (h : Rl b W Rn Kn Tn Hn Un g I1 J1 I2 J2) {p o u : Nat} (hp : p < 6) (hv : vot I1 p) (ho : o < Rn) (hu : u < Rn) : (pwo I1 p o W - pwo I1 p u W < 0 ↔ pwo I1 p o W < pwo I1 p u W) ∧ (pwo I1 p o W - pwo I1 p u W = 0 ↔ pwo I1 p o W = pwo I1 p u W) := by
  have b4 := h.rB.2.2.2.1
  obtain ⟨z, z1, z2, z3⟩ := h.prng hp hv ho W (Nat.le_refl _)
  obtain ⟨y, y1, y2, y3⟩ := h.prng hp hv hu W (Nat.le_refl _)
  have hW : (W : Int) ≤ 4 := by omega
  rw [z3, y3, iI_sub]
  constructor
  · rw [Int32.lt_iff_toInt_lt, Int32.lt_iff_toInt_lt, iI_toInt (by omega) (by omega), iI_toInt (by omega) (by omega), iI_toInt (by omega) (by omega)]
    show z - y < 0 ↔ _
    omega
  · rw [show (0 : Int32) = iI 0 from rfl, ← Int32.toInt_inj, ← Int32.toInt_inj, iI_toInt (by omega) (by omega), iI_toInt (by omega) (by omega), iI_toInt (by omega) (by omega), iI_toInt (by omega) (by omega)]
    omega
/-- what the class has gathered -/
def gat (I1 : Nat → Nat → Int32) (J1 : Nat → Nat → Int64) (W Rn n : Nat) (I : Nat → Nat → Int32) (J : Nat → Nat → Int64) : Prop := k1 I = k1 I1 ∧ kJ1 J = kJ1 J1 ∧ I 58 4 = nI (ct n (vot I1)) ∧ J 58 5 = cnd J1 n ∧ ∀ p, p < n → vot I1 p → ∀ r, r < Rn → I 62 (40 * p + r) = pwo I1 p r W
theorem c_weighAll (h : Rl b W Rn Kn Tn Hn Un g I1 J1 I2 J2) {p : Nat} (hp : p < 6) (hk : k1 I = k1 I1) : ∃ I' J', C1 (D + 1) 280 [.ref 58, .int (nI p), .ref 24] I J .null I' J' ∧ J' = J ∧ (∀ q, q ≠ 62 → I' q = I q) ∧ (∀ j, j < 40 * p → I' 62 j = I 62 j) ∧ ∀ r, r < Rn → I' 62 (40 * p + r) = pwo I1 p r W := by
  obtain ⟨w1, w2, w3, w4⟩ := h.W24
  refine mj_cN (e280 _ ?_)
  refine lp_up (n := Rn) (fun r => ∀ I', (∀ q, q ≠ 62 → I' q = I q) → (∀ j, j < 40 * p → I' 62 j = I 62 j) → (∀ o, o < r → I' 62 (40 * p + o) = pwo I1 p o W) → E1 280 D (qN mj_R1 (fun I' J' => J' = J ∧ (∀ q, q ≠ 62 → I' q = I q) ∧ (∀ j, j < 40 * p → I' 62 j = I 62 j) ∧ ∀ r, r < Rn → I' 62 (40 * p + r) = pwo I1 p r W)) 2 [(0, .ref 58), (1, .int (nI p)), (2, .ref 24), (3, .int (nI r))] I' J) (fun r hr ih I' q1 q2 q3 => ?_) 0 (Nat.zero_le _) I (fun _ _ => rfl) (fun _ _ => rfl) (fun o ho => absurd ho (Nat.not_lt_zero o))
  refine mj_on (s280_2 _ _ ?_)
  have hI' : k1 I' = k1 I1 := by
    rw [← hk]
    funext q j
    unfold k1
    by_cases e : q = 62
    · rw [e]; rfl
    · rw [q1 q e]
  rw [k1_at hI' (q := 24) (j := 0) rfl, w1]
  refine if_le (by omega) (by omega) (fun c => ⟨_, _, rfl, rfl, q1, q2, fun o ho => q3 o (by omega)⟩) (fun c => ?_)
  refine lp_up (n := W) (fun k => E1 280 D (qN mj_R1 (fun I' J' => J' = J ∧ (∀ q, q ≠ 62 → I' q = I q) ∧ (∀ j, j < 40 * p → I' 62 j = I 62 j) ∧ ∀ r, r < Rn → I' 62 (40 * p + r) = pwo I1 p r W)) 16 [(0, .ref 58), (1, .int (nI p)), (2, .ref 24), (3, .int (nI r)), (4, .int (pwo I1 p r k)), (5, .int (nI k))] I' J) (fun k hk2 ih2 => ?_) 0 (Nat.zero_le _)
  refine mj_on (s280_16 _ _ _ _ ?_)
  rw [k1_at hI' (q := 24) (j := 1) rfl, w3, show nI p * (40 : Int32) = nI (40 * p) from (pk_mul p 40).trans (by rw [Nat.mul_comm]), nI_add, nI_1, ix4, ix4, nI_1, nI_clamp (by omega), nI_clamp (by omega), nI_clamp (by omega), k1_at hI' (q := 59) rfl, k1_at hI' (q := 25) rfl]
  refine if_le (by omega) (by omega) (fun d => ⟨vp_in_nI (by omega) (by decide), ?_⟩) (fun d => ⟨vp_in_nI (by omega) (by decide), vp_in_nI (by omega) (by decide), ih2 d⟩)
  obtain rfl : k = W := by omega
  refine ih c _ (fun q hq => by rw [up_c hq]; exact q1 q hq) (fun j hj => by rw [up_j (by omega)]; exact q2 j hj) (fun o ho => ?_)
  by_cases e : o = r
  · rw [e, up_s]
  · rw [up_j (by omega)]; exact q3 o (by omega)
theorem c_gatherP (h : Rl b W Rn Kn Tn Hn Un g I1 J1 I2 J2) : ∃ r I' J', C1 (D + 2) 279 [.ref 58, .ref 24] I1 J1 (.int r) I' J' ∧ r = tf (0 < vN I1) ∧ gat I1 J1 W Rn 6 I' J' := by
  refine mj_cI (e279 ?_)
  have hR := h.rB.2.2.2.2.2
  refine lp_up (n := 6) (fun i => ∀ I J, gat I1 J1 W Rn i I J → E1 279 (D + 1) (qI mj_R1 (fun r I' J' => r = tf (0 < vN I1) ∧ gat I1 J1 W Rn 6 I' J')) 15 [(0, .ref 58), (1, .ref 24), (2, .int (nI i))] I J) (fun i hi ih I J hg => ?_) 0 (Nat.zero_le _) _ _ ⟨by rw [k1_up rfl], by rw [kJ1_up rfl], by rw [up_s]; rfl, upJ_s, fun p hp => absurd hp (Nat.not_lt_zero p)⟩
  obtain ⟨g1, g2, g3, g4, g5⟩ := id hg
  refine mj_on (s279_15 _ ?_)
  rw [nI_1, nI_clamp (by omega), show (6 : Int32) = nI 6 from rfl]
  refine if_le (by omega) (by omega) (fun c => ?_) (fun c => ⟨vp_in_nI (by omega) (by decide), vp_in_nI (by omega) (by decide), ?_⟩)
  · obtain rfl : i = 6 := by omega
    have hv : ct 6 (vot I1) ≤ 6 := ct_le
    rw [g3]
    refine if_le (b := 0) (by omega) (by decide) (fun d => ⟨Or.inl rfl, _, _, _, rfl, ?_, hg⟩) (fun d => ⟨Or.inr rfl, _, _, _, rfl, ?_, hg⟩)
    · rw [tf_f]
      intro q
      exact absurd d (Nat.not_le.mpr q)
    · rw [tf_t]
      exact d
  rw [k1_at g1 (q := 60) rfl, kJ1_at g2 (q := 61) rfl, g4, g3]
  have eJ : kJ1 (mj_up J 58 5 (cnd J1 i &&& (J1 61 i ^^^ (-1)))) = kJ1 J1 := by rw [kJ1_up rfl]; exact g2
  have eC : mj_up J 58 5 (cnd J1 i &&& (J1 61 i ^^^ (-1))) 58 5 = cnd J1 (i + 1) := upJ_s
  refine if_i (fun d => ih c _ _ ⟨g1, eJ, ?_, eC, fun p hp hv r hr => ?_⟩) (fun d => ?_)
  · rw [g3, ct_f (fun q => q d)]
  · by_cases e : p = i
    · rw [e] at hv; exact absurd d hv
    · exact g5 p (by omega) hv r hr
  · have hk : k1 (mj_up I 58 4 (nI (ct i (vot I1)) + 1)) = k1 I1 := by rw [k1_up rfl]; exact g1
    obtain ⟨I', J', hc, hJ', q1, q2, q3⟩ := c_weighAll (D := D) (J := mj_up J 58 5 (cnd J1 i &&& (J1 61 i ^^^ (-1)))) h c hk
    subst hJ'
    refine ⟨trivial, _, _, hc, ih c _ _ ⟨?_, eJ, ?_, eC, fun p hp hv r hr => ?_⟩⟩
    · rw [← hk]
      funext q j
      unfold k1
      by_cases e : q = 62
      · rw [e]; rfl
      · rw [q1 q e]
    · rw [q1 58 (by decide), up_s, nI_1, ct_t d]
    · by_cases e : p = i
      · rw [e]; exact q3 r hr
      · rw [q2 _ (by omega), up_c (by decide)]; exact g5 p (by omega) hv r hr
theorem c_aheadP (h : Rl b W Rn Kn Tn Hn Un g I1 J1 I2 J2) (hg : gat I1 J1 W Rn 6 I J) {p o u : Nat} (hp : p < 6) (hv : vot I1 p) (ho : o < Rn) (hu : u < Rn) : C1 (D + 1) 284 [.ref 58, .int (nI p), .int (nI o), .int (nI u)] I J (.int (tf (aP I1 W p o u))) I J := by
  obtain ⟨g1, g2, g3, g4, g5⟩ := id hg
  have hR := h.rB.2.2.2.2.2
  obtain ⟨q1, q2⟩ := h.acmp hp hv ho hu
  refine mj_mk (e284 _ _ _ ?_)
  rw [show nI p * (40 : Int32) = nI (40 * p) from (pk_mul p 40).trans (by rw [Nat.mul_comm]), nI_add, nI_add, nI_clamp (by omega), nI_clamp (by omega), g5 p hp hv o ho, g5 p hp hv u hu]
  refine ⟨vp_in_nI (by omega) (by decide), vp_in_nI (by omega) (by decide), if_i (fun c => mzT (Or.inl (q1.mp c))) (fun c => if_i (fun d => if_le (by omega) (by omega) (fun f => mzF ?_) (fun f => mzT (Or.inr ⟨q2.mp d, f⟩))) (fun d => mzF ?_))⟩
  · rintro (z | z)
    · exact c (q1.mpr z)
    · exact absurd z.2 (by omega)
  · rintro (z | z)
    · exact c (q1.mpr z)
    · exact d (q2.mpr z.1)
theorem c_most (h : Rl b W Rn Kn Tn Hn Un g I1 J1 I2 J2) (hg : gat I1 J1 W Rn 6 I J) {o u : Nat} (ho : o < Rn) (hu : u < Rn) : C1 (D + 2) 283 [.ref 58, .int (nI o), .int (nI u)] I J (.int (tf (wn I1 W o u))) I J := by
  obtain ⟨g1, g2, g3, g4, g5⟩ := id hg
  have hR := h.rB.2.2.2.2.2
  have hv : ct 6 (vot I1) ≤ 6 := ct_le
  refine mj_mk (e283 _ _ ?_)
  refine lp_up (n := 6) (fun i => E1 283 (D + 1) (fun q => q = (.int (tf (wn I1 W o u)), (I, J, mj_R1))) 5 [(0, .ref 58), (1, .int (nI o)), (2, .int (nI u)), (3, .int (nI (ct i (fun p => vot I1 p ∧ aP I1 W p o u)))), (4, .int (nI i))] I J) (fun i hi ih => ?_) 0 (Nat.zero_le _)
  have hl : ct i (fun p => vot I1 p ∧ aP I1 W p o u) ≤ i := ct_le
  refine mj_on (s283_5 _ _ _ _ ?_)
  rw [nI_1, nI_1, nI_clamp (by omega), show (6 : Int32) = nI 6 from rfl, show (2 : Int32) = nI 2 from rfl, pk_mul, g3, k1_at g1 (q := 60) rfl]
  refine if_le (by omega) (by omega) (fun c => ?_) (fun c => ⟨vp_in_nI (by omega) (by decide), if_i (fun d => ?_) (fun d => ?_)⟩)
  · obtain rfl : i = 6 := by omega
    refine if_le (by omega) (by omega) (fun d => mzF fun q => ?_) (fun d => mzT d)
    exact absurd d (Nat.not_le.mpr q)
  · have z := ih c
    rw [ct_f (fun q => q.1 d)] at z
    exact z
  · refine ⟨trivial, _, _, _, c_aheadP h hg c d ho hu, if_tf (fun f => ?_) (fun f => ?_)⟩
    · have z := ih c
      rw [ct_t ⟨d, f⟩] at z
      exact z
    · have z := ih c
      rw [ct_f (fun q => f q.2)] at z
      exact z
theorem c_rank (h : Rl b W Rn Kn Tn Hn Un g I1 J1 I2 J2) (hg : gat I1 J1 W Rn 6 I J) {p u : Nat} {C : Int64} (hC : ∀ i, lbit C i → i < Rn) (hp : p < 6) (hv : vot I1 p) (hu : u < Rn) : C1 (D + 2) 286 [.ref 58, .int (nI p), .int (nI u), .long C] I J (.int (nI (rk I1 W Rn C p u))) I J := by
  have hR := h.rB.2.2.2.2.2
  have e40 : rk I1 W Rn C p u = ct 40 (fun o => lbit C o ∧ aP I1 W p o u) := (ct_up (by omega) fun i q1 q2 q3 => by have := hC i q3.1; omega).symm
  rw [e40]
  refine mj_mk (e286 _ _ _ ?_)
  refine lp_up (n := 40) (fun i => E1 286 (D + 1) (fun q => q = (.int (nI (ct 40 (fun o => lbit C o ∧ aP I1 W p o u))), (I, J, mj_R1))) 6 [(0, .ref 58), (1, .int (nI p)), (2, .int (nI u)), (3, .long C), (5, .int (nI (ct i (fun o => lbit C o ∧ aP I1 W p o u)))), (6, .int (nI i))] I J) (fun i hi ih => ?_) 0 (Nat.zero_le _)
  refine mj_on (s286_6 _ _ _ _ _ ?_)
  rw [nI_1, nI_1, show (40 : Int32) = nI 40 from rfl]
  refine if_le (by omega) (by omega) (fun c => ?_) (fun c => ⟨trivial, _, _, _, c_isIn (by omega), if_tf (fun d => ?_) (fun d => ?_)⟩)
  · obtain rfl : i = 40 := by omega
    rfl
  · refine ⟨trivial, _, _, _, c_aheadP h hg hp hv (hC i d) hu, if_tf (fun f => ?_) (fun f => ?_)⟩
    · have z := ih c
      rw [ct_t (n := i) ⟨d, f⟩] at z
      exact z
    · have z := ih c
      rw [ct_f (n := i) (fun q => f q.2)] at z
      exact z
  · have z := ih c
    rw [ct_f (n := i) (fun q => d q.1)] at z
    exact z
-- the reference
theorem r_votes (h : Rl b W Rn Kn Tn Hn Un g I1 J1 I2 J2) {p : Nat} (hp : p < 6) : C2 (D + 1) 123 [.ref 0, .int (nI p)] I2 J2 (.int (tf (vot I1 p))) I2 J2 := by
  obtain ⟨-, q2, -, q4⟩ := h.vw hp
  obtain ⟨x0, a0, e0⟩ := q4 0 (by decide)
  obtain ⟨x1, a1, e1⟩ := q4 1 (by decide)
  obtain ⟨x2, a2, e2⟩ := q4 2 (by decide)
  obtain ⟨x3, a3, e3⟩ := q4 3 (by decide)
  refine mj_mk (e123 _ ?_)
  rw [show (4 : Int32) * nI p = nI (4 * p) from pk_mul 4 p, show (1 : Int32) = nI 1 from rfl, show (2 : Int32) = nI 2 from rfl, show (3 : Int32) = nI 3 from rfl, nI_add, nI_add, nI_add, nI_clamp (by omega), nI_clamp (by omega), nI_clamp (by omega), nI_clamp (by omega), e1, e2, e3]
  rw [show I2 48 (4 * p) = nI x0 from e0, nI_add, nI_add, nI_add]
  refine ⟨vp_in_nI (by omega) (by decide), vp_in_nI (by omega) (by decide), vp_in_nI (by omega) (by decide), vp_in_nI (by omega) (by decide), if_le (b := 0) (by omega) (by decide) (fun c => ?_) (fun c => ?_)⟩
  · refine mzF fun q => ?_
    obtain ⟨w, hw, y⟩ := q2.mp q
    rcases (by omega : w = 0 ∨ w = 1 ∨ w = 2 ∨ w = 3) with rfl | rfl | rfl | rfl
    · rw [e0] at y; exact y (by rw [show x0 = 0 by omega])
    · rw [e1] at y; exact y (by rw [show x1 = 0 by omega])
    · rw [e2] at y; exact y (by rw [show x2 = 0 by omega])
    · rw [e3] at y; exact y (by rw [show x3 = 0 by omega])
  · refine mzT (q2.mpr (Classical.byContradiction fun q => ?_))
    have z : ∀ w, w < 4 → I2 48 (4 * p + w) = nI 0 := fun w hw => Classical.byContradiction fun y => q ⟨w, hw, y⟩
    have z0 := z 0 (by decide)
    have z1 := z 1 (by decide)
    have z2 := z 2 (by decide)
    have z3 := z 3 (by decide)
    rw [e0, nI_eq (by omega) (by decide)] at z0
    rw [e1, nI_eq (by omega) (by decide)] at z1
    rw [e2, nI_eq (by omega) (by decide)] at z2
    rw [e3, nI_eq (by omega) (by decide)] at z3
    omega
theorem r_voters (h : Rl b W Rn Kn Tn Hn Un g I1 J1 I2 J2) : C2 (D + 2) 122 [.ref 0] I2 J2 (.int (nI (vN I1))) I2 J2 := by
  refine mj_mk (e122 ?_)
  refine lp_up (n := 6) (fun i => E2 122 (D + 1) (fun q => q = (.int (nI (vN I1)), (I2, J2, mj_R2))) 4 [(0, .ref 0), (1, .int (nI (ct i (vot I1)))), (2, .int (nI i))] I2 J2) (fun i hi ih => ?_) 0 (Nat.zero_le _)
  refine mj_on (s122_4 _ _ ?_)
  rw [nI_1, nI_1, show (6 : Int32) = nI 6 from rfl, show (0 : Int32) = nI 0 from rfl, nI_add, Nat.add_zero]
  refine if_le (by omega) (by omega) (fun c => ?_) (fun c => ⟨trivial, _, _, _, r_votes h c, if_tf (fun d => ?_) (fun d => ?_)⟩)
  · obtain rfl : i = 6 := by omega
    rfl
  · have z := ih c
    rw [ct_t d] at z
    exact z
  · have z := ih c
    rw [ct_f d] at z
    exact z
theorem r_cand (h : Rl b W Rn Kn Tn Hn Un g I1 J1 I2 J2) : C2 (D + 5) 124 [.ref 0] I2 J2 (.long (cnd J1 6)) I2 J2 := by
  refine mj_mk (e124 ?_)
  refine ⟨trivial, _, _, _, h.rfront, ?_⟩
  refine lp_up (n := 6) (fun i => E2 124 (D + 4) (fun q => q = (.long (cnd J1 6), (I2, J2, mj_R2))) 7 [(0, .ref 0), (1, .long (cnd J1 i)), (3, .int (nI i))] I2 J2) (fun i hi ih => ?_) 0 (Nat.zero_le _)
  refine mj_on (s124_7 _ _ ?_)
  rw [nI_1, nI_clamp (by omega), show (6 : Int32) = nI 6 from rfl]
  refine if_le (by omega) (by omega) (fun c => ?_) (fun c => ⟨vp_in_nI (by omega) (by decide), ?_⟩)
  · obtain rfl : i = 6 := by omega
    rfl
  · rw [(h.2.2.2.2.2.2.2.2.2.1 i c).1]
    exact ih c
theorem r_pw (h : Rl b W Rn Kn Tn Hn Un g I1 J1 I2 J2) {p r : Nat} (hp : p < 6) (hv : vot I1 p) (hr : r < Rn) : C2 (D + 3) 129 [.ref 0, .int (nI p), .int (nI r)] I2 J2 (.int (pwo I1 p r W)) I2 J2 := by
  have hB := h.rB
  obtain ⟨b1, b2, b3, b4, b5, b6⟩ := id hB
  obtain ⟨-, -, q3, -⟩ := h.vw hp
  refine mj_mk (e129 _ _ ?_)
  refine lp_up (n := W) (fun k => E2 129 (D + 2) (fun q => q = (.int (pwo I1 p r W), (I2, J2, mj_R2))) 5 [(0, .ref 0), (1, .int (nI p)), (2, .int (nI r)), (3, .int (pwo I1 p r k)), (4, .int (nI k))] I2 J2) (fun k hk ih => ?_) 0 (Nat.zero_le _)
  refine mj_on (s129_5 _ _ _ _ ?_)
  rw [b1, nI_clamp (by omega), b3, nI_1, show (4 : Int32) * nI p = nI (4 * p) from pk_mul 4 p, nI_add, nI_clamp (by omega)]
  refine ⟨vp_in_nI b2 (by decide), if_le (by omega) (by omega) (fun c => ?_) (fun c => ⟨vp_in_nI (by omega) (by decide), trivial, _, _, _, r_rowLoss hB (by omega) c, ?_⟩)⟩
  · obtain rfl : k = W := by omega
    rfl
  · rw [h.ls hr c, ← q3 hv k (by omega)]
    exact ih c
theorem r_before (h : Rl b W Rn Kn Tn Hn Un g I1 J1 I2 J2) {p o u : Nat} (hp : p < 6) (hv : vot I1 p) (ho : o < Rn) (hu : u < Rn) : C2 (D + 4) 128 [.ref 0, .int (nI p), .int (nI o), .int (nI u)] I2 J2 (.int (tf (aP I1 W p o u))) I2 J2 := by
  have hR := h.rB.2.2.2.2.2
  refine mj_mk (e128 _ _ _ ?_)
  refine ⟨trivial, _, _, _, r_pw h hp hv ho, trivial, _, _, _, r_pw h hp hv hu, if_i (fun c => mzT (Or.inl c)) (fun c => if_i (fun d => if_le (by omega) (by omega) (fun f => mzF ?_) (fun f => mzT (Or.inr ⟨d, f⟩))) (fun d => mzF ?_))⟩
  · rintro (z | z)
    · exact c z
    · exact absurd z.2 (by omega)
  · rintro (z | z)
    · exact c z
    · exact d z.1
theorem r_wins (h : Rl b W Rn Kn Tn Hn Un g I1 J1 I2 J2) {o u : Nat} (ho : o < Rn) (hu : u < Rn) : C2 (D + 5) 130 [.ref 0, .int (nI o), .int (nI u)] I2 J2 (.int (tf (wn I1 W o u))) I2 J2 := by
  have hvN : vN I1 ≤ 6 := ct_le
  refine mj_mk (e130 _ _ ?_)
  refine lp_up (n := 6) (fun i => E2 130 (D + 4) (fun q => q = (.int (tf (wn I1 W o u)), (I2, J2, mj_R2))) 5 [(0, .ref 0), (1, .int (nI o)), (2, .int (nI u)), (3, .int (nI (ct i (fun p => vot I1 p ∧ aP I1 W p o u)))), (4, .int (nI i))] I2 J2) (fun i hi ih => ?_) 0 (Nat.zero_le _)
  have hl : ct i (fun p => vot I1 p ∧ aP I1 W p o u) ≤ i := ct_le
  refine mj_on (s130_5 _ _ _ _ ?_)
  rw [nI_1, nI_1, show (6 : Int32) = nI 6 from rfl, show (2 : Int32) = nI 2 from rfl, pk_mul, show (0 : Int32) = nI 0 from rfl, nI_add, Nat.add_zero]
  refine if_le (by omega) (by omega) (fun c => ?_) (fun c => ⟨trivial, _, _, _, r_votes h c, if_tf (fun d => ?_) (fun d => ?_)⟩)
  · obtain rfl : i = 6 := by omega
    refine ⟨trivial, _, _, _, r_voters h, if_le (by omega) (by omega) (fun d => mzF fun q => ?_) (fun d => mzT d)⟩
    exact absurd d (Nat.not_le.mpr q)
  · refine ⟨trivial, _, _, _, r_before h c d ho hu, if_tf (fun f => ?_) (fun f => ?_)⟩
    · have z := ih c
      rw [ct_t ⟨d, f⟩] at z
      exact z
    · have z := ih c
      rw [ct_f (fun q => f q.2)] at z
      exact z
  · have z := ih c
    rw [ct_f (fun q => d q.1)] at z
    exact z
theorem r_place (h : Rl b W Rn Kn Tn Hn Un g I1 J1 I2 J2) {p u : Nat} {C : Int64} (hp : p < 6) (hv : vot I1 p) (hu : u < Rn) : C2 (D + 5) 127 [.ref 0, .int (nI p), .int (nI u), .long C] I2 J2 (.int (nI (rk I1 W Rn C p u))) I2 J2 := by
  obtain ⟨b1, b2, b3, b4, b5, b6⟩ := h.rB
  refine mj_mk (e127 _ _ _ ?_)
  refine lp_up (n := Rn) (fun i => E2 127 (D + 4) (fun q => q = (.int (nI (rk I1 W Rn C p u)), (I2, J2, mj_R2))) 6 [(0, .ref 0), (1, .int (nI p)), (2, .int (nI u)), (3, .long C), (5, .int (nI (ct i (fun o => lbit C o ∧ aP I1 W p o u)))), (6, .int (nI i))] I2 J2) (fun i hi ih => ?_) 0 (Nat.zero_le _)
  refine mj_on (s127_6 _ _ _ _ _ ?_)
  rw [b1, nI_clamp (by omega), b5, nI_1, nI_1, show (0 : Int32) = nI 0 from rfl, nI_add, Nat.add_zero]
  refine ⟨vp_in_nI b2 (by decide), if_le (by omega) (by omega) (fun c => ?_) (fun c => if_i (fun d => ?_) (fun d => ?_))⟩
  · obtain rfl : i = Rn := by omega
    rfl
  · have d := (sb_1 (by omega)).mp d
    refine ⟨trivial, _, _, _, r_before h hp hv c hu, if_tf (fun f => ?_) (fun f => ?_)⟩
    · have z := ih c
      rw [ct_t ⟨d, f⟩] at z
      exact z
    · have z := ih c
      rw [ct_f (fun q => f q.2)] at z
      exact z
  · have z := ih c
    rw [ct_f (fun q => d ((sb_1 (by omega)).mpr q.1))] at z
    exact z
end S67
end
section
/-! choose, breaks, place -/
noncomputable def rz (I : Nat → Nat → Int32) (W Rn : Nat) (C : Int64) (p u : Nat) : Nat := @ite _ (vot I p) (Classical.propDecidable _) (rk I W Rn C p u) 0
noncomputable def smN (f : Nat → Nat) : Nat → Nat
  | 0 => 0
  | n + 1 => smN f n + f n
noncomputable def mxN (f : Nat → Nat) : Nat → Nat
  | 0 => 0
  | n + 1 => max (mxN f n) (f n)
theorem rz_t {I : Nat → Nat → Int32} {W Rn p u : Nat} {C : Int64} (h : vot I p) : rz I W Rn C p u = rk I W Rn C p u := @if_pos _ (Classical.propDecidable _) h _ _ _
theorem rz_f {I : Nat → Nat → Int32} {W Rn p u : Nat} {C : Int64} (h : ¬ vot I p) : rz I W Rn C p u = 0 := @if_neg _ (Classical.propDecidable _) h _ _ _
theorem smN_le {f : Nat → Nat} {B : Nat} (h : ∀ i, f i ≤ B) : ∀ n, smN f n ≤ B * n
  | 0 => Nat.le_refl _
  | n + 1 => by
    have := smN_le h n
    have := h n
    show smN f n + f n ≤ B * (n + 1)
    rw [Nat.mul_add]
    omega
theorem mxN_le {f : Nat → Nat} {B : Nat} (h : ∀ i, f i ≤ B) : ∀ n, mxN f n ≤ B
  | 0 => Nat.zero_le _
  | n + 1 => Nat.max_le.mpr ⟨mxN_le h n, h n⟩
/-- firsts, by law 0 -/
def fiP (I : Nat → Nat → Int32) (W Rn : Nat) (C : Int64) (u p : Nat) : Prop := vot I p ∧ rk I W Rn C p u = 0
noncomputable def blN (I : Nat → Nat → Int32) (W Rn : Nat) (C : Int64) (k u n : Nat) : Int32 :=
  if k = 0 then -(nI (ct n (fiP I W Rn C u))) else if k = 1 then nI (smN (fun p => rz I W Rn C p u) n) else nI (mxN (fun p => rz I W Rn C p u) n)
theorem nI_nm1 {n : Nat} (h : n < 2 ^ 31) : nI n ≠ -1 := fun e => by
  have := congrArg Int32.toInt e
  rw [nI_toInt h, show ((-1 : Int32)).toInt = -1 from rfl] at this
  omega
theorem ng_s {a : Nat} : -(nI a) - 1 = -(nI (a + 1)) ∧ -(nI a) - 0 = -(nI a) := by
  constructor
  · rw [← iI_nI, ← iI_nI, iI_neg, iI_neg, show (1 : Int32) = iI 1 from rfl, iI_sub]
    congr 1
    omega
  · rw [← iI_nI, iI_neg, show (0 : Int32) = iI 0 from rfl, iI_sub]
    congr 1
    omega
/-- the first of the least -/
noncomputable def pkN (v : Nat → Int32) (C : Int64) : Nat → Nat → Int32 → Int32 → Int32
  | 0, _, x, _ => x
  | m + 1, i, x, y => @ite _ (lbit C i ∧ (x = -1 ∨ v i < y)) (Classical.propDecidable _) (pkN v C m (i + 1) (nI i) (v i)) (pkN v C m (i + 1) x y)
section PK
variable {v : Nat → Int32} {C : Int64} {n i : Nat} {x y : Int32}
theorem pkN_t (hi : i < n) (h : lbit C i ∧ (x = -1 ∨ v i < y)) : pkN v C (n - i) i x y = pkN v C (n - (i + 1)) (i + 1) (nI i) (v i) := by
  rw [show n - i = n - (i + 1) + 1 by omega]
  exact @if_pos _ (Classical.propDecidable _) h _ _ _
theorem pkN_f (hi : i < n) (h : ¬ (lbit C i ∧ (x = -1 ∨ v i < y))) : pkN v C (n - i) i x y = pkN v C (n - (i + 1)) (i + 1) x y := by
  rw [show n - i = n - (i + 1) + 1 by omega]
  exact @if_neg _ (Classical.propDecidable _) h _ _ _
theorem pkN_e (hi : n ≤ i) : pkN v C (n - i) i x y = x := by
  rw [show n - i = 0 by omega]
  rfl
theorem pkN_no : ∀ {m i : Nat}, (∀ j, i ≤ j → ¬ lbit C j) → pkN v C m i x y = x
  | 0, _, _ => rfl
  | m + 1, i, h => by
    have e : pkN v C (m + 1) i x y = pkN v C m (i + 1) x y := @if_neg _ (Classical.propDecidable _) (fun q => h i (Nat.le_refl _) q.1) _ _ _
    rw [e]
    exact pkN_no fun j hj => h j (by omega)
theorem pkN_in : ∀ {m i : Nat} {x y : Int32}, pkN v C m i x y = x ∨ ∃ j, lbit C j ∧ pkN v C m i x y = nI j
  | 0, _, _, _ => Or.inl rfl
  | m + 1, i, x, y => by
    rcases Classical.em (lbit C i ∧ (x = -1 ∨ v i < y)) with q | q
    · have e : pkN v C (m + 1) i x y = pkN v C m (i + 1) (nI i) (v i) := @if_pos _ (Classical.propDecidable _) q _ _ _
      rw [e]
      rcases pkN_in (m := m) (i := i + 1) (x := nI i) (y := v i) with z | z
      · exact Or.inr ⟨i, q.1, z⟩
      · exact Or.inr z
    · have e : pkN v C (m + 1) i x y = pkN v C m (i + 1) x y := @if_neg _ (Classical.propDecidable _) q _ _ _
      rw [e]
      exact pkN_in
end PK
theorem fs_in {P : Nat → Prop} : ∀ {k i : Nat}, fs P k i = -1 ∨ ∃ j, P j ∧ fs P k i = nI j
  | 0, _ => Or.inl rfl
  | k + 1, i => by
    rcases Classical.em (P i) with q | q
    · exact Or.inr ⟨i, q, @if_pos _ (Classical.propDecidable _) q _ _ _⟩
    · have e : fs P (k + 1) i = fs P k (i + 1) := @if_neg _ (Classical.propDecidable _) q _ _ _
      rw [e]
      exact fs_in
def w3P (I : Nat → Nat → Int32) (W Rn : Nat) (C : Int64) (o : Nat) : Prop := lbit C o ∧ ∀ u, u < Rn → u ≠ o → lbit C u → wn I W o u
noncomputable def pkC (I : Nat → Nat → Int32) (W Rn : Nat) (C : Int64) (k : Nat) : Int32 := if k = 3 then fs (w3P I W Rn C) (40 - 0) 0 else pkN (fun u => blN I W Rn C k u 6) C (40 - 0) 0 (-1) 0
theorem pkC_in {I : Nat → Nat → Int32} {W Rn k : Nat} {C : Int64} : pkC I W Rn C k = -1 ∨ ∃ j, lbit C j ∧ pkC I W Rn C k = nI j := by
  unfold pkC
  by_cases e : k = 3
  · rw [if_pos e]
    rcases fs_in (P := w3P I W Rn C) (k := 40 - 0) (i := 0) with q | ⟨j, q1, q2⟩
    · exact Or.inl q
    · exact Or.inr ⟨j, q1.1, q2⟩
  · rw [if_neg e]
    exact pkN_in
section S68
variable {D b W Rn Kn Tn Hn Un g : Nat} {I I1 I2 : Nat → Nat → Int32} {J J1 J2 : Nat → Nat → Int64}
theorem rz_le {C : Int64} {u : Nat} (hR : Rn ≤ 40) (p : Nat) : rz I W Rn C p u ≤ 40 := by
  rcases Classical.em (vot I p) with q | q
  · rw [rz_t q]
    exact Nat.le_trans ct_le hR
  · rw [rz_f q]
    exact Nat.zero_le _
theorem c_blame {k u : Nat} {C : Int64} (h : Rl b W Rn Kn Tn Hn Un g I1 J1 I2 J2) (hg : gat I1 J1 W Rn 6 I J) (hC : ∀ i, lbit C i → i < Rn) (hk : k < 3) (hu : u < Rn) : C1 (D + 3) 285 [.ref 58, .int (nI k), .int (nI u), .long C] I J (.int (blN I1 W Rn C k u 6)) I J := by
  obtain ⟨g1, g2, g3, g4, g5⟩ := id hg
  have hR := h.rB.2.2.2.2.2
  obtain ⟨v, hv⟩ : ∃ v, v = blN I1 W Rn C k u 6 := ⟨_, rfl⟩
  rw [← hv]
  refine mj_mk (e285 _ _ _ ?_)
  have z0 : blN I1 W Rn C k u 0 = 0 := by
    unfold blN
    rcases (by omega : k = 0 ∨ k = 1 ∨ k = 2) with rfl | rfl | rfl
    · exact (by decide : -(nI 0) = 0)
    · rfl
    · rfl
  have key := lp_up (n := 6) (fun i => E1 285 (D + 2) (fun q => q = (.int v, (I, J, mj_R1))) 6 [(0, .ref 58), (1, .int (nI k)), (2, .int (nI u)), (3, .long C), (5, .int (blN I1 W Rn C k u i)), (6, .int (nI i))] I J) (fun i hi ih => ?_) 0 (Nat.zero_le _)
  · rw [z0] at key
    exact key
  refine mj_on (s285_6 _ _ _ _ _ ?_)
  rw [nI_1, nI_clamp (by omega), show (6 : Int32) = nI 6 from rfl, k1_at g1 (q := 60) rfl]
  refine if_le (by omega) (by omega) (fun c => ?_) (fun c => ⟨vp_in_nI (by omega) (by decide), if_i (fun d => ?_) (fun d => ⟨trivial, _, _, _, c_rank h hg hC c d hu, ?_⟩)⟩)
  · obtain rfl : i = 6 := by omega
    rw [hv]
  · have e : blN I1 W Rn C k u (i + 1) = blN I1 W Rn C k u i := by
      have nv : ¬ vot I1 i := fun q => q d
      unfold blN
      rw [ct_f (n := i) (fun q : fiP I1 W Rn C u i => nv q.1)]
      show (if k = 0 then _ else if k = 1 then nI (smN (fun p => rz I1 W Rn C p u) i + rz I1 W Rn C i u) else nI (max (mxN (fun p => rz I1 W Rn C p u) i) (rz I1 W Rn C i u))) = _
      rw [rz_f nv, Nat.add_zero, Nat.max_zero]
    have z := ih c
    rw [e] at z
    exact z
  have hv' : vot I1 i := d
  have hrk : rk I1 W Rn C i u ≤ 40 := Nat.le_trans ct_le hR
  have z := ih c
  rcases (by omega : k = 0 ∨ k = 1 ∨ k = 2) with rfl | rfl | rfl
  · have e0 : ∀ n, blN I1 W Rn C 0 u n = -(nI (ct n (fiP I1 W Rn C u))) := fun n => rfl
    rw [e0] at z
    rw [e0, if_pos (show nI 0 = 0 from rfl), ng_s.1, ng_s.2]
    refine if_eq (b := 0) (by omega) (by decide) (fun f => ?_) (fun f => ?_)
    · rw [ct_t (n := i) (p := fiP I1 W Rn C u) ⟨hv', f⟩] at z
      exact z
    · rw [ct_f (n := i) (p := fiP I1 W Rn C u) (fun q => f q.2)] at z
      exact z
  · have e1 : ∀ n, blN I1 W Rn C 1 u n = nI (smN (fun p => rz I1 W Rn C p u) n) := fun n => rfl
    rw [e1, if_neg (show ¬ nI 1 = 0 by decide), if_pos (show nI 1 = 1 from rfl), nI_add]
    rw [e1, show smN (fun p => rz I1 W Rn C p u) (i + 1) = smN (fun p => rz I1 W Rn C p u) i + rz I1 W Rn C i u from rfl, rz_t hv'] at z
    exact z
  · have e2 : ∀ n, blN I1 W Rn C 2 u n = nI (mxN (fun p => rz I1 W Rn C p u) n) := fun n => rfl
    have hm : mxN (fun p => rz I1 W Rn C p u) i ≤ 40 := mxN_le (rz_le hR) i
    rw [e2, if_neg (show ¬ nI 2 = 0 by decide), if_neg (show ¬ nI 2 = 1 by decide)]
    rw [e2, show mxN (fun p => rz I1 W Rn C p u) (i + 1) = max (mxN (fun p => rz I1 W Rn C p u) i) (rz I1 W Rn C i u) from rfl, rz_t hv'] at z
    refine ⟨trivial, _, _, _, c_max, ?_⟩
    rw [(i32_max (by omega) (by omega)).1]
    exact z
theorem blN_no {C : Int64} {k u : Nat} (hR : Rn ≤ 40) : blN I1 W Rn C k u 6 ≠ -2000000000 := by
  have h0 : ct 6 (fiP I1 W Rn C u) ≤ 6 := ct_le
  have h1 : smN (fun p => rz I1 W Rn C p u) 6 ≤ 40 * 6 := smN_le (rz_le hR) 6
  have h2 : mxN (fun p => rz I1 W Rn C p u) 6 ≤ 40 := mxN_le (rz_le hR) 6
  have no : ∀ n, n ≤ 240 → nI n ≠ -2000000000 := fun n hn e => by
    have := congrArg Int32.toInt e
    rw [nI_toInt (by omega), show ((-2000000000 : Int32)).toInt = -2000000000 from rfl] at this
    omega
  unfold blN
  by_cases e : k = 0
  · rw [if_pos e, ← iI_nI, iI_neg]
    intro q
    have := congrArg Int32.toInt q
    rw [iI_toInt (by omega) (by omega), show ((-2000000000 : Int32)).toInt = -2000000000 from rfl] at this
    omega
  · rw [if_neg e]
    by_cases f : k = 1
    · rw [if_pos f]; exact no _ (by omega)
    · rw [if_neg f]; exact no _ (by omega)
theorem c_pick3 {C : Int64} (h : Rl b W Rn Kn Tn Hn Un g I1 J1 I2 J2) (hg : gat I1 J1 W Rn 6 I J) (hC : ∀ i, lbit C i → i < Rn) : C1 (D + 3) 282 [.ref 58, .long C] I J (.int (pkC I1 W Rn C 3)) I J := by
  have hR := h.rB.2.2.2.2.2
  obtain ⟨v, hv⟩ : ∃ v, v = fs (w3P I1 W Rn C) (40 - 0) 0 := ⟨_, rfl⟩
  rw [show pkC I1 W Rn C 3 = v from hv.symm]
  refine mj_mk (e282 _ ?_)
  refine lp_up (n := 40) (fun o => fs (w3P I1 W Rn C) (40 - o) o = v → E1 282 (D + 2) (fun q => q = (.int v, (I, J, mj_R1))) 2 [(0, .ref 58), (1, .long C), (3, .int (nI o))] I J) (fun o ho ih he => ?_) 0 (Nat.zero_le _) hv.symm
  refine mj_on (s282_2 _ _ ?_)
  rw [show (40 : Int32) = nI 40 from rfl]
  refine if_le (by omega) (by omega) (fun c => ?_) (fun c => ⟨trivial, _, _, _, c_isIn (by omega), ?_⟩)
  · rw [← he, fs_e c]
  have last : ∀ B : Prop, (B ↔ w3P I1 W Rn C o) → E1 282 (D + 2) (fun q => q = (.int v, (I, J, mj_R1))) 68 [(0, .ref 58), (1, .long C), (3, .int (nI o)), (4, .int (tf B))] I J := fun B hB => by
    refine mj_on (s282_68 _ _ _ ?_)
    rw [nI_1]
    refine if_tf (fun q => ?_) (fun q => ih c ?_)
    · rw [← he, fs_t c (hB.mp q)]
    · rw [← he, fs_f c (fun z => q (hB.mpr z))]
  refine lp_up (n := 40) (fun u => ∀ B : Prop, (B ↔ lbit C o ∧ ∀ u', u' < u → u' ≠ o → lbit C u' → wn I1 W o u') → E1 282 (D + 2) (fun q => q = (.int v, (I, J, mj_R1))) 18 [(0, .ref 58), (1, .long C), (3, .int (nI o)), (4, .int (tf B)), (5, .int (nI u))] I J) (fun u hu ih2 B hB => ?_) 0 (Nat.zero_le _) (lbit C o) ⟨fun q => ⟨q, fun u' q' => absurd q' (Nat.not_lt_zero u')⟩, fun q => q.1⟩
  refine mj_on (s282_18 _ _ _ _ ?_)
  rw [show (40 : Int32) = nI 40 from rfl, nI_1]
  have nx : u < 40 → (lbit C o ∧ (∀ u', u' < u → u' ≠ o → lbit C u' → wn I1 W o u')) → (u ≠ o → lbit C u → wn I1 W o u) → E1 282 (D + 2) (fun q => q = (.int v, (I, J, mj_R1))) 18 [(0, .ref 58), (1, .long C), (3, .int (nI o)), (4, .int 1), (5, .int (nI (u + 1)))] I J := fun y q1 q2 => by
    have z := ih2 y True ⟨fun _ => ⟨q1.1, fun u' h1 h2 h3 => ?_⟩, fun _ => trivial⟩
    · rw [tf_t trivial] at z
      exact z
    · by_cases e : u' = u
      · subst e; exact q2 h2 h3
      · exact q1.2 u' (by omega) h2 h3
  refine if_le (by omega) (by omega) (fun d => last B ?_) (fun d => if_tf (fun f => ?_) (fun f => last B ?_))
  · rw [hB]
    exact ⟨fun q => ⟨q.1, fun u' h1 h2 h3 => q.2 u' (by omega) h2 h3⟩, fun q => ⟨q.1, fun u' h1 h2 h3 => q.2 u' (hC u' h3) h2 h3⟩⟩
  · have f' := hB.mp f
    refine if_eq (by omega) (by omega) (fun e => nx d f' fun q => absurd e q) (fun e => ⟨trivial, _, _, _, c_isIn (by omega), if_tf (fun y => ?_) (fun y => nx d f' fun _ q => absurd q y)⟩)
    refine ⟨trivial, _, _, _, c_most h hg (hC o f'.1) (hC u y), if_tf (fun z => nx d f' fun _ _ => z) (fun z => ?_)⟩
    have w := ih2 d False ⟨fun q => q.elim, fun q => z (q.2 u (by omega) e y)⟩
    rw [tf_f id] at w
    exact w
  · refine ⟨fun q => absurd q f, fun q => absurd (hB.mpr ⟨q.1, fun u' h1 h2 h3 => q.2 u' (hC u' h3) h2 h3⟩) f⟩
theorem c_pick {k : Nat} {C : Int64} (h : Rl b W Rn Kn Tn Hn Un g I1 J1 I2 J2) (hg : gat I1 J1 W Rn 6 I J) (hC : ∀ i, lbit C i → i < Rn) (hk : k ≤ 3) : C1 (D + 4) 281 [.ref 58, .int (nI k), .long C] I J (.int (pkC I1 W Rn C k)) I J := by
  have hR := h.rB.2.2.2.2.2
  refine mj_mk (e281 _ _ ?_)
  rw [show (3 : Int32) = nI 3 from rfl]
  refine if_eq (by omega) (by omega) (fun e => ?_) (fun e => ?_)
  · subst e
    exact ⟨trivial, _, _, _, c_pick3 h hg hC, rfl⟩
  rw [if_neg (nI_pos (by omega))]
  refine if_le (by omega) (by omega) (fun _ => ?_) (fun q => absurd q (by omega))
  obtain ⟨v, hv⟩ : ∃ v, v = pkC I1 W Rn C k := ⟨_, rfl⟩
  rw [← hv]
  obtain ⟨vf, hvf⟩ : ∃ vf : Nat → Int32, vf = fun u => blN I1 W Rn C k u 6 := ⟨_, rfl⟩
  have hv2 : pkN vf C (40 - 0) 0 (-1) 0 = v := by
    rw [hv, hvf]
    unfold pkC
    rw [if_neg e]
  have cb : ∀ i, i < Rn → C1 (D + 3) 285 [.ref 58, .int (nI k), .int (nI i), .long C] I J (.int (vf i)) I J := fun i q => by
    rw [hvf]
    exact c_blame h hg hC (by omega) q
  clear hvf hv
  refine lp_up (n := 40) (fun i => ∀ x y, pkN vf C (40 - i) i x y = v → E1 281 (D + 3) (fun q => q = (.int v, (I, J, mj_R1))) 31 [(0, .ref 58), (1, .int (nI k)), (2, .long C), (4, .int x), (5, .int y), (6, .int (nI i))] I J) (fun i hi ih x y he => ?_) 0 (Nat.zero_le _) (-1) 0 hv2
  refine mj_on (s281_31 _ _ _ _ _ ?_)
  rw [show (40 : Int32) = nI 40 from rfl, nI_1]
  have no : i < 40 → ¬ (lbit C i ∧ (x = -1 ∨ vf i < y)) → E1 281 (D + 3) (fun q => q = (.int v, (I, J, mj_R1))) 31 [(0, .ref 58), (1, .int (nI k)), (2, .long C), (4, .int x), (5, .int y), (6, .int (nI (i + 1)))] I J := fun c q => ih c x y (by rw [← he, pkN_f c q])
  have yes : i < 40 → (lbit C i ∧ (x = -1 ∨ vf i < y)) → E1 281 (D + 3) (fun q => q = (.int v, (I, J, mj_R1))) 70 [(0, .ref 58), (1, .int (nI k)), (2, .long C), (6, .int (nI i)), (7, .int (vf i))] I J := fun c q => by
    refine mj_on (s281_70 _ _ _ _ ?_)
    rw [nI_1]
    exact ih c _ _ (by rw [← he, pkN_t c q])
  refine if_le (by omega) (by omega) (fun c => ?_) (fun c => ⟨trivial, _, _, _, c_isIn (by omega), if_tf (fun d => ?_) (fun d => no c fun q => d q.1)⟩)
  · rw [← he, pkN_e c]
  · refine ⟨trivial, _, _, _, cb i (hC i d), if_i (fun f => yes c ⟨d, Or.inl f⟩) (fun f => if_i (fun w => no c fun q => ?_) (fun w => yes c ⟨d, Or.inr (Int32.not_le.mp w)⟩))⟩
    rcases q.2 with z | z
    · exact f z
    · exact absurd w (Int32.not_le.mpr z)
theorem c_pickBad {x : Int32} {C : Int64} (hx : ¬ ∃ k, k ≤ 3 ∧ x = nI k) : C1 (D + 4) 281 [.ref 58, .int x, .long C] I J (.int (-1)) I J := by
  refine mj_mk (e281 _ _ ?_)
  refine if_i (fun e => absurd ⟨3, by decide, e⟩ hx) (fun _ => if_i (fun _ => rfl) (fun c => if_i (fun d => ?_) (fun _ => rfl)))
  obtain ⟨k, hk, e⟩ := nI_of2 (n := 3) (by decide) c d
  exact absurd ⟨k, hk, e⟩ hx
-- the reference
theorem r_against {k u : Nat} {C : Int64} (h : Rl b W Rn Kn Tn Hn Un g I1 J1 I2 J2) (hk : k < 3) (hu : u < Rn) : C2 (D + 6) 126 [.ref 0, .int (nI k), .int (nI u), .long C] I2 J2 (.int (blN I1 W Rn C k u 6)) I2 J2 := by
  have hR := h.rB.2.2.2.2.2
  obtain ⟨v, hv⟩ : ∃ v, v = blN I1 W Rn C k u 6 := ⟨_, rfl⟩
  rw [← hv]
  obtain ⟨f, hf⟩ : ∃ f : Nat → Nat, f = fun p => rz I1 W Rn C p u := ⟨_, rfl⟩
  refine mj_mk (e126 _ _ _ ?_)
  refine lp_up (n := 6) (fun i => E2 126 (D + 5) (fun q => q = (.int v, (I2, J2, mj_R2))) 12 [(0, .ref 0), (1, .int (nI k)), (2, .int (nI u)), (3, .long C), (5, .int (nI (ct i (fiP I1 W Rn C u)))), (6, .int (nI (smN f i))), (7, .int (nI (mxN f i))), (8, .int (nI i))] I2 J2) (fun i hi ih => ?_) 0 (Nat.zero_le _)
  have nx : i < 6 → E2 126 (D + 5) (fun q => q = (.int v, (I2, J2, mj_R2))) 79 [(0, .ref 0), (1, .int (nI k)), (2, .int (nI u)), (3, .long C), (5, .int (nI (ct (i + 1) (fiP I1 W Rn C u)))), (6, .int (nI (smN f (i + 1)))), (7, .int (nI (mxN f (i + 1)))), (8, .int (nI i))] I2 J2 := fun c => by
    refine mj_on (s126_79 _ _ _ _ _ _ _ ?_)
    rw [nI_1]
    exact ih c
  have hm : mxN f i ≤ 40 := by rw [hf]; exact mxN_le (rz_le hR) i
  refine mj_on (s126_12 _ _ _ _ _ _ _ ?_)
  rw [show (6 : Int32) = nI 6 from rfl, show (3 : Int32) = nI 3 from rfl, nI_1, show (0 : Int32) = nI 0 from rfl, nI_add, Nat.add_zero]
  refine if_le (by omega) (by omega) (fun c => if_le (by omega) (by omega) (fun d => absurd d (by omega)) (fun _ => ?_)) (fun c => ⟨trivial, _, _, _, r_votes h c, if_tf (fun d => ?_) (fun d => ?_)⟩)
  · obtain rfl : i = 6 := by omega
    rw [hv, hf]
    rcases (by omega : k = 0 ∨ k = 1 ∨ k = 2) with rfl | rfl | rfl
    · rw [if_pos rfl]; rfl
    · rw [if_neg (by decide), if_pos (show nI 1 = 1 from rfl)]; rfl
    · rw [if_neg (by decide), if_neg (by decide)]; rfl
  · have hrk : rk I1 W Rn C i u ≤ 40 := Nat.le_trans ct_le hR
    have fi : f i = rk I1 W Rn C i u := by rw [hf]; exact rz_t d
    have mid : E2 126 (D + 5) (fun q => q = (.int v, (I2, J2, mj_R2))) 56 [(0, .ref 0), (1, .int (nI k)), (2, .int (nI u)), (3, .long C), (5, .int (nI (ct (i + 1) (fiP I1 W Rn C u)))), (6, .int (nI (smN f i))), (7, .int (nI (mxN f i))), (8, .int (nI i)), (9, .int (nI (rk I1 W Rn C i u)))] I2 J2 := by
      refine mj_on (s126_56 _ _ _ _ _ _ _ _ ?_)
      have z := nx c
      rw [show smN f (i + 1) = smN f i + f i from rfl, show mxN f (i + 1) = max (mxN f i) (f i) from rfl, fi] at z
      rw [nI_add]
      refine if_le (by omega) (by omega) (fun y => ?_) (fun y => ?_)
      · rw [Nat.max_eq_left y] at z; exact z
      · rw [Nat.max_eq_right (by omega)] at z; exact z
    refine ⟨trivial, _, _, _, r_place h c d hu, if_eq (b := 0) (by omega) (by decide) (fun y => ?_) (fun y => ?_)⟩
    · rw [ct_t (n := i) (p := fiP I1 W Rn C u) ⟨d, y⟩] at mid
      exact mid
    · rw [ct_f (n := i) (p := fiP I1 W Rn C u) (fun q => y q.2)] at mid
      exact mid
  · have z := nx c
    have fi : f i = 0 := by rw [hf]; exact rz_f d
    rw [show smN f (i + 1) = smN f i + f i from rfl, show mxN f (i + 1) = max (mxN f i) (f i) from rfl, fi, Nat.add_zero, Nat.max_zero, ct_f (n := i) (p := fiP I1 W Rn C u) (fun q => d q.1)] at z
    exact z
theorem r_against3 {u : Nat} {C : Int64} (h : Rl b W Rn Kn Tn Hn Un g I1 J1 I2 J2) (hu : u < Rn) (hb : lbit C u) : ∃ r : Int32, C2 (D + 6) 126 [.ref 0, .int (nI 3), .int (nI u), .long C] I2 J2 (.int r) I2 J2 ∧ (w3P I1 W Rn C u → r = 0) ∧ (¬ w3P I1 W Rn C u → r = -2000000000) := by
  obtain ⟨b1, b2, b3, b4, b5, b6⟩ := h.rB
  obtain ⟨r, hr⟩ : ∃ r : Int32, (w3P I1 W Rn C u → r = 0) ∧ (¬ w3P I1 W Rn C u → r = -2000000000) := by
    rcases Classical.em (w3P I1 W Rn C u) with q | q
    · exact ⟨0, fun _ => rfl, fun z => absurd q z⟩
    · exact ⟨-2000000000, fun z => absurd z q, fun _ => rfl⟩
  refine ⟨r, ?_, hr⟩
  refine mj_mk (e126 _ _ _ ?_)
  refine lp_up (n := 6) (fun i => ∀ x y z, E2 126 (D + 5) (fun q => q = (.int r, (I2, J2, mj_R2))) 12 [(0, .ref 0), (1, .int (nI 3)), (2, .int (nI u)), (3, .long C), (5, .int x), (6, .int y), (7, .int z), (8, .int (nI i))] I2 J2) (fun i hi ih x y z => ?_) 0 (Nat.zero_le _) _ _ _
  have nx : i < 6 → ∀ x y z, E2 126 (D + 5) (fun q => q = (.int r, (I2, J2, mj_R2))) 79 [(0, .ref 0), (1, .int (nI 3)), (2, .int (nI u)), (3, .long C), (5, .int x), (6, .int y), (7, .int z), (8, .int (nI i))] I2 J2 := fun c x y z => by
    refine mj_on (s126_79 _ _ _ _ _ _ _ ?_)
    rw [nI_1]
    exact ih c _ _ _
  have mid : i < 6 → ∀ x y z t, E2 126 (D + 5) (fun q => q = (.int r, (I2, J2, mj_R2))) 56 [(0, .ref 0), (1, .int (nI 3)), (2, .int (nI u)), (3, .long C), (5, .int x), (6, .int y), (7, .int z), (8, .int (nI i)), (9, .int t)] I2 J2 := fun c x y z t => by
    refine mj_on (s126_56 _ _ _ _ _ _ _ _ ?_)
    exact if_i (fun _ => nx c _ _ _) (fun _ => nx c _ _ _)
  refine mj_on (s126_12 _ _ _ _ _ _ _ ?_)
  rw [show (6 : Int32) = nI 6 from rfl]
  refine if_le (by omega) (by omega) (fun c => ?_) (fun c => ⟨trivial, _, _, _, r_votes h c, if_tf (fun d => ⟨trivial, _, _, _, r_place h c d hu, if_i (fun _ => mid c _ _ _ _) (fun _ => mid c _ _ _ _)⟩) (fun d => nx c _ _ _)⟩)
  rw [if_pos (by decide)]
  refine lp_up (n := Rn) (fun j => (∀ o, o < j → o ≠ u → lbit C o → wn I1 W u o) → E2 126 (D + 5) (fun q => q = (.int r, (I2, J2, mj_R2))) 116 [(0, .ref 0), (2, .int (nI u)), (3, .long C), (8, .int (nI j))] I2 J2) (fun j hj ih2 hp => ?_) 0 (Nat.zero_le _) (fun o ho => absurd ho (Nat.not_lt_zero o))
  refine mj_on (s126_116 _ _ _ ?_)
  rw [b1, nI_clamp (by omega), b5, nI_1]
  have nx2 : j < Rn → (j ≠ u → lbit C j → wn I1 W u j) → E2 126 (D + 5) (fun q => q = (.int r, (I2, J2, mj_R2))) 116 [(0, .ref 0), (2, .int (nI u)), (3, .long C), (8, .int (nI (j + 1)))] I2 J2 := fun c q => ih2 c fun o ho h1 h2 => by
    by_cases e : o = j
    · subst e; exact q h1 h2
    · exact hp o (by omega) h1 h2
  refine ⟨vp_in_nI b2 (by decide), if_le (by omega) (by omega) (fun d => ?_) (fun d => if_eq (by omega) (by omega) (fun e => nx2 d fun q => absurd e q) (fun e => if_i (fun f => ?_) (fun f => nx2 d fun _ q => absurd ((sb_1 (by omega)).mpr q) f)))⟩
  · rw [hr.1 ⟨hb, fun o h1 h2 h3 => hp o (by omega) h2 h3⟩]
  · have f := (sb_1 (by omega)).mp f
    refine ⟨trivial, _, _, _, r_wins h hu d, if_tf (fun w => nx2 d fun _ _ => w) (fun w => ?_)⟩
    rw [hr.2 (fun q => w (q.2 j d e f))]
theorem r_chosen {k : Nat} {C : Int64} (h : Rl b W Rn Kn Tn Hn Un g I1 J1 I2 J2) (hC : ∀ i, lbit C i → i < Rn) (hk : k ≤ 3) : C2 (D + 7) 125 [.ref 0, .int (nI k), .long C] I2 J2 (.int (pkC I1 W Rn C k)) I2 J2 := by
  obtain ⟨b1, b2, b3, b4, b5, b6⟩ := h.rB
  refine mj_mk (e125 _ _ ?_)
  obtain ⟨v, hv⟩ : ∃ v, v = pkC I1 W Rn C k := ⟨_, rfl⟩
  rw [← hv]
  by_cases e : k = 3
  · subst e
    have hv2 : fs (w3P I1 W Rn C) (40 - 0) 0 = v := hv.symm
    refine lp_up (n := Rn) (fun i => ∀ x y, (x = -1 ∧ fs (w3P I1 W Rn C) (40 - i) i = v ∨ x ≠ -1 ∧ x = v ∧ y = 0) → E2 125 (D + 6) (fun q => q = (.int v, (I2, J2, mj_R2))) 9 [(0, .ref 0), (1, .int (nI 3)), (2, .long C), (4, .int x), (5, .int y), (6, .int (nI i))] I2 J2) (fun i hi ih x y he => ?_) 0 (Nat.zero_le _) (-1) 0 (Or.inl ⟨rfl, hv2⟩)
    refine mj_on (s125_9 _ _ _ _ _ ?_)
    rw [b1, nI_clamp (by omega), b5, nI_1]
    have sk : i < Rn → ¬ w3P I1 W Rn C i → E2 125 (D + 6) (fun q => q = (.int v, (I2, J2, mj_R2))) 9 [(0, .ref 0), (1, .int (nI 3)), (2, .long C), (4, .int x), (5, .int y), (6, .int (nI (i + 1)))] I2 J2 := fun c q => by
      refine ih c x y ?_
      rcases he with ⟨e1, e2⟩ | e2
      · rw [fs_f (by omega) q] at e2
        exact Or.inl ⟨e1, e2⟩
      · exact Or.inr e2
    refine ⟨vp_in_nI b2 (by decide), if_le (by omega) (by omega) (fun c => ?_) (fun c => if_i (fun d => sk c fun q => (sb_0 (by omega)).mp d q.1) (fun d => ?_))⟩
    · rcases he with ⟨e1, e2⟩ | e2
      · rw [e1, ← e2]
        have : fs (w3P I1 W Rn C) (40 - i) i = -1 := by
          rcases fs_in (P := w3P I1 W Rn C) (k := 40 - i) (i := i) with q | q
          · exact q
          · have : ∀ k i, Rn ≤ i → fs (w3P I1 W Rn C) k i = -1 := by
              intro k
              induction k with
              | zero => intro i _; rfl
              | succ k ih3 =>
                intro i hi
                have e : fs (w3P I1 W Rn C) (k + 1) i = fs (w3P I1 W Rn C) k (i + 1) := @if_neg _ (Classical.propDecidable _) (fun q => by
                  have := hC i q.1
                  omega) _ _ _
                rw [e]
                exact ih3 (i + 1) (by omega)
            exact this _ _ c
        rw [this]
      · rw [e2.2.1]
    · have d : lbit C i := Classical.byContradiction fun q => d ((sb_0 (by omega)).mpr q)
      obtain ⟨r, hc, r1, r2⟩ := r_against3 (D := D) h c d
      refine ⟨trivial, _, _, _, hc, ?_⟩
      rcases Classical.em (w3P I1 W Rn C i) with q | q
      · rw [r1 q, if_neg (by decide)]
        refine if_i (fun z => ?_) (fun z => ?_)
        · refine mj_on (s125_71 _ _ _ _ ?_)
          rw [nI_1]
          rcases he with ⟨e1, e2⟩ | e2
          · rw [fs_t (by omega) q] at e2
            exact ih c _ _ (Or.inr ⟨nI_nm1 (by omega), e2, rfl⟩)
          · exact absurd z e2.1
        · rcases he with ⟨e1, e2⟩ | e2
          · exact absurd e1 z
          · rw [e2.2.2, if_neg (by decide)]
            exact ih c x 0 (Or.inr ⟨e2.1, e2.2.1, rfl⟩)
      · rw [r2 q, if_pos rfl]
        exact sk c q
  · obtain ⟨vf, hvf⟩ : ∃ vf : Nat → Int32, vf = fun u => blN I1 W Rn C k u 6 := ⟨_, rfl⟩
    have hv2 : pkN vf C (40 - 0) 0 (-1) 0 = v := by
      rw [hv, hvf]
      unfold pkC
      rw [if_neg e]
    have cb : ∀ i, i < Rn → C2 (D + 6) 126 [.ref 0, .int (nI k), .int (nI i), .long C] I2 J2 (.int (vf i)) I2 J2 ∧ vf i ≠ -2000000000 := fun i q => by
      rw [hvf]
      exact ⟨r_against h (by omega) q, blN_no b6⟩
    clear hvf hv
    refine lp_up (n := Rn) (fun i => ∀ x y, pkN vf C (40 - i) i x y = v → E2 125 (D + 6) (fun q => q = (.int v, (I2, J2, mj_R2))) 9 [(0, .ref 0), (1, .int (nI k)), (2, .long C), (4, .int x), (5, .int y), (6, .int (nI i))] I2 J2) (fun i hi ih x y he => ?_) 0 (Nat.zero_le _) (-1) 0 hv2
    refine mj_on (s125_9 _ _ _ _ _ ?_)
    rw [b1, nI_clamp (by omega), b5, nI_1]
    have no : i < Rn → ¬ (lbit C i ∧ (x = -1 ∨ vf i < y)) → E2 125 (D + 6) (fun q => q = (.int v, (I2, J2, mj_R2))) 9 [(0, .ref 0), (1, .int (nI k)), (2, .long C), (4, .int x), (5, .int y), (6, .int (nI (i + 1)))] I2 J2 := fun c q => ih c x y (by rw [← he, pkN_f (by omega) q])
    have yes : i < Rn → (lbit C i ∧ (x = -1 ∨ vf i < y)) → E2 125 (D + 6) (fun q => q = (.int v, (I2, J2, mj_R2))) 71 [(0, .ref 0), (1, .int (nI k)), (2, .long C), (6, .int (nI i)), (7, .int (vf i))] I2 J2 := fun c q => by
      refine mj_on (s125_71 _ _ _ _ ?_)
      rw [nI_1]
      exact ih c _ _ (by rw [← he, pkN_t (by omega) q])
    refine ⟨vp_in_nI b2 (by decide), if_le (by omega) (by omega) (fun c => ?_) (fun c => if_i (fun d => no c fun q => (sb_0 (by omega)).mp d q.1) (fun d => ?_))⟩
    · rw [← he, pkN_no fun j hj q => by have := hC j q; omega]
    · have d : lbit C i := Classical.byContradiction fun q => d ((sb_0 (by omega)).mpr q)
      refine ⟨trivial, _, _, _, (cb i c).1, ?_⟩
      rw [if_neg (cb i c).2]
      refine if_i (fun f => yes c ⟨d, Or.inl f⟩) (fun f => if_i (fun w => yes c ⟨d, Or.inr w⟩) (fun w => no c fun q => ?_))
      rcases q.2 with z | z
      · exact f z
      · exact w z
end S68
end
section
/-! choose, breaks, place: the calls -/
theorem pcn_eq0 : ∀ {k m : Nat}, m < 2 ^ k → pcn k m = 0 → m = 0
  | 0, m, h, _ => by omega
  | k + 1, m, h, e => by
    have e : m % 2 + pcn k (m / 2) = 0 := e
    have := pcn_eq0 (k := k) (m := m / 2) (by rw [Nat.pow_succ] at h; omega) (by omega)
    omega
theorem pcn_one : ∀ {k m o : Nat}, m < 2 ^ k → m.testBit o = true → pcn k m ≤ 1 → m = 2 ^ o
  | 0, m, o, h, t, _ => by
    have : m = 0 := by omega
    rw [this, Nat.zero_testBit] at t
    cases t
  | k + 1, m, o, h, t, e => by
    have e : m % 2 + pcn k (m / 2) ≤ 1 := e
    have h2 : m / 2 < 2 ^ k := by rw [Nat.pow_succ] at h; omega
    cases o with
    | zero =>
      have t1 : m % 2 = 1 := by
        rw [Nat.testBit_zero] at t
        exact of_decide_eq_true t
      have := pcn_eq0 h2 (by omega)
      omega
    | succ o =>
      rw [Nat.testBit_succ] at t
      have n0 : pcn k (m / 2) ≠ 0 := fun q => by
        have := pcn_eq0 h2 q
        rw [this, Nat.zero_testBit] at t
        cases t
      have := pcn_one h2 t (by omega)
      rw [Nat.pow_succ]
      omega
theorem pcn_pw : ∀ o, o < 64 → pcn 64 (2 ^ o) = 1 := by decide +kernel
theorem pcL_one {C : Int64} {o : Nat} (ho : o < 64) (hb : lbit C o) : pcL C ≤ 1 ↔ C = (1 : Int64) <<< ((nI o).toInt64 &&& 63) := by
  obtain ⟨m, hm, rfl⟩ := wb_of C
  have e : (1 : Int64) <<< ((nI o).toInt64 &&& 63) = lN (2 ^ o) := by
    have := wb_shl 1 ho
    rw [Nat.one_mul] at this
    exact this
  have h2 : 2 ^ o < 2 ^ 64 := wb_lt2 ho
  rw [pcL_lN hm, e]
  constructor
  · intro q
    rw [pcn_one hm ((lb_nat hm ho).mp hb) q]
  · intro q
    have := congrArg (fun y => y.toBitVec.toNat) q
    simp only [wb_tn hm, wb_tn h2] at this
    rw [this, pcn_pw o ho]
    exact Nat.le_refl 1
theorem bs_up {p : Nat → Prop} {n : Nat} : ∀ {m : Nat}, n ≤ m → (∀ i, n ≤ i → i < m → ¬ p i) → bs m p = bs n p
  | 0, h, _ => by rw [show n = 0 by omega]
  | m + 1, h, q => by
    by_cases e : n = m + 1
    · rw [e]
    · rw [bs_f0 (q m (by omega) (by omega))]
      exact bs_up (by omega) fun i h1 h2 => q i h1 (by omega)
def b2P (I : Nat → Nat → Int32) (W Rn : Nat) (C : Int64) (o : Nat) : Prop := C ≠ (1 : Int64) <<< ((nI o).toInt64 &&& 63) ∧ ∀ u, u < Rn → u ≠ o → lbit C u → wn I W u o
def efP (I : Nat → Nat → Int32) (W Rn : Nat) (C : Int64) (u : Nat) : Prop := lbit C u ∧ ∃ p, p < 6 ∧ fiP I W Rn C u p
noncomputable def efC (I : Nat → Nat → Int32) (W Rn : Nat) (C : Int64) : Int64 := bs Rn (efP I W Rn C)
noncomputable def brA (B1 B2 B3 : Prop) : Int32 := tf B1 + 2 * tf B2 + 4 * tf B3
noncomputable def brk (I : Nat → Nat → Int32) (W Rn : Nat) (C : Int64) (k o : Nat) : Int32 := brA (pkC I W Rn C 3 ≠ -1 ∧ pkC I W Rn C 3 ≠ nI o) (b2P I W Rn C o) (pkC I W Rn (efC I W Rn C) k ≠ nI o)
theorem efC_bit {I : Nat → Nat → Int32} {W Rn i : Nat} {C : Int64} (hR : Rn ≤ 40) (h : lbit (efC I W Rn C) i) : i < Rn := ((bs_bit (by omega) i).mp h).1
section S69
variable {D b W Rn Kn Tn Hn Un g : Nat} {I I1 I2 : Nat → Nat → Int32} {J J1 J2 : Nat → Nat → Int64}
theorem r_choose {x : Int32} (h : Rl b W Rn Kn Tn Hn Un g I1 J1 I2 J2) : ∃ r : Int32, C2 (D + 8) 121 [.ref 0, .int x] I2 J2 (.int r) I2 J2 ∧ (∀ k, k ≤ 3 → x = nI k → 0 < vN I1 → r = pkC I1 W Rn (cnd J1 6) k) ∧ ((¬ ∃ k, k ≤ 3 ∧ x = nI k) → r = -1) ∧ (¬ 0 < vN I1 → r = -1) := by
  have hv : vN I1 ≤ 6 := ct_le
  by_cases q : ∃ k, k ≤ 3 ∧ x = nI k
  · obtain ⟨k, hk, rfl⟩ := q
    have q : ∃ k', k' ≤ 3 ∧ nI k = nI k' := ⟨k, hk, rfl⟩
    have go : ∀ r : Int32, (0 < vN I1 → r = pkC I1 W Rn (cnd J1 6) k) → (¬ 0 < vN I1 → r = -1) → C2 (D + 8) 121 [.ref 0, .int (nI k)] I2 J2 (.int r) I2 J2 := fun r r1 r2 => by
      refine mj_mk (e121 _ ?_)
      refine ⟨trivial, _, _, _, r_is, if_tf (fun _ => ?_) (fun z => ?_)⟩
      · refine ⟨trivial, _, _, _, r_voters h, if_eq (b := 0) (by omega) (by decide) (fun y => ?_) (fun y => ?_)⟩
        · rw [r2 (by omega)]
        · refine ⟨trivial, _, _, _, r_cand h, trivial, _, _, _, r_chosen h (fun i q => h.cbit q) hk, ?_⟩
          rw [r1 (by omega)]
      · refine absurd ⟨nI_pos (by omega), ?_⟩ z
        exact Int32.not_lt.mpr ((leI (b := 3) (by omega) (by decide)).mpr hk)
    by_cases y : 0 < vN I1
    · refine ⟨_, go _ (fun _ => rfl) (fun z => absurd y z), fun k' hk' e _ => ?_, fun z => absurd q z, fun z => absurd y z⟩
      rw [(nI_eq (by omega) (by omega)).mp e]
    · exact ⟨-1, go _ (fun z => absurd z y) (fun _ => rfl), fun k' hk' e z => absurd z y, fun z => absurd q z, fun _ => rfl⟩
  · refine ⟨-1, mj_mk (e121 _ ⟨trivial, _, _, _, r_is, if_tf (fun z => ?_) (fun _ => rfl)⟩), fun k hk e _ => absurd ⟨k, hk, e⟩ q, fun _ => rfl, fun _ => rfl⟩
    obtain ⟨k, hk, e⟩ := nI_of2 (n := 3) (by decide) z.1 (Int32.not_lt.mp z.2)
    exact absurd ⟨k, hk, e⟩ q
theorem al_choose {x : Int32} (h : Rl b W Rn Kn Tn Hn Un g I1 J1 I2 J2) : AI 278 121 [.int x] I1 J1 I2 J2 (Rl b W Rn Kn Tn Hn Un g) := by
  obtain ⟨r, hr, r1, r2, r3⟩ := r_choose (D := 892) (x := x) h
  obtain ⟨t, I', J', hc, ht, hg⟩ := c_gatherP (D := 897) h
  rw [ht] at hc
  obtain ⟨g1, g2, g3, g4, g5⟩ := id hg
  refine ⟨r, I', J', I2, J2, mj_mk (D := 899) (e278 _ ?_), hr, Rl_same h g1 g2 rfl rfl⟩
  refine ⟨trivial, _, _, _, hc, if_tf (fun q => ?_) (fun q => by rw [r3 q])⟩
  rw [g4]
  by_cases e : ∃ k, k ≤ 3 ∧ x = nI k
  · obtain ⟨k, hk, rfl⟩ := e
    refine ⟨trivial, _, _, _, c_pick h hg (fun i q => h.cbit q) hk, ?_⟩
    rw [r1 k hk rfl q]
  · refine ⟨trivial, _, _, _, c_pickBad e, ?_⟩
    rw [r2 e]
theorem c_behind {o : Nat} (h : Rl b W Rn Kn Tn Hn Un g I1 J1 I2 J2) (hg : gat I1 J1 W Rn 6 I J) (ho : o < Rn) : C1 (D + 3) 289 [.ref 58, .int (nI o)] I J (.int (tf (b2P I1 W Rn (cnd J1 6) o))) I J := by
  obtain ⟨g1, g2, g3, g4, g5⟩ := id hg
  have hR := h.rB.2.2.2.2.2
  obtain ⟨C, hCe⟩ : ∃ C, C = cnd J1 6 := ⟨_, rfl⟩
  have hC : ∀ i, lbit C i → i < Rn := fun i q => h.cbit (hCe ▸ q)
  rw [← hCe] at g4 ⊢
  refine mj_mk (e289 _ ?_)
  refine lp_up (n := 40) (fun i => (∀ u, u < i → u ≠ o → lbit C u → wn I1 W u o) → E1 289 (D + 2) (fun q => q = (.int (tf (b2P I1 W Rn C o)), (I, J, mj_R1))) 2 [(0, .ref 58), (1, .int (nI o)), (2, .int (nI i))] I J) (fun i hi ih hp => ?_) 0 (Nat.zero_le _) (fun u hu => absurd hu (Nat.not_lt_zero u))
  refine mj_on (s289_2 _ _ ?_)
  rw [show (40 : Int32) = nI 40 from rfl, nI_1, g4]
  have nx : i < 40 → (i ≠ o → lbit C i → wn I1 W i o) → E1 289 (D + 2) (fun q => q = (.int (tf (b2P I1 W Rn C o)), (I, J, mj_R1))) 2 [(0, .ref 58), (1, .int (nI o)), (2, .int (nI (i + 1)))] I J := fun c q => ih c fun u h1 h2 h3 => by
    by_cases e : u = i
    · subst e; exact q h2 h3
    · exact hp u (by omega) h2 h3
  refine if_le (by omega) (by omega) (fun c => if_i (fun d => mzF fun q => q.1 (cmp0.mp d)) (fun d => mzT ⟨fun q => d (cmp0.mpr q), fun u h1 h2 h3 => hp u (by omega) h2 h3⟩)) (fun c => if_eq (by omega) (by omega) (fun e => nx c fun q => absurd e q) (fun e => ⟨trivial, _, _, _, c_isIn (by omega), if_tf (fun d => ?_) (fun d => nx c fun _ q => absurd q d)⟩))
  exact ⟨trivial, _, _, _, c_most h hg (hC i d) ho, if_tf (fun w => nx c fun _ _ => w) (fun w => mzF fun q => w (q.2 i (hC i d) e d))⟩
theorem c_ever (h : Rl b W Rn Kn Tn Hn Un g I1 J1 I2 J2) (hg : gat I1 J1 W Rn 6 I J) : C1 (D + 4) 290 [.ref 58] I J (.long (efC I1 W Rn (cnd J1 6))) I J := by
  obtain ⟨g1, g2, g3, g4, g5⟩ := id hg
  have hR := h.rB.2.2.2.2.2
  obtain ⟨C, hCe⟩ : ∃ C, C = cnd J1 6 := ⟨_, rfl⟩
  have hC : ∀ i, lbit C i → i < Rn := fun i q => h.cbit (hCe ▸ q)
  rw [← hCe] at g4 ⊢
  have e40 : efC I1 W Rn C = bs 40 (efP I1 W Rn C) := (bs_up (by omega) fun i q1 _ q3 => by have := hC i q3.1; omega).symm
  obtain ⟨v, hv⟩ : ∃ v, v = bs 40 (efP I1 W Rn C) := ⟨_, rfl⟩
  rw [e40, ← hv]
  refine mj_mk (e290 ?_)
  refine lp_up (n := 40) (fun i => E1 290 (D + 3) (fun q => q = (.long v, (I, J, mj_R1))) 4 [(0, .ref 58), (1, .long (bs i (efP I1 W Rn C))), (3, .int (nI i))] I J) (fun i hi ih => ?_) 0 (Nat.zero_le _)
  refine mj_on (s290_4 _ _ ?_)
  rw [show (40 : Int32) = nI 40 from rfl, nI_1, g4]
  have no : i < 40 → ¬ efP I1 W Rn C i → E1 290 (D + 3) (fun q => q = (.long v, (I, J, mj_R1))) 4 [(0, .ref 58), (1, .long (bs i (efP I1 W Rn C))), (3, .int (nI (i + 1)))] I J := fun c q => by
    have z := ih c
    rw [bs_f0 q] at z
    exact z
  refine if_le (by omega) (by omega) (fun c => ?_) (fun c => ⟨trivial, _, _, _, c_isIn (by omega), if_tf (fun d => ?_) (fun d => no c fun q => d q.1)⟩)
  · obtain rfl : i = 40 := by omega
    rw [hv]
  rw [g4]
  have cb := c_blame (D := D) (k := 0) h hg hC (by decide) (hC i d)
  have hl : ct 6 (fiP I1 W Rn C i) ≤ 6 := ct_le
  have eb : blN I1 W Rn C 0 i 6 = -(nI (ct 6 (fiP I1 W Rn C i))) := rfl
  rw [eb] at cb
  have lt : -(nI (ct 6 (fiP I1 W Rn C i))) < 0 ↔ ∃ p, p < 6 ∧ fiP I1 W Rn C i p := by
    rw [← ct_pos, ← iI_nI, iI_neg, Int32.lt_iff_toInt_lt, iI_toInt (by omega) (by omega)]
    show -((ct 6 (fiP I1 W Rn C i) : Nat) : Int) < 0 ↔ _
    omega
  generalize -(nI (ct 6 (fiP I1 W Rn C i))) = y at *
  refine ⟨trivial, _, _, _, cb, if_i (fun f => ?_) (fun f => no c fun q => f (lt.mpr q.2))⟩
  have z := ih c
  rw [bs_t (n := i) (p := efP I1 W Rn C) ⟨d, lt.mp f⟩] at z
  exact z
theorem br_4 {B1 B2 B3 : Prop} : (B2 → B3 → tf B1 + 2 + 4 = brA B1 B2 B3) ∧ (B2 → ¬ B3 → tf B1 + 2 = brA B1 B2 B3) ∧ (¬ B2 → B3 → tf B1 + 4 = brA B1 B2 B3) ∧ (¬ B2 → ¬ B3 → tf B1 = brA B1 B2 B3) := by
  unfold brA
  refine ⟨fun h2 h3 => ?_, fun h2 h3 => ?_, fun h2 h3 => ?_, fun h2 h3 => ?_⟩
  · rw [tf_t h2, tf_t h3]; rcases tf_01 B1 with e | e <;> rw [e] <;> rfl
  · rw [tf_t h2, tf_f h3]; rcases tf_01 B1 with e | e <;> rw [e] <;> rfl
  · rw [tf_f h2, tf_t h3]; rcases tf_01 B1 with e | e <;> rw [e] <;> rfl
  · rw [tf_f h2, tf_f h3]; rcases tf_01 B1 with e | e <;> rw [e] <;> rfl
theorem br_5 {B1 B2 B3 : Prop} : (B2 → B3 → (tf B1 ||| 2) ||| 4 = brA B1 B2 B3) ∧ (B2 → ¬ B3 → (tf B1 ||| 2) ||| 0 = brA B1 B2 B3) ∧ (¬ B2 → B3 → (tf B1 ||| 0) ||| 4 = brA B1 B2 B3) ∧ (¬ B2 → ¬ B3 → (tf B1 ||| 0) ||| 0 = brA B1 B2 B3) := by
  unfold brA
  refine ⟨fun h2 h3 => ?_, fun h2 h3 => ?_, fun h2 h3 => ?_, fun h2 h3 => ?_⟩
  · rw [tf_t h2, tf_t h3]; rcases tf_01 B1 with e | e <;> rw [e] <;> rfl
  · rw [tf_t h2, tf_f h3]; rcases tf_01 B1 with e | e <;> rw [e] <;> rfl
  · rw [tf_f h2, tf_t h3]; rcases tf_01 B1 with e | e <;> rw [e] <;> rfl
  · rw [tf_f h2, tf_f h3]; rcases tf_01 B1 with e | e <;> rw [e] <;> rfl
theorem c_broken {k : Nat} (h : Rl b W Rn Kn Tn Hn Un g I1 J1 I2 J2) (hg : gat I1 J1 W Rn 6 I J) (hk : k ≤ 3) : ∃ r : Int32, C1 (D + 5) 288 [.ref 58, .int (nI k)] I J (.int r) I J ∧ (pkC I1 W Rn (cnd J1 6) k = -1 → r = -1) ∧ ∀ o, lbit (cnd J1 6) o → pkC I1 W Rn (cnd J1 6) k = nI o → r = brk I1 W Rn (cnd J1 6) k o := by
  obtain ⟨g1, g2, g3, g4, g5⟩ := id hg
  have hR := h.rB.2.2.2.2.2
  have cbe : ∀ o, o < Rn → _ := fun o ho => c_behind (D := D + 1) (o := o) h hg ho
  have cev := c_ever (D := D) h hg
  have cbit : ∀ i, lbit (cnd J1 6) i → i < Rn := fun i q => h.cbit q
  obtain ⟨C, hCe⟩ : ∃ C, C = cnd J1 6 := ⟨_, rfl⟩
  rw [← hCe] at g4 cev cbit ⊢
  rw [← hCe] at cbe
  have cp : ∀ k, k ≤ 3 → C1 (D + 4) 281 [.ref 58, .int (nI k), .long C] I J (.int (pkC I1 W Rn C k)) I J := fun k hk => c_pick h hg cbit hk
  have cp3 : C1 (D + 4) 282 [.ref 58, .long C] I J (.int (pkC I1 W Rn C 3)) I J := c_pick3 h hg cbit
  have cpe : C1 (D + 4) 281 [.ref 58, .int (nI k), .long (efC I1 W Rn C)] I J (.int (pkC I1 W Rn (efC I1 W Rn C) k)) I J := c_pick h hg (fun i q => efC_bit hR q) hk
  have hin := pkC_in (I := I1) (W := W) (Rn := Rn) (C := C) (k := k)
  unfold brk
  have cpk := cp k hk
  generalize pkC I1 W Rn C k = f at *
  generalize pkC I1 W Rn C 3 = s at *
  generalize efC I1 W Rn C = E at *
  generalize pkC I1 W Rn E k = f' at *
  rcases hin with e | ⟨o, ho, e⟩
  · refine ⟨-1, mj_mk (e288 _ ?_), fun _ => rfl, fun o q1 q2 => ?_⟩
    · rw [g4]
      exact ⟨trivial, _, _, _, cpk, by rw [if_pos e]⟩
    · have := cbit o q1
      rw [e] at q2
      exact absurd q2.symm (nI_nm1 (by omega))
  · have hoR := cbit o ho
    subst e
    obtain ⟨r4, r5, r6, r7⟩ := br_4 (B1 := s ≠ -1 ∧ s ≠ nI o) (B2 := b2P I1 W Rn C o) (B3 := f' ≠ nI o)
    obtain ⟨ans, hans⟩ : ∃ ans, ans = brA (s ≠ -1 ∧ s ≠ nI o) (b2P I1 W Rn C o) (f' ≠ nI o) := ⟨_, rfl⟩
    rw [← hans] at r4 r5 r6 r7
    refine ⟨ans, mj_mk (e288 _ ?_), fun q => absurd q (nI_nm1 (by omega)), fun o' q1 q2 => ?_⟩
    · rw [g4]
      refine ⟨trivial, _, _, _, cpk, ?_⟩
      rw [if_neg (nI_nm1 (by omega)), g4]
      refine ⟨trivial, _, _, _, cp3, ?_⟩
      have go : ∀ B : Prop, (B ↔ s ≠ -1 ∧ s ≠ nI o) → E1 288 (D + 4) (fun q => q = (.int ans, (I, J, mj_R1))) 43 [(0, .ref 58), (1, .int (nI k)), (2, .int (nI o)), (4, .int (tf B))] I J := fun B hB => by
        rw [tf_iff hB]
        refine mj_on (s288_43 _ _ _ ?_)
        refine ⟨trivial, _, _, _, cbe o hoR, if_tf (fun q => ?_) (fun q => ?_)⟩
        · refine mj_on (s288_54 _ _ _ ?_)
          refine ⟨trivial, _, _, _, cev, trivial, _, _, _, cpe, if_i (fun y => ?_) (fun y => ?_)⟩
          · rw [← r5 q (fun z => z y)]
          · rw [← r4 q y]
        · refine mj_on (s288_54 _ _ _ ?_)
          refine ⟨trivial, _, _, _, cev, trivial, _, _, _, cpe, if_i (fun y => ?_) (fun y => ?_)⟩
          · rw [← r7 q (fun z => z y)]
          · rw [← r6 q y]
      refine if_i (fun q => ?_) (fun q => if_i (fun y => ?_) (fun y => ?_))
      · have z := go False ⟨fun z => z.elim, fun z => z.1 q⟩
        rw [tf_f id] at z
        exact z
      · have z := go False ⟨fun z => z.elim, fun z => z.2 y⟩
        rw [tf_f id] at z
        exact z
      · have z := go True ⟨fun _ => ⟨q, y⟩, fun _ => trivial⟩
        rw [tf_t trivial] at z
        exact z
    · have := cbit o' q1
      obtain rfl := (nI_eq (by omega) (by omega)).mp q2
      exact hans
end S69
end
