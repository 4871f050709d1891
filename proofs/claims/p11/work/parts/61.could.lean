/-! agree, could, stop: by weighings that agree -/
noncomputable def fl (P : List Nat → Prop) (l : List (List Nat)) : List (List Nat) := l.filter (fun r => @decide (P r) (Classical.propDecidable _))
theorem fl_t {P : List Nat → Prop} {l : List (List Nat)} {r : List Nat} (h : P r) : fl P (l ++ [r]) = fl P l ++ [r] := by
  unfold fl
  rw [List.filter_append]
  simp [h]
theorem fl_f {P : List Nat → Prop} {l : List (List Nat)} {r : List Nat} (h : ¬ P r) : fl P (l ++ [r]) = fl P l := by
  unfold fl
  rw [List.filter_append]
  simp [h]
theorem fl_len {P : List Nat → Prop} {l : List (List Nat)} : (fl P l).length ≤ l.length := List.length_filter_le _ _
theorem fl_mem {P : List Nat → Prop} {l : List (List Nat)} {r : List Nat} (h : r ∈ fl P l) : r ∈ l := (List.mem_filter.mp h).1
noncomputable def lor (f : List Nat → Int64) (l : List (List Nat)) : Int64 := l.foldl (fun a r => a ||| f r) 0
theorem lor_s {f : List Nat → Int64} {l : List (List Nat)} {r : List Nat} : lor f (l ++ [r]) = lor f l ||| f r := by
  unfold lor
  rw [List.foldl_append]
  rfl
theorem bs_0 {p : Nat → Prop} : ∀ {n : Nat}, (∀ i, i < n → ¬ p i) → bs n p = 0
  | 0, _ => rfl
  | n + 1, h => by rw [bs_f0 (h n (by omega)), bs_0 fun i hi => h i (by omega)]
theorem wo_rng {r : List Nat} {f : Nat → Int32} (hr : ∀ i, r.getD i 0 ≤ 12) : ∀ {k : Nat}, k ≤ 4 → (∀ w, w < k → ∃ y : Int, -9999 ≤ y ∧ y ≤ 9999 ∧ f w = iI y) → ∃ z : Int, -(119988 * (k : Int)) ≤ z ∧ z ≤ 119988 * (k : Int) ∧ wo r f k = iI z
  | 0, _, _ => ⟨0, by omega, by omega, rfl⟩
  | k + 1, hk, h => by
    obtain ⟨z, z1, z2, z3⟩ := wo_rng hr (k := k) (by omega) fun w hw => h w (by omega)
    obtain ⟨y, y1, y2, y3⟩ := h k (by omega)
    have h12 := hr k
    obtain ⟨m, hm⟩ : ∃ m, m = r.getD k 0 := ⟨_, rfl⟩
    rw [← hm] at h12
    refine ⟨z + m * y, ?_, ?_, ?_⟩
    · have : (m : Int) * y ≥ -(12 * 9999) := by
        have h1 : (m : Int) * y ≥ (m : Int) * (-9999) := Int.mul_le_mul_of_nonneg_left y1 (by omega)
        omega
      omega
    · have : (m : Int) * y ≤ 12 * 9999 := by
        have h1 : (m : Int) * y ≤ (m : Int) * 9999 := Int.mul_le_mul_of_nonneg_left y2 (by omega)
        omega
      omega
    · show wo r f k + nI (r.getD k 0) * f k = _
      rw [z3, y3, ← hm, ← iI_nI, iI_mul, iI_add]
section S61
variable {D b W Rn Kn Tn Hn Un g : Nat} {I I1 I2 : Nat → Nat → Int32} {J J1 J2 : Nat → Nat → Int64}
theorem Rl.lrng (h : Rl b W Rn Kn Tn Hn Un g I1 J1 I2 J2) {u w : Nat} (hu : u < Rn) (hw : w < W) : ∃ y : Int, -9999 ≤ y ∧ y ≤ 9999 ∧ I1 25 (4 * u + w) = iI y := by
  obtain ⟨-, -, -, h4, -⟩ := h.2.2.2.2.1
  rw [(h4 u hu w hw).1]
  have := lo_rng (m := I1 4 w) (h.2.1.2.2.1 u hu w hw).2.1
  exact ⟨_, this.1, this.2, iI_of _⟩
theorem Rl.rle (h : Rl b W Rn Kn Tn Hn Un g I1 J1 I2 J2) {r : List Nat} (hr : r ∈ wl W g) (i : Nat) : r.getD i 0 ≤ 12 := by
  obtain ⟨hG, -⟩ := h.G
  have hW := h.rB.2.2.2.1
  have h1 := List.all_eq_true.mp (wl_le g (by have := hG.2; omega) W (by omega)) r hr
  have h2 := List.all_eq_true.mp h1
  rw [List.getD_eq_getElem?_getD]
  cases hc : r[i]? with
  | none => exact Nat.zero_le _
  | some x => exact of_decide_eq_true (h2 x (List.mem_of_getElem? hc))
theorem Rl.wrng (h : Rl b W Rn Kn Tn Hn Un g I1 J1 I2 J2) {r : List Nat} (hr : r ∈ wl W g) {u : Nat} (hu : u < Rn) : ∃ z : Int, -479952 ≤ z ∧ z ≤ 479952 ∧ rwo I1 W r u = iI z := by
  have hW := h.rB.2.2.2.1
  obtain ⟨z, z1, z2, z3⟩ := wo_rng (f := fun w => I1 25 (4 * u + w)) (h.rle hr) hW fun w hw => h.lrng hu hw
  exact ⟨z, by omega, by omega, z3⟩
/-- among p, those by whom none is better by more than d -/
def fbP (n : Nat) (p : Nat → Prop) (v : Nat → Int32) (d : Int) (u : Nat) : Prop := p u ∧ ∀ o, o < n → p o → (v u).toInt ≤ (v o).toInt + d
noncomputable def fb (I : Nat → Nat → Int32) (J : Nat → Nat → Int64) (W Rn : Nat) (d : Int) (r : List Nat) : Int64 := bs Rn (fbP Rn (lbit (J 24 6)) (rwo I W r) d)
theorem c_min {x y : Int32} : C1 (D + 1) 0 [.int x, .int y] I J (.int (if y < x then y else x)) I J := by
  refine mj_mk (e0 _ _ ?_)
  exact if_i (fun c => mqi (if_pos c).symm) (fun c => mqi (if_neg c).symm)
theorem c_firstBy (h : Rl b W Rn Kn Tn Hn Un g I1 J1 I2 J2) {n d : Nat} {r : List Nat} (e1 : k1 I = k1 I1) (hr : (wl W g)[n]? = some r) (hd : d ≤ 200000) : ∃ I', C1 (D + 2) 263 [.ref 24, .int (nI n), .ref 51, .int (nI d)] I J1 (.long (fb I1 J1 W Rn d r)) I' J1 ∧ (∀ q, q ≠ 28 → I' q = I q) ∧ ∀ u, u < Rn → I' 28 u = rwo I1 W r u := by
  obtain ⟨hG, g1, g2, g3, g4, g5⟩ := h.G
  obtain ⟨w1, w2, w3, w4⟩ := h.W24
  have hn : n < 455 := by
    have := (List.getElem?_eq_some_iff.mp hr).1
    omega
  have hrm := List.mem_of_getElem? hr
  suffices hs : ∃ v I' J', C1 (D + 2) 263 [.ref 24, .int (nI n), .ref 51, .int (nI d)] I J1 (.long v) I' J' ∧ (v = fb I1 J1 W Rn d r ∧ J' = J1 ∧ (∀ q, q ≠ 28 → I' q = I q) ∧ ∀ u, u < Rn → I' 28 u = rwo I1 W r u) by
    obtain ⟨v, I', J', hc, rfl, rfl, q1, q2⟩ := hs
    exact ⟨I', hc, q1, q2⟩
  refine mj_cL (e263 _ _ ?_)
  obtain ⟨Q, hQ⟩ : ∃ Q, Q = qL mj_R1 (fun v I' J' => v = fb I1 J1 W Rn d r ∧ J' = J1 ∧ (∀ q, q ≠ 28 → I' q = I q) ∧ ∀ u, u < Rn → I' 28 u = rwo I1 W r u) := ⟨_, rfl⟩
  rw [← hQ]
  have lst := lp_up (n := Rn) (fun i => ∀ I0 x4, (∀ q, q ≠ 28 → I0 q = I q) → (∀ u, u < i → I0 28 u = rwo I1 W r u) → ((x4 = (2000000000 : Int32) ∧ ∀ o, o < i → ¬ lbit (J1 24 6) o) ∨ (∃ o, o < i ∧ lbit (J1 24 6) o ∧ x4 = rwo I1 W r o ∧ ∀ p, p < i → lbit (J1 24 6) p → rwo I1 W r o ≤ rwo I1 W r p)) →
    E1 263 (D + 1) Q 7 [(0, .ref 24), (1, .int (nI n)), (2, .ref 51), (3, .int (nI d)), (4, .int x4), (5, .int (nI i))] I0 J1) (fun i hi ih I0 x4 hF hw hm => ?_) 0 (Nat.zero_le _) I _ (fun _ _ => rfl) (fun u hu => absurd hu (Nat.not_lt_zero u)) (Or.inl ⟨rfl, fun o ho => absurd ho (Nat.not_lt_zero o)⟩)
  · exact lst
  refine mj_on (s263_7 _ _ _ _ ?_)
  rw [hF 24 (by decide), k1_at e1 (q := 24) (j := 0) rfl, w1, ix4m, nI_1]
  refine if_le (by omega) (by omega) (fun c => ?_) (fun c => ?_)
  · -- the second loop
    obtain rfl : i = Rn := by omega
    have l2 := lp_up (n := i) (fun k => E1 263 (D + 1) Q 74 [(0, .ref 24), (3, .int (nI d)), (4, .int x4), (5, .long (bs k (fbP i (lbit (J1 24 6)) (rwo I1 W r) d))), (7, .int (nI k))] I0 J1) (fun k hk ih2 => ?_) 0 (Nat.zero_le _)
    · exact l2
    refine mj_on (s263_74 _ _ _ _ ?_)
    rw [hF 24 (by decide), k1_at e1 (q := 24) (j := 0) rfl, w1, nI_1]
    refine if_le (by omega) (by omega) (fun c2 => ?_) (fun c2 => ?_)
    · obtain rfl : k = i := by omega
      rw [hQ]
      exact ⟨_, _, _, rfl, rfl, rfl, hF, hw⟩
    refine ⟨trivial, _, _, _, c_isIn (by omega), if_tf (fun f => ?_) (fun f => ?_)⟩
    · rw [nI_clamp (by omega), hw k c2]
      rcases hm with ⟨-, q⟩ | ⟨o, o1, o2, o3, o4⟩
      · exact absurd f (q k c2)
      obtain ⟨z, z1, z2, z3⟩ := h.wrng hrm c2
      obtain ⟨y, y1, y2, y3⟩ := h.wrng hrm o1
      have et : (nI d < rwo I1 W r k - x4) ↔ ¬ fbP i (lbit (J1 24 6)) (rwo I1 W r) d k := by
        rw [o3, z3, y3, iI_sub, ← iI_nI, Int32.lt_iff_toInt_lt, iI_toInt (by omega) (by omega), iI_toInt (by omega) (by omega)]
        constructor
        · intro q hp
          have := hp.2 o o1 o2
          rw [z3, y3, iI_toInt (by omega) (by omega), iI_toInt (by omega) (by omega)] at this
          omega
        · intro q
          refine Int.lt_of_not_ge fun q2 => q ⟨f, fun p p1 p2 => ?_⟩
          have h1 := Int32.le_iff_toInt_le.mp (o4 p p1 p2)
          rw [y3, iI_toInt (by omega) (by omega)] at h1
          rw [z3, iI_toInt (by omega) (by omega)]
          omega
      refine ⟨vp_in_nI (by omega) (by decide), if_i (fun q => ?_) (fun q => ?_)⟩
      · rw [← bs_f0 (n := k) (et.mp q)]
        exact ih2 c2
      · have q2 : fbP i (lbit (J1 24 6)) (rwo I1 W r) d k := Classical.byContradiction fun z => q (et.mpr z)
        rw [← bs_t (n := k) q2]
        exact ih2 c2
    · rw [← bs_f0 (n := k) (p := fbP i (lbit (J1 24 6)) (rwo I1 W r) d) (fun q => f q.1)]
      exact ih2 c2
  · have e1' : k1 I0 = k1 I1 := by
      rw [← e1]
      funext q j
      unfold k1
      by_cases e : q = 28
      · rw [e]; rfl
      · rw [hF q e]
    have hwr : wro I0 W n r := fun w hw => by rw [k1_at e1' rfl]; exact h.wr hr w hw
    have hwv : wo r (fun w => I0 25 (4 * i + w)) W = rwo I1 W r i := wo_c fun w _ => k1_at e1' rfl
    refine ⟨trivial, _, _, _, c_weigh_a (by rw [k1_at e1' rfl]; exact g3) w4 hn (by omega) hwr, vp_in_nI (by omega) (by decide), ?_⟩
    rw [nI_clamp (by omega), hwv]
    have hF2 : ∀ q, q ≠ 28 → mj_up I0 28 i (rwo I1 W r i) q = I q := fun q hq => by rw [up_c hq, hF q hq]
    have hw2 : ∀ u, u < i + 1 → mj_up I0 28 i (rwo I1 W r i) 28 u = rwo I1 W r u := fun u hu => by
      by_cases e : u = i
      · rw [e, up_s]
      · rw [up_j e]; exact hw u (by omega)
    refine ⟨trivial, _, _, _, c_isIn (by omega), if_tf (fun f => ?_) (fun f => ?_)⟩
    · refine ⟨vp_in_nI (by omega) (by decide), trivial, _, _, _, c_min, ?_⟩
      rw [hw2 i (by omega)]
      refine ih c _ _ hF2 hw2 (Or.inr ?_)
      obtain ⟨z, z1, z2, z3⟩ := h.wrng hrm c
      rcases hm with ⟨q1, q2⟩ | ⟨o, o1, o2, o3, o4⟩
      · refine ⟨i, by omega, f, ?_, fun p hp q => ?_⟩
        · rw [if_pos]
          rw [q1, z3, Int32.lt_iff_toInt_lt, iI_toInt (by omega) (by omega)]
          have : (2000000000 : Int32).toInt = 2000000000 := by decide
          omega
        · by_cases e : p = i
          · rw [e]; exact Int32.le_refl _
          · exact absurd q (q2 p (by omega))
      · by_cases lt : rwo I1 W r i < x4
        · rw [if_pos lt]
          refine ⟨i, by omega, f, rfl, fun p hp q => ?_⟩
          by_cases e : p = i
          · rw [e]; exact Int32.le_refl _
          · rw [o3] at lt
            exact Int32.le_trans (Int32.le_of_lt lt) (o4 p (by omega) q)
        · rw [if_neg lt]
          refine ⟨o, by omega, o2, o3, fun p hp q => ?_⟩
          by_cases e : p = i
          · rw [e, ← o3]; exact Int32.not_lt.mp lt
          · exact o4 p (by omega) q
    · refine ih c _ _ hF2 hw2 ?_
      rcases hm with ⟨q1, q2⟩ | ⟨o, o1, o2, o3, o4⟩
      · exact Or.inl ⟨q1, fun o ho => by
          by_cases e : o = i
          · rw [e]; exact f
          · exact q2 o (by omega)⟩
      · refine Or.inr ⟨o, by omega, o2, o3, fun p hp q => ?_⟩
        by_cases e : p = i
        · rw [e] at q; exact absurd q f
        · exact o4 p (by omega) q
theorem k1_28 {I' : Nat → Nat → Int32} (h : ∀ q, q ≠ 28 → I' q = I q) : k1 I' = k1 I := by
  funext q j
  unfold k1
  by_cases e : q = 28
  · rw [e]; rfl
  · rw [h q e]
theorem al_agree (h : Rl b W Rn Kn Tn Hn Un g I1 J1 I2 J2) : AI 259 107 [] I1 J1 I2 J2 (Rl b W Rn Kn Tn Hn Un g) := by
  obtain ⟨a1, a2, -⟩ := h.N
  have hB := h.rB
  obtain ⟨b1, b2, b3, b4, b5, b6⟩ := id hB
  obtain ⟨hG, g1, g2, g3, g4, g5⟩ := h.G
  obtain ⟨S, s1, s2, -, -⟩ := h.S
  by_cases hW : W = 0
  · refine AI.same (-1) (mj_mk (D := 899) (e259 ?_)) (mj_mk (D := 899) (e107 ?_)) h
    · rw [show ((0 : Int32)).toNatClampNeg = 0 from rfl, a1, hW]
      exact ⟨vp_in_nI (n := 0) (by decide) (by decide), rfl⟩
    · rw [b1, nI_clamp (by omega), b3, hW]
      exact ⟨vp_in_nI b2 (by decide), rfl⟩
  obtain ⟨P, hP⟩ : ∃ P, P = sAg I1 J1 W S := ⟨_, rfl⟩
  obtain ⟨v, hv⟩ : ∃ v, v = lct P (wl W g) := ⟨_, rfl⟩
  have cl : C1 900 259 [.ref 0] I1 J1 (.int (nI v)) I1 J1 := by
    refine mj_mk (D := 899) (e259 ?_)
    rw [show ((0 : Int32)).toNatClampNeg = 0 from rfl, a1, if_neg (nI_ne0 (by omega) (by omega))]
    refine ⟨vp_in_nI (n := 0) (by decide) (by decide), ?_⟩
    refine lp_up (n := (wl W g).length) (fun n => E1 259 899 (fun q => q = (.int (nI v), (I1, J1, mj_R1))) 18 [(0, .ref 0), (1, .int (nI (lct P ((wl W g).take n)))), (2, .int (nI n))] I1 J1) (fun n hn ih => ?_) 0 (Nat.zero_le _)
    refine mj_on (s259_18 _ _ ?_)
    rw [g4, nI_1, nI_1]
    refine if_le (by omega) (by omega) (fun c => ?_) (fun c => ?_)
    · rw [tk_e c, hv]
    · obtain ⟨r, hr, -, -⟩ := gt_of c
      have hs := ih c
      rw [tk_s hr] at hs
      refine ⟨trivial, _, _, _, c_isAg h s2 s1 rfl hr, if_tf (fun d => ?_) (fun d => ?_)⟩
      · rw [← hP] at d
        rw [lct_t d] at hs
        exact hs
      · rw [← hP] at d
        rw [lct_f d] at hs
        exact hs
  have hN : wnum g W ≤ 2197 := wnum_le hG.2 b4
  have rf : ∃ r I2' J2', C2 900 107 [.ref 0] I2 J2 (.int r) I2' J2' ∧ (r = nI v ∧ k2 I2' = k2 I2 ∧ J2' = J2) := by
    refine mj_cI (D := 899) (e107 ?_)
    rw [b1, nI_clamp (by omega), b3, if_neg (nI_ne0 (by omega) (by omega))]
    refine ⟨vp_in_nI b2 (by decide), ?_⟩
    refine lp_up (n := wnum g W) (fun n => ∀ I, k2 I = k2 I2 → E2 107 899 (qI mj_R2 (fun r I' J' => r = nI v ∧ k2 I' = k2 I2 ∧ J' = J2)) 18 [(0, .ref 0), (1, .int (nI (lct P (wpre g W n)))), (2, .int (nI n))] I J2) (fun n hn ih I hI => ?_) 0 (Nat.zero_le _) I2 rfl
    refine mj_on (s107_18 _ _ ?_)
    rw [show (0 : Int32) = nI 0 from rfl, nI_add, Nat.add_zero, nI_1, nI_1]
    refine ⟨trivial, _, _, _, r_numbers (rB_k hB hI) (rG_k hG hI), if_le (by omega) (by omega) (fun c => ?_) (fun c => ?_)⟩
    · obtain rfl : n = wnum g W := by omega
      refine ⟨_, _, _, rfl, ?_, hI, rfl⟩
      rw [hv]
      unfold wpre
      rw [(wl_ok hG.2 b4).1]
    · obtain ⟨I', hc, q1, q2⟩ := r_isWeighing (D := 898) (J := J2) (rB_k hB hI) (rG_k hG hI) (by omega) (show n < 2197 by omega)
      have hI' : k2 I' = k2 I2 := (k2_40 q1).trans hI
      refine ⟨trivial, _, _, _, hc, if_tf (fun d => ?_) (fun d => ?_)⟩
      · obtain ⟨r, hr⟩ := Option.ne_none_iff_exists'.mp d
        have hs := ih c I' hI'
        rw [wpre_t hr] at hs
        refine ⟨trivial, _, _, _, r_agrees h hI' s2 s1 (q2 r hr), if_tf (fun d => ?_) (fun d => ?_)⟩
        · rw [← hP] at d
          rw [lct_t d] at hs
          exact hs
        · rw [← hP] at d
          rw [lct_f d] at hs
          exact hs
      · have d : wval g W n = none := Classical.byContradiction fun q => d q
        have hs := ih c I' hI'
        rw [wpre_f d] at hs
        exact hs
  obtain ⟨r, I2', J2', hc, rfl, q1, rfl⟩ := rf
  exact ⟨_, I1, J1, I2', J2', cl, hc, Rl_same h rfl rfl q1 rfl⟩
end S61
