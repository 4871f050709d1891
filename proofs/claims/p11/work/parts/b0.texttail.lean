/-! the end of text(): what is made anew when a text has no fault -/
section S90
variable {D W Rn g : Nat} {I : Nat → Nat → Int32} {J : Nat → Nat → Int64}
def rt0 (I I' : Nat → Nat → Int32) (J J' : Nat → Nat → Int64) : Prop := I' 0 10 = I 0 8 ∧ I' 0 11 = I 0 9 ∧ I' 0 12 = I 0 35 ∧ I' 0 58 = -1 ∧ I' 0 65 = nI 0 ∧ I' 0 68 = nI 0 ∧ J' 0 46 = 0 ∧ J' 0 47 = 0 ∧
  (∀ q j, q ≠ 48 → (q ≠ 0 ∨ (j ≠ 10 ∧ j ≠ 11 ∧ j ≠ 12 ∧ j ≠ 58 ∧ j ≠ 65 ∧ j ≠ 68)) → I' q j = I q j) ∧ (∀ q j, q ≠ 49 → (q ≠ 0 ∨ (j ≠ 46 ∧ j ≠ 47)) → J' q j = J q j)
def rtP (I I' : Nat → Nat → Int32) (J J' : Nat → Nat → Int64) : Prop := rt0 I I' J J' ∧ ∀ p, p < 6 → J' 49 p = 0 ∧ ∀ w, w < 4 → I' 48 (4 * p + w) = nI 0
theorem r_tail {x1 : Int32} {Q : mj_R → Prop} (hf : I 0 8 = 0) (hQ : ∀ I' J', rtP I I' J J' → Q (.int x1, (I', J', mj_R2))) : E2 12 D Q 133 [(0, .ref 0), (1, .int x1)] I J := by
  refine mj_on (s12_133 _ ?_)
  rw [if_pos (show I 0 8 ≤ 0 by rw [hf]; decide)]
  refine mj_on (s12_181 _ ?_)
  suffices hs : ∀ Ia Ja, rt0 I Ia J Ja → E2 12 D Q 193 [(0, .ref 0), (1, .int x1), (2, .int (nI 0))] Ia Ja from hs _ _ ⟨by simp [mj_up], by simp [mj_up], by simp [mj_up], by simp [mj_up], by simp [mj_up]; rfl, by simp [mj_up]; rfl, by simp [mj_up], by simp [mj_up], fun q j h1 h2 => by rw [up_n (by omega), up_n (by omega), up_n (by omega), up_n (by omega), up_n (by omega), up_n (by omega)], fun q j h1 h2 => by rw [up_n (by omega), up_n (by omega)]⟩
  intro Ia Ja ha
  have outer := lp_up (n := 6) (fun p => ∀ I0 J0, rt0 I I0 J J0 → (∀ q, q < p → J0 49 q = 0 ∧ ∀ w, w < 4 → I0 48 (4 * q + w) = nI 0) → E2 12 D Q 193 [(0, .ref 0), (1, .int x1), (2, .int (nI p))] I0 J0) (fun p hp ih I0 J0 h0 hz => ?_) 0 (by omega) Ia Ja ha (fun q hq => by omega)
  · exact outer
  refine mj_on (s12_193 _ _ ?_)
  rw [show (6 : Int32) = nI 6 from rfl]
  refine if_le (by omega) (by omega) (fun c => ?_) (fun c => ?_)
  · obtain rfl : p = 6 := by omega
    exact hQ _ _ ⟨h0, fun q hq => hz q hq⟩
  · refine ⟨vp_in_nI c (by decide), ?_⟩
    rw [nI_clamp (by omega)]
    have inner := lp_up (n := 4) (fun w => ∀ I1 J1, rt0 I I1 J J1 → (∀ q, q < p → J1 49 q = 0 ∧ ∀ w, w < 4 → I1 48 (4 * q + w) = nI 0) → J1 49 p = 0 → (∀ u, u < w → I1 48 (4 * p + u) = nI 0) → E2 12 D Q 208 [(0, .ref 0), (1, .int x1), (2, .int (nI p)), (3, .int (nI w))] I1 J1) (fun w hw ih2 I1 J1 h1 hz1 hj hu => ?_) 0 (by omega) I0 (mj_up J0 49 p 0)
      (by
        obtain ⟨b1, b2, b3, b4, b5, b6, b7, b8, b9, b10⟩ := h0
        exact ⟨b1, b2, b3, b4, b5, b6, by rw [up_n (by omega)]; exact b7, by rw [up_n (by omega)]; exact b8, b9, fun q j h1 h2 => by rw [up_n (by omega)]; exact b10 q j h1 h2⟩)
      (fun q hq => ⟨by rw [up_n (by omega)]; exact (hz q hq).1, (hz q hq).2⟩) up_s (fun u hu => by omega)
    · exact inner
    refine mj_on (s12_208 _ _ _ ?_)
    rw [show (4 : Int32) = nI 4 from rfl]
    refine if_le (by omega) (by omega) (fun d => ?_) (fun d => ?_)
    · obtain rfl : w = 4 := by omega
      rw [nI_1]
      refine ih c I1 J1 h1 (fun q hq => ?_)
      by_cases e : q = p
      · subst e; exact ⟨hj, hu⟩
      · exact hz1 q (by omega)
    · rw [pk_mul, nI_add, nI_1]
      refine ⟨vp_in_nI (by omega) (by decide), ?_⟩
      rw [nI_clamp (by omega)]
      obtain ⟨b1, b2, b3, b4, b5, b6, b7, b8, b9, b10⟩ := h1
      refine ih2 d _ _ ⟨by rw [up_n (by omega)]; exact b1, by rw [up_n (by omega)]; exact b2, by rw [up_n (by omega)]; exact b3, by rw [up_n (by omega)]; exact b4, by rw [up_n (by omega)]; exact b5, by rw [up_n (by omega)]; exact b6, b7, b8, fun q j h1 h2 => by rw [up_n (by omega)]; exact b9 q j h1 h2, b10⟩ (fun q hq => ⟨(hz1 q hq).1, fun u hu4 => by rw [up_n (by omega)]; exact (hz1 q hq).2 u hu4⟩) hj (fun u hu2 => ?_)
      by_cases e : u = w
      · subst e; exact up_s
      · rw [up_n (by omega)]; exact hu u (by omega)
-- the class
theorem c_drop : C1 (D + 2) 181 [.ref 38] I J .null (mj_up (mj_up I 38 0 (-1)) 38 1 0) J := mj_mk (e181 ⟨trivial, _, _, mj_mk (e182_a _ rfl), rfl⟩)
theorem c_pforget : ∃ I' J', C1 (D + 1) 185 [.ref 58] I J .null I' J' ∧ (∀ p, p < 6 → I' 60 p = 0 ∧ J' 61 p = 0) ∧ (∀ q, q ≠ 60 → I' q = I q) ∧ (∀ q, q ≠ 61 → J' q = J q) := by
  refine mj_cN (e185 ?_)
  have lp := lp_up (n := 6) (fun p => ∀ I0 J0, (∀ q, q < p → I0 60 q = 0 ∧ J0 61 q = 0) → (∀ q, q ≠ 60 → I0 q = I q) → (∀ q, q ≠ 61 → J0 q = J q) → E1 185 D (qN mj_R1 fun I' J' => (∀ p, p < 6 → I' 60 p = 0 ∧ J' 61 p = 0) ∧ (∀ q, q ≠ 60 → I' q = I q) ∧ (∀ q, q ≠ 61 → J' q = J q)) 2 [(0, .ref 58), (1, .int (nI p))] I0 J0) (fun p hp ih I0 J0 h1 h2 h3 => ?_) 0 (by omega) I J (fun q hq => by omega) (fun _ _ => rfl) (fun _ _ => rfl)
  · exact lp
  refine mj_on (s185_2 _ ?_)
  rw [show (6 : Int32) = nI 6 from rfl]
  refine if_le (by omega) (by omega) (fun c => ?_) (fun c => ?_)
  · obtain rfl : p = 6 := by omega
    exact ⟨_, _, rfl, h1, h2, h3⟩
  · refine ⟨vp_in_nI c (by decide), vp_in_nI c (by decide), ?_⟩
    rw [nI_clamp (by omega), nI_1]
    refine ih c _ _ (fun q hq => ?_) (fun q hq => by rw [up_c hq]; exact h2 q hq) (fun q hq => by rw [up_c hq]; exact h3 q hq)
    by_cases e : q = p
    · subst e; exact ⟨by rw [up_s]; rfl, up_s⟩
    · exact ⟨by rw [up_j e]; exact (h1 q (by omega)).1, by rw [up_j e]; exact (h1 q (by omega)).2⟩
theorem rlW_cg {I I' : Nat → Nat → Int32} {J J' : Nat → Nat → Int64} (h : rlW W Rn I J) (e4 : I' 4 = I 4) (e5 : I' 5 = I 5) (e6 : I' 6 = I 6) (e24 : I' 24 = I 24) (e25 : I' 25 = I 25) (e26 : I' 26 = I 26) (e27 : I' 27 = I 27) (f : J' 24 = J 24) : rlW W Rn I' J' := by
  unfold rlW at h ⊢
  rw [e4, e5, e6, e24, e25, e26, e27, f]
  exact h
def ttP (W Rn g : Nat) (I I' : Nat → Nat → Int32) (J' : Nat → Nat → Int64) : Prop := rlW W Rn I' J' ∧ I' 38 0 = -1 ∧ I' 38 1 = nI 0 ∧ I' 0 9 = -3 ∧ I' 47 4 = nI 0 ∧ J' 0 14 = 0 ∧ J' 0 15 = 0 ∧ I' 53 0 = nI 0 ∧ (∀ p, p < 6 → I' 60 p = 0 ∧ J' 61 p = 0) ∧ wAr g W (wl W g) I' ∧
  (∀ q j, q ≠ 24 → q ≠ 25 → q ≠ 26 → q ≠ 27 → q ≠ 38 → q ≠ 47 → q ≠ 51 → q ≠ 52 → q ≠ 53 → q ≠ 60 → (q ≠ 0 ∨ j ≠ 9) → I' q j = I q j)
theorem c_tail {Q : mj_R → Prop} (hW : I 2 0 = nI W) (hW4 : W ≤ 4) (hR : I 2 1 = nI Rn) (hR4 : Rn ≤ 40) (hg : I 51 0 = nI g) (hg2 : g ≤ 12) (hQ : ∀ I' J', ttP W Rn g I I' J' → Q (.int (I 1 0), (I', J', mj_R1))) : E1 136 (D + 4) Q 38 [(0, .ref 0)] I J := by
  refine mj_on (s136_38 ?_)
  obtain ⟨Ia, Ja, ca, wa, fa, ga⟩ := c_take (D := D) (I := I) (J := J) hW hW4 hR hR4
  refine ⟨trivial, _, _, ca, trivial, _, _, c_drop, trivial, _, _, mj_mk (e183 rfl), trivial, _, _, mj_mk (e184 rfl), ?_⟩
  obtain ⟨Ib, hIb⟩ : ∃ Ib, Ib = mj_up (mj_up (mj_up (mj_up (mj_up Ia 38 0 (-1)) 38 1 0) 0 9 (-3)) 47 4 0) 53 0 0 := ⟨_, rfl⟩
  obtain ⟨Jb, hJb⟩ : ∃ Jb, Jb = mj_up (mj_up Ja 0 14 0) 0 15 0 := ⟨_, rfl⟩
  rw [← hIb, ← hJb]
  obtain ⟨Ic, Jc, cc, pc, fc, gc⟩ := c_pforget (D := D + 3) (I := Ib) (J := Jb)
  have eb : ∀ q, q ≠ 38 → q ≠ 0 → q ≠ 47 → q ≠ 53 → Ib q = Ia q := fun q h1 h2 h3 h4 => by rw [hIb, up_c h4, up_c h3, up_c h2, up_c h1, up_c h1]
  have e51 : Ic 51 = I 51 := by rw [fc 51 (by decide), eb 51 (by decide) (by decide) (by decide) (by decide), fa 51 (by decide) (by decide) (by decide) (by decide)]
  have e2 : Ic 2 = I 2 := by rw [fc 2 (by decide), eb 2 (by decide) (by decide) (by decide) (by decide), fa 2 (by decide) (by decide) (by decide) (by decide)]
  refine ⟨trivial, _, _, cc, vp_in_nI (n := 0) (by decide) (by decide), ?_⟩
  rw [e51, e2, show ((0 : Int32)).toNatClampNeg = 0 from rfl, hW, hg]
  obtain ⟨Id, cd, wd, fd⟩ := c_make (D := D + 1) (I := Ic) (J := Jc) hW4 hg2
  refine ⟨trivial, _, _, cd, ?_⟩
  have e1 : Id 1 0 = I 1 0 := by rw [fd 1 (by decide) (by decide), fc 1 (by decide), eb 1 (by decide) (by decide) (by decide) (by decide), fa 1 (by decide) (by decide) (by decide) (by decide)]
  rw [e1]
  have ed : ∀ q, q ≠ 38 → q ≠ 0 → q ≠ 47 → q ≠ 53 → q ≠ 60 → q ≠ 51 → q ≠ 52 → Id q = Ia q := fun q h1 h2 h3 h4 h5 h6 h7 => by rw [fd q h6 h7, fc q h5, eb q h1 h2 h3 h4]
  refine hQ _ _ ⟨rlW_cg wa (ed 4 (by decide) (by decide) (by decide) (by decide) (by decide) (by decide) (by decide)) (ed 5 (by decide) (by decide) (by decide) (by decide) (by decide) (by decide) (by decide)) (ed 6 (by decide) (by decide) (by decide) (by decide) (by decide) (by decide) (by decide)) (ed 24 (by decide) (by decide) (by decide) (by decide) (by decide) (by decide) (by decide)) (ed 25 (by decide) (by decide) (by decide) (by decide) (by decide) (by decide) (by decide)) (ed 26 (by decide) (by decide) (by decide) (by decide) (by decide) (by decide) (by decide)) (ed 27 (by decide) (by decide) (by decide) (by decide) (by decide) (by decide) (by decide)) (by rw [gc 24 (by decide), hJb, up_c (by decide), up_c (by decide)]), ?_, ?_, ?_, ?_, ?_, ?_, ?_, ?_, wd, ?_⟩
  · rw [fd 38 (by decide) (by decide), fc 38 (by decide), hIb]; simp [mj_up]
  · rw [fd 38 (by decide) (by decide), fc 38 (by decide), hIb]; simp [mj_up]; rfl
  · rw [fd 0 (by decide) (by decide), fc 0 (by decide), hIb]; simp [mj_up]
  · rw [fd 47 (by decide) (by decide), fc 47 (by decide), hIb]; simp [mj_up]; rfl
  · rw [gc 0 (by decide), hJb]; simp [mj_up]
  · rw [gc 0 (by decide), hJb]; simp [mj_up]
  · rw [fd 53 (by decide) (by decide), fc 53 (by decide), hIb]; simp [mj_up]; rfl
  · intro p hp
    rw [fd 60 (by decide) (by decide)]
    exact pc p hp
  · intro q j h1 h2 h3 h4 h5 h6 h7 h8 h9 h10 h11
    rw [fd q h7 h8, fc q h10, hIb, up_c h9, up_c h6, up_n (by omega), up_c h5, up_c h5, fa q h1 h2 h3 h4]
end S90
/-- behind the swap of the Tales -/
theorem s136_35 {cal : Nat → List Value → mj_H → mj_R → Prop} {Q : mj_R → Prop} {K : Nat → mj_K} {I0 : Nat → Nat → Int32} {J0 : Nat → Nat → Int64}
  (h : K 38 [(0, .ref 0)] [] (I0, J0, mj_up (mj_up mj_R1 11 3 1) 0 1 14)) :
    mj_go mj_S1 mt_136 cal Q K 35 [(0, .ref 0)] [.ref 14, .ref 0] (I0, J0, mj_up mj_R1 11 3 1) := h
theorem sw_sw (h : mj_H) : mj_swp (mj_swp h) = h := by
  obtain ⟨I, J, R⟩ := h
  unfold mj_swp
  simp only [mj_pm_pm]
theorem R1_row : ∀ q, q < 63 → (mj_RL1.getD q []).length ≤ 16 := by decide +kernel
theorem R1_s0 : ∀ q, q < 63 → ∀ k, k < 16 → mj_pm (mj_up (mj_up mj_R1 11 3 1) 0 1 14 (mj_pm q) k) = mj_R1 q k := by decide +kernel
theorem R1_far {q k : Nat} (h : 63 ≤ q ∨ 16 ≤ k) : mj_R1 q k = 0 := by
  unfold mj_R1 mj_tb
  rw [mj_nth_eq]
  cases e : mj_RL1[q]? with
  | none => rfl
  | some r =>
    have hq : q < 63 := (List.getElem?_eq_some_iff.mp e).1
    have hr : r.length ≤ 16 := by
      have := R1_row q hq
      rw [List.getD_eq_getElem?_getD, e] at this
      exact this
    show (match mj_nth r k with
      | some x => x
      | none => 0) = 0
    rw [mj_nth_eq, List.getElem?_eq_none (by omega)]
theorem R1_swp {I : Nat → Nat → Int32} {J : Nat → Nat → Int64} : mj_swp (I, J, mj_up (mj_up mj_R1 11 3 1) 0 1 14) = (fun q k => I (mj_pm q) k, fun q k => J (mj_pm q) k, mj_R1) := by
  have e : (fun q k => mj_pm (mj_up (mj_up mj_R1 11 3 1) 0 1 14 (mj_pm q) k)) = mj_R1 := by
    funext q k
    by_cases h : q < 63 ∧ k < 16
    · exact R1_s0 q h.1 k h.2
    · have hp : 63 ≤ mj_pm q ∨ 16 ≤ k := by
        by_cases h1 : q < 63
        · omega
        · left
          unfold mj_pm
          rw [if_neg (by omega), if_neg (by omega)]
          omega
      have h2 : 63 ≤ q ∨ 16 ≤ k := by omega
      rw [up_n (by omega), up_n (by omega), R1_far hp, R1_far h2]
      rfl
  unfold mj_swp
  rw [e]
/-- text() behind the swap, told by what it does to the heap with the Tales' numbers exchanged -/
theorem c_swap {D : Nat} {I : Nat → Nat → Int32} {J : Nat → Nat → Int64} {Q Q' : mj_R → Prop} (hQ : ∀ r, Q r → Q' (tv r.1, mj_swp r.2)) (h : E1 136 D Q 38 [(0, .ref 0)] (fun q k => I (mj_pm q) k) (fun q k => J (mj_pm q) k)) : mj_Ev mj_S1 (mj_CD 136) (mj_Cl mj_S1 mj_CD D) Q' 38 [(0, .ref 0)] [] (I, J, mj_up (mj_up mj_R1 11 3 1) 0 1 14) := by
  have h1 : mj_Ev mj_S1 (mj_CD 136) (mj_Cl mj_S1 mj_CD D) Q 38 [(0, .ref 0)] [] (mj_swp (I, J, mj_up (mj_up mj_R1 11 3 1) 0 1 14)) := by
    rw [R1_swp]
    exact h
  have h2 := eq_Ev (Q' := Q') (eq_Cl D) hQ h1
  rw [sw_sw] at h2
  exact h2
/-- a call's answer, an int, whatever it does to the references -/
def qA (P : Int32 → mj_H → Prop) : mj_R → Prop := fun x => ∃ r g, x = (.int r, g) ∧ P r g
theorem mj_cA {S : mj_S} {CD : Nat → mj_C} {D z : Nat} {as : List Value} {h : mj_H} {P : Int32 → mj_H → Prop}
    (hm : mj_if (Nat.ble (mj_sz as) (CD z).2.2) (mj_sg S (CD z) (mj_Cl S CD D) (qA P) (mj_Ev S (CD z) (mj_Cl S CD D) (qA P)) 100 0 (mj_a0 0 as) [] h)) : ∃ r g, mj_Cl S CD (D + 1) z as h (.int r, g) ∧ P r g := by
  obtain ⟨r, ⟨x, g, rfl, hP⟩, hr⟩ := mj_call hm
  exact ⟨x, g, hr, hP⟩
