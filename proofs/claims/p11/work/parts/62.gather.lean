/-! the reference gathers what agrees; could -/
theorem fbP_0 {n : Nat} {p : Nat → Prop} {v : Nat → Int32} {u : Nat} : fbP n p v 0 u ↔ p u ∧ ∀ o, o < n → p o → v u ≤ v o := by
  unfold fbP
  refine and_congr_right fun _ => forall_congr' fun o => forall_congr' fun _ => forall_congr' fun _ => ?_
  rw [Int.add_zero, Int32.le_iff_toInt_le]
section S62
variable {D b W Rn Kn Tn Hn Un g : Nat} {I I1 I2 : Nat → Nat → Int32} {J J1 J2 : Nat → Nat → Int64}
/-- what lies in the reference's rows of what agrees -/
def gaP (I1 : Nat → Nat → Int32) (J1 : Nat → Nat → Int64) (W Rn : Nat) (A : List (List Nat)) (I : Nat → Nat → Int32) (J : Nat → Nat → Int64) : Prop :=
  I 0 71 = nI A.length ∧ ∀ k r, A[k]? = some r → J 46 k = fb I1 J1 W Rn 0 r ∧ ∀ u, u < Rn → lbit (J1 24 6) u → I 45 (40 * k + u) = rwo I1 W r u
theorem r_gather (h : Rl b W Rn Kn Tn Hn Un g I1 J1 I2 J2) {S : Nat} (hS : I1 53 0 = nI S) (hS2 : S ≤ 12) : ∃ I' J', C2 (D + 7) 112 [.ref 0] I2 J2 .null I' J' ∧ k2 I' = k2 I2 ∧ kJ2 J' = kJ2 J2 ∧ gaP I1 J1 W Rn (fl (sAg I1 J1 W S) (wl W g)) I' J' := by
  have hB := h.rB
  obtain ⟨b1, b2, b3, b4, b5, b6⟩ := id hB
  obtain ⟨hG, -⟩ := h.G
  have hN : wnum g W ≤ 2197 := wnum_le hG.2 b4
  obtain ⟨P, hP⟩ : ∃ P, P = sAg I1 J1 W S := ⟨_, rfl⟩
  have hlen : (fl P (wl W g)).length ≤ 455 := Nat.le_trans fl_len (wl_ok hG.2 b4).2.1
  have hpre : ∀ x, x ≤ wnum g W → ∃ t, wpre g W x ++ t = wl W g := fun x hx => by
    have e := (wl_ok hG.2 b4).1
    refine ⟨(List.range' x (wnum g W - x)).filterMap (wval g W), ?_⟩
    unfold wpre
    rw [← List.filterMap_append, ← e]
    congr 1
    rw [List.range_eq_range', List.range_eq_range']
    have := List.range'_append_1 (s := 0) (m := x) (n := wnum g W - x)
    rw [Nat.zero_add] at this
    rw [this]
    congr 1
    omega
  rw [← hP]
  refine mj_cN (e112 ?_)
  obtain ⟨Q, hQ⟩ : ∃ Q, Q = qN mj_R2 (fun I' J' => k2 I' = k2 I2 ∧ kJ2 J' = kJ2 J2 ∧ gaP I1 J1 W Rn (fl P (wl W g)) I' J') := ⟨_, rfl⟩
  rw [← hQ]
  refine ⟨trivial, _, _, _, h.rfront, ?_⟩
  -- the rows of one that agrees
  have inner : ∀ (r : List Nat) (A : List (List Nat)) (x : Nat) (J0 : Nat → Nat → Int64), r ∈ wl W g → A.length < 455 →
      (∀ I' J', k2 I' = k2 I2 → kJ2 J' = kJ2 J2 → gaP I1 J1 W Rn (A ++ [r]) I' J' → E2 112 (D + 6) Q 12 [(0, .ref 0), (1, .long (J1 24 6)), (3, .int (nI (x + 1)))] I' J') →
      kJ2 J0 = kJ2 J2 → ∀ i, i ≤ Rn → ∀ (I0 : Nat → Nat → Int32) (x4 : Int32) (x5 : Int64), k2 I0 = k2 I2 → gaP I1 J1 W Rn A I0 J0 → wgh I0 W r → (∀ u, u < i → lbit (J1 24 6) u → I0 45 (40 * A.length + u) = rwo I1 W r u) →
      x5 = bs i (fun u => lbit (J1 24 6) u ∧ ∀ o, o < i → lbit (J1 24 6) o → rwo I1 W r u ≤ rwo I1 W r o) → ((x5 = 0 ∧ ∀ o, o < i → ¬ lbit (J1 24 6) o) ∨ (x5 ≠ 0 ∧ ∃ o, o < i ∧ lbit (J1 24 6) o ∧ x4 = rwo I1 W r o ∧ ∀ p, p < i → lbit (J1 24 6) p → rwo I1 W r o ≤ rwo I1 W r p)) →
      E2 112 (D + 6) Q 47 [(0, .ref 0), (1, .long (J1 24 6)), (3, .int (nI x)), (4, .int x4), (5, .long x5), (7, .int (nI i))] I0 J0 := by
    intro r A x J0 hrm hA K hJ0
    refine lp_up (n := Rn) (fun i => ∀ (I0 : Nat → Nat → Int32) (x4 : Int32) (x5 : Int64), k2 I0 = k2 I2 → gaP I1 J1 W Rn A I0 J0 → wgh I0 W r → (∀ u, u < i → lbit (J1 24 6) u → I0 45 (40 * A.length + u) = rwo I1 W r u) →
      x5 = bs i (fun u => lbit (J1 24 6) u ∧ ∀ o, o < i → lbit (J1 24 6) o → rwo I1 W r u ≤ rwo I1 W r o) → ((x5 = 0 ∧ ∀ o, o < i → ¬ lbit (J1 24 6) o) ∨ (x5 ≠ 0 ∧ ∃ o, o < i ∧ lbit (J1 24 6) o ∧ x4 = rwo I1 W r o ∧ ∀ p, p < i → lbit (J1 24 6) p → rwo I1 W r o ≤ rwo I1 W r p)) →
      E2 112 (D + 6) Q 47 [(0, .ref 0), (1, .long (J1 24 6)), (3, .int (nI x)), (4, .int x4), (5, .long x5), (7, .int (nI i))] I0 J0) (fun i hi ih I0 x4 x5 hk hg hw hr h5 hc => ?_)
    have hBI := rB_k hB hk
    refine mj_on (s112_47 _ _ _ _ _ ?_)
    rw [hBI.1, nI_clamp (by omega), hBI.2.2.2.2.1, hg.1, nI_1, nI_clamp (by omega)]
    refine ⟨vp_in_nI b2 (by decide), if_le (by omega) (by omega) (fun c => ⟨vp_in_nI (by omega) (by decide), ?_⟩) (fun c => ?_)⟩
    · obtain rfl : i = Rn := by omega
      rw [nI_1]
      refine K _ _ ?_ ?_ ⟨?_, fun k r' hr' => ?_⟩
      · rw [k2_up rfl]; exact hk
      · rw [kJ2_up rfl]; exact hJ0
      · rw [up_s, List.length_append]; rfl
      · by_cases e : k < A.length
        · rw [List.getElem?_append_left e] at hr'
          obtain ⟨q1, q2⟩ := hg.2 k r' hr'
          refine ⟨by rw [up_j (by omega)]; exact q1, fun u hu hb => by rw [up_c (by decide)]; exact q2 u hu hb⟩
        · have hk2 : k = A.length ∧ r' = r := by
            rw [List.getElem?_append_right (by omega)] at hr'
            cases hz : k - A.length with
            | zero => rw [hz] at hr'; cases hr'; exact ⟨by omega, rfl⟩
            | succ z => rw [hz] at hr'; cases hr'
          obtain ⟨rfl, rfl⟩ := hk2
          refine ⟨?_, fun u hu hb => by rw [up_c (by decide)]; exact hr u hu hb⟩
          rw [up_s, h5]
          exact bs_iff fun u hu => fbP_0.symm
    -- one more row
    have fin : ∀ (I0' : Nat → Nat → Int32) (y4 : Int32) (y5 : Int64), k2 I0' = k2 I2 → gaP I1 J1 W Rn A I0' J0 → wgh I0' W r → (∀ u, u < i + 1 → lbit (J1 24 6) u → I0' 45 (40 * A.length + u) = rwo I1 W r u) → y5 = bs (i + 1) (fun u => lbit (J1 24 6) u ∧ ∀ o, o < i + 1 → lbit (J1 24 6) o → rwo I1 W r u ≤ rwo I1 W r o) → ((y5 = 0 ∧ ∀ o, o < i + 1 → ¬ lbit (J1 24 6) o) ∨ (y5 ≠ 0 ∧ ∃ o, o < i + 1 ∧ lbit (J1 24 6) o ∧ y4 = rwo I1 W r o ∧ ∀ p, p < i + 1 → lbit (J1 24 6) p → rwo I1 W r o ≤ rwo I1 W r p)) →
        E2 112 (D + 6) Q 141 [(0, .ref 0), (1, .long (J1 24 6)), (3, .int (nI x)), (4, .int y4), (5, .long y5), (7, .int (nI i))] I0' J0 := fun I0' y4 y5 q1 q2 q3 q4 q5 q6 => by
      refine mj_on (s112_141 _ _ _ _ _ ?_)
      rw [nI_1]
      exact ih c I0' y4 y5 q1 q2 q3 q4 q5 q6
    refine if_i (fun f => ?_) (fun f => ?_)
    · have f := (sb_0 (by omega)).mp f
      refine fin I0 x4 x5 hk hg hw (fun u hu hb => ?_) ?_ ?_
      · by_cases e : u = i
        · rw [e] at hb; exact absurd hb f
        · exact hr u (by omega) hb
      · rw [bs_f0 (n := i) (fun q => f q.1), h5]
        exact bs_iff fun u hu => and_congr_right fun _ => ⟨fun q o ho hb => by
          by_cases e : o = i
          · rw [e] at hb; exact absurd hb f
          · exact q o (by omega) hb, fun q o ho hb => q o (by omega) hb⟩
      · rcases hc with ⟨q1, q2⟩ | ⟨q1, o, q2, q3, q4, q5⟩
        · exact Or.inl ⟨q1, fun o ho => by
            by_cases e : o = i
            · rw [e]; exact f
            · exact q2 o (by omega)⟩
        · refine Or.inr ⟨q1, o, by omega, q3, q4, fun p hp hb => ?_⟩
          by_cases e : p = i
          · rw [e] at hb; exact absurd hb f
          · exact q5 p (by omega) hb
    · have f : lbit (J1 24 6) i := Classical.byContradiction fun q => f ((sb_0 (by omega)).mpr q)
      refine ⟨trivial, _, _, _, r_rowWorth h hk c hw, ?_⟩
      rw [hg.1, show (40 : Int32) * nI A.length + nI i = nI (40 * A.length + i) from ix40 _ _, nI_clamp (by omega)]
      obtain ⟨Ia, hIa⟩ : ∃ Ia, Ia = mj_up I0 45 (40 * A.length + i) (rwo I1 W r i) := ⟨_, rfl⟩
      rw [← hIa]
      have a1 : k2 Ia = k2 I2 := by rw [hIa, k2_up rfl]; exact hk
      have a2 : gaP I1 J1 W Rn A Ia J0 := by
        refine ⟨by rw [hIa, up_c (by decide)]; exact hg.1, fun k r' hr' => ⟨(hg.2 k r' hr').1, fun u hu hb => ?_⟩⟩
        have hkl := (List.getElem?_eq_some_iff.mp hr').1
        rw [hIa, up_j (by omega)]
        exact (hg.2 k r' hr').2 u hu hb
      have a3 : wgh Ia W r := fun w hw2 => by rw [hIa, up_c (by decide)]; exact hw w hw2
      have a4 : ∀ u, u < i + 1 → lbit (J1 24 6) u → Ia 45 (40 * A.length + u) = rwo I1 W r u := fun u hu hb => by
        rw [hIa]
        by_cases e : u = i
        · rw [e, up_s]
        · rw [up_j (by omega)]; exact hr u (by omega) hb
      -- with a least one y4 and the bits y5 of those before that are as little
      have bit : ∀ (y4 : Int32) (y5 : Int64), (∃ o, o < i + 1 ∧ lbit (J1 24 6) o ∧ y4 = rwo I1 W r o ∧ ∀ p, p < i + 1 → lbit (J1 24 6) p → rwo I1 W r o ≤ rwo I1 W r p) → y5 = bs i (fun u => lbit (J1 24 6) u ∧ ∀ o, o < i + 1 → lbit (J1 24 6) o → rwo I1 W r u ≤ rwo I1 W r o) →
          E2 112 (D + 6) Q 121 [(0, .ref 0), (1, .long (J1 24 6)), (3, .int (nI x)), (4, .int y4), (5, .long y5), (7, .int (nI i)), (8, .int (rwo I1 W r i))] Ia J0 := by
        rintro y4 y5 ⟨o, o1, o2, o3, o4⟩ hy5
        have nz : ∀ {z : Int64}, z = bs (i + 1) (fun u => lbit (J1 24 6) u ∧ ∀ o, o < i + 1 → lbit (J1 24 6) o → rwo I1 W r u ≤ rwo I1 W r o) → z ≠ 0 := fun {z} ez e0 => by
          have hb := (bs_bit (p := fun u => lbit (J1 24 6) u ∧ ∀ o, o < i + 1 → lbit (J1 24 6) o → rwo I1 W r u ≤ rwo I1 W r o) (n := i + 1) (by omega) o).mpr ⟨o1, o2, fun p hp hb => o4 p hp hb⟩
          rw [← ez, e0] at hb
          revert hb
          simp
        refine mj_on (s112_121 _ _ _ _ _ _ ?_)
        refine if_i (fun e => ?_) (fun e => ?_)
        · have hm : lbit (J1 24 6) i ∧ ∀ o, o < i + 1 → lbit (J1 24 6) o → rwo I1 W r i ≤ rwo I1 W r o := ⟨f, fun p hp hb => by rw [e, o3]; exact o4 p hp hb⟩
          have ey : y5 ||| ((1 : Int64) <<< ((nI i).toInt64 &&& 63)) = bs (i + 1) (fun u => lbit (J1 24 6) u ∧ ∀ o, o < i + 1 → lbit (J1 24 6) o → rwo I1 W r u ≤ rwo I1 W r o) := by rw [bs_t (n := i) hm, hy5]
          exact fin Ia y4 _ a1 a2 a3 a4 ey (Or.inr ⟨nz ey, o, o1, o2, o3, o4⟩)
        · have hm : ¬ (lbit (J1 24 6) i ∧ ∀ o, o < i + 1 → lbit (J1 24 6) o → rwo I1 W r i ≤ rwo I1 W r o) := fun q => e (by
            rw [o3]
            exact Int32.le_antisymm (q.2 o o1 o2) (o4 i (by omega) f))
          have ey : y5 ||| (0 : Int64) = bs (i + 1) (fun u => lbit (J1 24 6) u ∧ ∀ o, o < i + 1 → lbit (J1 24 6) o → rwo I1 W r u ≤ rwo I1 W r o) := by rw [bs_f (n := i) hm, hy5]
          exact fin Ia y4 _ a1 a2 a3 a4 ey (Or.inr ⟨nz ey, o, o1, o2, o3, o4⟩)
      refine ⟨vp_in_nI (by omega) (by decide), ?_⟩
      rcases hc with ⟨q1, q2⟩ | ⟨q1, o, q2, q3, q4, q5⟩
      · rw [if_pos (cmp0.mpr q1)]
        refine bit _ _ ⟨i, by omega, f, rfl, fun p hp hb => ?_⟩ ?_
        · by_cases e : p = i
          · rw [e]; exact Int32.le_refl _
          · exact absurd hb (q2 p (by omega))
        · rw [bs_0 fun u hu q => q2 u hu q.1]
      · rw [if_neg (fun z => q1 (cmp0.mp z))]
        refine if_i (fun d => ?_) (fun d => ?_)
        · refine bit _ _ ⟨o, by omega, q3, q4, fun p hp hb => ?_⟩ ?_
          · by_cases e : p = i
            · rw [e, ← q4]; exact d
            · exact q5 p (by omega) hb
          · rw [h5]
            refine bs_iff fun u hu => and_congr_right fun hb => ⟨fun q p hp hb2 => ?_, fun q p hp hb2 => q p (by omega) hb2⟩
            by_cases e : p = i
            · rw [e]; rw [q4] at d; exact Int32.le_trans (q o q2 q3) d
            · exact q p (by omega) hb2
        · have d := Int32.not_le.mp d
          refine bit _ _ ⟨i, by omega, f, rfl, fun p hp hb => ?_⟩ ?_
          · by_cases e : p = i
            · rw [e]; exact Int32.le_refl _
            · rw [q4] at d
              exact Int32.le_trans (Int32.le_of_lt d) (q5 p (by omega) hb)
          · rw [bs_0]
            intro u hu q
            have h1 := q.2 i (by omega) f
            have h2 := q5 u hu q.1
            rw [q4] at d
            exact absurd (Int32.le_trans h2 h1) (Int32.not_le.mpr d)
  have outer := lp_up (n := wnum g W) (fun x => ∀ I0 J0, k2 I0 = k2 I2 → kJ2 J0 = kJ2 J2 → gaP I1 J1 W Rn (fl P (wpre g W x)) I0 J0 → E2 112 (D + 6) Q 12 [(0, .ref 0), (1, .long (J1 24 6)), (3, .int (nI x))] I0 J0) (fun x hx ih I0 J0 hk hj hg => ?_) 0 (Nat.zero_le _) (mj_up I2 0 71 0) J2 (k2_up rfl) rfl ⟨up_s, fun k r hr => by cases hr⟩
  · exact outer
  refine mj_on (s112_12 _ _ ?_)
  rw [nI_1]
  refine ⟨trivial, _, _, _, r_numbers (rB_k hB hk) (rG_k hG hk), if_le (by omega) (by omega) (fun c => ?_) (fun c => ?_)⟩
  · obtain rfl : x = wnum g W := by omega
    rw [hQ]
    refine ⟨_, _, rfl, hk, hj, ?_⟩
    unfold wpre at hg
    rw [(wl_ok hG.2 b4).1] at hg
    exact hg
  · have hW1 : 1 ≤ W := by
      rcases Nat.eq_zero_or_pos W with q | q
      · rw [q] at c; exact absurd c (Nat.not_lt_zero _)
      · exact q
    obtain ⟨I', hc, q1, q2⟩ := r_isWeighing (D := D + 5) (J := J0) (rB_k hB hk) (rG_k hG hk) hW1 (show x < 2197 by omega)
    have hk' : k2 I' = k2 I2 := (k2_40 q1).trans hk
    have hg' : gaP I1 J1 W Rn (fl P (wpre g W x)) I' J0 := by
      refine ⟨by rw [q1 0 (by decide)]; exact hg.1, fun k r hr => ⟨(hg.2 k r hr).1, fun u hu hb => by rw [q1 45 (by decide)]; exact (hg.2 k r hr).2 u hu hb⟩⟩
    refine ⟨trivial, _, _, _, hc, if_tf (fun d => ?_) (fun d => ?_)⟩
    · obtain ⟨r, hr⟩ := Option.ne_none_iff_exists'.mp d
      have ih := ih c
      rw [wpre_t hr] at ih
      obtain ⟨t, ht⟩ := hpre (x + 1) (by omega)
      rw [wpre_t hr] at ht
      have hrm : r ∈ wl W g := by rw [← ht]; simp
      refine ⟨trivial, _, _, _, r_agrees h hk' hS hS2 (q2 r hr), if_tf (fun f => ?_) (fun f => ?_)⟩
      · rw [← hP] at f
        rw [fl_t f] at ih
        have hl : (fl P (wpre g W x)).length < 455 := by
          have h1 : (fl P (wpre g W x ++ [r])).length ≤ (fl P (wl W g)).length := by
            rw [← ht]
            unfold fl
            rw [List.filter_append (wpre g W x ++ [r])]
            rw [List.length_append]
            omega
          rw [fl_t f, List.length_append] at h1
          have : ([r] : List (List Nat)).length = 1 := rfl
          omega
        exact inner r (fl P (wpre g W x)) x J0 hrm hl (fun I3 J3 z1 z2 z3 => ih I3 J3 z1 z2 z3) hj 0 (Nat.zero_le _) I' 0 0 hk' hg' (q2 r hr) (fun u hu => absurd hu (Nat.not_lt_zero u)) rfl (Or.inl ⟨rfl, fun o ho => absurd ho (Nat.not_lt_zero o)⟩)
      · rw [← hP] at f
        rw [fl_f f] at ih
        exact ih I' J0 hk' hj hg'
    · have d : wval g W x = none := Classical.byContradiction fun q => d q
      have ih := ih c
      rw [wpre_f d] at ih
      exact ih I' J0 hk' hj hg'
theorem al_could (h : Rl b W Rn Kn Tn Hn Un g I1 J1 I2 J2) : AJ 262 111 [] I1 J1 I2 J2 (Rl b W Rn Kn Tn Hn Un g) := by
  obtain ⟨S, s1, s2, -, -⟩ := h.S
  obtain ⟨hG, g1, g2, g3, g4, g5⟩ := h.G
  obtain ⟨P, hP⟩ : ∃ P, P = sAg I1 J1 W S := ⟨_, rfl⟩
  obtain ⟨f, hf⟩ : ∃ f, f = fb I1 J1 W Rn 0 := ⟨_, rfl⟩
  obtain ⟨v, hv⟩ : ∃ v, v = lor f (fl P (wl W g)) := ⟨_, rfl⟩
  have cl : ∃ r I1' J1', C1 900 262 [.ref 0] I1 J1 (.long r) I1' J1' ∧ (r = v ∧ k1 I1' = k1 I1 ∧ J1' = J1) := by
    refine mj_cL (D := 899) (e262 ?_)
    refine lp_up (n := (wl W g).length) (fun n => ∀ I, k1 I = k1 I1 → E1 262 899 (qL mj_R1 (fun r I' J' => r = v ∧ k1 I' = k1 I1 ∧ J' = J1)) 4 [(0, .ref 0), (1, .long (lor f (fl P ((wl W g).take n)))), (3, .int (nI n))] I J1) (fun n hn ih I hI => ?_) 0 (Nat.zero_le _) I1 rfl
    refine mj_on (s262_4 _ _ ?_)
    rw [k1_at hI (q := 51) (j := 2) rfl, g4, nI_1]
    refine if_le (by omega) (by omega) (fun c => ?_) (fun c => ?_)
    · rw [tk_e c]
      exact ⟨_, _, _, rfl, hv.symm, hI, rfl⟩
    · obtain ⟨r, hr, -, -⟩ := gt_of c
      have hs := ih c
      rw [tk_s hr] at hs
      refine ⟨trivial, _, _, _, c_isAg h s2 s1 hI hr, if_tf (fun d => ?_) (fun d => ?_)⟩
      · rw [← hP] at d
        rw [fl_t d, lor_s] at hs
        obtain ⟨I', hc, q1, q2⟩ := c_firstBy (D := 897) h (d := 0) hI hr (by omega)
        refine ⟨trivial, _, _, _, hc, ?_⟩
        rw [hf] at hs ⊢
        exact hs I' ((k1_28 q1).trans hI)
      · rw [← hP] at d
        rw [fl_f d] at hs
        exact hs I hI
  have rf : ∃ r I2' J2', C2 900 111 [.ref 0] I2 J2 (.long r) I2' J2' ∧ (r = v ∧ k2 I2' = k2 I2 ∧ kJ2 J2' = kJ2 J2) := by
    obtain ⟨I', J', hc, q1, q2, q3, q4⟩ := r_gather (D := 892) h s2 s1
    rw [← hP] at q3 q4
    refine mj_cL (D := 899) (e111 ?_)
    refine ⟨trivial, _, _, hc, ?_⟩
    have hl : (fl P (wl W g)).length ≤ 455 := Nat.le_trans fl_len g5
    refine lp_up (n := (fl P (wl W g)).length) (fun n => E2 111 899 (qL mj_R2 (fun r I' J' => r = v ∧ k2 I' = k2 I2 ∧ kJ2 J' = kJ2 J2)) 8 [(0, .ref 0), (1, .long (lor f ((fl P (wl W g)).take n))), (3, .int (nI n))] I' J') (fun n hn ih => ?_) 0 (Nat.zero_le _)
    refine mj_on (s111_8 _ _ ?_)
    rw [q3, nI_1, nI_clamp (by omega)]
    refine if_le (by omega) (by omega) (fun c => ?_) (fun c => ⟨vp_in_nI (by omega) (by decide), ?_⟩)
    · rw [tk_e c]
      exact ⟨_, _, _, rfl, hv.symm, q1, q2⟩
    · obtain ⟨r, hr, -, -⟩ := gt_of c
      have hs := ih c
      rw [tk_s hr, lor_s] at hs
      rw [(q4 n r hr).1, ← hf]
      exact hs
  obtain ⟨r, I1', J1', hc, rfl, p1, rfl⟩ := cl
  obtain ⟨r, I2', J2', hc2, rfl, p2, p3⟩ := rf
  exact ⟨_, _, _, _, _, hc, hc2, Rl_same h p1 rfl p2 p3⟩
end S62
