/-! an object of which nothing has been asked yet -/
section S91
variable {D : Nat} {I : Nat → Nat → Int32} {J : Nat → Nat → Int64}
theorem c_clear : ∃ I' J', C1 (D + 1) 138 [.ref 14] I J .null I' J' ∧ I' 14 0 = nI 0 ∧ I' 14 9 = nI 0 ∧ (∀ j, j < 6 → I' 15 j = nI 0) ∧ (∀ q j, q ≠ 15 → (q ≠ 14 ∨ (j ≠ 0 ∧ j ≠ 9)) → I' q j = I q j) ∧ J' = J := by
  refine mj_cN (e138 ?_)
  have lp := lp_up (n := 6) (fun p => ∀ I0, I0 14 0 = nI 0 → I0 14 9 = nI 0 → (∀ j, j < p → I0 15 j = nI 0) → (∀ q j, q ≠ 15 → (q ≠ 14 ∨ (j ≠ 0 ∧ j ≠ 9)) → I0 q j = I q j) → E1 138 D (qN mj_R1 fun I' J' => I' 14 0 = nI 0 ∧ I' 14 9 = nI 0 ∧ (∀ j, j < 6 → I' 15 j = nI 0) ∧ (∀ q j, q ≠ 15 → (q ≠ 14 ∨ (j ≠ 0 ∧ j ≠ 9)) → I' q j = I q j) ∧ J' = J) 12 [(0, .ref 14), (1, .int (nI p))] I0 J) (fun p hp ih I0 h1 h2 h3 h4 => ?_) 0 (by omega) (mj_up (mj_up I 14 0 0) 14 9 0) (by simp [mj_up]; rfl) (by simp [mj_up]; rfl) (fun j hj => by omega) (fun q j h1 h2 => by rw [up_n (by omega), up_n (by omega)])
  · exact lp
  refine mj_on (s138_12 _ ?_)
  rw [show (6 : Int32) = nI 6 from rfl]
  refine if_le (by omega) (by omega) (fun c => ?_) (fun c => ?_)
  · obtain rfl : p = 6 := by omega
    exact ⟨_, _, rfl, h1, h2, h3, h4, rfl⟩
  · refine ⟨vp_in_nI c (by decide), ?_⟩
    rw [nI_clamp (by omega), nI_1]
    refine ih c _ (by rw [up_n (by omega)]; exact h1) (by rw [up_n (by omega)]; exact h2) (fun j hj => ?_) (fun q j g1 g2 => by rw [up_n (by omega)]; exact h4 q j g1 g2)
    by_cases e : j = p
    · subst e; exact up_s
    · rw [up_j e]; exact h3 j (by omega)
theorem c_adv0 (ht : I 11 5 = 0) (hl : I 11 2 = nI 0) (ha : I 11 4 = nI 0) : C1 (D + 2) 139 [.ref 11] I J .null (mj_up (mj_up (mj_up (mj_up I 11 8 (I 11 4)) 11 7 (-1)) 11 6 0) 11 5 0) J := by
  refine mj_mk (e139 ?_)
  rw [ht, if_neg (by decide), if_neg (by decide)]
  refine mj_on (s139_22 _ ?_)
  refine ⟨trivial, I, J, mj_mk (e140 ?_), ?_⟩
  · refine mj_on (s140_5 _ ?_)
    rw [hl, ha, if_pos (by decide)]
  · rw [hl, ha, if_neg (by decide)]
theorem c_read0 : ∃ r I' J', C1 (D + 4) 137 [.ref 11, .int (nI 0)] I J (.int r) I' J' ∧ r = 1 ∧ I' 14 0 = nI 0 ∧ (∀ j, j < 6 → I' 15 j = nI 0) ∧ (∀ q, q ≠ 11 → q ≠ 14 → q ≠ 15 → I' q = I q) := by
  refine mj_cI (e137 _ ?_)
  obtain ⟨Ia, Ja, ca, a1, a2, a3, a4, rfl⟩ := c_clear (D := D + 2) (I := mj_up I 11 2 (nI 0)) (J := J)
  refine ⟨trivial, _, _, ca, ?_⟩
  refine mj_on (s137_32 ?_)
  obtain ⟨Ib, hb⟩ : ∃ Ib, Ib = mj_up (mj_up (mj_up (mj_up (mj_up Ia 11 4 0) 11 5 0) 11 9 0) 11 10 0) 11 11 (-1) := ⟨_, rfl⟩
  rw [← hb]
  refine ⟨trivial, _, _, c_adv0 (by rw [hb]; simp [mj_up]) ?_ (by rw [hb]; simp [mj_up]; rfl), ?_⟩
  · rw [hb, up_n (by omega), up_n (by omega), up_n (by omega), up_n (by omega), up_n (by omega), a4 11 2 (by decide) (by decide), up_s]
  refine mj_on (s137_43 _ ?_)
  rw [if_neg (by decide), if_pos up_s]
  refine mj_on (s137_93 ?_)
  rw [if_pos (by rw [hb]; simp [mj_up])]
  refine ⟨Or.inr rfl, _, _, _, rfl, rfl, ?_, fun j hj => ?_, fun q q1 q2 q3 => ?_⟩
  · rw [up_c (by decide), up_c (by decide), up_c (by decide), up_c (by decide), hb, up_c (by decide), up_c (by decide), up_c (by decide), up_c (by decide), up_c (by decide)]; exact a1
  · rw [up_c (by decide), up_c (by decide), up_c (by decide), up_c (by decide), hb, up_c (by decide), up_c (by decide), up_c (by decide), up_c (by decide), up_c (by decide)]; exact a3 j hj
  · rw [up_c q1, up_c q1, up_c q1, up_c q1, hb, up_c q1, up_c q1, up_c q1, up_c q1, up_c q1]
    funext j
    rw [a4 q j q3 (Or.inl q2), up_c q1]
theorem c_text0 (h0 : I 0 0 = nI 0) (hg : I 51 0 = nI 4) : ∃ g, mj_Cl mj_S1 mj_CD 900 136 [.ref 0] (I, J, mj_R1) (.int 0, g) := by
  obtain ⟨r, g, hc, hr⟩ := mj_cA (S := mj_S1) (CD := mj_CD) (D := 899) (z := 136) (as := [.ref 0]) (h := (I, J, mj_R1)) (P := fun r _ => r = nI 0) (e136 (by
    obtain ⟨r, Ia, Ja, ca, rfl, a1, a2, a3⟩ := c_read0 (D := 895) (I := mj_up I 0 0 0) (J := J)
    rw [h0]
    refine ⟨trivial, _, _, _, ca, ?_⟩
    rw [if_neg (by decide)]
    refine ⟨trivial, 14, (Ia, Ja, mj_up mj_R1 11 3 1), mj_mk (e172 rfl), ?_⟩
    refine mj_on (s136_35 ?_)
    refine c_swap (Q := qI mj_R1 fun r _ _ => r = nI 0) (fun r hr => ?_) (c_tail (D := 895) (W := 0) (Rn := 0) (g := 4) ?_ (by decide) ?_ (by decide) ?_ (by decide) (fun I' J' hP => ⟨_, _, _, rfl, ?_⟩))
    · obtain ⟨x, I', J', rfl, hx⟩ := hr
      exact ⟨x, _, rfl, hx⟩
    · exact a2 0 (by decide)
    · exact a2 1 (by decide)
    · show Ia 51 0 = nI 4
      rw [a3 51 (by decide) (by decide) (by decide), up_c (by decide)]
      exact hg
    · exact a1))
  subst hr
  exact ⟨g, hc⟩
theorem r_next0 (ha : I 0 5 = nI 0) (hs : I 0 2 = nI 0) : C2 (D + 1) 13 [.ref 0] I J .null (mj_up (mj_up (mj_up I 0 4 (nI 0)) 0 5 (nI 0)) 0 3 0) J := by
  refine mj_mk (e13 ?_)
  refine mj_on (s13_5 _ ?_)
  rw [hs, ha, if_pos (by decide)]
  refine mj_on (s13_41 _ ?_)
  rw [hs, if_neg (by decide)]
theorem r_text0 (h1 : I 0 1 = nI 0) (hb : I 0 12 = nI 0) : ∃ I' J', C2 900 12 [.ref 0] I J (.int 0) I' J' := by
  obtain ⟨r, I', J', hc, hr⟩ := mj_cI (S := mj_S2) (CD := mj_CD) (D := 899) (z := 12) (as := [.ref 0]) (h := (I, J, mj_R2)) (R := mj_R2) (P := fun r _ _ => r = nI 0) (e12 (by
    rw [h1]
    obtain ⟨Ia, hIa⟩ : ∃ Ia, Ia = mj_up (mj_up (mj_up (mj_up I 0 2 (nI 0)) 0 1 0) 0 5 0) 0 8 0 := ⟨_, rfl⟩
    rw [← hIa]
    have a12 : Ia 0 12 = nI 0 := by rw [hIa, up_j (by decide), up_j (by decide), up_j (by decide), up_j (by decide)]; exact hb
    refine mj_on (s12_23 ?_)
    rw [a12, show (1 : Int32) - nI 0 = nI 1 from rfl, nI_clamp (by decide)]
    refine ⟨vp_in_nI (n := 1) (by decide) (by decide), vp_in_nI (n := 1) (by decide) (by decide), ?_⟩
    obtain ⟨Ib, hIb⟩ : ∃ Ib, Ib = mj_up (mj_up (mj_up (mj_up Ia 0 9 (-1)) 0 35 (nI 1)) 2 1 0) 3 1 0 := ⟨_, rfl⟩
    rw [← hIb]
    have b35 : Ib 0 35 = nI 1 := by rw [hIb, up_n (by omega), up_n (by omega), up_s]
    refine mj_on (s12_58 ?_)
    rw [b35, nI_clamp (by decide)]
    refine ⟨vp_in_nI (n := 1) (by decide) (by decide), vp_in_nI (n := 1) (by decide) (by decide), vp_in_nI (n := 1) (by decide) (by decide), vp_in_nI (n := 1) (by decide) (by decide), ?_⟩
    obtain ⟨Ic, hIc⟩ : ∃ Ic, Ic = mj_up (mj_up (mj_up (mj_up Ib 4 1 0) 5 1 0) 6 1 0) 7 1 0 := ⟨_, rfl⟩
    rw [← hIc]
    refine mj_on (s12_98 ?_)
    have c0 : ∀ j, j ≠ 9 → j ≠ 35 → mj_up Ic 0 34 0 0 j = if j = 34 then 0 else Ia 0 j := by
      intro j j1 j2
      by_cases e : j = 34
      · subst e; rw [if_pos rfl, up_s]
      · rw [if_neg e, up_j e, hIc, up_c (by decide), up_c (by decide), up_c (by decide), up_c (by decide), hIb, up_c (by decide), up_c (by decide), up_j j2, up_j j1]
    refine ⟨trivial, _, _, r_next0 (D := 898) ?_ ?_, ?_⟩
    · rw [c0 5 (by decide) (by decide), if_neg (by decide), hIa, up_j (by decide), up_s]; rfl
    · rw [c0 2 (by decide) (by decide), if_neg (by decide), hIa, up_j (by decide), up_j (by decide), up_j (by decide), up_s]
    refine mj_on (s12_109 _ ?_)
    have e8 : mj_up (mj_up (mj_up (mj_up Ic 0 34 0) 0 4 (nI 0)) 0 5 (nI 0)) 0 3 0 0 8 = 0 := by
      rw [up_j (by decide), up_j (by decide), up_j (by decide), c0 8 (by decide) (by decide), if_neg (by decide), hIa, up_s]
    rw [if_pos e8, if_pos up_s]
    exact r_tail e8 (fun I' J' _ => ⟨_, _, _, rfl, rfl⟩)))
  subst hr
  exact ⟨I', J', hc⟩
theorem Rl_0 : Rl 0 0 0 0 0 0 0 4 h1_I (fun _ _ => 0) h2_I (fun _ _ => 0) := by
  refine ⟨rfl, ⟨⟨rfl, rfl, rfl, rfl, rfl, rfl, rfl, rfl, rfl, rfl, rfl, rfl, by decide, by decide, by decide, by decide, by decide, by decide, by decide⟩, fun w h => by omega, fun w h => by omega, fun w h => by omega, fun w h => by omega, ⟨fun w h => by omega, fun w h => by omega, fun w h => by omega, fun w h => by omega⟩, fun w h => by omega⟩, ⟨rfl, fun j => ⟨0, by decide, rfl⟩, 0, by decide, rfl, rfl⟩, ⟨rfl, rfl⟩, ⟨rfl, rfl, fun r h => by omega, fun r h => by omega, rfl⟩, Or.inl ⟨rfl, rfl, rfl⟩, ⟨by decide, by decide, rfl, rfl, rfl, rfl, fun n r h => ?_⟩, ⟨0, by decide, rfl, rfl, fun i h => by omega⟩, ⟨0, by decide, rfl, rfl, fun i h => by omega⟩, fun p hp => ⟨rfl, fun w hw => ⟨0, by decide, rfl, fun _ => rfl⟩, Or.inl ⟨rfl, fun w hw => rfl⟩⟩, ⟨rfl, rfl⟩, ?_, Or.inl rfl⟩
  · exact absurd h (by simp [wl])
  · show ∀ n, n < 17 → rd_f 17 0 n = nI (nmC (owL.getD n []))
    decide +kernel
end S91
