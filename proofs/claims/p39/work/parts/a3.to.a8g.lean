section
/-! one token on both sides, or a fault on both -/
def tkr (t : Nat) : Nat := if t = 0 then 0 else 4 - t
def tkS (n : Nat) (x : Nat → Nat) (p a t v : Nat) (l : List Nat) (o : Int) (I1 I2 : Nat → Nat → Int32) (J2 : Nat → Nat → Int64) : Prop :=
  (t = 0 ∧ p = n ∧ a = n ∧ o = -1) ∨
  (t = 1 ∧ p < n ∧ a = p + 1 ∧ lxk (x p) = 1 ∧ v = x p ∧ v < 256 ∧ I1 11 6 = nI v ∧ I2 0 6 = nI v ∧ o = -1) ∨
  (t = 2 ∧ p < a ∧ a ≤ n ∧ lxk (x (a - 1)) = 2 ∧ v ≤ 9999 ∧ I1 11 6 = nI v ∧ I2 0 6 = nI v ∧ o = -1) ∨
  (t = 3 ∧ p + l.length ≤ a ∧ a ≤ n ∧ lxk (x (a - 1)) = 3 ∧ lxl l ∧ I1 11 6 = nI (nmC l) ∧ J2 0 7 = lN (nmR l) ∧ lxo l o)
def tkR (n : Nat) (x : Nat → Nat) (p a t v : Nat) (l : List Nat) (o : Int) (I1 I2 : Nat → Nat → Int32) (J2 : Nat → Nat → Int64) : Prop :=
  lxt n x I1 13 ∧ lxt n x I2 1 ∧ rlO I1 ∧ I1 11 2 = nI n ∧ I2 0 2 = nI n ∧ I1 11 8 = nI p ∧ I2 0 4 = nI p ∧ I1 11 4 = nI a ∧ I2 0 5 = nI a ∧ I1 11 5 = nI t ∧ I2 0 3 = nI (tkr t) ∧ I1 11 7 = iI o ∧ (I1 11 10 = 0 ∧ I1 11 11 = -1) ∧ I2 0 8 = 0 ∧ I2 0 9 = -1 ∧ p ≤ n ∧ tkS n x p a t v l o I1 I2 J2
/-- a fault: k at p, on both sides (the class may have to tell it yet) -/
def tkD (k p : Nat) (I1 I2 : Nat → Nat → Int32) : Prop := 1 ≤ k ∧ k ≤ 6 ∧ p ≤ 900 ∧ I1 11 5 = nI 4 ∧ I1 11 7 = -1 ∧ ((I1 11 10 = 0 ∧ k = 1 ∧ I1 11 8 = nI p) ∨ (I1 11 10 = nI k ∧ I1 11 11 = nI p)) ∧ I2 0 8 = nI k ∧ I2 0 9 = nI p
/-- the class' flag and the reference's look back say the same -/
def tkA (n : Nat) (x : Nat → Nat) (a t : Nat) : Prop := ∀ p, lxs n x a p → p < n → (((t = 2 ∨ t = 3) ∧ p = a) ↔ (0 < p ∧ lxk (x (p - 1)) ≠ 1))
theorem lxb_1 {y : Nat} (h : lxb y) : lxk y = 1 := by
  rcases h with rfl | rfl <;> decide
theorem tkA_0 {n t : Nat} {x : Nat → Nat} (ht : t ≠ 2 ∧ t ≠ 3) : tkA n x 0 t := fun p hs hp => by
  constructor
  · rintro ⟨q, -⟩; omega
  · rintro ⟨q1, q2⟩
    exact absurd (lxb_1 (hs.2.2.1 (p - 1) (by omega) (by omega))) q2
section Sa3
variable {D D' n a p t v : Nat} {x : Nat → Nat} {l : List Nat} {o : Int} {I1 I2 : Nat → Nat → Int32} {J1 J2 : Nat → Nat → Int64}
theorem tkR_A (h : tkR n x p a t v l o I1 I2 J2) (h0 : t ≠ 0) : tkA n x a t := fun q hs hq => by
  have hS := h.2.2.2.2.2.2.2.2.2.2.2.2.2.2.2.2
  have back : a < q → lxk (x (q - 1)) = 1 := fun z => lxb_1 (hs.2.2.1 (q - 1) (by omega) (by omega))
  have haq := hs.1
  rcases hS with ⟨q1, -⟩ | ⟨q1, q2, q3, q4, -⟩ | ⟨q1, q2, q3, q4, -⟩ | ⟨q1, q2, q3, q4, ⟨q5, -⟩, -⟩
  · exact absurd q1 h0
  · constructor
    · rintro ⟨z, -⟩; omega
    · rintro ⟨z1, z2⟩
      by_cases e : a < q
      · exact absurd (back e) z2
      · rw [show q - 1 = p by omega] at z2
        exact absurd q4 z2
  · constructor
    · rintro ⟨-, rfl⟩
      exact ⟨by omega, by rw [q4]; decide⟩
    · rintro ⟨z1, z2⟩
      by_cases e : a < q
      · exact absurd (back e) z2
      · exact ⟨Or.inl q1, by omega⟩
  · constructor
    · rintro ⟨-, rfl⟩
      exact ⟨by omega, by rw [q4]; decide⟩
    · rintro ⟨z1, z2⟩
      by_cases e : a < q
      · exact absurd (back e) z2
      · exact ⟨Or.inr q1, by omega⟩
theorem adv_both (h1 : lxt n x I1 13) (h2 : lxt n x I2 1) (hO : rlO I1) (c2 : I1 11 2 = nI n) (r2 : I2 0 2 = nI n) (c4 : I1 11 4 = nI a) (r5 : I2 0 5 = nI a) (c5 : I1 11 5 = nI t) (ht : t ≤ 4) (w0 : I1 11 10 = 0 ∧ I1 11 11 = -1) (r8 : I2 0 8 = 0) (r9 : I2 0 9 = -1) (han : a ≤ n) (hadj : tkA n x a t) :
    ∃ I1' J1' I2' J2', C1 (D + 3) 139 [.ref 11] I1 J1 .null I1' J1' ∧ C2 (D' + 2) 13 [.ref 0] I2 J2 .null I2' J2' ∧ J1' = J1 ∧ lxf I1 I1' ∧ lxg I2 I2' ∧ lxgJ J2 J2' ∧ ((∃ p a' t' v l o, tkR n x p a' t' v l o I1' I2' J2' ∧ a ≤ p) ∨ ∃ p, tkD 1 p I1' I2') := by
  have hn := h1.1
  have im1 : (-1 : Int32) = iI (-1) := by decide
  obtain ⟨p, hs⟩ := lxs_ex (n := n) (x := x) (n - a) a (by omega)
  have hap := hs.1
  have hpn := hs.2.1
  have keep : ∀ {I1' I2'}, lxf I1 I1' → lxg I2 I2' → lxt n x I1' 13 ∧ lxt n x I2' 1 ∧ rlO I1' ∧ I1' 11 2 = nI n ∧ I2' 0 2 = nI n ∧ (I1' 11 10 = 0 ∧ I1' 11 11 = -1) := fun {I1' I2'} f g => ⟨⟨hn, fun j hj => by rw [f 13 j (Or.inl (by decide))]; exact h1.2 j hj⟩, ⟨hn, fun j hj => by rw [g 1 j (Or.inl (by decide))]; exact h2.2 j hj⟩, fun z hz => by rw [f 12 z (Or.inl (by decide))]; exact hO z hz, by rw [f 11 2 (by decide)]; exact c2, by rw [g 0 2 (by decide)]; exact r2, by rw [f 11 10 (by decide)]; exact w0.1, by rw [f 11 11 (by decide)]; exact w0.2⟩
  by_cases e : p = n
  · subst e
    obtain ⟨I1', J1', k1, k2, k3, k4, k5, k6, k7⟩ := c_advE (D := D) (J := J1) h1 c2 c4 hs
    obtain ⟨I2', J2', m1, m2, m3, m4, m5, m6, m7, m8⟩ := r_nxtE (D := D' + 1) (J := J2) h2 r2 r5 hs
    obtain ⟨g1, g2, g3, g4, g5, g6⟩ := keep k3 m2
    exact ⟨I1', J1', I2', J2', k1, m1, k2, k3, m2, fun q j _ => by rw [m3], Or.inl ⟨p, p, 0, 0, [], -1, ⟨g1, g2, g3, g4, g5, k7, m5, k4, m4, k5, m6, k6.trans im1, g6, by rw [m7]; exact r8, by rw [m8]; exact r9, Nat.le_refl _, Or.inl ⟨rfl, rfl, rfl, rfl⟩⟩, hap⟩⟩
  have hp : p < n := by omega
  obtain ⟨m, hr⟩ := lxr_ex (n := n) (x := x) (lxk (x p)) (n - p) p (by omega)
  obtain ⟨I1', J1', k1, k2, k3, k4, k5, k6, k7⟩ := c_advT (D := D) (J := J1) h1 hO c2 c4 c5 ht hs hp hr
  obtain ⟨I2', J2', m1, m2, m3, m4, m5, m6, m7⟩ := r_nxtT (D := D') (J := J2) h2 r2 r5 r8 hs hp hr
  obtain ⟨g1, g2, g3, g4, g5, g6⟩ := keep k3 m2
  have ha := hadj p hs hp
  refine ⟨I1', J1', I2', J2', k1, m1, k2, k3, m2, m3, ?_⟩
  by_cases q1 : lxk (x p) = 1
  · obtain ⟨u1, u2, u3, u4, u5⟩ := k4 q1
    obtain ⟨v1, v2, v3, v4, v5, v6⟩ := m4 q1
    exact Or.inl ⟨p, p + 1, 1, x p, [], -1, ⟨g1, g2, g3, g4, g5, u5, v4, u1, v1, u2, v2, u4.trans im1, g6, v5, by rw [v6]; exact r9, by omega, Or.inr (Or.inl ⟨rfl, hp, rfl, q1, rfl, (h1.2 p hp).2, u3, v3, rfl⟩)⟩, hap⟩
  by_cases ad : 0 < p ∧ lxk (x (p - 1)) ≠ 1
  · obtain ⟨tt, pa⟩ := ha.mpr ad
    obtain ⟨u1, u2, u3⟩ := k5 q1 tt pa
    obtain ⟨v1, v2⟩ := m5 q1 ad.1 ad.2
    exact Or.inr ⟨p, by decide, by decide, by omega, u1, u2, Or.inl ⟨g6.1, rfl, u3⟩, v1, v2⟩
  have nad : ¬ ((t = 2 ∨ t = 3) ∧ p = a) := fun z => ad (ha.mp z)
  have lm : lxm (lxk (x p)) = 6 ∨ lxm (lxk (x p)) = 4 := by unfold lxm; split <;> omega
  have hm1 : 1 ≤ m := Classical.byContradiction fun z => by
    obtain rfl : m = 0 := by omega
    exact hr.2.2 (by omega) rfl
  by_cases lg : lxm (lxk (x p)) < m
  · obtain ⟨u1, u2, u3⟩ := k6 q1 nad lg
    obtain ⟨v1, v2⟩ := m6 q1 ad lg
    have := hr.1
    exact Or.inr ⟨_, by decide, by decide, by omega, u1, u2, Or.inl ⟨g6.1, rfl, u3⟩, v1, v2⟩
  obtain ⟨u1, u2, u3, u4, u5⟩ := k7 q1 nad (by omega)
  obtain ⟨v1, v2, v3, v4, v5, v6⟩ := m7 q1 ad (by omega)
  have hpm := hr.1
  have hlast := hr.2.1 (m - 1) (by omega)
  rw [show p + (m - 1) = p + m - 1 by omega] at hlast
  rcases lxk_rng (x p) with z | z | z
  · exact absurd z q1
  · rw [z] at u2 v4 v6 hlast lg
    obtain ⟨s1, s2⟩ := u4 z
    have hv := lxn_lt (x := x) (p := p) (i := m) fun j hj => by rw [hr.2.1 j hj, z]
    have h4 : 10 ^ m ≤ 10 ^ 4 := Nat.pow_le_pow_right (by decide) (by have : lxm 2 = 4 := rfl; omega)
    exact Or.inl ⟨p, p + m, 2, lxn x p m, [], -1, ⟨g1, g2, g3, g4, g5, u3, v5, u1, v3, u2, v4, s2.trans im1, g6, v1, by rw [v2]; exact r9, by omega, Or.inr (Or.inr (Or.inl ⟨rfl, by omega, hpm, hlast, by omega, s1, v6.1 rfl, rfl⟩))⟩, hap⟩
  · rw [z] at u2 v4 v6 hlast lg
    obtain ⟨s1, o, s2, s3⟩ := u5 z
    have hw : ∀ y ∈ lxw x p m, 1 ≤ y ∧ y ≤ 26 := lxw_ok fun j hj => by rw [hr.2.1 j hj, z]
    have h6 : lxm 3 = 6 := rfl
    exact Or.inl ⟨p, p + m, 3, 0, lxw x p m, o, ⟨g1, g2, g3, g4, g5, u3, v5, u1, v3, u2, v4, s2, g6, v1, by rw [v2]; exact r9, by omega, Or.inr (Or.inr (Or.inr ⟨rfl, by rw [lxw_len]; exact Nat.le_refl _, hpm, hlast, ⟨by rw [lxw_len]; omega, by rw [lxw_len]; omega, hw⟩, s1, v6.2 rfl, s3⟩))⟩, hap⟩
theorem adv_tk (h : tkR n x p a t v l o I1 I2 J2) (h0 : t ≠ 0) : ∃ I1' J1' I2' J2', C1 (D + 3) 139 [.ref 11] I1 J1 .null I1' J1' ∧ C2 (D' + 2) 13 [.ref 0] I2 J2 .null I2' J2' ∧ J1' = J1 ∧ lxf I1 I1' ∧ lxg I2 I2' ∧ lxgJ J2 J2' ∧ ((∃ p' a' t' v' l' o', tkR n x p' a' t' v' l' o' I1' I2' J2' ∧ p < p') ∨ ∃ p', tkD 1 p' I1' I2') := by
  have hA := tkR_A h h0
  obtain ⟨h1, h2, hO, c2, r2, c8, r4, c4, r5, c5, r3, c7, w0, r8, r9, hpn, hS⟩ := h
  have key : t ≤ 4 ∧ a ≤ n ∧ p < a := by
    rcases hS with ⟨q, -⟩ | ⟨q1, q2, q3, -⟩ | ⟨q1, q2, q3, -⟩ | ⟨q1, q2, q3, -, ⟨q5, -⟩, -⟩
    · exact absurd q h0
    · omega
    · omega
    · omega
  obtain ⟨I1', J1', I2', J2', k1, k2, k3, k4, k5, k6, k7⟩ := adv_both (D := D) (D' := D') (J1 := J1) (J2 := J2) h1 h2 hO c2 r2 c4 r5 c5 key.1 w0 r8 r9 key.2.1 hA
  refine ⟨I1', J1', I2', J2', k1, k2, k3, k4, k5, k6, k7.imp (fun ⟨p', a', t', v', l', o', q1, q2⟩ => ⟨p', a', t', v', l', o', q1, by omega⟩) id⟩
end Sa3
end
section
/-! signs and words of the language, on both sides -/
theorem owL_inj : ∀ n, n < 17 → ∀ m, m < 17 → owL.getD n [] = owL.getD m [] → n = m := by decide
def owK : List Int64 := [2003399528, 7499639, 1802399604, 7629157, 499967946343, 1920298085, 1818588019, 1836020325, 28530, 6385252, 7237492, 6384748, 6840691, 1835101817, 28518, 7170414, 7168376]
theorem owK_at : ∀ w, w < 17 → owK.getD w 0 = lN (nmR (owL.getD w [])) := by decide
theorem lN_inj {y z : Nat} (hy : y < 2 ^ 62) (hz : z < 2 ^ 62) (h : lN y = lN z) : y = z := by
  have := congrArg Int64.toInt h
  rw [lNtI hy, lNtI hz] at this
  omega
theorem lxo_at {l : List Nat} {o : Int} (h : lxo l o) {w : Nat} (hw : w < 17) : o = w ↔ owL.getD w [] = l := by
  rcases h with ⟨rfl, q⟩ | ⟨n, hn, rfl, rfl⟩
  · exact ⟨fun z => by omega, fun z => absurd z (q w hw)⟩
  · exact ⟨fun z => by rw [show n = w by omega], fun z => by rw [owL_inj w hw n hn z]⟩
section Sa4
variable {D n a p t v : Nat} {x : Nat → Nat} {l : List Nat} {o : Int} {I1 I2 : Nat → Nat → Int32} {J1 J2 : Nat → Nat → Int64}
theorem tkS_t (h : tkS n x p a t v l o I1 I2 J2) : t ≤ 3 := by
  rcases h with ⟨q, -⟩ | ⟨q, -⟩ | ⟨q, -⟩ | ⟨q, -⟩ <;> omega
theorem sg_c (h : tkR n x p a t v l o I1 I2 J2) {c : Nat} (hc : c < 256) : C1 (D + 1) 160 [.ref 11, .int (nI c)] I1 J1 (.int (tf (t = 1 ∧ v = c))) I1 J1 := by
  obtain ⟨-, -, -, -, -, -, -, -, -, c5, -, -, -, -, -, -, hS⟩ := h
  have t3 := tkS_t hS
  refine mj_mk (e160 _ ?_)
  rw [c5]
  refine if_i (fun e => ?_) (fun e => mzF fun q => e (by rw [q.1]; rfl))
  have e := (nI_eq (b := 1) (by omega) (by decide)).mp e
  rcases hS with ⟨q, -⟩ | ⟨q1, q2, q3, q4, q5, q6, q7, -⟩ | ⟨q, -⟩ | ⟨q, -⟩
  · omega
  · rw [q7]
    exact if_eq (by omega) (by omega) (fun z => mzT ⟨e, z⟩) (fun z => mzF fun q => z q.2)
  · omega
  · omega
theorem sg_r (h : tkR n x p a t v l o I1 I2 J2) {c : Nat} (hc : c < 256) : C2 (D + 1) 28 [.ref 0, .int (nI c)] I2 J2 (.int (tf (t = 1 ∧ v = c))) I2 J2 := by
  obtain ⟨-, -, -, -, -, -, -, -, -, -, r3, -, -, -, -, -, hS⟩ := h
  have t3 := tkS_t hS
  refine mj_mk (e28 _ ?_)
  rw [r3]
  have tk : tkr t < 2 ^ 31 := by unfold tkr; split <;> omega
  refine if_i (fun e => ?_) (fun e => mzF fun q => e (by rw [q.1]; rfl))
  have e := (nI_eq (b := 3) tk (by decide)).mp e
  have e : t = 1 := by unfold tkr at e; split at e <;> omega
  rcases hS with ⟨q, -⟩ | ⟨q1, q2, q3, q4, q5, q6, q7, q8, -⟩ | ⟨q, -⟩ | ⟨q, -⟩
  · omega
  · rw [q8]
    exact if_eq (by omega) (by omega) (fun z => mzT ⟨e, z⟩) (fun z => mzF fun q => z q.2)
  · omega
  · omega
theorem sg_d (h : I1 11 5 = nI 4) {c : Int32} : C1 (D + 1) 160 [.ref 11, .int c] I1 J1 (.int (tf False)) I1 J1 := by
  refine mj_mk (e160 _ ?_)
  rw [h, if_neg (by decide)]
  exact mzF id
theorem wd_cmp (hl : lxl l) (ho : lxo l o) {w : Nat} (hw : w < 17) : lg_cmp (lN (nmR l)) (owK.getD w 0) = 0 ↔ o = w := by
  obtain ⟨w1, w2, w3⟩ := owL_ok w hw
  rw [owK_at w hw, cmp0, lxo_at ho hw]
  have b1 := nmR_le6 hl.2.2 hl.2.1
  have b2 := nmR_le6 w3 w2
  exact ⟨fun z => (nmR_inj hl.2.2 w3 (lN_inj (by omega) (by omega) z)).symm, fun z => by rw [z]⟩
theorem wd_r (h : tkR n x p a t v l o I1 I2 J2) {w : Nat} (hw : w < 17) : C2 (D + 1) 18 [.ref 0, .long (owK.getD w 0)] I2 J2 (.int (tf (o = w))) I2 J2 := by
  obtain ⟨-, -, -, -, -, -, -, -, -, -, r3, -, -, -, -, -, hS⟩ := h
  have t3 := tkS_t hS
  refine mj_mk (e18 _ ?_)
  rw [r3]
  have tk : tkr t < 2 ^ 31 := by unfold tkr; split <;> omega
  rcases hS with ⟨rfl, -, -, q⟩ | ⟨rfl, -, -, -, -, -, -, -, q⟩ | ⟨rfl, -, -, -, -, -, -, q⟩ | ⟨rfl, -, -, -, q1, -, q2, q3⟩
  · rw [if_neg (by decide)]
    exact mzF fun z => by omega
  · rw [if_neg (by decide)]
    exact mzF fun z => by omega
  · rw [if_neg (by decide)]
    exact mzF fun z => by omega
  · rw [if_pos (by decide), q2]
    exact if_i (fun z => mzT ((wd_cmp q1 q3 hw).mp z)) (fun z => mzF fun y => z ((wd_cmp q1 q3 hw).mpr y))
theorem wd_own (h : tkR n x p a t v l o I1 I2 J2) (h3 : t = 3) : C2 (D + 1) 22 [.ref 0, .long (J2 0 7)] I2 J2 (.int (tf (o ≠ -1))) I2 J2 := by
  obtain ⟨-, -, -, -, -, -, -, -, -, -, -, -, -, -, -, -, hS⟩ := h
  rcases hS with ⟨q, -⟩ | ⟨q, -⟩ | ⟨q, -⟩ | ⟨-, -, -, -, q1, -, q2, q3⟩
  · omega
  · omega
  · omega
  rw [q2]
  refine mj_mk (e22 _ ?_)
  have yes : ∀ w, w < 17 → lg_cmp (lN (nmR l)) (owK.getD w 0) = 0 → o ≠ -1 := fun w hw z => by
    have := (wd_cmp q1 q3 hw).mp z
    omega
  have no : ∀ w, w < 17 → ¬ lg_cmp (lN (nmR l)) (owK.getD w 0) = 0 → ¬ o = w := fun w hw z y => z ((wd_cmp q1 q3 hw).mpr y)
  refine if_i (fun z => mzT (yes 0 (by decide) z)) (fun z0 => if_i (fun z => mzT (yes 6 (by decide) z)) (fun z6 => if_i (fun z => mzT (yes 7 (by decide) z)) (fun z7 => if_i (fun z => mzT (yes 1 (by decide) z)) (fun z1 => if_i (fun z => mzT (yes 2 (by decide) z)) (fun z2 => if_i (fun z => mzT (yes 3 (by decide) z)) (fun z3 => if_i (fun z => mzT (yes 4 (by decide) z)) (fun z4 => if_i (fun z => mzT (yes 5 (by decide) z)) (fun z5 => if_i (fun z => mzT (yes 8 (by decide) z)) (fun z8 => if_i (fun z => mzT (yes 9 (by decide) z)) (fun z9 => if_i (fun z => mzT (yes 10 (by decide) z)) (fun z10 => if_i (fun z => mzT (yes 11 (by decide) z)) (fun z11 => if_i (fun z => mzT (yes 12 (by decide) z)) (fun z12 => if_i (fun z => mzT (yes 13 (by decide) z)) (fun z13 => if_i (fun z => mzT (yes 14 (by decide) z)) (fun z14 => if_i (fun z => mzT (yes 15 (by decide) z)) (fun z15 => if_i (fun z => mzT (yes 16 (by decide) z)) (fun z16 => mzF fun y => ?_)))))))))))))))))
  rcases q3 with ⟨e, -⟩ | ⟨w, hw, e, -⟩
  · exact y e
  have m0 := no 0 (by decide) z0
  have m1 := no 1 (by decide) z1
  have m2 := no 2 (by decide) z2
  have m3 := no 3 (by decide) z3
  have m4 := no 4 (by decide) z4
  have m5 := no 5 (by decide) z5
  have m6 := no 6 (by decide) z6
  have m7 := no 7 (by decide) z7
  have m8 := no 8 (by decide) z8
  have m9 := no 9 (by decide) z9
  have m10 := no 10 (by decide) z10
  have m11 := no 11 (by decide) z11
  have m12 := no 12 (by decide) z12
  have m13 := no 13 (by decide) z13
  have m14 := no 14 (by decide) z14
  have m15 := no 15 (by decide) z15
  have m16 := no 16 (by decide) z16
  omega
/-- a word that may be a name -/
theorem nm_c (h : tkR n x p a t v l o I1 I2 J2) : C1 (D + 1) 148 [.ref 11] I1 J1 (.int (tf (t = 3 ∧ o = -1))) I1 J1 := by
  obtain ⟨-, -, -, -, -, -, -, -, -, c5, -, c7, -, -, -, -, hS⟩ := h
  have t3 := tkS_t hS
  refine mj_mk (e148 ?_)
  rw [c5, c7]
  have ho : -1 ≤ o ∧ o ≤ 16 := by
    rcases hS with ⟨-, -, -, q⟩ | ⟨-, -, -, -, -, -, -, -, q⟩ | ⟨-, -, -, -, -, -, -, q⟩ | ⟨-, -, -, -, -, -, -, q⟩
    · omega
    · omega
    · omega
    · rcases q with ⟨q, -⟩ | ⟨w, hw, q, -⟩ <;> omega
  refine if_i (fun e => ?_) (fun e => mzF fun q => e (by rw [q.1]; rfl))
  have e := (nI_eq (b := 3) (by omega) (by decide)).mp e
  refine if_i (fun z => mzT ⟨e, ?_⟩) (fun z => mzF fun q => z (by rw [q.2]; rfl))
  have z := congrArg Int32.toInt z
  rw [iI_toInt (by omega) (by omega)] at z
  exact z
theorem nm_d (h : I1 11 5 = nI 4) : C1 (D + 1) 148 [.ref 11] I1 J1 (.int (tf False)) I1 J1 := by
  refine mj_mk (e148 ?_)
  rw [h, if_neg (by decide)]
  exact mzF id
/-- the class tells a fault -/
theorem c_bl0 {k : Int32} (h : I1 11 10 = 0) : C1 (D + 1) 144 [.ref 11, .int k] I1 J1 .null (mj_up (mj_up (mj_up (mj_up I1 11 10 k) 11 11 (I1 11 8)) 11 5 4) 11 7 (-1)) J1 := by
  refine mj_mk (e144 _ ?_)
  rw [h, if_pos rfl]
  exact mj_on (s144_20 rfl)
theorem c_bl1 {k : Int32} (h : ¬ I1 11 10 = 0) : C1 (D + 1) 144 [.ref 11, .int k] I1 J1 .null (mj_up (mj_up I1 11 5 4) 11 7 (-1)) J1 := by
  refine mj_mk (e144 _ ?_)
  rw [if_neg h]
  exact mj_on (s144_20 rfl)
end Sa4
end
section
/-! a fault told on both sides; the class behind it -/
def lxh (I I' : Nat → Nat → Int32) : Prop := ∀ q j, (q ≠ 11 ∨ (j ≠ 5 ∧ j ≠ 7 ∧ j ≠ 10 ∧ j ≠ 11)) → I' q j = I q j
theorem lxh_tr {I I' I'' : Nat → Nat → Int32} (h : lxh I I') (h' : lxh I' I'') : lxh I I'' := fun q j z => by rw [h' q j z, h q j z]
section Sa5
variable {D D' n a p t v k : Nat} {x : Nat → Nat} {l : List Nat} {o : Int} {I1 I2 : Nat → Nat → Int32} {J1 J2 : Nat → Nat → Int64}
theorem bl_both (h : tkR n x p a t v l o I1 I2 J2) (hk : 1 ≤ k) (hk6 : k ≤ 6) : ∃ I1' I2', C1 (D + 1) 144 [.ref 11, .int (nI k)] I1 J1 .null I1' J1 ∧ C2 (D' + 1) 16 [.ref 0, .int (nI k), .int (I2 0 4)] I2 J2 .null I2' J2 ∧ lxh I1 I1' ∧ (∀ q j, (q ≠ 0 ∨ (j ≠ 8 ∧ j ≠ 9)) → I2' q j = I2 q j) ∧ tkD k p I1' I2' := by
  obtain ⟨h1, -, -, -, -, c8, r4, -, -, -, -, -, w0, r8, -, hpn, -⟩ := h
  have hn := h1.1
  refine ⟨_, _, c_bl0 w0.1, r_blame0 r8, fun q j z => ?_, fun q j z => ?_, hk, hk6, by omega, ?_, up_s, Or.inr ⟨?_, ?_⟩, ?_, ?_⟩
  · rw [up_n (by omega), up_n (by omega), up_n (by omega), up_n (by omega)]
  · rw [up_n (by omega), up_n (by omega)]
  · rw [up_n (by decide), up_s]; rfl
  · rw [up_n (by decide), up_n (by decide), up_n (by decide), up_s]
  · rw [up_n (by decide), up_n (by decide), up_s, c8]
  · rw [up_n (by decide), up_s]
  · rw [up_s, r4]
/-- told by the class too -/
def tkT (k p : Nat) (I : Nat → Nat → Int32) : Prop := I 11 10 = nI k ∧ I 11 11 = nI p
theorem dd_blame (h : tkD k p I1 I2) : ∃ I1' J1', C1 (D + 1) 144 [.ref 11, .int 1] I1 J1 .null I1' J1' ∧ J1' = J1 ∧ lxh I1 I1' ∧ tkD k p I1' I2 ∧ tkT k p I1' := by
  obtain ⟨h1, h2, h3, h4, h5, h6, h7, h8⟩ := h
  rcases h6 with ⟨w0, rfl, c8⟩ | ⟨w0, c11⟩
  · refine ⟨_, _, c_bl0 w0, rfl, fun q j z => ?_, ⟨h1, h2, h3, ?_, up_s, Or.inr ⟨?_, ?_⟩, h7, h8⟩, ?_, ?_⟩
    · rw [up_n (by omega), up_n (by omega), up_n (by omega), up_n (by omega)]
    · rw [up_n (by decide), up_s]; rfl
    · rw [up_n (by decide), up_n (by decide), up_n (by decide), up_s]; rfl
    · rw [up_n (by decide), up_n (by decide), up_s, c8]
    · rw [up_n (by decide), up_n (by decide), up_n (by decide), up_s]; rfl
    · rw [up_n (by decide), up_n (by decide), up_s, c8]
  · have hw : ¬ I1 11 10 = 0 := by rw [w0]; exact nI_ne0 (by omega) (by omega)
    refine ⟨_, _, c_bl1 hw, rfl, fun q j z => ?_, ⟨h1, h2, h3, ?_, up_s, Or.inr ⟨?_, ?_⟩, h7, h8⟩, ?_, ?_⟩
    · rw [up_n (by omega), up_n (by omega)]
    · rw [up_n (by decide), up_s]; rfl
    · rw [up_n (by decide), up_n (by decide)]; exact w0
    · rw [up_n (by decide), up_n (by decide)]; exact c11
    · rw [up_n (by decide), up_n (by decide)]; exact w0
    · rw [up_n (by decide), up_n (by decide)]; exact c11
theorem dd_take {c : Int32} (h : tkD k p I1 I2) : ∃ I1' J1', C1 (D + 2) 162 [.ref 11, .int c] I1 J1 .null I1' J1' ∧ J1' = J1 ∧ lxh I1 I1' ∧ tkD k p I1' I2 ∧ tkT k p I1' := by
  obtain ⟨Ia, Ja, ca, rfl, a1, a2, a3⟩ := dd_blame (D := D) (J1 := J1) h
  refine ⟨Ia, Ja, mj_mk (e162 _ ?_), rfl, a1, a2, a3⟩
  refine ⟨trivial, _, _, _, sg_d h.2.2.2.1, if_tf (fun z => z.elim) (fun _ => ?_)⟩
  exact ⟨trivial, _, _, ca, rfl⟩
theorem dd_open {c : Int32} (h : tkD k p I1 I2) : ∃ I1' J1', C1 (D + 2) 161 [.ref 11, .int c] I1 J1 (.int 0) I1' J1' ∧ J1' = J1 ∧ lxh I1 I1' ∧ tkD k p I1' I2 ∧ tkT k p I1' := by
  obtain ⟨Ia, Ja, ca, rfl, a1, a2, a3⟩ := dd_blame (D := D) (J1 := J1) h
  refine ⟨Ia, Ja, mj_mk (e161 _ ?_), rfl, a1, a2, a3⟩
  refine ⟨trivial, _, _, _, sg_d h.2.2.2.1, if_tf (fun z => z.elim) (fun _ => ?_)⟩
  exact ⟨trivial, _, _, ca, Or.inl rfl, rfl⟩
theorem dd_name {c : Int32} (h : tkD k p I1 I2) : ∃ I1' J1', C1 (D + 2) 147 [.ref 11, .int c] I1 J1 .null I1' J1' ∧ J1' = J1 ∧ lxh I1 I1' ∧ tkD k p I1' I2 ∧ tkT k p I1' := by
  obtain ⟨Ia, Ja, ca, rfl, a1, a2, a3⟩ := dd_blame (D := D) (J1 := J1) h
  refine ⟨Ia, Ja, mj_mk (e147 _ ?_), rfl, a1, a2, a3⟩
  refine ⟨trivial, _, _, _, nm_d h.2.2.2.1, if_tf (fun z => z.elim) (fun _ => ?_)⟩
  exact ⟨trivial, _, _, ca, rfl⟩
theorem dd_ask {c e : Int32} (h : tkD k p I1 I2) : ∃ I1' J1', C1 (D + 2) 153 [.ref 11, .int c, .int e] I1 J1 (.int (-1)) I1' J1' ∧ J1' = J1 ∧ lxh I1 I1' ∧ tkD k p I1' I2 ∧ tkT k p I1' := by
  obtain ⟨Ia, Ja, ca, rfl, a1, a2, a3⟩ := dd_blame (D := D) (J1 := J1) h
  refine ⟨Ia, Ja, mj_mk (e153 _ _ ?_), rfl, a1, a2, a3⟩
  refine ⟨trivial, _, _, _, nm_d h.2.2.2.1, if_tf (fun z => z.elim) (fun _ => ?_)⟩
  exact ⟨trivial, _, _, ca, rfl⟩
theorem dd_num (h : tkD k p I1 I2) : ∃ I1' J1', C1 (D + 2) 156 [.ref 11] I1 J1 (.int 0) I1' J1' ∧ J1' = J1 ∧ lxh I1 I1' ∧ tkD k p I1' I2 ∧ tkT k p I1' := by
  obtain ⟨Ia, Ja, ca, rfl, a1, a2, a3⟩ := dd_blame (D := D) (J1 := J1) h
  refine ⟨Ia, Ja, mj_mk (e156 ?_), rfl, a1, a2, a3⟩
  rw [h.2.2.2.1, if_neg (by decide)]
  exact ⟨trivial, _, _, ca, rfl⟩
theorem dd_cmp (h : tkD k p I1 I2) : ∃ I1' J1', C1 (D + 2) 168 [.ref 11] I1 J1 (.int (-1)) I1' J1' ∧ J1' = J1 ∧ lxh I1 I1' ∧ tkD k p I1' I2 ∧ tkT k p I1' := by
  obtain ⟨Ia, Ja, ca, rfl, a1, a2, a3⟩ := dd_blame (D := D) (J1 := J1) h
  refine ⟨Ia, Ja, mj_mk (e168 ?_), rfl, a1, a2, a3⟩
  refine ⟨trivial, _, _, _, sg_d h.2.2.2.1, if_tf (fun z => z.elim) (fun _ => ?_)⟩
  refine ⟨trivial, _, _, _, sg_d h.2.2.2.1, if_tf (fun z => z.elim) (fun _ => ?_)⟩
  refine ⟨trivial, _, _, _, sg_d h.2.2.2.1, if_tf (fun z => z.elim) (fun _ => ?_)⟩
  exact ⟨trivial, _, _, ca, rfl⟩
/-- the reference's sign that must stand there: fault or next -/
theorem take_both (h : tkR n x p a t v l o I1 I2 J2) {c : Nat} (hc : c < 256) : ∃ I1' J1' I2' J2', C1 (D + 4) 162 [.ref 11, .int (nI c)] I1 J1 .null I1' J1' ∧ C2 (D' + 3) 44 [.ref 0, .int (nI c)] I2 J2 .null I2' J2' ∧ J1' = J1 ∧ (∀ q j, (q ≠ 11 ∨ (j ≠ 4 ∧ j ≠ 5 ∧ j ≠ 6 ∧ j ≠ 7 ∧ j ≠ 8 ∧ j ≠ 10 ∧ j ≠ 11)) → I1' q j = I1 q j) ∧ lxg I2 I2' ∧ lxgJ J2 J2' ∧ ((t = 1 ∧ v = c ∧ ∃ p' a' t' v' l' o', tkR n x p' a' t' v' l' o' I1' I2' J2' ∧ p < p') ∨ ∃ k' p', tkD k' p' I1' I2') := by
  rcases Classical.em (t = 1 ∧ v = c) with e | e
  · obtain ⟨I1', J1', I2', J2', k1, k2, k3, k4, k5, k6, k7⟩ := adv_tk (D := D) (D' := D') (J1 := J1) h (by omega)
    refine ⟨I1', J1', I2', J2', mj_mk (e162 _ ?_), mj_mk (e44 _ ?_), k3, fun q j z => k4 q j (by omega), k5, k6, ?_⟩
    · exact ⟨trivial, _, _, _, sg_c h hc, if_tf (fun _ => ⟨trivial, _, _, k1, rfl⟩) (fun z => absurd e z)⟩
    · refine ⟨trivial, _, _, _, sg_r h hc, if_tf (fun _ => ?_) (fun z => absurd e z)⟩
      refine mj_on (s44_17 ?_)
      rw [if_pos h.2.2.2.2.2.2.2.2.2.2.2.2.2.1]
      exact ⟨trivial, _, _, k2, rfl⟩
    · rcases k7 with z | ⟨p', z⟩
      · exact Or.inl ⟨e.1, e.2, z⟩
      · exact Or.inr ⟨1, p', z⟩
  · obtain ⟨I1', I2', k1, k2, k3, k4, k5⟩ := bl_both (D := D + 2) (D' := D' + 1) (J1 := J1) (k := 1) h (by decide) (by decide)
    refine ⟨I1', J1, I2', J2, mj_mk (e162 _ ?_), mj_mk (e44 _ ?_), rfl, fun q j z => k3 q j (by omega), fun q j z => k4 q j (by omega), fun _ _ _ => rfl, Or.inr ⟨1, p, k5⟩⟩
    · exact ⟨trivial, _, _, _, sg_c h hc, if_tf (fun z => absurd z e) (fun _ => ⟨trivial, _, _, k1, rfl⟩)⟩
    · refine ⟨trivial, _, _, _, sg_r h hc, if_tf (fun z => absurd z e) (fun _ => ⟨trivial, _, _, k2, ?_⟩)⟩
      refine mj_on (s44_17 ?_)
      rw [k5.2.2.2.2.2.2.1, if_neg (by decide)]
end Sa5
end
section
/-! numbers and names, on both sides -/
def lxF (I I' : Nat → Nat → Int32) : Prop := ∀ q j, (q ≠ 11 ∨ (j ≠ 4 ∧ j ≠ 5 ∧ j ≠ 6 ∧ j ≠ 7 ∧ j ≠ 8 ∧ j ≠ 10 ∧ j ≠ 11)) → I' q j = I q j
section Sa6
variable {D D' n a p t v k : Nat} {x : Nat → Nat} {l : List Nat} {o : Int} {I I1 I2 : Nat → Nat → Int32} {J J1 J2 : Nat → Nat → Int64}
theorem num_both (h : tkR n x p a t v l o I1 I2 J2) : ∃ r1 r2 I1' J1' I2' J2', C1 (D + 4) 156 [.ref 11] I1 J1 (.int r1) I1' J1' ∧ C2 (D' + 3) 29 [.ref 0] I2 J2 (.int r2) I2' J2' ∧ J1' = J1 ∧ lxF I1 I1' ∧ lxg I2 I2' ∧ lxgJ J2 J2' ∧ ((t = 2 ∧ r1 = nI v ∧ r2 = nI v ∧ v ≤ 9999 ∧ ∃ p' a' t' v' l' o', tkR n x p' a' t' v' l' o' I1' I2' J2' ∧ p < p') ∨ ∃ k' p', tkD k' p' I1' I2') := by
  have r8 := h.2.2.2.2.2.2.2.2.2.2.2.2.2.1
  have c5 := h.2.2.2.2.2.2.2.2.2.1
  have r3 := h.2.2.2.2.2.2.2.2.2.2.1
  have hS := h.2.2.2.2.2.2.2.2.2.2.2.2.2.2.2.2
  have t3 := tkS_t hS
  have tk : tkr t < 2 ^ 31 := by unfold tkr; split <;> omega
  by_cases e : t = 2
  · obtain ⟨I1', J1', I2', J2', k1, k2, k3, k4, k5, k6, k7⟩ := adv_tk (D := D) (D' := D') (J1 := J1) h (by omega)
    have hv : v ≤ 9999 ∧ I1 11 6 = nI v ∧ I2 0 6 = nI v := by
      rcases hS with ⟨q, -⟩ | ⟨q, -⟩ | ⟨-, -, -, -, q1, q2, q3, -⟩ | ⟨q, -⟩
      · omega
      · omega
      · exact ⟨q1, q2, q3⟩
      · omega
    refine ⟨nI v, nI v, I1', J1', I2', J2', mj_mk (e156 ?_), mj_mk (e29 ?_), k3, fun q j z => k4 q j (by omega), k5, k6, ?_⟩
    · rw [c5, if_pos (show nI t = 2 by rw [e]; rfl)]
      refine ⟨trivial, _, _, k1, ?_⟩
      rw [hv.2.1]
    · rw [r8, if_pos (by decide), r3, if_pos (show nI (tkr t) = 2 by rw [e]; rfl)]
      refine mj_on (s29_26 ?_)
      rw [if_pos r8]
      refine ⟨trivial, _, _, k2, ?_⟩
      rw [hv.2.2]
    · rcases k7 with z | ⟨p', z⟩
      · exact Or.inl ⟨e, rfl, rfl, hv.1, z⟩
      · exact Or.inr ⟨1, p', z⟩
  · obtain ⟨I1', I2', k1, k2, k3, k4, k5⟩ := bl_both (D := D + 2) (D' := D' + 1) (J1 := J1) (k := 1) h (by decide) (by decide)
    refine ⟨0, I2' 0 6, I1', J1, I2', J2, mj_mk (e156 ?_), mj_mk (e29 ?_), rfl, fun q j z => k3 q j (by omega), fun q j z => k4 q j (by omega), fun _ _ _ => rfl, Or.inr ⟨1, p, k5⟩⟩
    · rw [c5, if_neg (show ¬ nI t = 2 from fun z => e ((nI_eq (b := 2) (by omega) (by decide)).mp z))]
      exact ⟨trivial, _, _, k1, rfl⟩
    · rw [r8, if_pos (by decide), r3, if_neg (show ¬ nI (tkr t) = 2 from fun z => by
        have z := (nI_eq (b := 2) tk (by decide)).mp z
        unfold tkr at z
        split at z <;> omega)]
      refine ⟨trivial, _, _, k2, ?_⟩
      refine mj_on (s29_26 ?_)
      rw [k5.2.2.2.2.2.2.1, if_neg (by decide)]
theorem nmC_le6 {l : List Nat} (h : ∀ a ∈ l, 1 ≤ a ∧ a ≤ 26) (h6 : l.length ≤ 6) : nmC l < 2 ^ 30 := by
  have h1 := nmC_lt h
  have h2 : 32 ^ l.length ≤ 32 ^ 6 := Nat.pow_le_pow_right (by decide) h6
  omega
theorem nmq_eq {y : Int32} {z : Int64} (h : nmq y z) (hl : lxl l) : y = nI (nmC l) ↔ z = lN (nmR l) := by
  obtain ⟨m, m1, m2, m3, rfl, rfl⟩ := h
  have b1 := nmC_le6 m3 m2
  have b2 := nmC_le6 hl.2.2 hl.2.1
  have b3 := nmR_le6 m3 m2
  have b4 := nmR_le6 hl.2.2 hl.2.1
  constructor
  · intro q
    have := nmC_inj m3 hl.2.2 ((nI_eq (by omega) (by omega)).mp q)
    rw [this]
  · intro q
    have := nmR_inj m3 hl.2.2 (lN_inj (by omega) (by omega) q)
    rw [this]
/-- the class looks a name up among the names of one kind -/
theorem c_find {i N y : Nat} (hi : i < 6) (h3 : i ≠ 3) (h5 : i ≠ 5) (hN : I 15 i = nI N) (hN2 : N ≤ 40) : ∃ r I' J', C1 (D + 1) 150 [.ref 14, .int (nI i), .int (nI y)] I J (.int r) I' J' ∧ ((r = -1 ∧ ∀ j, j < N → I 16 (40 * i + j) ≠ nI y) ∨ ∃ j, j < N ∧ r = nI j ∧ I 16 (40 * i + j) = nI y ∧ ∀ m, m < j → I 16 (40 * i + m) ≠ nI y) ∧ I' = I ∧ J' = J := by
  refine mj_cI (e150 _ _ ?_)
  obtain ⟨Q, hQ⟩ : ∃ Q, Q = qI mj_R1 (fun r I' J' => ((r = -1 ∧ ∀ j, j < N → I 16 (40 * i + j) ≠ nI y) ∨ ∃ j, j < N ∧ r = nI j ∧ I 16 (40 * i + j) = nI y ∧ ∀ m, m < j → I 16 (40 * i + m) ≠ nI y) ∧ I' = I ∧ J' = J) := ⟨_, rfl⟩
  rw [← hQ]
  rw [if_neg (show ¬ nI i = 3 from fun z => h3 ((nI_eq (b := 3) (by omega) (by decide)).mp z)), if_neg (show ¬ nI i = 5 from fun z => h5 ((nI_eq (b := 5) (by omega) (by decide)).mp z))]
  have lp := lp_up (n := N) (fun j => (∀ m, m < j → I 16 (40 * i + m) ≠ nI y) → E1 150 D Q 14 [(0, .ref 14), (1, .int (nI i)), (2, .int (nI y)), (3, .int (nI j))] I J) (fun j hj ih hm => ?_) 0 (Nat.zero_le _) (fun m hm => absurd hm (Nat.not_lt_zero m))
  · exact lp
  refine mj_on (s150_14 _ _ _ ?_)
  rw [nI_clamp (by omega), hN]
  refine ⟨vp_in_nI hi (by decide), if_le (by omega) (by omega) (fun c => ?_) (fun c => ?_)⟩
  · obtain rfl : j = N := by omega
    rw [hQ]
    exact ⟨_, _, _, rfl, Or.inl ⟨rfl, hm⟩, rfl, rfl⟩
  rw [show nI i * (40 : Int32) = nI (40 * i) from (pk_mul i 40).trans (by rw [Nat.mul_comm]), nI_add, nI_clamp (by omega), nI_1]
  refine ⟨vp_in_nI (by omega) (by decide), if_i (fun e => ?_) (fun e => ih c fun m hm2 => ?_)⟩
  · rw [hQ]
    exact ⟨_, _, _, rfl, Or.inr ⟨j, c, rfl, e, hm⟩, rfl, rfl⟩
  · by_cases z : m = j
    · rw [z]; exact e
    · exact hm m (by omega)
end Sa6
end
section
/-! the reference looks names up -/
section Sa7
variable {D N c : Nat} {y : Int64} {I : Nat → Nat → Int32} {J : Nat → Nat → Int64}
/-- the first of N names that is y -/
def fnd (N : Nat) (g : Nat → Int64) (y : Int64) (r : Int32) : Prop := (r = -1 ∧ ∀ j, j < N → g j ≠ y) ∨ ∃ j, j < N ∧ r = nI j ∧ g j = y ∧ ∀ m, m < j → g m ≠ y
theorem r_fnd24 (hc : c < 2) (hN : I 2 c = nI N) (hN2 : N ≤ 4) : ∃ r I' J', C2 (D + 1) 24 [.ref 0, .int (nI c), .long y] I J (.int r) I' J' ∧ fnd N (fun j => J 8 (4 * c + j)) y r ∧ I' = I ∧ J' = J := by
  refine mj_cI (e24 _ _ ?_)
  obtain ⟨Q, hQ⟩ : ∃ Q, Q = qI mj_R2 (fun r I' J' => fnd N (fun j => J 8 (4 * c + j)) y r ∧ I' = I ∧ J' = J) := ⟨_, rfl⟩
  rw [← hQ]
  have lp := lp_up (n := N) (fun j => (∀ m, m < j → J 8 (4 * c + m) ≠ y) → E2 24 D Q 3 [(0, .ref 0), (1, .int (nI c)), (2, .long y), (4, .int (nI j))] I J) (fun j hj ih hm => ?_) 0 (Nat.zero_le _) (fun m hm => absurd hm (Nat.not_lt_zero m))
  · exact lp
  refine mj_on (s24_3 _ _ _ ?_)
  rw [nI_clamp (by omega), hN]
  refine ⟨vp_in_nI hc (by decide), if_le (by omega) (by omega) (fun q => ?_) (fun q => ?_)⟩
  · obtain rfl : j = N := by omega
    rw [hQ]
    exact ⟨_, _, _, rfl, Or.inl ⟨rfl, hm⟩, rfl, rfl⟩
  rw [show (4 : Int32) = nI 4 from rfl, pk_mul, nI_add, nI_clamp (by omega), nI_1]
  refine ⟨vp_in_nI (by omega) (by decide), if_i (fun e => ?_) (fun e => ih q fun m hm2 => ?_)⟩
  · rw [hQ]
    exact ⟨_, _, _, rfl, Or.inr ⟨j, q, rfl, cmp0.mp e, hm⟩, rfl, rfl⟩
  · by_cases z : m = j
    · rw [z]; exact fun w => e (cmp0.mpr w)
    · exact hm m (by omega)
theorem r_fnd25 (hc : c < 2) (hN : I 4 c = nI N) (hN2 : N ≤ 10) : ∃ r I' J', C2 (D + 1) 25 [.ref 0, .int (nI c), .long y] I J (.int r) I' J' ∧ fnd N (fun j => J 13 (10 * c + j)) y r ∧ I' = I ∧ J' = J := by
  refine mj_cI (e25 _ _ ?_)
  obtain ⟨Q, hQ⟩ : ∃ Q, Q = qI mj_R2 (fun r I' J' => fnd N (fun j => J 13 (10 * c + j)) y r ∧ I' = I ∧ J' = J) := ⟨_, rfl⟩
  rw [← hQ]
  have lp := lp_up (n := N) (fun j => (∀ m, m < j → J 13 (10 * c + m) ≠ y) → E2 25 D Q 3 [(0, .ref 0), (1, .int (nI c)), (2, .long y), (4, .int (nI j))] I J) (fun j hj ih hm => ?_) 0 (Nat.zero_le _) (fun m hm => absurd hm (Nat.not_lt_zero m))
  · exact lp
  refine mj_on (s25_3 _ _ _ ?_)
  rw [nI_clamp (by omega), hN]
  refine ⟨vp_in_nI hc (by decide), if_le (by omega) (by omega) (fun q => ?_) (fun q => ?_)⟩
  · obtain rfl : j = N := by omega
    rw [hQ]
    exact ⟨_, _, _, rfl, Or.inl ⟨rfl, hm⟩, rfl, rfl⟩
  rw [show (10 : Int32) = nI 10 from rfl, pk_mul, nI_add, nI_clamp (by omega), nI_1]
  refine ⟨vp_in_nI (by omega) (by decide), if_i (fun e => ?_) (fun e => ih q fun m hm2 => ?_)⟩
  · rw [hQ]
    exact ⟨_, _, _, rfl, Or.inr ⟨j, q, rfl, cmp0.mp e, hm⟩, rfl, rfl⟩
  · by_cases z : m = j
    · rw [z]; exact fun w => e (cmp0.mpr w)
    · exact hm m (by omega)
theorem r_fnd26 (hc : c < 2) (hN : I 6 c = nI N) (hN2 : N ≤ 12) : ∃ r I' J', C2 (D + 1) 26 [.ref 0, .int (nI c), .long y] I J (.int r) I' J' ∧ fnd N (fun j => J 17 (12 * c + j)) y r ∧ I' = I ∧ J' = J := by
  refine mj_cI (e26 _ _ ?_)
  obtain ⟨Q, hQ⟩ : ∃ Q, Q = qI mj_R2 (fun r I' J' => fnd N (fun j => J 17 (12 * c + j)) y r ∧ I' = I ∧ J' = J) := ⟨_, rfl⟩
  rw [← hQ]
  have lp := lp_up (n := N) (fun j => (∀ m, m < j → J 17 (12 * c + m) ≠ y) → E2 26 D Q 3 [(0, .ref 0), (1, .int (nI c)), (2, .long y), (4, .int (nI j))] I J) (fun j hj ih hm => ?_) 0 (Nat.zero_le _) (fun m hm => absurd hm (Nat.not_lt_zero m))
  · exact lp
  refine mj_on (s26_3 _ _ _ ?_)
  rw [nI_clamp (by omega), hN]
  refine ⟨vp_in_nI hc (by decide), if_le (by omega) (by omega) (fun q => ?_) (fun q => ?_)⟩
  · obtain rfl : j = N := by omega
    rw [hQ]
    exact ⟨_, _, _, rfl, Or.inl ⟨rfl, hm⟩, rfl, rfl⟩
  rw [show (12 : Int32) = nI 12 from rfl, pk_mul, nI_add, nI_clamp (by omega), nI_1]
  refine ⟨vp_in_nI (by omega) (by decide), if_i (fun e => ?_) (fun e => ih q fun m hm2 => ?_)⟩
  · rw [hQ]
    exact ⟨_, _, _, rfl, Or.inr ⟨j, q, rfl, cmp0.mp e, hm⟩, rfl, rfl⟩
  · by_cases z : m = j
    · rw [z]; exact fun w => e (cmp0.mpr w)
    · exact hm m (by omega)
end Sa7
end
section
/-! tests: what rows of steps come to, piece by piece -/
def rnk (c : Nat) : Nat := if c = 15 then 1 else if c = 14 then 2 else if c = 16 then 3 else if c = 11 ∨ c = 12 ∨ c = 13 then 4 else if c = 5 ∨ c = 6 then 5 else 6
/-- operators held back, as they are laid down: the last one first -/
def pops (K : List Nat) : List (Nat × Nat) := K.reverse.map (fun c => (c, 0))
theorem pops_app {K k : List Nat} : pops (K ++ k) = pops k ++ pops K := by
  unfold pops
  rw [List.reverse_append, List.map_append]
theorem pops_one {c : Nat} : pops [c] = [(c, 0)] := rfl
theorem pops_nil : pops [] = [] := rfl
theorem pops_len {K : List Nat} : (pops K).length = K.length := by
  unfold pops
  rw [List.length_map, List.length_reverse]
/-- pieces that push one number, or one test, on both sides the same one -/
def fr2 (W H : Nat) (b : Bool) (h : Nat) (a1 a2 : List (Nat × Nat)) : Prop := (∀ M st, st.length + h ≤ M → tyc M W H a1 st = some (b :: st) ∧ tyc M W H a2 st = some (b :: st)) ∧ ∃ v : (Nat → Nat) → Nat → Int, ∀ hs m st, ev hs m a1 st = v hs m :: st ∧ ev hs m a2 st = v hs m :: st
section Sa8a
variable {W H : Nat}
theorem tyc_app {M : Nat} : ∀ {a b : List (Nat × Nat)} {st s' : List Bool}, tyc M W H a st = some s' → tyc M W H (a ++ b) st = tyc M W H b s'
  | [], b, st, s', h => by
    have h : some st = some s' := h
    injection h with h
    rw [h]; rfl
  | c :: r, b, st, s', h => by
    obtain ⟨s1, h1, h2, h3⟩ := tyc_cons h
    show (match tys1 W H c st with
      | some st' => if st'.length ≤ M then tyc M W H (r ++ b) st' else none
      | none => none) = _
    rw [h1]
    show (if s1.length ≤ M then tyc M W H (r ++ b) s1 else none) = _
    rw [if_pos h2, tyc_app h3]
theorem ev_app {hs : Nat → Nat} {m : Nat} {a b : List (Nat × Nat)} {st : List Int} : ev hs m (a ++ b) st = ev hs m b (ev hs m a st) := by
  unfold ev
  rw [List.foldl_append]
theorem tyc_one {M : Nat} {c : Nat × Nat} {st s' : List Bool} (h : tys1 W H c st = some s') (hl : s'.length ≤ M) : tyc M W H [c] st = some s' := by
  show (match tys1 W H c st with
    | some st' => if st'.length ≤ M then tyc M W H [] st' else none
    | none => none) = _
  rw [h]
  show (if s'.length ≤ M then tyc M W H [] s' else none) = _
  rw [if_pos hl]
  rfl
theorem tys1_num {op : Nat} {st : List Bool} (h5 : 5 ≤ op) (h13 : op ≤ 13) : tys1 W H (op, 0) (false :: false :: st) = some (decide (11 ≤ op) :: st) := by
  rcases (by omega : op = 5 ∨ op = 6 ∨ op = 7 ∨ op = 8 ∨ op = 9 ∨ op = 10 ∨ op = 11 ∨ op = 12 ∨ op = 13) with rfl | rfl | rfl | rfl | rfl | rfl | rfl | rfl | rfl <;> rfl
theorem tys1_log {op : Nat} {st : List Bool} (h : op = 14 ∨ op = 15) : tys1 W H (op, 0) (true :: true :: st) = some (true :: st) := by
  rcases h with rfl | rfl <;> rfl
theorem tys1_not {st : List Bool} : tys1 W H (16, 0) (true :: st) = some (true :: st) := rfl
theorem ev1_two {hs : Nat → Nat} {m op : Nat} {a c : Int} {st : List Int} (h5 : 5 ≤ op) (h16 : op ≠ 16) : ev1 hs m (c :: a :: st) (op, 0) = twov op a c :: st := by
  show (if op ≤ 4 then leafv hs m op 0 :: c :: a :: st else if op = 16 then (1 - c) :: a :: st else twov op a c :: st) = _
  rw [if_neg (by omega), if_neg h16]
theorem fr2_leaf {c v : Nat} (h1 : c ≤ 4) (hc : (c = 0 → v ≤ 9999) ∧ (c = 2 → v < W) ∧ (c = 4 → v < H) ∧ (c = 1 ∨ c = 3 → v = 0)) : fr2 W H (decide (3 ≤ c)) 1 [(c, v)] [(c, v)] := by
  have e : ∀ st, tys1 W H (c, v) st = some (decide (3 ≤ c) :: st) := fun st => by
    show (if c ≤ 4 then (if (c = 0 → v ≤ 9999) ∧ (c = 2 → v < W) ∧ (c = 4 → v < H) ∧ (c = 1 ∨ c = 3 → v = 0) then some (decide (3 ≤ c) :: st) else none) else _) = _
    rw [if_pos h1, if_pos hc]
  have e2 : ∀ (hs : Nat → Nat) (m : Nat) (st : List Int), ev hs m [(c, v)] st = leafv hs m c v :: st := fun hs m st => by
    show (if c ≤ 4 then leafv hs m c v :: st else _) = _
    rw [if_pos h1]
  exact ⟨fun M st hl => ⟨tyc_one (e st) hl, tyc_one (e st) hl⟩, fun hs m => leafv hs m c v, fun hs m st => ⟨e2 hs m st, e2 hs m st⟩⟩
theorem fr2_up {b : Bool} {h h' : Nat} {a1 a2 : List (Nat × Nat)} (q : fr2 W H b h a1 a2) (hh : h ≤ h') : fr2 W H b h' a1 a2 := ⟨fun M st hl => q.1 M st (by omega), q.2⟩
theorem fr2_two {b b' : Bool} {op h h' h3 : Nat} {a1 a2 c1 c2 : List (Nat × Nat)} (h5 : 5 ≤ op) (h16 : op ≠ 16) (ht : ∀ st, tys1 W H (op, 0) (b :: b :: st) = some (b' :: st)) (qa : fr2 W H b h a1 a2) (qc : fr2 W H b h' c1 c2) (h1 : h ≤ h3) (h2 : h' + 1 ≤ h3) : fr2 W H b' h3 (a1 ++ (c1 ++ [(op, 0)])) (a2 ++ (c2 ++ [(op, 0)])) := by
  obtain ⟨ta, va, ea⟩ := qa
  obtain ⟨tc, vc, ec⟩ := qc
  refine ⟨fun M st hl => ?_, fun hs m => twov op (va hs m) (vc hs m), fun hs m st => ?_⟩
  · have l1 : (b :: st).length + h' ≤ M := by show st.length + 1 + h' ≤ M; omega
    have l2 : (b' :: st).length ≤ M := by show st.length + 1 ≤ M; omega
    have l0 : st.length + h ≤ M := by omega
    exact ⟨by rw [tyc_app (ta M st l0).1, tyc_app (tc M _ l1).1, tyc_one (ht st) l2], by rw [tyc_app (ta M st l0).2, tyc_app (tc M _ l1).2, tyc_one (ht st) l2]⟩
  · exact ⟨by rw [ev_app, ev_app, (ea hs m st).1, (ec hs m _).1]; exact ev1_two h5 h16, by rw [ev_app, ev_app, (ea hs m st).2, (ec hs m _).2]; exact ev1_two h5 h16⟩
theorem fr2_num {op h h' h3 : Nat} {a1 a2 c1 c2 : List (Nat × Nat)} (h5 : 5 ≤ op) (h10 : op ≤ 10) (qa : fr2 W H false h a1 a2) (qc : fr2 W H false h' c1 c2) (h1 : h ≤ h3) (h2 : h' + 1 ≤ h3) : fr2 W H false h3 (a1 ++ (c1 ++ [(op, 0)])) (a2 ++ (c2 ++ [(op, 0)])) :=
  fr2_two h5 (by omega) (fun st => by rw [tys1_num h5 (by omega), decide_eq_false (by omega)]) qa qc h1 h2
theorem fr2_cmp {op h h' h3 : Nat} {a1 a2 c1 c2 : List (Nat × Nat)} (h11 : 11 ≤ op) (h13 : op ≤ 13) (qa : fr2 W H false h a1 a2) (qc : fr2 W H false h' c1 c2) (h1 : h ≤ h3) (h2 : h' + 1 ≤ h3) : fr2 W H true h3 (a1 ++ (c1 ++ [(op, 0)])) (a2 ++ (c2 ++ [(op, 0)])) :=
  fr2_two (by omega) (by omega) (fun st => by rw [tys1_num (by omega) h13, decide_eq_true h11]) qa qc h1 h2
theorem fr2_log {op h h' h3 : Nat} {a1 a2 c1 c2 : List (Nat × Nat)} (ho : op = 14 ∨ op = 15) (qa : fr2 W H true h a1 a2) (qc : fr2 W H true h' c1 c2) (h1 : h ≤ h3) (h2 : h' + 1 ≤ h3) : fr2 W H true h3 (a1 ++ (c1 ++ [(op, 0)])) (a2 ++ (c2 ++ [(op, 0)])) :=
  fr2_two (by omega) (by omega) (fun st => tys1_log ho) qa qc h1 h2
theorem nots_ty {M : Nat} {st : List Bool} (hl : st.length + 1 ≤ M) : ∀ j, tyc M W H (List.replicate j (16, 0)) (true :: st) = some (true :: st)
  | 0 => rfl
  | j + 1 => by
    rw [List.replicate_succ, ← List.singleton_append, tyc_app (tyc_one tys1_not hl), nots_ty hl j]
theorem nots_ev {hs : Nat → Nat} {m : Nat} : ∀ (j : Nat) (y : Int) (st : List Int), ev hs m (List.replicate j (16, 0)) (y :: st) = (if j % 2 = 1 then 1 - y else y) :: st
  | 0, _, _ => rfl
  | j + 1, y, st => by
    rw [List.replicate_succ, ← List.singleton_append, ev_app]
    show ev hs m (List.replicate j (16, 0)) ((1 - y) :: st) = _
    rw [nots_ev j]
    by_cases h : j % 2 = 1
    · rw [if_pos h, if_neg (by omega)]
      congr 1
      omega
    · rw [if_neg h, if_pos (by omega)]
theorem fr2_not {h : Nat} {a1 a2 : List (Nat × Nat)} (q : fr2 W H true h a1 a2) (h0 : 1 ≤ h) (j : Nat) : fr2 W H true h (a1 ++ List.replicate (j % 2) (16, 0)) (a2 ++ List.replicate j (16, 0)) := by
  obtain ⟨t, v, e⟩ := q
  refine ⟨fun M st hl => ⟨by rw [tyc_app (t M st hl).1, nots_ty (by omega)], by rw [tyc_app (t M st hl).2, nots_ty (by omega)]⟩, fun hs m => if j % 2 = 1 then 1 - v hs m else v hs m, fun hs m st => ⟨?_, ?_⟩⟩
  · rw [ev_app, (e hs m st).1, nots_ev, Nat.mod_mod]
  · rw [ev_app, (e hs m st).2, nots_ev]
theorem pops_not (j : Nat) : pops (List.replicate j 16) = List.replicate j (16, 0) := by
  unfold pops
  rw [List.reverse_replicate, List.map_replicate]
theorem fr2_sgB {h : Nat} {a1 a2 : List (Nat × Nat)} (q : fr2 W H true h a1 a2) (hh : h ≤ 64) : sgB 64 950 W H a1 a2 := by
  obtain ⟨t, v, e⟩ := q
  exact ⟨(t 64 [] (by show 0 + h ≤ 64; omega)).1, (t 950 [] (by show 0 + h ≤ 950; omega)).2, fun hs m => by rw [(e hs m []).1, (e hs m []).2]⟩
end Sa8a
/-! codes laid down, one more -/
theorem cdC_app {I I' : Nat → Nat → Int32} {c p : Nat} {a : List (Nat × Nat)} {y : Nat × Nat} (h : cdC I c p a) (he : ∀ j, j < p + a.length → I' c j = I c j) (hy : I' c (p + a.length) = nI (opc y.1 * 16384 + y.2)) : cdC I' c p (a ++ [y]) := fun k z hz => by
  by_cases hk : k < a.length
  · rw [List.getElem?_append_left hk] at hz
    rw [he _ (by omega)]
    exact h k z hz
  · rw [List.getElem?_append_right (by omega)] at hz
    by_cases e : k = a.length
    · subst e
      rw [Nat.sub_self] at hz
      have hz : y = z := Option.some.inj hz
      rw [← hz]; exact hy
    · rw [List.getElem?_eq_none (by show 1 ≤ k - a.length; omega)] at hz
      cases hz
theorem cdR_app {I I' : Nat → Nat → Int32} {p : Nat} {a : List (Nat × Nat)} {y : Nat × Nat} (h : cdR I p a) (he : ∀ j, j < p + a.length → I' 21 j = I 21 j ∧ I' 22 j = I 22 j) (hy : I' 21 (p + a.length) = nI y.1 ∧ I' 22 (p + a.length) = nI y.2) : cdR I' p (a ++ [y]) := fun k z hz => by
  by_cases hk : k < a.length
  · rw [List.getElem?_append_left hk] at hz
    rw [(he _ (by omega)).1, (he _ (by omega)).2]
    exact h k z hz
  · rw [List.getElem?_append_right (by omega)] at hz
    by_cases e : k = a.length
    · subst e
      rw [Nat.sub_self] at hz
      have hz : y = z := Option.some.inj hz
      rw [← hz]; exact hy
    · rw [List.getElem?_eq_none (by show 1 ≤ k - a.length; omega)] at hz
      cases hz
theorem ops_app {f g : Nat → Int32} {b c : Nat} {K : List Nat} (h : ∀ i y, K[i]? = some y → f (b + i) = nI y) (he : ∀ j, j < b + K.length → g j = f j) (hy : g (b + K.length) = nI c) : ∀ i y, (K ++ [c])[i]? = some y → g (b + i) = nI y := fun k z hz => by
  by_cases hk : k < K.length
  · rw [List.getElem?_append_left hk] at hz
    rw [he _ (by omega)]
    exact h k z hz
  · rw [List.getElem?_append_right (by omega)] at hz
    by_cases e : k = K.length
    · subst e
      rw [Nat.sub_self] at hz
      have hz : c = z := Option.some.inj hz
      rw [← hz]; exact hy
    · rw [List.getElem?_eq_none (by show 1 ≤ k - K.length; omega)] at hz
      cases hz
end
section
/-! reading a test: the two states -/
def stc (d W H : Nat) (B1 B2 : (Nat → Nat → Int32)) (BJ : (Nat → Nat → Int64)) : Prop := d < 2 ∧ W ≤ 4 ∧ H ≤ 12 ∧ B1 15 0 = nI W ∧ B1 15 4 = nI H ∧ B2 2 d = nI W ∧ B2 6 d = nI H ∧ B2 0 35 = nI d ∧ (∀ k, k < W → nmq (B1 16 k) (BJ 8 (4 * d + k))) ∧ (∀ k, k < H → nmq (B1 16 (160 + k)) (BJ 17 (12 * d + k)))
def tsl (j : Nat) : Prop := j ≠ 3 ∧ j ≠ 4 ∧ j ≠ 5 ∧ j ≠ 6 ∧ j ≠ 8 ∧ j ≠ 9 ∧ j ≠ 34 ∧ j ≠ 41 ∧ j ≠ 42 ∧ j ≠ 44 ∧ j ≠ 45
/-- what of the class, of the reference, stays while a test is read -/
def tsC (s0 : Nat) (B I : (Nat → Nat → Int32)) : Prop := ∀ q j, (q ≠ 11 ∨ j < 4) → (q ≠ 14 ∨ j ≠ 9) → (q ≠ 22 ∨ j < s0) → I q j = B q j
def tsR (d f0 : Nat) (B I : (Nat → Nat → Int32)) : Prop := ∀ q j, (q ≠ 0 ∨ tsl j) → ((q ≠ 21 ∧ q ≠ 22) ∨ j < 900 * d + f0 ∨ 900 * d + 900 ≤ j) → (q < 23 ∨ 28 < q) → I q j = B q j
/-- the steps that have been laid down; the reference's open brackets and held back operators -/
def tsA (d s0 f0 op M : Nat) (A1 A2 : (List (Nat × Nat))) (I1 I2 : (Nat → Nat → Int32)) : Prop := I1 14 9 = nI (s0 + A1.length) ∧ cdC I1 22 s0 A1 ∧ I2 0 34 = nI (f0 + A2.length) ∧ cdR I2 (900 * d + f0) A2 ∧ op ≤ 8 ∧ I2 0 42 = nI op ∧ I2 0 44 = nI M
/-- the reference's frame on top -/
def tsF (op kd ph bs : Nat) (bg : Int32) (K : List Nat) (L I2 : (Nat → Nat → Int32)) : Prop := I2 0 41 = nI (op + 1) ∧ I2 23 op = nI kd ∧ I2 24 op = nI ph ∧ I2 25 op = bg ∧ I2 27 op = nI bs ∧ (∀ i y, K[i]? = some y → I2 28 (bs + i) = nI y) ∧ (∀ q, 23 ≤ q → q ≤ 27 → ∀ i, i < op → I2 q i = L q i) ∧ I2 26 op = L 26 op ∧ (∀ i, i < bs → I2 28 i = L 28 i) ∧ kd ≤ 5 ∧ ph ≤ 2 ∧ (bg = 0 ∨ bg = 1) ∧ ∀ c ∈ K, c < 17
def TS (n : Nat) (x : Nat → Nat) (d s0 f0 : Nat) (B1 B2 : (Nat → Nat → Int32)) (BJ : (Nat → Nat → Int64)) (op kd ph bs : Nat) (bg : Int32) (K : List Nat) (L : (Nat → Nat → Int32)) (A1 A2 : (List (Nat × Nat))) (p a t v : Nat) (l : List Nat) (o : Int) (I1 I2 : (Nat → Nat → Int32)) (J2 : (Nat → Nat → Int64)) : Prop :=
  tkR n x p a t v l o I1 I2 J2 ∧ tsC s0 B1 I1 ∧ tsR d f0 B2 I2 ∧ lxgJ BJ J2 ∧ tsA d s0 f0 op (bs + K.length) A1 A2 I1 I2 ∧ tsF op kd ph bs bg K L I2
/-- a fault is found -/
def DD (d s0 f0 : Nat) (B1 B2 : (Nat → Nat → Int32)) (BJ : (Nat → Nat → Int64)) (I1 I2 : (Nat → Nat → Int32)) (J2 : (Nat → Nat → Int64)) : Prop := (∃ k p, tkD k p I1 I2) ∧ tsC s0 B1 I1 ∧ tsR d f0 B2 I2 ∧ lxgJ BJ J2 ∧ ∃ c, s0 ≤ c ∧ c ≤ 900 ∧ I1 14 9 = nI c
section Sa8b
variable {n d s0 f0 W H : Nat} {x : Nat → Nat} {B1 B2 : Nat → Nat → Int32} {BJ : Nat → Nat → Int64}
variable {D D' E op kd ph bs p a t v u : Nat} {l : List Nat} {o : Int} {bg : Int32} {K : List Nat} {A1 A2 : List (Nat × Nat)} {L I1 I2 : Nat → Nat → Int32} {J1 J2 : Nat → Nat → Int64}
theorem tkR_cg {I1' I2' : (Nat → Nat → Int32)} {J2' : (Nat → Nat → Int64)} (h : tkR n x p a t v l o I1 I2 J2) (e1 : ∀ q j, (q = 12 ∨ q = 13 ∨ (q = 11 ∧ j ≠ 9)) → I1' q j = I1 q j) (e2 : ∀ q j, (q = 1 ∨ (q = 0 ∧ j < 10)) → I2' q j = I2 q j) (e3 : J2' 0 7 = J2 0 7) : tkR n x p a t v l o I1' I2' J2' := by
  obtain ⟨h1, h2, h3, h4, h5, h6, h7, h8, h9, h10, h11, h12, h13, h14, h15, h16, h17⟩ := h
  refine ⟨⟨h1.1, fun j hj => by rw [e1 13 j (by omega)]; exact h1.2 j hj⟩, ⟨h2.1, fun j hj => by rw [e2 1 j (by omega)]; exact h2.2 j hj⟩, fun z hz => by rw [e1 12 z (by omega)]; exact h3 z hz, by rw [e1 11 2 (by omega)]; exact h4, by rw [e2 0 2 (by omega)]; exact h5, by rw [e1 11 8 (by omega)]; exact h6, by rw [e2 0 4 (by omega)]; exact h7, by rw [e1 11 4 (by omega)]; exact h8, by rw [e2 0 5 (by omega)]; exact h9, by rw [e1 11 5 (by omega)]; exact h10, by rw [e2 0 3 (by omega)]; exact h11, by rw [e1 11 7 (by omega)]; exact h12, ⟨by rw [e1 11 10 (by omega)]; exact h13.1, by rw [e1 11 11 (by omega)]; exact h13.2⟩, by rw [e2 0 8 (by omega)]; exact h14, by rw [e2 0 9 (by omega)]; exact h15, h16, ?_⟩
  unfold tkS at h17 ⊢
  rw [e1 11 6 (by omega), e2 0 6 (by omega), e3]
  exact h17
theorem tsA_cg {M : Nat} {I1' I2' : (Nat → Nat → Int32)} (h : tsA d s0 f0 op M A1 A2 I1 I2) (e1 : I1' 14 9 = I1 14 9) (e2 : ∀ j, I1' 22 j = I1 22 j) (e3 : I2' 0 34 = I2 0 34) (e4 : ∀ j, I2' 21 j = I2 21 j ∧ I2' 22 j = I2 22 j) (e5 : I2' 0 42 = I2 0 42) (e6 : I2' 0 44 = I2 0 44) : tsA d s0 f0 op M A1 A2 I1' I2' := by
  obtain ⟨h1, h2, h3, h4, h5, h6, h7⟩ := h
  exact ⟨by rw [e1]; exact h1, fun k y z => by rw [e2]; exact h2 k y z, by rw [e3]; exact h3, fun k y z => by rw [(e4 _).1, (e4 _).2]; exact h4 k y z, h5, by rw [e5]; exact h6, by rw [e6]; exact h7⟩
theorem tsF_cg {I2' : (Nat → Nat → Int32)} (h : tsF op kd ph bs bg K L I2) (e1 : I2' 0 41 = I2 0 41) (e2 : ∀ q j, 23 ≤ q → q ≤ 28 → I2' q j = I2 q j) : tsF op kd ph bs bg K L I2' := by
  obtain ⟨h1, h2, h3, h4, h5, h6, h7, h8, h9, h10⟩ := h
  exact ⟨by rw [e1]; exact h1, by rw [e2 _ _ (by omega) (by omega)]; exact h2, by rw [e2 _ _ (by omega) (by omega)]; exact h3, by rw [e2 _ _ (by omega) (by omega)]; exact h4, by rw [e2 _ _ (by omega) (by omega)]; exact h5, fun i y z => by rw [e2 _ _ (by omega) (by omega)]; exact h6 i y z, fun q q1 q2 i hi => by rw [e2 _ _ (by omega) (by omega)]; exact h7 q q1 q2 i hi, by rw [e2 _ _ (by omega) (by omega)]; exact h8, fun i hi => by rw [e2 _ _ (by omega) (by omega)]; exact h9 i hi, h10⟩
theorem TS_d (h : TS n x d s0 f0 B1 B2 BJ op kd ph bs bg K L A1 A2 p a t v l o I1 I2 J2) (hS : stc d W H B1 B2 BJ) : I2 0 35 = nI d := by
  rw [h.2.2.1 0 35 (Or.inr (by unfold tsl; omega)) (by omega) (by omega)]
  exact hS.2.2.2.2.2.2.2.1
theorem TS_45 {r : Int32} (h : TS n x d s0 f0 B1 B2 BJ op kd ph bs bg K L A1 A2 p a t v l o I1 I2 J2) : TS n x d s0 f0 B1 B2 BJ op kd ph bs bg K L A1 A2 p a t v l o I1 (mj_up I2 0 45 r) J2 := by
  obtain ⟨h1, h2, h3, h4, h5, h6⟩ := h
  refine ⟨tkR_cg h1 (fun _ _ _ => rfl) (fun q j z => up_n (by omega)) rfl, h2, fun q j z1 z2 z3 => ?_, h4, tsA_cg h5 rfl (fun _ => rfl) (up_n (by omega)) (fun j => ⟨up_n (by omega), up_n (by omega)⟩) (up_n (by omega)) (up_n (by omega)), tsF_cg h6 (up_n (by omega)) (fun q j z1 z2 => up_n (by omega))⟩
  rw [up_n (by unfold tsl at z1; omega)]
  exact h3 q j z1 z2 z3
theorem DD_45 {r : Int32} (h : DD d s0 f0 B1 B2 BJ I1 I2 J2) : DD d s0 f0 B1 B2 BJ I1 (mj_up I2 0 45 r) J2 := by
  obtain ⟨⟨k, p, b1, b2, b3, b4, b5, b6, b7, b8⟩, h2, h3, h4, h5⟩ := h
  refine ⟨⟨k, p, b1, b2, b3, b4, b5, b6, ?_, ?_⟩, h2, fun q j z1 z2 z3 => ?_, h4, h5⟩
  · rw [up_n (by omega)]; exact b7
  · rw [up_n (by omega)]; exact b8
  · rw [up_n (by unfold tsl at z1; omega)]
    exact h3 q j z1 z2 z3
/-- the class lays one step down -/
theorem c_add {c y s : Nat} (h9 : I1 14 9 = nI s) (hs : s < 900) (hy : y ≤ 9999) : C1 (D + 2) 163 [.ref 14, .int (nI (opc c)), .int (nI y)] I1 J1 .null (mj_up (mj_up I1 22 s (nI (opc c * 16384 + y))) 14 9 (nI (s + 1))) J1 := by
  have e : (if (0 : Int32) < nI y then nI y else 0) = nI y := by
    by_cases z : y = 0
    · rw [z, if_neg (by decide)]; rfl
    · rw [if_pos (show (0 : Int32) < nI y from (nI_ltI (a := 0) (by decide) (by omega)).mpr (by omega))]
  refine mj_mk (e163 _ _ ?_)
  rw [h9, show (900 : Int32) = nI 900 from rfl]
  refine if_le (by decide) (by omega) (fun q => absurd q (by omega)) (fun _ => ?_)
  refine ⟨trivial, _, _, _, c_max, vp_in_nI hs (by decide), ?_⟩
  rw [nI_clamp (by omega), h9, nI_1, e, show (16384 : Int32) = nI 16384 from rfl, pk_mul, nI_add]
theorem c_addD {y z : Int32} {s : Nat} (h9 : I1 14 9 = nI s) (hs : s ≤ 900) : ∃ I1', C1 (D + 2) 163 [.ref 14, .int y, .int z] I1 J1 .null I1' J1 ∧ (∀ q j, (q ≠ 14 ∨ j ≠ 9) → (q ≠ 22 ∨ j < s) → I1' q j = I1 q j) ∧ ∃ c, s ≤ c ∧ c ≤ 900 ∧ I1' 14 9 = nI c := by
  by_cases e : s = 900
  · refine ⟨I1, mj_mk (e163 _ _ ?_), fun _ _ _ _ => rfl, s, Nat.le_refl _, hs, h9⟩
    rw [h9, show (900 : Int32) = nI 900 from rfl]
    exact if_le (by decide) (by omega) (fun _ => rfl) (fun q => absurd q (by omega))
  · refine ⟨mj_up (mj_up I1 22 s (y * 16384 + (if (0 : Int32) < z then z else 0))) 14 9 (nI (s + 1)), mj_mk (e163 _ _ ?_), fun q j z1 z2 => by rw [up_n (by omega), up_n (by omega)], s + 1, by omega, by omega, up_s⟩
    rw [h9, show (900 : Int32) = nI 900 from rfl, nI_clamp (by omega)]
    refine if_le (by decide) (by omega) (fun q => absurd q (by omega)) (fun _ => ?_)
    refine ⟨trivial, _, _, _, c_max, vp_in_nI (by omega) (by decide), ?_⟩
    rw [h9, nI_1]
theorem ts_addC {c y : Nat} (h : TS n x d s0 f0 B1 B2 BJ op kd ph bs bg K L A1 A2 p a t v l o I1 I2 J2) (hs : s0 + A1.length < 900) (hy : y ≤ 9999) : ∃ I1', C1 (D + 2) 163 [.ref 14, .int (nI (opc c)), .int (nI y)] I1 J1 .null I1' J1 ∧ TS n x d s0 f0 B1 B2 BJ op kd ph bs bg K L (A1 ++ [(c, y)]) A2 p a t v l o I1' I2 J2 ∧ I1' 11 9 = I1 11 9 := by
  obtain ⟨h1, h2, h3, h4, ⟨a1, a2, a3, a4, a5, a6, a7⟩, h6⟩ := h
  refine ⟨_, c_add a1 hs hy, ⟨tkR_cg h1 (fun q j z => by rw [up_n (by omega), up_n (by omega)]) (fun _ _ _ => rfl) rfl, fun q j z1 z2 z3 => by rw [up_n (by omega), up_n (by omega)]; exact h2 q j z1 z2 z3, h3, h4, ⟨?_, ?_, a3, a4, a5, a6, a7⟩, h6⟩, by rw [up_n (by omega), up_n (by omega)]⟩
  · rw [up_s, List.length_append]; rfl
  · refine cdC_app a2 (fun j hj => by rw [up_n (by omega), up_n (by omega)]) ?_
    rw [up_n (by omega), up_s]
/-- the reference lays one code down, holds one operator back -/
theorem r_add {y z : Int32} {s : Nat} (h35 : I2 0 35 = nI d) (h34 : I2 0 34 = nI s) (hd : d < 2) (hs : s < 900) : C2 (D + 1) 39 [.ref 0, .int y, .int z] I2 J2 .null (mj_up (mj_up (mj_up I2 21 (900 * d + s) y) 22 (900 * d + s) z) 0 34 (nI (s + 1))) J2 := by
  refine mj_mk (e39 _ _ ?_)
  rw [h35, h34, show (900 : Int32) = nI 900 from rfl, pk_mul, nI_add, nI_clamp (by omega), nI_1]
  exact ⟨vp_in_nI (by omega) (by decide), vp_in_nI (by omega) (by decide), rfl⟩
theorem ts_addR {c y : Nat} (hS : stc d W H B1 B2 BJ) (h : TS n x d s0 f0 B1 B2 BJ op kd ph bs bg K L A1 A2 p a t v l o I1 I2 J2) (hs : f0 + A2.length < 900) : ∃ I2', C2 (D + 1) 39 [.ref 0, .int (nI c), .int (nI y)] I2 J2 .null I2' J2 ∧ TS n x d s0 f0 B1 B2 BJ op kd ph bs bg K L A1 (A2 ++ [(c, y)]) p a t v l o I1 I2' J2 ∧ I2' 0 45 = I2 0 45 := by
  have h35 := TS_d h hS
  have hd := hS.1
  obtain ⟨h1, h2, h3, h4, ⟨a1, a2, a3, a4, a5, a6, a7⟩, h6⟩ := h
  refine ⟨_, r_add h35 a3 hd hs, ⟨tkR_cg h1 (fun _ _ _ => rfl) (fun q j z => by rw [up_n (by omega), up_n (by omega), up_n (by omega)]) rfl, h2, fun q j z1 z2 z3 => ?_, h4, ⟨a1, a2, ?_, ?_, a5, ?_, ?_⟩, tsF_cg h6 (by rw [up_n (by omega), up_n (by omega), up_n (by omega)]) (fun q j z1 z2 => by rw [up_n (by omega), up_n (by omega), up_n (by omega)])⟩, by rw [up_n (by omega), up_n (by omega), up_n (by omega)]⟩
  · rw [up_n (by unfold tsl at z1; omega), up_n (by omega), up_n (by omega)]
    exact h3 q j z1 z2 z3
  · rw [up_s, List.length_append]; rfl
  · refine cdR_app a4 (fun j hj => ⟨by rw [up_n (by omega), up_n (by omega), up_n (by omega)], by rw [up_n (by omega), up_n (by omega), up_n (by omega)]⟩) ⟨?_, ?_⟩
    · rw [up_n (by omega), up_n (by omega), ← Nat.add_assoc, up_s]
    · rw [up_n (by omega), ← Nat.add_assoc, up_s]
  · rw [up_n (by omega), up_n (by omega), up_n (by omega)]; exact a6
  · rw [up_n (by omega), up_n (by omega), up_n (by omega)]; exact a7
theorem ts_hold {c : Nat} (h : TS n x d s0 f0 B1 B2 BJ op kd ph bs bg K L A1 A2 p a t v l o I1 I2 J2) (hM : bs + K.length < 500) (hc : c < 17) : ∃ I2', C2 (D + 1) 37 [.ref 0, .int (nI c)] I2 J2 .null I2' J2 ∧ TS n x d s0 f0 B1 B2 BJ op kd ph bs bg (K ++ [c]) L A1 A2 p a t v l o I1 I2' J2 ∧ I2' 0 45 = I2 0 45 := by
  obtain ⟨h1, h2, h3, h4, ⟨a1, a2, a3, a4, a5, a6, a7⟩, ⟨f1, f2, f3, f4, f5, f6, f7, f8, f9, f10, f11, f12, f13⟩⟩ := h
  refine ⟨mj_up (mj_up I2 28 (bs + K.length) (nI c)) 0 44 (nI (bs + K.length + 1)), mj_mk (e37 _ ?_), ⟨tkR_cg h1 (fun _ _ _ => rfl) (fun q j z => by rw [up_n (by omega), up_n (by omega)]) rfl, h2, fun q j z1 z2 z3 => ?_, h4, ⟨a1, a2, ?_, fun k y z => ?_, a5, ?_, ?_⟩, ⟨?_, ?_, ?_, ?_, ?_, ?_, fun q q1 q2 i hi => ?_, ?_, fun i hi => ?_, f10, f11, f12, fun e he => ?_⟩⟩, ?_⟩
  · rw [a7, nI_clamp (by omega), nI_1]
    exact ⟨vp_in_nI hM (by decide), rfl⟩
  · rw [up_n (by unfold tsl at z1; omega), up_n (by omega)]
    exact h3 q j z1 z2 z3
  · rw [up_n (by omega), up_n (by omega)]; exact a3
  · rw [up_n (by omega), up_n (by omega), up_n (by omega), up_n (by omega)]; exact a4 k y z
  · rw [up_n (by omega), up_n (by omega)]; exact a6
  · rw [up_s, List.length_append]; rfl
  · rw [up_n (by omega), up_n (by omega)]; exact f1
  · rw [up_n (by omega), up_n (by omega)]; exact f2
  · rw [up_n (by omega), up_n (by omega)]; exact f3
  · rw [up_n (by omega), up_n (by omega)]; exact f4
  · rw [up_n (by omega), up_n (by omega)]; exact f5
  · refine ops_app f6 (fun j hj => ?_) ?_
    · rw [up_n (by omega), up_n (by omega)]
    · rw [up_n (by omega), up_s]
  · rw [up_n (by omega), up_n (by omega)]; exact f7 q q1 q2 i hi
  · rw [up_n (by omega), up_n (by omega)]; exact f8
  · rw [up_n (by omega), up_n (by omega)]; exact f9 i hi
  · rcases List.mem_append.mp he with z | z
    · exact f13 e z
    · rw [List.mem_singleton.mp z]; exact hc
  · rw [up_n (by omega), up_n (by omega)]
theorem r_rank {c : Nat} (hc : c < 17) : C2 (D + 1) 43 [.int (nI c)] I2 J2 (.int (nI (rnk c))) I2 J2 := by
  refine mj_mk (e43 _ ?_)
  have eq : ∀ {k : Nat} {y : Int32}, y = nI k → k < 17 → nI c = y → c = k := fun e1 e2 e3 => (nI_eq (by omega) (by omega)).mp (e3.trans e1)
  refine if_i (fun e => ?_) (fun n15 => if_i (fun e => ?_) (fun n14 => if_i (fun e => ?_) (fun n16 => if_i (fun e => ?_) (fun n11 => if_i (fun e => ?_) (fun n12 => if_i (fun e => ?_) (fun n13 => if_i (fun e => ?_) (fun n5 => if_i (fun e => ?_) (fun n6 => ?_))))))))
  · obtain rfl := eq (k := 15) rfl (by decide) e; rfl
  · obtain rfl := eq (k := 14) rfl (by decide) e; rfl
  · obtain rfl := eq (k := 16) rfl (by decide) e; rfl
  · obtain rfl := eq (k := 11) rfl (by decide) e; rfl
  · obtain rfl := eq (k := 12) rfl (by decide) e; rfl
  · obtain rfl := eq (k := 13) rfl (by decide) e; rfl
  · obtain rfl := eq (k := 5) rfl (by decide) e; rfl
  · obtain rfl := eq (k := 6) rfl (by decide) e; rfl
  · have ne : ∀ {k : Nat} {y : Int32}, y = nI k → ¬ nI c = y → c ≠ k := fun e1 e2 e3 => e2 (by rw [e3, e1])
    have m15 := ne (k := 15) rfl n15
    have m14 := ne (k := 14) rfl n14
    have m16 := ne (k := 16) rfl n16
    have m11 := ne (k := 11) rfl n11
    have m12 := ne (k := 12) rfl n12
    have m13 := ne (k := 13) rfl n13
    have m5 := ne (k := 5) rfl n5
    have m6 := ne (k := 6) rfl n6
    have e : rnk c = 6 := by
      unfold rnk
      rw [if_neg m15, if_neg m14, if_neg m16, if_neg (by omega), if_neg (by omega)]
    rw [e]
    rfl
/-- joins: what is held back and binds at least as much is laid down -/
theorem ts_join0 {r : Nat} (hS : stc d W H B1 B2 BJ) (hr : r < 10) (hK : ∀ c, K.getLast? = some c → rnk c < r) : ∀ (m : Nat) (kk : List Nat) (A2 : (List (Nat × Nat))) (I2 : (Nat → Nat → Int32)), kk.length = m → TS n x d s0 f0 B1 B2 BJ op kd ph bs bg (K ++ kk) L A1 A2 p a t v l o I1 I2 J2 → (∀ c ∈ kk, r ≤ rnk c) → f0 + A2.length + kk.length ≤ 900 → bs + K.length + kk.length < 500 → ∀ Q : mj_R → Prop, (∀ I2', TS n x d s0 f0 B1 B2 BJ op kd ph bs bg K L A1 (A2 ++ pops kk) p a t v l o I1 I2' J2 → I2' 0 45 = I2 0 45 → Q (.null, (I2', J2, mj_R2))) → E2 42 (D + 1) Q 0 [(0, .ref 0), (1, .int (nI r))] I2 J2
  | 0, kk, A2, I2, hk, h, hkk, hb, hM, Q, hQ => by
    obtain rfl : kk = [] := List.length_eq_zero_iff.mp hk
    rw [List.append_nil] at h
    have hq0 := hQ I2 (by rw [pops_nil, List.append_nil]; exact h) rfl
    have h8 := h.2.2.2.2.1.2.2.2.2.1
    obtain ⟨-, -, -, -, ⟨-, -, -, -, -, -, a7⟩, ⟨f1, -, -, -, f5, f6, -, -, -, -, -, -, f13⟩⟩ := h
    refine mj_on (s42_0 _ ?_)
    rw [f1, nI_pred, nI_clamp (by omega), a7, f5]
    refine ⟨vp_in_nI (by omega) (by decide), if_le (by omega) (by omega) (fun _ => hq0) (fun z => ?_)⟩
    rcases List.eq_nil_or_concat K with rfl | ⟨K0, c, rfl⟩
    · exact absurd z (by show ¬ bs < bs + 0; omega)
    · rw [List.concat_eq_append] at *
      have hc : c < 17 := f13 c (List.mem_append_right _ List.mem_cons_self)
      have e1 : (K0 ++ [c]).length = K0.length + 1 := by rw [List.length_append]; rfl
      have e2 : I2 28 (bs + K0.length) = nI c := f6 K0.length c (by rw [List.getElem?_append_right (Nat.le_refl _), Nat.sub_self]; rfl)
      have e3 : rnk c < r := hK c (by rw [List.getLast?_append]; rfl)
      have hM2 : bs + (K0.length + 1) < 500 := by rw [e1] at hM; omega
      rw [e1, ← Nat.add_assoc, nI_pred, nI_clamp (by omega), e2]
      refine ⟨vp_in_nI (by omega) (by decide), trivial, _, _, _, r_rank hc, ?_⟩
      have e4 : rnk c < 10 := by omega
      exact if_lt (by omega) (by omega) (fun _ => hq0) (fun w => absurd w (by omega))
  | m + 1, kk, A2, I2, hk, h, hkk, hb, hM, Q, hQ => by
    rcases List.eq_nil_or_concat kk with rfl | ⟨k0, c, rfl⟩
    · cases hk
    rw [List.concat_eq_append] at *
    have e1 : (k0 ++ [c]).length = k0.length + 1 := by rw [List.length_append]; rfl
    rw [e1] at hk hb hM
    have h35 := TS_d h hS
    have hd := hS.1
    rw [← List.append_assoc] at h
    obtain ⟨h1, h2, h3, h4, ⟨a1, a2, a3, a4, a5, a6, a7⟩, ⟨f1, f2, f3, f4, f5, f6, f7, f8, f9, f10, f11, f12, f13⟩⟩ := h
    have e0 : (K ++ k0 ++ [c]).length = (K ++ k0).length + 1 := by rw [List.length_append]; rfl
    have e00 : (K ++ k0).length = K.length + k0.length := List.length_append
    rw [e0, e00, ← Nat.add_assoc] at a7
    have hc : c < 17 := f13 c (List.mem_append_right _ List.mem_cons_self)
    have e2 : I2 28 (bs + (K.length + k0.length)) = nI c := by
      rw [← e00]
      exact f6 (K ++ k0).length c (by rw [List.getElem?_append_right (Nat.le_refl _), Nat.sub_self]; rfl)
    have hrc : r ≤ rnk c := hkk c (List.mem_append_right _ List.mem_cons_self)
    have r10 : rnk c < 10 := by unfold rnk; split <;> (try split) <;> (try split) <;> (try split) <;> (try split) <;> omega
    refine mj_on (s42_0 _ ?_)
    rw [f1, nI_pred, nI_clamp (by omega), a7, f5]
    refine ⟨vp_in_nI (by omega) (by decide), if_le (by omega) (by omega) (fun z => absurd z (by omega)) (fun _ => ?_)⟩
    rw [nI_pred, nI_clamp (by omega), e2]
    refine ⟨vp_in_nI (by omega) (by decide), trivial, _, _, _, r_rank hc, ?_⟩
    refine if_lt (by omega) (by omega) (fun w => absurd w (by omega)) (fun _ => ?_)
    rw [a7, nI_pred, nI_clamp (by omega), e2]
    refine ⟨vp_in_nI (by omega) (by decide), ?_⟩
    have t1 : TS n x d s0 f0 B1 B2 BJ op kd ph bs bg (K ++ k0) L A1 A2 p a t v l o I1 (mj_up I2 0 44 (nI (bs + (K.length + k0.length)))) J2 := by
      refine ⟨tkR_cg h1 (fun _ _ _ => rfl) (fun q j z => by rw [up_n (by omega)]) rfl, h2, fun q j z1 z2 z3 => ?_, h4, ⟨a1, a2, ?_, fun k y z => ?_, a5, ?_, ?_⟩, ⟨?_, ?_, ?_, ?_, ?_, fun i y z => ?_, fun q q1 q2 i hi => ?_, ?_, fun i hi => ?_, f10, f11, f12, fun e he => ?_⟩⟩
      · rw [up_n (by unfold tsl at z1; omega)]
        exact h3 q j z1 z2 z3
      · rw [up_n (by omega)]; exact a3
      · rw [up_n (by omega), up_n (by omega)]; exact a4 k y z
      · rw [up_n (by omega)]; exact a6
      · rw [up_s, e00]
      · rw [up_n (by omega)]; exact f1
      · rw [up_n (by omega)]; exact f2
      · rw [up_n (by omega)]; exact f3
      · rw [up_n (by omega)]; exact f4
      · rw [up_n (by omega)]; exact f5
      · rw [up_n (by omega)]
        exact f6 i y (by rw [List.getElem?_append_left (List.getElem?_eq_some_iff.mp z).1]; exact z)
      · rw [up_n (by omega)]; exact f7 q q1 q2 i hi
      · rw [up_n (by omega)]; exact f8
      · rw [up_n (by omega)]; exact f9 i hi
      · exact f13 e (List.mem_append_left _ he)
    obtain ⟨I2', k1, k2, k3⟩ := ts_addR (D := D) (c := c) (y := 0) hS t1 (by omega)
    refine ⟨trivial, _, _, k1, ?_⟩
    refine ts_join0 hS hr hK m k0 (A2 ++ [(c, 0)]) I2' (by omega) k2 (fun e he => hkk e (List.mem_append_left _ he)) ?_ (by omega) Q (fun I3 q1 q2 => ?_)
    · rw [List.length_append]
      show f0 + (A2.length + 1) + k0.length ≤ 900
      omega
    · refine hQ I3 ?_ ?_
      · rw [pops_app, pops_one]
        rw [List.append_assoc] at q1
        exact q1
      · rw [q2, k3, up_n (by omega)]
theorem ts_join {r : Nat} {kk : List Nat} (hS : stc d W H B1 B2 BJ) (hr : r < 10) (hK : ∀ c ∈ K, rnk c < r) (h : TS n x d s0 f0 B1 B2 BJ op kd ph bs bg (K ++ kk) L A1 A2 p a t v l o I1 I2 J2) (hk : ∀ c ∈ kk, r ≤ rnk c) (hb : f0 + A2.length + kk.length ≤ 900) (hM : bs + K.length + kk.length < 500) : ∃ I2', C2 (D + 2) 42 [.ref 0, .int (nI r)] I2 J2 .null I2' J2 ∧ TS n x d s0 f0 B1 B2 BJ op kd ph bs bg K L A1 (A2 ++ pops kk) p a t v l o I1 I2' J2 ∧ I2' 0 45 = I2 0 45 := by
  obtain ⟨I', J', hc, h1, rfl, h3⟩ := mj_cN (S := mj_S2) (CD := mj_CD) (D := D + 1) (z := 42) (as := [.ref 0, .int (nI r)]) (h := (I2, J2, mj_R2)) (R := mj_R2) (P := fun I' J' => TS n x d s0 f0 B1 B2 BJ op kd ph bs bg K L A1 (A2 ++ pops kk) p a t v l o I1 I' J2 ∧ J' = J2 ∧ I' 0 45 = I2 0 45) (e42 _ (ts_join0 hS hr (fun c q => hK c (List.mem_of_getLast? q)) kk.length kk A2 I2 rfl h hk hb hM _ (fun I3 q1 q2 => ⟨_, _, rfl, q1, rfl, q2⟩)))
  exact ⟨I', hc, h1, h3⟩
end Sa8b
end
section
/-! reading a test: next on both sides; the class behind a fault; the reference's loop -/
section Sa8c
variable {n d s0 f0 W H : Nat} {x : Nat → Nat} {B1 B2 : Nat → Nat → Int32} {BJ : Nat → Nat → Int64}
variable {D D' E op kd ph bs p a t v u : Nat} {l : List Nat} {o : Int} {bg : Int32} {K : List Nat} {A1 A2 : List (Nat × Nat)} {L I1 I2 : Nat → Nat → Int32} {J1 J2 : Nat → Nat → Int64}
theorem adv_ta (h : tkR n x p a t v l o I1 I2 J2) (h0 : t ≠ 0) : ∃ I1' I2' J2', C1 (D + 3) 139 [.ref 11] I1 J1 .null I1' J1 ∧ C2 (D' + 2) 13 [.ref 0] I2 J2 .null I2' J2' ∧ lxf I1 I1' ∧ lxg I2 I2' ∧ lxgJ J2 J2' ∧ ((∃ p' a' t' v' l' o', tkR n x p' a' t' v' l' o' I1' I2' J2' ∧ p < p' ∧ (t = 3 → p + l.length ≤ p')) ∨ ∃ p', tkD 1 p' I1' I2') := by
  have hA := tkR_A h h0
  obtain ⟨h1, h2, hO, c2, r2, c8, r4, c4, r5, c5, r3, c7, w0, r8, r9, hpn, hS⟩ := h
  have key : t ≤ 4 ∧ a ≤ n ∧ p < a ∧ (t = 3 → p + l.length ≤ a) := by
    rcases hS with ⟨q, -⟩ | ⟨q1, q2, q3, -⟩ | ⟨q1, q2, q3, -⟩ | ⟨q1, q2, q3, -, ⟨q5, -⟩, -⟩
    · exact absurd q h0
    · exact ⟨by omega, by omega, by omega, fun q => by omega⟩
    · exact ⟨by omega, by omega, by omega, fun q => by omega⟩
    · exact ⟨by omega, by omega, by omega, fun _ => q2⟩
  obtain ⟨I1', J1', I2', J2', k1, k2, rfl, k4, k5, k6, k7⟩ := adv_both (D := D) (D' := D') (J1 := J1) (J2 := J2) h1 h2 hO c2 r2 c4 r5 c5 key.1 w0 r8 r9 key.2.1 hA
  refine ⟨I1', I2', J2', k1, k2, k4, k5, k6, k7.imp (fun ⟨p', a', t', v', l', o', q1, q2⟩ => ⟨p', a', t', v', l', o', q1, by omega, fun q => ?_⟩) id⟩
  have := key.2.2.2 q
  omega
theorem tk_o (h : tkR n x p a t v l o I1 I2 J2) (ht : t ≠ 3) : o = -1 := by
  obtain ⟨-, -, -, -, -, -, -, -, -, -, -, -, -, -, -, -, hS⟩ := h
  rcases hS with ⟨q1, -, -, q⟩ | ⟨q1, -, -, -, -, -, -, -, q⟩ | ⟨q1, -, -, -, -, -, -, q⟩ | ⟨q1, -⟩
  · exact q
  · exact q
  · exact q
  · exact absurd q1 ht
theorem tk_n (h : tkR n x p a t v l o I1 I2 J2) : p ≤ n ∧ n ≤ 900 ∧ (t ≠ 0 → p < n) ∧ (t = 2 → v ≤ 9999) ∧ t ≤ 3 := by
  have h3 := tkS_t h.2.2.2.2.2.2.2.2.2.2.2.2.2.2.2.2
  have hn := h.1.1
  obtain ⟨-, -, -, -, -, -, -, -, -, -, -, -, -, -, -, hp, hS⟩ := h
  refine ⟨hp, hn, fun h0 => ?_, fun h2 => ?_, h3⟩
  · rcases hS with ⟨q, -⟩ | ⟨q1, q2, q3, -⟩ | ⟨q1, q2, q3, -⟩ | ⟨q1, q2, q3, -, ⟨q5, -⟩, -⟩
    · exact absurd q h0
    · omega
    · omega
    · omega
  · rcases hS with ⟨q, -⟩ | ⟨q, -⟩ | ⟨q1, -, -, -, q, -⟩ | ⟨q, -⟩
    · omega
    · omega
    · exact q
    · omega
/-- the word of the language that stands there is as long as it is -/
theorem tk_w (h : tkR n x p a t v l o I1 I2 J2) {w : Nat} (hw : w < 17) (ho : o = w) : t = 3 ∧ l = owL.getD w [] := by
  have h3 : t = 3 := Classical.byContradiction fun q => by have := tk_o h q; omega
  refine ⟨h3, ?_⟩
  obtain ⟨-, -, -, -, -, -, -, -, -, -, -, -, -, -, -, -, hS⟩ := h
  rcases hS with ⟨q, -⟩ | ⟨q, -⟩ | ⟨q, -⟩ | ⟨-, -, -, -, -, -, -, q⟩
  · omega
  · omega
  · omega
  · exact ((lxo_at q hw).mp ho).symm
theorem ts_adv (h : TS n x d s0 f0 B1 B2 BJ op kd ph bs bg K L A1 A2 p a t v l o I1 I2 J2) (h0 : t ≠ 0) (hs : s0 + A1.length ≤ 900) : ∃ I1' I2' J2', C1 (D + 3) 139 [.ref 11] I1 J1 .null I1' J1 ∧ C2 (D' + 2) 13 [.ref 0] I2 J2 .null I2' J2' ∧ I2' 0 45 = I2 0 45 ∧ I1' 11 9 = I1 11 9 ∧ ((∃ p' a' t' v' l' o', TS n x d s0 f0 B1 B2 BJ op kd ph bs bg K L A1 A2 p' a' t' v' l' o' I1' I2' J2' ∧ p < p' ∧ (t = 3 → p + l.length ≤ p')) ∨ (DD d s0 f0 B1 B2 BJ I1' I2' J2' ∧ I2' 0 8 = nI 1)) := by
  obtain ⟨h1, h2, h3, h4, h5, h6⟩ := h
  obtain ⟨I1', I2', J2', k1, k2, k4, k5, k6, k7⟩ := adv_ta (D := D) (D' := D') (J1 := J1) h1 h0
  refine ⟨I1', I2', J2', k1, k2, k5 0 45 (by omega), k4 11 9 (by omega), ?_⟩
  have t2 : tsC s0 B1 I1' := fun q j z1 z2 z3 => by rw [k4 q j (by omega)]; exact h2 q j z1 z2 z3
  have t3 : tsR d f0 B2 I2' := fun q j z1 z2 z3 => by rw [k5 q j (by unfold tsl at z1; omega)]; exact h3 q j z1 z2 z3
  have t4 : lxgJ BJ J2' := fun q j z => by rw [k6 q j z]; exact h4 q j z
  rcases k7 with ⟨p', a', t', v', l', o', q1, q2, q3⟩ | ⟨p', q1⟩
  · exact Or.inl ⟨p', a', t', v', l', o', ⟨q1, t2, t3, t4, tsA_cg h5 (k4 14 9 (by omega)) (fun j => k4 22 j (by omega)) (k5 0 34 (by omega)) (fun j => ⟨k5 21 j (by omega), k5 22 j (by omega)⟩) (k5 0 42 (by omega)) (k5 0 44 (by omega)), tsF_cg h6 (k5 0 41 (by omega)) (fun q j z1 z2 => k5 q j (by omega))⟩, q2, q3⟩
  · exact Or.inr ⟨⟨⟨1, p', q1⟩, t2, t3, t4, _, Nat.le_add_right _ _, hs, by rw [k4 14 9 (by omega)]; exact h5.1⟩, q1.2.2.2.2.2.2.1⟩
/-- a fault on both sides at the token at hand -/
theorem ts_bl {k : Nat} (h : TS n x d s0 f0 B1 B2 BJ op kd ph bs bg K L A1 A2 p a t v l o I1 I2 J2) (hk : 1 ≤ k) (hk6 : k ≤ 6) (hs : s0 + A1.length ≤ 900) : ∃ I1' I2', C1 (D + 1) 144 [.ref 11, .int (nI k)] I1 J1 .null I1' J1 ∧ C2 (D' + 1) 16 [.ref 0, .int (nI k), .int (I2 0 4)] I2 J2 .null I2' J2 ∧ DD d s0 f0 B1 B2 BJ I1' I2' J2 ∧ I2' 0 8 = nI k ∧ I2' 0 45 = I2 0 45 ∧ I1' 11 9 = I1 11 9 ∧ ∀ q j, (q ≠ 0 ∨ (j ≠ 8 ∧ j ≠ 9)) → I2' q j = I2 q j := by
  obtain ⟨h1, h2, h3, h4, h5, h6⟩ := h
  obtain ⟨I1', I2', k1, k2, k3, k4, k5⟩ := bl_both (D := D) (D' := D') (J1 := J1) (J2 := J2) h1 hk hk6
  refine ⟨I1', I2', k1, k2, ⟨⟨k, p, k5⟩, fun q j z1 z2 z3 => ?_, fun q j z1 z2 z3 => ?_, h4, _, Nat.le_add_right _ _, hs, ?_⟩, k5.2.2.2.2.2.2.1, k4 0 45 (by omega), k3 11 9 (by omega), k4⟩
  · rw [k3 q j (by omega)]; exact h2 q j z1 z2 z3
  · rw [k4 q j (by unfold tsl at z1; omega)]; exact h3 q j z1 z2 z3
  · rw [k3 14 9 (by omega)]; exact h5.1
theorem r_blD {y z : Int32} {k : Nat} (h8 : I2 0 8 = nI k) (hk : 1 ≤ k) (hk6 : k ≤ 6) : C2 (D + 1) 16 [.ref 0, .int y, .int z] I2 J2 .null I2 J2 := r_blame1 (by
  rw [h8]
  intro q
  have q : nI k ≤ nI 0 := q
  have := (nI_leI (by omega) (by decide)).mp q
  omega)
theorem DD_k (h : DD d s0 f0 B1 B2 BJ I1 I2 J2) : ∃ k, 1 ≤ k ∧ k ≤ 6 ∧ I2 0 8 = nI k := by
  obtain ⟨⟨k, p, q⟩, -⟩ := h
  exact ⟨k, q.1, q.2.1, q.2.2.2.2.2.2.1⟩
theorem DD_8 (h : DD d s0 f0 B1 B2 BJ I1 I2 J2) : ¬ I2 0 8 = 0 ∧ ¬ I2 0 8 ≤ 0 := by
  obtain ⟨k, h1, h2, h3⟩ := DD_k h
  rw [h3]
  refine ⟨nI_ne0 (by omega) (by omega), fun q => ?_⟩
  have q : nI k ≤ nI 0 := q
  have := (nI_leI (by omega) (by decide)).mp q
  omega
-- the class behind a fault
theorem DD_lxh {I1' : (Nat → Nat → Int32)} (h : DD d s0 f0 B1 B2 BJ I1 I2 J2) (hh : lxh I1 I1') (hd : ∃ k p, tkD k p I1' I2) : DD d s0 f0 B1 B2 BJ I1' I2 J2 := by
  obtain ⟨-, h2, h3, h4, c, h5, h6, h7⟩ := h
  exact ⟨hd, fun q j z1 z2 z3 => by rw [hh q j (by omega)]; exact h2 q j z1 z2 z3, h3, h4, c, h5, h6, by rw [hh 14 9 (by omega)]; exact h7⟩
theorem d_tok (h : DD d s0 f0 B1 B2 BJ I1 I2 J2) : I1 11 5 = nI 4 ∧ I1 11 7 = -1 := by
  obtain ⟨⟨k, p, q⟩, -⟩ := h
  exact ⟨q.2.2.2.1, q.2.2.2.2.1⟩
theorem d_add {y z : Int32} (h : DD d s0 f0 B1 B2 BJ I1 I2 J2) : ∃ I1', C1 (D + 2) 163 [.ref 14, .int y, .int z] I1 J1 .null I1' J1 ∧ DD d s0 f0 B1 B2 BJ I1' I2 J2 := by
  obtain ⟨⟨k, p, b1, b2, b3, b4, b5, b6, b7, b8⟩, h2, h3, h4, c, h5, h6, h7⟩ := h
  obtain ⟨I1', k1, k2, e, e1, e2, e3⟩ := c_addD (D := D) (J1 := J1) (y := y) (z := z) h7 h6
  refine ⟨I1', k1, ⟨k, p, b1, b2, b3, ?_, ?_, ?_, b7, b8⟩, fun q j z1 z2 z3 => ?_, h3, h4, e, by omega, e2, e3⟩
  · rw [k2 11 5 (by omega) (by omega)]; exact b4
  · rw [k2 11 7 (by omega) (by omega)]; exact b5
  · rw [k2 11 10 (by omega) (by omega), k2 11 8 (by omega) (by omega), k2 11 11 (by omega) (by omega)]; exact b6
  · rw [k2 q j z2 (by omega)]; exact h2 q j z1 z2 z3
theorem d_bl (h : DD d s0 f0 B1 B2 BJ I1 I2 J2) : ∃ I1', C1 (D + 1) 144 [.ref 11, .int 1] I1 J1 .null I1' J1 ∧ DD d s0 f0 B1 B2 BJ I1' I2 J2 := by
  obtain ⟨⟨k, p, q⟩, -⟩ := id h
  obtain ⟨I1', J1', k1, rfl, k2, k3, -⟩ := dd_blame (D := D) (J1 := J1) q
  exact ⟨I1', k1, DD_lxh h k2 ⟨k, p, k3⟩⟩
theorem d_take {c : Int32} (h : DD d s0 f0 B1 B2 BJ I1 I2 J2) : ∃ I1', C1 (D + 2) 162 [.ref 11, .int c] I1 J1 .null I1' J1 ∧ DD d s0 f0 B1 B2 BJ I1' I2 J2 := by
  obtain ⟨⟨k, p, q⟩, -⟩ := id h
  obtain ⟨I1', J1', k1, rfl, k2, k3, -⟩ := dd_take (D := D) (J1 := J1) (c := c) q
  exact ⟨I1', k1, DD_lxh h k2 ⟨k, p, k3⟩⟩
theorem d_open {c : Int32} (h : DD d s0 f0 B1 B2 BJ I1 I2 J2) : ∃ I1', C1 (D + 2) 161 [.ref 11, .int c] I1 J1 (.int 0) I1' J1 ∧ DD d s0 f0 B1 B2 BJ I1' I2 J2 := by
  obtain ⟨⟨k, p, q⟩, -⟩ := id h
  obtain ⟨I1', J1', k1, rfl, k2, k3, -⟩ := dd_open (D := D) (J1 := J1) (c := c) q
  exact ⟨I1', k1, DD_lxh h k2 ⟨k, p, k3⟩⟩
theorem d_ask {c e : Int32} (h : DD d s0 f0 B1 B2 BJ I1 I2 J2) : ∃ I1', C1 (D + 2) 153 [.ref 11, .int c, .int e] I1 J1 (.int (-1)) I1' J1 ∧ DD d s0 f0 B1 B2 BJ I1' I2 J2 := by
  obtain ⟨⟨k, p, q⟩, -⟩ := id h
  obtain ⟨I1', J1', k1, rfl, k2, k3, -⟩ := dd_ask (D := D) (J1 := J1) (c := c) (e := e) q
  exact ⟨I1', k1, DD_lxh h k2 ⟨k, p, k3⟩⟩
theorem d_cmp (h : DD d s0 f0 B1 B2 BJ I1 I2 J2) : ∃ I1', C1 (D + 2) 168 [.ref 11] I1 J1 (.int (-1)) I1' J1 ∧ DD d s0 f0 B1 B2 BJ I1' I2 J2 := by
  obtain ⟨⟨k, p, q⟩, -⟩ := id h
  obtain ⟨I1', J1', k1, rfl, k2, k3, -⟩ := dd_cmp (D := D) (J1 := J1) q
  exact ⟨I1', k1, DD_lxh h k2 ⟨k, p, k3⟩⟩
theorem DD_119 {y : Int32} (h : DD d s0 f0 B1 B2 BJ I1 I2 J2) : DD d s0 f0 B1 B2 BJ (mj_up I1 11 9 y) I2 J2 := by
  obtain ⟨⟨k, p, b1, b2, b3, b4, b5, b6, b7, b8⟩, h2, h3, h4, c, h5, h6, h7⟩ := h
  refine ⟨⟨k, p, b1, b2, b3, ?_, ?_, ?_, b7, b8⟩, fun q j z1 z2 z3 => ?_, h3, h4, c, h5, h6, ?_⟩
  · rw [up_n (by omega)]; exact b4
  · rw [up_n (by omega)]; exact b5
  · rw [up_n (by omega), up_n (by omega), up_n (by omega)]; exact b6
  · rw [up_n (by omega)]; exact h2 q j z1 z2 z3
  · rw [up_n (by omega)]; exact h7
theorem d_part (h : DD d s0 f0 B1 B2 BJ I1 I2 J2) : ∃ I1', C1 (D + 3) 166 [.ref 11] I1 J1 .null I1' J1 ∧ DD d s0 f0 B1 B2 BJ I1' I2 J2 := by
  obtain ⟨e1, e2⟩ := d_tok h
  obtain ⟨Ia, ca, ha⟩ := d_open (D := D) (J1 := J1) (c := 40) h
  refine ⟨Ia, mj_mk (e166 ?_), ha⟩
  rw [e1, e2, if_neg (by decide), if_neg (by decide), if_neg (by decide), if_neg (by decide), if_neg (by decide)]
  refine ⟨trivial, _, _, _, ca, ?_⟩
  rw [if_pos rfl]
theorem d_prod (h : DD d s0 f0 B1 B2 BJ I1 I2 J2) : ∃ I1', C1 (D + 4) 165 [.ref 11] I1 J1 .null I1' J1 ∧ DD d s0 f0 B1 B2 BJ I1' I2 J2 := by
  obtain ⟨Ia, ca, ha⟩ := d_part (D := D) (J1 := J1) h
  refine ⟨Ia, mj_mk (e165 ?_), ha⟩
  refine ⟨trivial, _, _, ca, ?_⟩
  refine mj_on (s165_6 _ ?_)
  rw [if_neg (by decide)]
  refine ⟨trivial, _, _, _, sg_d (d_tok ha).1, if_tf (fun z => z.elim) (fun _ => ?_)⟩
  refine ⟨trivial, _, _, _, sg_d (d_tok ha).1, if_tf (fun z => z.elim) (fun _ => rfl)⟩
theorem d_sum (h : DD d s0 f0 B1 B2 BJ I1 I2 J2) : ∃ I1', C1 (D + 5) 164 [.ref 11] I1 J1 .null I1' J1 ∧ DD d s0 f0 B1 B2 BJ I1' I2 J2 := by
  obtain ⟨Ia, ca, ha⟩ := d_prod (D := D) (J1 := J1) h
  refine ⟨Ia, mj_mk (e164 ?_), ha⟩
  refine ⟨trivial, _, _, ca, ?_⟩
  refine mj_on (s164_6 _ ?_)
  rw [if_neg (by decide)]
  refine ⟨trivial, _, _, _, sg_d (d_tok ha).1, if_tf (fun z => z.elim) (fun _ => ?_)⟩
  refine ⟨trivial, _, _, _, sg_d (d_tok ha).1, if_tf (fun z => z.elim) (fun _ => rfl)⟩
/-- the end of a fact -/
theorem d_fact160 {Q : mj_R → Prop} {y : Int32} (h : DD d s0 f0 B1 B2 BJ I1 I2 J2) (hQ : ∀ I1', DD d s0 f0 B1 B2 BJ I1' I2 J2 → Q (.null, (I1', J1, mj_R1))) : E1 159 (D + 2) Q 160 [(0, .ref 11), (1, .int y)] I1 J1 := by
  refine mj_on (s159_160 _ ?_)
  refine if_i (fun _ => hQ I1 h) (fun _ => ?_)
  obtain ⟨Ia, ca, ha⟩ := d_add (D := D) (J1 := J1) (y := 10) (z := 0) h
  exact ⟨trivial, _, _, ca, hQ Ia ha⟩
theorem d_fact4 {Q : mj_R → Prop} {y z : Int32} (h : DD d s0 f0 B1 B2 BJ I1 I2 J2) (hQ : ∀ I1', DD d s0 f0 B1 B2 BJ I1' I2 J2 → Q (.null, (I1', J1, mj_R1))) : E1 159 (D + 5) Q 4 [(0, .ref 11), (1, .int y), (2, .int z)] I1 J1 := by
  have e40 : E1 159 (D + 5) Q 40 [(0, .ref 11), (1, .int y)] I1 J1 := by
    obtain ⟨e1, e2⟩ := d_tok h
    refine mj_on (s159_40 _ ?_)
    refine ⟨trivial, _, _, _, sg_d e1, if_tf (fun z => z.elim) (fun _ => ?_)⟩
    rw [e2, if_neg (by decide), if_neg (by decide)]
    obtain ⟨Ia, ca, ha⟩ := d_sum (D := D) (J1 := J1) h
    obtain ⟨Ib, cb, hb⟩ := d_cmp (D := D + 3) (J1 := J1) ha
    obtain ⟨Ic, cc, hc⟩ := d_sum (D := D) (J1 := J1) hb
    obtain ⟨Id, cd, hd⟩ := d_add (D := D + 3) (J1 := J1) (y := -1) (z := 0) hc
    exact ⟨trivial, _, _, ca, trivial, _, _, _, cb, trivial, _, _, cc, trivial, _, _, cd, d_fact160 (D := D + 3) hd hQ⟩
  refine mj_on (s159_4 _ _ ?_)
  rw [(d_tok h).2]
  exact if_i (fun _ => e40) (fun _ => by rw [if_neg (by decide)]; exact e40)
theorem d_fact (h : DD d s0 f0 B1 B2 BJ I1 I2 J2) : ∃ I1', C1 (D + 6) 159 [.ref 11] I1 J1 .null I1' J1 ∧ DD d s0 f0 B1 B2 BJ I1' I2 J2 := by
  obtain ⟨I', J', hc, h1, rfl⟩ := mj_cN (S := mj_S1) (CD := mj_CD) (D := D + 5) (z := 159) (as := [.ref 11]) (h := (I1, J1, mj_R1)) (R := mj_R1) (P := fun I' J' => DD d s0 f0 B1 B2 BJ I' I2 J2 ∧ J' = J1) (e159 (d_fact4 h (fun I3 q => ⟨_, _, rfl, q, rfl⟩)))
  exact ⟨I', hc, h1⟩
theorem d_both (h : DD d s0 f0 B1 B2 BJ I1 I2 J2) : ∃ I1', C1 (D + 7) 158 [.ref 11] I1 J1 .null I1' J1 ∧ DD d s0 f0 B1 B2 BJ I1' I2 J2 := by
  obtain ⟨Ia, ca, ha⟩ := d_fact (D := D) (J1 := J1) h
  refine ⟨Ia, mj_mk (e158 ?_), ha⟩
  refine ⟨trivial, _, _, ca, ?_⟩
  refine mj_on (s158_6 _ ?_)
  rw [if_neg (by decide), (d_tok ha).2, if_neg (by decide)]
theorem d_test (h : DD d s0 f0 B1 B2 BJ I1 I2 J2) : ∃ I1', C1 (D + 8) 157 [.ref 11] I1 J1 .null I1' J1 ∧ DD d s0 f0 B1 B2 BJ I1' I2 J2 := by
  obtain ⟨Ia, ca, ha⟩ := d_both (D := D) (J1 := J1) h
  refine ⟨Ia, mj_mk (e157 ?_), ha⟩
  refine ⟨trivial, _, _, ca, ?_⟩
  refine mj_on (s157_6 _ ?_)
  rw [if_neg (by decide), (d_tok ha).2, if_neg (by decide)]
-- the reference's loop
def gA (E : Nat) (I2 : (Nat → Nat → Int32)) (J2 : (Nat → Nat → Int64)) (I2' : (Nat → Nat → Int32)) (J2' : (Nat → Nat → Int64)) : Prop := ∀ Q : mj_R → Prop, E2 33 (E + 5) Q 35 [(0, .ref 0), (1, .int 1)] I2' J2' → E2 33 (E + 5) Q 35 [(0, .ref 0), (1, .int 1)] I2 J2
def gD (E : Nat) (I2 : (Nat → Nat → Int32)) (J2 : (Nat → Nat → Int64)) (I2' : (Nat → Nat → Int32)) (J2' : (Nat → Nat → Int64)) : Prop := ∀ Q : mj_R → Prop, Q (.null, (I2', J2', mj_R2)) → E2 33 (E + 5) Q 35 [(0, .ref 0), (1, .int 1)] I2 J2
theorem g_end {Q : mj_R → Prop} {I : (Nat → Nat → Int32)} {J : (Nat → Nat → Int64)} (h : Q (.null, (I, J, mj_R2))) : E2 33 (E + 5) Q 35 [(0, .ref 0), (1, .int 0)] I J := by
  refine mj_on (s33_35 _ ?_)
  rw [if_pos rfl]
  exact h
theorem g_part {r : Int32} {I' : (Nat → Nat → Int32)} {J' : (Nat → Nat → Int64)} (h45 : I2 0 45 = 0) (hc : C2 (E + 5) 35 [.ref 0] I2 J2 (.int r) I' J') (hr : r = 0 ∨ r = 1) (h8 : I' 0 8 = 0) : gA E I2 J2 (mj_up I' 0 45 r) J' := fun Q h => by
  refine mj_on (s33_35 _ ?_)
  rw [if_neg (by decide), if_pos h45]
  refine ⟨trivial, _, _, _, hc, hr, ?_⟩
  refine mj_on (s33_62 _ ?_)
  rw [if_neg (by decide), if_pos (by rw [up_n (by decide)]; exact h8)]
  exact h
theorem g_partD {r : Int32} {I' : (Nat → Nat → Int32)} {J' : (Nat → Nat → Int64)} (h45 : I2 0 45 = 0) (hc : C2 (E + 5) 35 [.ref 0] I2 J2 (.int r) I' J') (hr : r = 0 ∨ r = 1) (h8 : ¬ I' 0 8 = 0) : gD E I2 J2 (mj_up I' 0 45 r) J' := fun Q h => by
  refine mj_on (s33_35 _ ?_)
  rw [if_neg (by decide), if_pos h45]
  refine ⟨trivial, _, _, _, hc, hr, ?_⟩
  refine mj_on (s33_62 _ ?_)
  rw [if_neg (by decide), if_neg (by rw [up_n (by decide)]; exact h8)]
  exact g_end h
theorem g_go {I' : (Nat → Nat → Int32)} {J' : (Nat → Nat → Int64)} (h45 : I2 0 45 = 1) (hc : C2 (E + 5) 41 [.ref 0] I2 J2 (.int 1) I' J') (h8 : I' 0 8 = 0) : gA E I2 J2 I' J' := fun Q h => by
  refine mj_on (s33_35 _ ?_)
  rw [if_neg (by decide), h45, if_neg (by decide)]
  refine ⟨trivial, _, _, _, hc, ?_⟩
  refine mj_on (s33_62 _ ?_)
  rw [if_neg (by decide), if_pos h8]
  exact h
theorem g_goD {r : Int32} {I' : (Nat → Nat → Int32)} {J' : (Nat → Nat → Int64)} (h45 : I2 0 45 = 1) (hc : C2 (E + 5) 41 [.ref 0] I2 J2 (.int r) I' J') (h8 : ¬ I' 0 8 = 0 ∨ r = 0) : gD E I2 J2 I' J' := fun Q h => by
  refine mj_on (s33_35 _ ?_)
  rw [if_neg (by decide), h45, if_neg (by decide)]
  refine ⟨trivial, _, _, _, hc, ?_⟩
  refine mj_on (s33_62 _ ?_)
  refine if_i (fun _ => g_end h) (fun z => ?_)
  rw [if_neg (h8.resolve_right z)]
  exact g_end h
theorem gA_tr {Ia Ib : (Nat → Nat → Int32)} {Ja Jb : (Nat → Nat → Int64)} (h : gA E I2 J2 Ia Ja) (h' : gA E Ia Ja Ib Jb) : gA E I2 J2 Ib Jb := fun Q q => h Q (h' Q q)
theorem gA_D {Ia Ib : (Nat → Nat → Int32)} {Ja Jb : (Nat → Nat → Int64)} (h : gA E I2 J2 Ia Ja) (h' : gD E Ia Ja Ib Jb) : gD E I2 J2 Ib Jb := fun Q q => h Q (h' Q q)
theorem gA_rf : gA E I2 J2 I2 J2 := fun _ q => q
end Sa8c
end
section
/-! reading a test: names, brackets -/
def spcl (t v : Nat) (o : Int) : Prop := (t = 1 ∧ v = 91) ∨ o = 10 ∨ o = 11 ∨ o = 12
def fst1 (kd : Nat) (bg : Int32) : Prop := (kd = 1 ∨ kd = 5) ∧ bg = 1
section Sa8d
variable {n d s0 f0 W H : Nat} {x : Nat → Nat} {B1 B2 : Nat → Nat → Int32} {BJ : Nat → Nat → Int64}
variable {D D' E op kd ph bs p a t v u : Nat} {l : List Nat} {o : Int} {bg : Int32} {K : List Nat} {A1 A2 : List (Nat × Nat)} {L I1 I2 : Nat → Nat → Int32} {J1 J2 : Nat → Nat → Int64}
theorem find_eq {N : Nat} {f : Nat → Int32} {g : Nat → Int64} {r1 r2 : Int32} (hl : lxl l) (hN : N ≤ 900) (hq : ∀ j, j < N → nmq (f j) (g j)) (h1 : (r1 = -1 ∧ ∀ j, j < N → f j ≠ nI (nmC l)) ∨ ∃ j, j < N ∧ r1 = nI j ∧ f j = nI (nmC l) ∧ ∀ m, m < j → f m ≠ nI (nmC l)) (h2 : fnd N g (lN (nmR l)) r2) : r1 = r2 := by
  have q : ∀ j, j < N → (f j = nI (nmC l) ↔ g j = lN (nmR l)) := fun j hj => nmq_eq (hq j hj) hl
  rcases h1 with ⟨rfl, a⟩ | ⟨j, j1, rfl, j2, j3⟩
  · rcases h2 with ⟨rfl, -⟩ | ⟨i, i1, -, i2, -⟩
    · rfl
    · exact absurd ((q i i1).mpr i2) (a i i1)
  · rcases h2 with ⟨-, b⟩ | ⟨i, i1, rfl, i2, i3⟩
    · exact absurd ((q j j1).mp j2) (b j j1)
    · have : j = i := by
        rcases Nat.lt_trichotomy j i with z | z | z
        · exact absurd ((q j j1).mp j2) (i3 j z)
        · exact z
        · exact absurd ((q i i1).mpr i2) (j3 i z)
      rw [this]
theorem own_eq (h : tkR n x p a t v l o I1 I2 J2) {w : Nat} {y : Int32} (hw : w < 17) (hy : y = nI w) : I1 11 7 = y ↔ o = w := by
  obtain ⟨-, -, -, -, -, -, -, -, -, -, -, c7, -, -, -, -, hS⟩ := h
  have ho : -1 ≤ o ∧ o ≤ 16 := by
    rcases hS with ⟨-, -, -, q⟩ | ⟨-, -, -, -, -, -, -, -, q⟩ | ⟨-, -, -, -, -, -, -, q⟩ | ⟨-, -, -, -, -, -, -, q⟩
    · omega
    · omega
    · omega
    · rcases q with ⟨q, -⟩ | ⟨w, hw, q, -⟩ <;> omega
  rw [c7, hy]
  constructor
  · intro z
    have z := congrArg Int32.toInt z
    rw [iI_toInt (by omega) (by omega), nI_toInt (by omega)] at z
    exact z
  · intro z
    rw [z]; rfl
theorem tok_eq (h : tkR n x p a t v l o I1 I2 J2) {k : Nat} {y : Int32} (hk : k < 5) (hy : y = nI k) : I1 11 5 = y ↔ t = k := by
  have h3 := (tk_n h).2.2.2.2
  rw [h.2.2.2.2.2.2.2.2.2.1, hy]
  exact nI_eq (by omega) (by omega)
theorem rtk_eq (h : tkR n x p a t v l o I1 I2 J2) {k : Nat} {y : Int32} (hk : k < 4) (h1 : 1 ≤ k) (hy : y = nI (4 - k)) : I2 0 3 = y ↔ t = k := by
  have h3 := (tk_n h).2.2.2.2
  have tk : tkr t < 2 ^ 31 := by unfold tkr; split <;> omega
  rw [h.2.2.2.2.2.2.2.2.2.2.1, hy, nI_eq tk (by omega)]
  unfold tkr
  split <;> omega
theorem TS_bg {y : Int32} (h : TS n x d s0 f0 B1 B2 BJ op kd ph bs bg K L A1 A2 p a t v l o I1 I2 J2) (hy : y = 0 ∨ y = 1) : TS n x d s0 f0 B1 B2 BJ op kd ph bs y K L A1 A2 p a t v l o I1 (mj_up I2 25 op y) J2 := by
  obtain ⟨h1, h2, h3, h4, h5, ⟨f1, f2, f3, f4, f5, f6, f7, f8, f9, f10, f11, f12, f13⟩⟩ := h
  refine ⟨tkR_cg h1 (fun _ _ _ => rfl) (fun q j z => up_n (by omega)) rfl, h2, fun q j z1 z2 z3 => by rw [up_n (by omega)]; exact h3 q j z1 z2 z3, h4, tsA_cg h5 rfl (fun _ => rfl) (up_n (by omega)) (fun j => ⟨up_n (by omega), up_n (by omega)⟩) (up_n (by omega)) (up_n (by omega)), ⟨?_, ?_, ?_, up_s, ?_, fun i z zz => ?_, fun q q1 q2 i hi => ?_, ?_, fun i hi => ?_, f10, f11, hy, f13⟩⟩
  · rw [up_n (by omega)]; exact f1
  · rw [up_n (by omega)]; exact f2
  · rw [up_n (by omega)]; exact f3
  · rw [up_n (by omega)]; exact f5
  · rw [up_n (by omega)]; exact f6 i z zz
  · rw [up_n (by omega)]; exact f7 q q1 q2 i hi
  · rw [up_n (by omega)]; exact f8
  · rw [up_n (by omega)]; exact f9 i hi
theorem TS_ph {y : Nat} (h : TS n x d s0 f0 B1 B2 BJ op kd ph bs bg K L A1 A2 p a t v l o I1 I2 J2) (hy : y ≤ 2) : TS n x d s0 f0 B1 B2 BJ op kd y bs bg K L A1 A2 p a t v l o I1 (mj_up I2 24 op (nI y)) J2 := by
  obtain ⟨h1, h2, h3, h4, h5, ⟨f1, f2, f3, f4, f5, f6, f7, f8, f9, f10, f11, f12, f13⟩⟩ := h
  refine ⟨tkR_cg h1 (fun _ _ _ => rfl) (fun q j z => up_n (by omega)) rfl, h2, fun q j z1 z2 z3 => by rw [up_n (by omega)]; exact h3 q j z1 z2 z3, h4, tsA_cg h5 rfl (fun _ => rfl) (up_n (by omega)) (fun j => ⟨up_n (by omega), up_n (by omega)⟩) (up_n (by omega)) (up_n (by omega)), ⟨?_, ?_, up_s, ?_, ?_, fun i z zz => ?_, fun q q1 q2 i hi => ?_, ?_, fun i hi => ?_, f10, hy, f12, f13⟩⟩
  · rw [up_n (by omega)]; exact f1
  · rw [up_n (by omega)]; exact f2
  · rw [up_n (by omega)]; exact f4
  · rw [up_n (by omega)]; exact f5
  · rw [up_n (by omega)]; exact f6 i z zz
  · rw [up_n (by omega)]; exact f7 q q1 q2 i hi
  · rw [up_n (by omega)]; exact f8
  · rw [up_n (by omega)]; exact f9 i hi
/-- the kind of the frame on top changes -/
theorem TS_kd {y : Nat} (h : TS n x d s0 f0 B1 B2 BJ op kd ph bs bg K L A1 A2 p a t v l o I1 I2 J2) (hy : y ≤ 5) : TS n x d s0 f0 B1 B2 BJ op y ph bs bg K L A1 A2 p a t v l o I1 (mj_up I2 23 op (nI y)) J2 := by
  obtain ⟨h1, h2, h3, h4, h5, ⟨f1, f2, f3, f4, f5, f6, f7, f8, f9, f10, f11, f12, f13⟩⟩ := h
  refine ⟨tkR_cg h1 (fun _ _ _ => rfl) (fun q j z => up_n (by omega)) rfl, h2, fun q j z1 z2 z3 => by rw [up_n (by omega)]; exact h3 q j z1 z2 z3, h4, tsA_cg h5 rfl (fun _ => rfl) (up_n (by omega)) (fun j => ⟨up_n (by omega), up_n (by omega)⟩) (up_n (by omega)) (up_n (by omega)), ⟨?_, up_s, ?_, ?_, ?_, fun i z zz => ?_, fun q q1 q2 i hi => ?_, ?_, fun i hi => ?_, hy, f11, f12, f13⟩⟩
  · rw [up_n (by omega)]; exact f1
  · rw [up_n (by omega)]; exact f3
  · rw [up_n (by omega)]; exact f4
  · rw [up_n (by omega)]; exact f5
  · rw [up_n (by omega)]; exact f6 i z zz
  · rw [up_n (by omega)]; exact f7 q q1 q2 i hi
  · rw [up_n (by omega)]; exact f8
  · rw [up_n (by omega)]; exact f9 i hi
theorem DD_2x {q0 j0 : Nat} {y : Int32} (h : DD d s0 f0 B1 B2 BJ I1 I2 J2) (hq : 23 ≤ q0 ∧ q0 ≤ 28 ∨ q0 = 0 ∧ (j0 = 41 ∨ j0 = 42 ∨ j0 = 44)) : DD d s0 f0 B1 B2 BJ I1 (mj_up I2 q0 j0 y) J2 := by
  obtain ⟨⟨k, p, b1, b2, b3, b4, b5, b6, b7, b8⟩, h2, h3, h4, h5⟩ := h
  refine ⟨⟨k, p, b1, b2, b3, b4, b5, b6, ?_, ?_⟩, h2, fun q j z1 z2 z3 => ?_, h4, h5⟩
  · rw [up_n (by omega)]; exact b7
  · rw [up_n (by omega)]; exact b8
  · rw [up_n (by unfold tsl at z1; omega)]
    exact h3 q j z1 z2 z3
theorem r_isTest {k : Nat} (hk : k ≤ 5) : C2 (D + 1) 36 [.int (nI k)] I2 J2 (.int (tf (k = 1 ∨ k = 5))) I2 J2 := by
  refine mj_mk (e36 _ ?_)
  rw [show (1 : Int32) = nI 1 from rfl, show (5 : Int32) = nI 5 from rfl]
  exact if_eq (by omega) (by decide) (fun e => mzT (Or.inl e)) (fun e => if_eq (by omega) (by decide) (fun e2 => mzT (Or.inr e2)) (fun e2 => mzF (by omega)))
/-- any sign, any state -/
theorem sg_any {y : Int32} : ∃ r, C2 (D + 1) 28 [.ref 0, .int y] I2 J2 (.int r) I2 J2 := by
  by_cases h1 : I2 0 3 = 3
  · by_cases h2 : I2 0 6 = y
    · exact ⟨1, mj_mk (e28 _ (by rw [if_pos h1, if_pos h2]; exact ⟨Or.inr rfl, rfl⟩))⟩
    · exact ⟨0, mj_mk (e28 _ (by rw [if_pos h1, if_neg h2]; exact ⟨Or.inl rfl, rfl⟩))⟩
  · exact ⟨0, mj_mk (e28 _ (by rw [if_neg h1]; exact ⟨Or.inl rfl, rfl⟩))⟩
/-- a name is looked up, and laid down as a step of its kind -/
theorem ts_named {c i : Nat} (hS : stc d W H B1 B2 BJ) (hc : c = 2 ∧ i = 0 ∨ c = 4 ∧ i = 4) (h : TS n x d s0 f0 B1 B2 BJ op kd ph bs bg K L A1 A2 p a t v l o I1 I2 J2) (h0 : t ≠ 0) (q1 : s0 + A1.length ≤ p) (q2 : f0 + A2.length ≤ p) : ∃ Ia r Ib I1' I2' J2', C1 (D + 5) 139 [.ref 11] I1 J1 .null Ia J1 ∧ C1 (D + 5) 153 [.ref 11, .int (nI i), .int (-1)] Ia J1 (.int r) Ib J1 ∧ C1 (D + 5) 163 [.ref 14, .int (nI (opc c)), .int r] Ib J1 .null I1' J1 ∧ C2 (E + 4) 40 [.ref 0, .int (nI c)] I2 J2 .null I2' J2' ∧ ((∃ k p' a' t' v' l' o', TS n x d s0 f0 B1 B2 BJ op kd ph bs bg K L (A1 ++ [(c, k)]) (A2 ++ [(c, k)]) p' a' t' v' l' o' I1' I2' J2' ∧ p < p' ∧ s0 + A1.length + 1 ≤ p' ∧ I2' 0 45 = I2 0 45 ∧ I1' 11 9 = I1 11 9 ∧ (c = 2 → k < W) ∧ (c = 4 → k < H)) ∨ DD d s0 f0 B1 B2 BJ I1' I2' J2') := by
  have hn := tk_n h.1
  obtain ⟨Ia, Ra, Sa, k1, k2, k3, k4, k5⟩ := ts_adv (D := D + 2) (D' := E + 1) (J1 := J1) h h0 (by omega)
  rcases k5 with ⟨p1, a1, t1, v1, l1, o1, ha, hp, -⟩ | ⟨hd, h8⟩
  · have hn1 := tk_n ha.1
    have h8 := ha.1.2.2.2.2.2.2.2.2.2.2.2.2.2.1
    have c6 : ∀ {T : Prop}, t1 = 3 → (lxl l1 → Ia 11 6 = nI (nmC l1) → Sa 0 7 = lN (nmR l1) → T) → T := fun e hh => by
      rcases ha.1.2.2.2.2.2.2.2.2.2.2.2.2.2.2.2.2 with ⟨q, -⟩ | ⟨q, -⟩ | ⟨q, -⟩ | ⟨-, -, -, -, w1, w2, w3, -⟩
      · omega
      · omega
      · omega
      · exact hh w1 w2 w3
    by_cases nm : t1 = 3 ∧ o1 = -1
    · -- a name
      refine c6 nm.1 fun w1 w2 w3 => ?_
      have hd := TS_d ha hS
      obtain ⟨s1, s2, s3, s4, s5, s6, s7, s8, s9, s10⟩ := hS
      have b15 : ∀ j, Ia 15 j = B1 15 j := fun j => ha.2.1 15 j (by omega) (by omega) (by omega)
      have b16 : ∀ j, Ia 16 j = B1 16 j := fun j => ha.2.1 16 j (by omega) (by omega) (by omega)
      have r2 : Ra 2 d = B2 2 d := ha.2.2.1 2 d (by omega) (by omega) (by omega)
      have r6 : Ra 6 d = B2 6 d := ha.2.2.1 6 d (by omega) (by omega) (by omega)
      have j8 : ∀ j, Sa 8 j = BJ 8 j := fun j => ha.2.2.2.1 8 j (by omega)
      have j17 : ∀ j, Sa 17 j = BJ 17 j := fun j => ha.2.2.2.1 17 j (by omega)
      -- both find the same
      have fb : ∃ r, C1 (D + 4) 150 [.ref 14, .int (nI i), .int (nI (nmC l1))] Ia J1 (.int r) Ia J1 ∧ (c = 2 → C2 (E + 3) 24 [.ref 0, .int (nI d), .long (lN (nmR l1))] Ra Sa (.int r) Ra Sa) ∧ (c = 4 → C2 (E + 3) 26 [.ref 0, .int (nI d), .long (lN (nmR l1))] Ra Sa (.int r) Ra Sa) ∧ (r = -1 ∨ ∃ k, r = nI k ∧ k < 40 ∧ (c = 2 → k < W) ∧ (c = 4 → k < H)) := by
        rcases hc with ⟨rfl, rfl⟩ | ⟨rfl, rfl⟩
        · obtain ⟨r, Ic, Jc, f1, f2, rfl, rfl⟩ := c_find (D := D + 3) (I := Ia) (J := J1) (i := 0) (y := nmC l1) (by decide) (by decide) (by decide) (by rw [b15]; exact s4) (by omega)
          obtain ⟨rr, Id, Jd, g1, g2, rfl, rfl⟩ := r_fnd24 (D := E + 2) (I := Ra) (J := Sa) (y := lN (nmR l1)) s1 (by rw [r2]; exact s6) s2
          have e : r = rr := find_eq (f := fun j => Ic 16 (40 * 0 + j)) w1 (by omega) (fun j hj => by
            show nmq (Ic 16 (40 * 0 + j)) (Jd 8 (4 * d + j))
            rw [show 40 * 0 + j = j by omega, b16, j8]
            exact s9 j hj) f2 g2
          subst e
          refine ⟨r, f1, fun _ => g1, fun z => by omega, ?_⟩
          rcases f2 with ⟨z, -⟩ | ⟨k, z1, z2, -⟩
          · exact Or.inl z
          · exact Or.inr ⟨k, z2, by omega, fun _ => z1, fun z => by omega⟩
        · obtain ⟨r, Ic, Jc, f1, f2, rfl, rfl⟩ := c_find (D := D + 3) (I := Ia) (J := J1) (i := 4) (y := nmC l1) (by decide) (by decide) (by decide) (by rw [b15]; exact s5) (by omega)
          obtain ⟨rr, Id, Jd, g1, g2, rfl, rfl⟩ := r_fnd26 (D := E + 2) (I := Ra) (J := Sa) (y := lN (nmR l1)) s1 (by rw [r6]; exact s7) s3
          have e : r = rr := find_eq (f := fun j => Ic 16 (40 * 4 + j)) w1 (by omega) (fun j hj => by
            show nmq (Ic 16 (40 * 4 + j)) (Jd 17 (12 * d + j))
            rw [show 40 * 4 + j = 160 + j by omega, b16, j17]
            exact s10 j hj) f2 g2
          subst e
          refine ⟨r, f1, fun z => by omega, fun _ => g1, ?_⟩
          rcases f2 with ⟨z, -⟩ | ⟨k, z1, z2, -⟩
          · exact Or.inl z
          · exact Or.inr ⟨k, z2, by omega, fun z => by omega, fun _ => z1⟩
      obtain ⟨r, f1, f2, f3, f4⟩ := fb
      have hS : stc d W H B1 B2 BJ := ⟨s1, s2, s3, s4, s5, s6, s7, s8, s9, s10⟩
      -- the reference up to the look up
      have r40 : ∀ {I' : (Nat → Nat → Int32)} {J' : (Nat → Nat → Int64)}, E2 40 (E + 3) (fun y => y = (.null, (I', J', mj_R2))) 83 [(0, .ref 0), (1, .int (nI c)), (2, .int r)] Ra Sa → C2 (E + 4) 40 [.ref 0, .int (nI c)] I2 J2 .null I' J' := fun {I' J'} hh => by
        refine mj_mk (e40 _ ?_)
        refine ⟨trivial, _, _, k2, ?_⟩
        rw [if_pos h8, if_pos ((rtk_eq (y := 1) ha.1 (k := 3) (by decide) (by decide) rfl).mpr nm.1)]
        refine ⟨trivial, _, _, _, wd_own ha.1 nm.1, if_tf (fun z => absurd nm.2 z) (fun _ => ?_)⟩
        refine mj_on (s40_39 _ ?_)
        rw [if_pos (by rw [h8]; decide), hd, w3]
        rcases hc with ⟨rfl, rfl⟩ | ⟨rfl, rfl⟩
        · rw [if_pos (by rfl)]
          exact ⟨trivial, _, _, _, f2 rfl, hh⟩
        · rw [if_neg (by decide)]
          exact ⟨trivial, _, _, _, f3 rfl, hh⟩
      rcases f4 with rfl | ⟨k, rfl, kb, kW, kH⟩
      · -- unknown
        obtain ⟨Ib, Rb, m1, m2, m3, m4, m5, m6, m7⟩ := ts_bl (D := D + 3) (D' := E + 2) (J1 := J1) (k := 3) ha (by decide) (by decide) (by omega)
        obtain ⟨Ic, n1, n2⟩ := d_add (D := D + 3) (J1 := J1) (y := nI (opc c)) (z := -1) m3
        refine ⟨Ia, -1, Ib, Ic, Rb, Sa, k1, mj_mk (e153 _ _ ?_), n1, r40 ?_, Or.inr n2⟩
        · refine ⟨trivial, _, _, _, nm_c ha.1, if_tf (fun _ => ?_) (fun z => absurd nm z)⟩
          rw [w2]
          refine ⟨trivial, _, _, _, f1, ?_⟩
          rw [if_pos rfl]
          exact ⟨trivial, _, _, m1, rfl⟩
        · refine mj_on (s40_83 _ _ ?_)
          rw [if_pos h8, if_pos rfl]
          refine ⟨trivial, _, _, m2, ?_⟩
          refine mj_on (s40_104 _ _ ?_)
          rw [if_neg (DD_8 m3).2]
      · -- known
        obtain ⟨Rb, m1, m2, m3⟩ := ts_addR (D := E + 2) (c := c) (y := k) hS ha (by omega)
        obtain ⟨Ib, Rc, Sc, n1, n2, n3, n4, n5⟩ := ts_adv (D := D + 1) (D' := E + 1) (J1 := J1) m2 (by omega) (by omega)
        have kne : ¬ nI k = -1 := by
          intro z
          have z := congrArg Int32.toInt z
          rw [nI_toInt (by omega)] at z
          have : (-1 : Int32).toInt = -1 := by decide
          omega
        have c153 : C1 (D + 5) 153 [.ref 11, .int (nI i), .int (-1)] Ia J1 (.int (nI k)) Ib J1 := by
          refine mj_mk (e153 _ _ ?_)
          refine ⟨trivial, _, _, _, nm_c ha.1, if_tf (fun _ => ?_) (fun z => absurd nm z)⟩
          rw [w2]
          refine ⟨trivial, _, _, _, f1, ?_⟩
          rw [if_neg kne, if_neg kne]
          exact ⟨trivial, _, _, n1, rfl⟩
        have r104 : C2 (E + 4) 40 [.ref 0, .int (nI c)] I2 J2 .null Rc Sc := r40 (by
          refine mj_on (s40_83 _ _ ?_)
          rw [if_pos h8, if_neg kne]
          refine mj_on (s40_104 _ _ ?_)
          rw [if_pos (by rw [h8]; decide)]
          exact ⟨trivial, _, _, m1, trivial, _, _, n2, rfl⟩)
        rcases n5 with ⟨p2, a2, t2, v2, l2, o2, hb, hp2, -⟩ | ⟨hb, -⟩
        · have hn2 := tk_n hb.1
          obtain ⟨Ic, g1, g2, g3⟩ := ts_addC (D := D + 3) (J1 := J1) (c := c) (y := k) hb (by omega) (by omega)
          exact ⟨Ia, _, Ib, Ic, Rc, Sc, k1, c153, g1, r104, Or.inl ⟨k, p2, a2, t2, v2, l2, o2, g2, by omega, by omega, by rw [n3, m3, k3], by rw [g3, n4, k4], kW, kH⟩⟩
        · obtain ⟨Ic, g1, g2⟩ := d_add (D := D + 3) (J1 := J1) (y := nI (opc c)) (z := nI k) hb
          exact ⟨Ia, _, Ib, Ic, Rc, Sc, k1, c153, g1, r104, Or.inr g2⟩
    · -- no name
      obtain ⟨Ib, Rb, m1, m2, m3, m4, m5, m6, m7⟩ := ts_bl (D := D + 3) (D' := E + 2) (J1 := J1) (k := 1) ha (by decide) (by decide) (by omega)
      obtain ⟨Ic, n1, n2⟩ := d_add (D := D + 3) (J1 := J1) (y := nI (opc c)) (z := -1) m3
      have fin : E2 40 (E + 3) (fun y => y = (.null, (Rb, Sa, mj_R2))) 39 [(0, .ref 0), (1, .int (nI c))] Rb Sa := by
        refine mj_on (s40_39 _ ?_)
        rw [if_neg (DD_8 m3).2]
        refine mj_on (s40_83 _ _ ?_)
        rw [if_neg (DD_8 m3).1]
        refine mj_on (s40_104 _ _ ?_)
        rw [if_neg (DD_8 m3).2]
      refine ⟨Ia, -1, Ib, Ic, Rb, Sa, k1, mj_mk (e153 _ _ ?_), n1, mj_mk (e40 _ ?_), Or.inr n2⟩
      · refine ⟨trivial, _, _, _, nm_c ha.1, if_tf (fun z => absurd z nm) (fun _ => ⟨trivial, _, _, m1, rfl⟩)⟩
      · refine ⟨trivial, _, _, k2, ?_⟩
        rw [if_pos h8]
        by_cases e : t1 = 3
        · rw [if_pos ((rtk_eq (y := 1) ha.1 (k := 3) (by decide) (by decide) rfl).mpr e)]
          refine ⟨trivial, _, _, _, wd_own ha.1 e, if_tf (fun _ => ?_) (fun z => absurd ⟨e, Classical.byContradiction z⟩ nm)⟩
          exact ⟨trivial, _, _, m2, fin⟩
        · rw [if_neg (fun z => e ((rtk_eq (y := 1) ha.1 (k := 3) (by decide) (by decide) rfl).mp z))]
          exact ⟨trivial, _, _, m2, fin⟩
  · obtain ⟨Ib, m1, m2⟩ := d_ask (D := D + 3) (J1 := J1) (c := nI i) (e := -1) hd
    obtain ⟨Ic, n1, n2⟩ := d_add (D := D + 3) (J1 := J1) (y := nI (opc c)) (z := -1) m2
    refine ⟨Ia, -1, Ib, Ic, Ra, Sa, k1, m1, n1, mj_mk (e40 _ ?_), Or.inr n2⟩
    refine ⟨trivial, _, _, k2, ?_⟩
    rw [if_neg (DD_8 hd).1]
    refine mj_on (s40_39 _ ?_)
    rw [if_neg (DD_8 hd).2]
    refine mj_on (s40_83 _ _ ?_)
    rw [if_neg (DD_8 hd).1]
    refine mj_on (s40_104 _ _ ?_)
    rw [if_neg (DD_8 hd).2]
/-- a bracket that opens, on both sides -/
theorem r_push {f M k : Nat} (h41 : I2 0 41 = nI f) (h44 : I2 0 44 = nI M) (hf : f < 20) : C2 (D + 1) 34 [.ref 0, .int (nI k)] I2 J2 .null (mj_up (mj_up (mj_up (mj_up (mj_up I2 23 f (nI k)) 24 f 0) 25 f 1) 27 f (nI M)) 0 41 (nI (f + 1))) J2 := by
  refine mj_mk (e34 _ ?_)
  have vp : vp_in (nI f) 20 := vp_in_nI hf (by decide)
  rw [h41, nI_clamp (by omega), h44]
  refine ⟨vp, vp, vp, vp, ?_⟩
  refine mj_on (s34_43 ?_)
  rw [up_n (by omega), up_n (by omega), up_n (by omega), up_n (by omega), h41, nI_1]
  rfl
theorem ts_open {c k : Nat} (hk : k ≤ 5) (hc : c < 256) (h : TS n x d s0 f0 B1 B2 BJ op kd ph bs bg K L A1 A2 p a t v l o I1 I2 J2) (h1 : t = 1) (hv : v = c) (h9 : I1 11 9 = nI op) (q1 : s0 + A1.length ≤ p) (hM : bs + K.length < 500) : ∃ r I1' I2' J2', C1 (D + 4) 161 [.ref 11, .int (nI c)] I1 J1 (.int r) I1' J1 ∧ C2 (E + 4) 38 [.ref 0, .int (nI k)] I2 J2 .null I2' J2' ∧ ((r = 0 ∧ DD d s0 f0 B1 B2 BJ I1' I2' J2') ∨ (r = 1 ∧ DD d s0 f0 B1 B2 BJ I1' I2' J2') ∨ (r = 1 ∧ op < 8 ∧ I2' 0 45 = I2 0 45 ∧ I1' 11 9 = nI (op + 1) ∧ (∀ q, 23 ≤ q → q ≤ 27 → ∀ i, i < op + 1 → I2' q i = I2 q i) ∧ (∀ i, I2' 28 i = I2 28 i) ∧ ∃ p' a' t' v' l' o', TS n x d s0 f0 B1 B2 BJ (op + 1) k 0 (bs + K.length) 1 [] I2' A1 A2 p' a' t' v' l' o' I1' I2' J2' ∧ p < p')) := by
  have hn := tk_n h.1
  have h8 := h.1.2.2.2.2.2.2.2.2.2.2.2.2.2.1
  have h42 := h.2.2.2.2.1.2.2.2.2.2.1
  have hop := h.2.2.2.2.1.2.2.2.2.1
  by_cases e8 : op = 8
  · obtain ⟨Ib, Rb, m1, m2, m3, m4, m5, m6, m7⟩ := ts_bl (D := D + 2) (D' := E + 2) (J1 := J1) (k := 5) h (by decide) (by decide) (by omega)
    refine ⟨0, Ib, Rb, J2, mj_mk (e161 _ ?_), mj_mk (e38 _ ?_), Or.inl ⟨rfl, m3⟩⟩
    · refine ⟨trivial, _, _, _, sg_c h.1 hc, if_tf (fun _ => ?_) (fun z => absurd ⟨h1, hv⟩ z)⟩
      rw [h9, show (8 : Int32) = nI 8 from rfl]
      exact if_lt (by omega) (by decide) (fun z => absurd z (by omega)) (fun _ => ⟨trivial, _, _, m1, Or.inl rfl, rfl⟩)
    · rw [h42, if_pos (show nI op = 8 by rw [e8]; rfl)]
      refine ⟨trivial, _, _, m2, ?_⟩
      refine mj_on (s38_18 _ ?_)
      rw [if_neg (DD_8 m3).2]
  · -- what both do to their heaps first
    have hop8 : op < 8 := by omega
    obtain ⟨h1', h2, h3, h4, ⟨a1, a2, a3, a4, a5, a6, a7⟩, hF⟩ := id h
    -- next, from where neither has counted
    have hI : ∃ I1', C1 (D + 3) 139 [.ref 11] (mj_up I1 11 9 (nI (op + 1))) J1 .null I1' J1 ∧ ∃ Ra Sa, C2 (E + 3) 13 [.ref 0] (mj_up I2 0 42 (nI (op + 1))) J2 .null Ra Sa ∧ lxf (mj_up I1 11 9 (nI (op + 1))) I1' ∧ lxg (mj_up I2 0 42 (nI (op + 1))) Ra ∧ lxgJ J2 Sa ∧ ((∃ p' a' t' v' l' o', tkR n x p' a' t' v' l' o' I1' Ra Sa ∧ p < p' ∧ (t = 3 → p + l.length ≤ p')) ∨ ∃ p', tkD 1 p' I1' Ra) := by
      obtain ⟨x1, x2, x3, x4, x5, x6, x7, x8, x9⟩ := adv_ta (D := D) (D' := E + 1) (J1 := J1) (I1 := mj_up I1 11 9 (nI (op + 1))) (I2 := mj_up I2 0 42 (nI (op + 1))) (tkR_cg h1' (fun q j z => up_n (by omega)) (fun q j z => up_n (by omega)) rfl) (by omega)
      exact ⟨x1, x4, x2, x3, x5, x6, x7, x8, x9⟩
    obtain ⟨Ia, k1, Ra, Sa, k2, k4, k5, k6, k7⟩ := hI
    have fc : ∀ q j, (q ≠ 11 ∨ (j ≠ 4 ∧ j ≠ 5 ∧ j ≠ 6 ∧ j ≠ 7 ∧ j ≠ 8 ∧ j ≠ 9)) → Ia q j = I1 q j := fun q j z => by rw [k4 q j (by omega), up_n (by omega)]
    have fr : ∀ q j, (q ≠ 0 ∨ (j ≠ 3 ∧ j ≠ 4 ∧ j ≠ 5 ∧ j ≠ 6 ∧ j ≠ 8 ∧ j ≠ 9 ∧ j ≠ 42)) → Ra q j = I2 q j := fun q j z => by rw [k5 q j (by omega), up_n (by omega)]
    have a9 : Ia 11 9 = nI (op + 1) := by rw [k4 11 9 (by omega), up_s]
    have r42 : Ra 0 42 = nI (op + 1) := by rw [k5 0 42 (by omega), up_s]
    have r41 : Ra 0 41 = nI (op + 1) := by rw [fr 0 41 (by omega)]; exact hF.1
    have r44 : Ra 0 44 = nI (bs + K.length) := by rw [fr 0 44 (by omega)]; exact a7
    obtain ⟨Rb, hRb⟩ : ∃ Rb, Rb = mj_up (mj_up (mj_up (mj_up (mj_up Ra 23 (op + 1) (nI k)) 24 (op + 1) 0) 25 (op + 1) 1) 27 (op + 1) (nI (bs + K.length))) 0 41 (nI (op + 1 + 1)) := ⟨_, rfl⟩
    have c161 : C1 (D + 4) 161 [.ref 11, .int (nI c)] I1 J1 (.int 1) Ia J1 := by
      refine mj_mk (e161 _ ?_)
      refine ⟨trivial, _, _, _, sg_c h.1 hc, if_tf (fun _ => ?_) (fun z => absurd ⟨h1, hv⟩ z)⟩
      rw [h9, show (8 : Int32) = nI 8 from rfl, nI_1]
      exact if_lt (by omega) (by decide) (fun _ => ⟨trivial, _, _, k1, Or.inr rfl, rfl⟩) (fun z => absurd z (by omega))
    have r38 : C2 (E + 4) 38 [.ref 0, .int (nI k)] I2 J2 .null Rb Sa := by
      refine mj_mk (e38 _ ?_)
      rw [h42, if_neg (show ¬ nI op = 8 from fun z => e8 ((nI_eq (b := 8) (by omega) (by decide)).mp z))]
      refine mj_on (s38_18 _ ?_)
      rw [if_pos (by rw [h8]; decide), h42, nI_1]
      refine ⟨trivial, _, _, k2, trivial, _, _, r_push r41 r44 (by omega), ?_⟩
      rw [hRb]
    have fb : ∀ q j, (q < 23 ∨ 27 < q ∨ q = 26 ∨ j ≠ op + 1) → (q ≠ 0 ∨ j ≠ 41) → Rb q j = Ra q j := fun q j z1 z2 => by rw [hRb, up_n (by omega), up_n (by omega), up_n (by omega), up_n (by omega), up_n (by omega)]
    have t2 : tsC s0 B1 Ia := fun q j z1 z2 z3 => by rw [fc q j (by omega)]; exact h2 q j z1 z2 z3
    have t3 : tsR d f0 B2 Rb := fun q j z1 z2 z3 => by rw [fb q j (by omega) (by unfold tsl at z1; omega), fr q j (by unfold tsl at z1; omega)]; exact h3 q j z1 z2 z3
    have t4 : lxgJ BJ Sa := fun q j z => by rw [k6 q j z]; exact h4 q j z
    rcases k7 with ⟨p', a', t', v', l', o', w1, w2, -⟩ | ⟨p', w1⟩
    · refine ⟨1, Ia, Rb, Sa, c161, r38, Or.inr (Or.inr ⟨rfl, hop8, ?_, a9, fun q z1 z2 i hi => ?_, fun i => ?_, p', a', t', v', l', o', ⟨tkR_cg w1 (fun _ _ _ => rfl) (fun q j z => fb q j (by omega) (by omega)) rfl, t2, t3, t4, ⟨?_, fun k y z => ?_, ?_, fun k y z => ?_, by omega, ?_, ?_⟩, ⟨?_, ?_, ?_, ?_, ?_, fun i y z => ?_, fun _ _ _ _ _ => rfl, rfl, fun _ _ => rfl, hk, by decide, Or.inr rfl, fun c hc => ?_⟩⟩, w2⟩)⟩
      · rw [fb 0 45 (by omega) (by omega), fr 0 45 (by omega)]
      · rw [fb q i (by omega) (by omega), fr q i (by omega)]
      · rw [fb 28 i (by omega) (by omega), fr 28 i (by omega)]
      · rw [fc 14 9 (by omega)]; exact a1
      · rw [fc 22 _ (by omega)]; exact a2 k y z
      · rw [fb 0 34 (by omega) (by omega), fr 0 34 (by omega)]; exact a3
      · rw [fb 21 _ (by omega) (by omega), fr 21 _ (by omega), fb 22 _ (by omega) (by omega), fr 22 _ (by omega)]; exact a4 k y z
      · rw [fb 0 42 (by omega) (by omega)]; exact r42
      · rw [fb 0 44 (by omega) (by omega)]; exact r44
      · rw [hRb, up_s]
      · rw [hRb, up_n (by omega), up_n (by omega), up_n (by omega), up_n (by omega), up_s]
      · rw [hRb, up_n (by omega), up_n (by omega), up_n (by omega), up_s]; rfl
      · rw [hRb, up_n (by omega), up_n (by omega), up_s]
      · rw [hRb, up_n (by omega), up_s]
      · cases z
      · cases hc
    · have hd : DD d s0 f0 B1 B2 BJ Ia Ra Sa := ⟨⟨1, p', w1⟩, t2, fun q j z1 z2 z3 => by rw [fr q j (by unfold tsl at z1; omega)]; exact h3 q j z1 z2 z3, t4, _, Nat.le_add_right s0 A1.length, by omega, by rw [fc 14 9 (by omega)]; exact a1⟩
      refine ⟨1, Ia, Rb, Sa, c161, r38, Or.inr (Or.inl ⟨rfl, ?_⟩)⟩
      rw [hRb]
      exact DD_2x (DD_2x (DD_2x (DD_2x (DD_2x hd (by omega)) (by omega)) (by omega)) (by omega)) (by omega)
/-- the frame on top goes, the one below comes to light -/
theorem TS_pop {k f : Nat} {b : Int32} {L' I0 : (Nat → Nat → Int32)} (h : TS n x d s0 f0 B1 B2 BJ (op + 1) k f (bs + K.length) b [] L' A1 A2 p a t v l o I1 I2 J2) (hF : tsF op kd ph bs bg K L I0) (e1 : ∀ q, 23 ≤ q → q ≤ 27 → ∀ i, i < op + 1 → L' q i = I0 q i) (e2 : ∀ i, i < bs + K.length → L' 28 i = I0 28 i) : TS n x d s0 f0 B1 B2 BJ op kd ph bs bg K L A1 A2 p a t v l o I1 (mj_up (mj_up I2 0 41 (nI (op + 1))) 0 42 (nI op)) J2 := by
  obtain ⟨h1, h2, h3, h4, ⟨a1, a2, a3, a4, a5, a6, a7⟩, ⟨f1, f2, f3, f4, f5, f6, f7, f8, f9, f10, f11, f12, f13⟩⟩ := h
  obtain ⟨g1, g2, g3, g4, g5, g6, g7, g8, g9, g10⟩ := hF
  refine ⟨tkR_cg h1 (fun _ _ _ => rfl) (fun q j z => by rw [up_n (by omega), up_n (by omega)]) rfl, h2, fun q j z1 z2 z3 => ?_, h4, ⟨a1, a2, ?_, fun k y z => ?_, by omega, up_s, ?_⟩, ⟨?_, ?_, ?_, ?_, ?_, fun i y z => ?_, fun q q1 q2 i hi => ?_, ?_, fun i hi => ?_, g10⟩⟩
  · rw [up_n (by unfold tsl at z1; omega), up_n (by unfold tsl at z1; omega)]
    exact h3 q j z1 z2 z3
  · rw [up_n (by omega), up_n (by omega)]; exact a3
  · rw [up_n (by omega), up_n (by omega), up_n (by omega), up_n (by omega)]; exact a4 k y z
  · rw [up_n (by omega), up_n (by omega)]; exact a7
  · rw [up_n (by omega), up_s]
  · rw [up_n (by omega), up_n (by omega), f7 23 (by omega) (by omega) op (by omega), e1 23 (by omega) (by omega) op (by omega)]; exact g2
  · rw [up_n (by omega), up_n (by omega), f7 24 (by omega) (by omega) op (by omega), e1 24 (by omega) (by omega) op (by omega)]; exact g3
  · rw [up_n (by omega), up_n (by omega), f7 25 (by omega) (by omega) op (by omega), e1 25 (by omega) (by omega) op (by omega)]; exact g4
  · rw [up_n (by omega), up_n (by omega), f7 27 (by omega) (by omega) op (by omega), e1 27 (by omega) (by omega) op (by omega)]; exact g5
  · have hi : i < K.length := (List.getElem?_eq_some_iff.mp z).1
    rw [up_n (by omega), up_n (by omega), f9 _ (by omega), e2 _ (by omega)]; exact g6 i y z
  · rw [up_n (by omega), up_n (by omega), f7 q q1 q2 i (by omega), e1 q q1 q2 i (by omega)]; exact g7 q q1 q2 i hi
  · rw [up_n (by omega), up_n (by omega), f7 26 (by omega) (by omega) op (by omega), e1 26 (by omega) (by omega) op (by omega)]; exact g8
  · rw [up_n (by omega), up_n (by omega), f9 _ (by omega), e2 _ (by omega)]; exact g9 i hi
end Sa8d
end
section
/-! reading a test: what the reference does behind an operand -/
section Sa8e
variable {n d s0 f0 W H : Nat} {x : Nat → Nat} {B1 B2 : Nat → Nat → Int32} {BJ : Nat → Nat → Int64}
variable {D D' E op kd ph bs p a t v u : Nat} {l : List Nat} {o : Int} {bg : Int32} {K : List Nat} {A1 A2 : List (Nat × Nat)} {L I1 I2 : Nat → Nat → Int32} {J1 J2 : Nat → Nat → Int64}
theorem rk_1 (c : Nat) : 1 ≤ rnk c := by
  unfold rnk
  split
  · omega
  · split
    · omega
    · split
      · omega
      · split
        · omega
        · split <;> omega
theorem go_385 {r : Value} {I' : (Nat → Nat → Int32)} {J' : (Nat → Nat → Int64)} (h : TS n x d s0 f0 B1 B2 BJ op kd ph bs bg K L A1 A2 p a t v l o I1 I2 J2) (hp : ph = 2 ∨ ¬ (t = 1 ∧ (v = 43 ∨ v = 45 ∨ v = 42 ∨ v = 47))) (ht : (kd = 1 ∨ kd = 5) → ph ≠ 0 ∧ o ≠ 8 ∧ o ≠ 9) (hq : E2 41 (D + 1) (fun y => y = (r, (I', J', mj_R2))) 385 [(0, .ref 0), (1, .int (nI op)), (2, .int (nI kd))] I2 J2) : mj_Cl mj_S2 mj_CD (D + 2) 41 [.ref 0] (I2, J2, mj_R2) (r, (I', J', mj_R2)) := by
  obtain ⟨h1, -, -, -, ⟨-, -, -, -, a5, -, -⟩, ⟨f1, f2, f3, -, -, -, -, -, -, f10, f11, -, -⟩⟩ := id h
  have vp : vp_in (nI op) 20 := vp_in_nI (by omega) (by decide)
  have e151 : E2 41 (D + 1) (fun y => y = (r, (I', J', mj_R2))) 151 [(0, .ref 0), (1, .int (nI op)), (2, .int (nI kd)), (3, .int (tf (kd = 1 ∨ kd = 5)))] I2 J2 := by
    have e248 : E2 41 (D + 1) (fun y => y = (r, (I', J', mj_R2))) 248 [(0, .ref 0), (1, .int (nI op)), (2, .int (nI kd)), (3, .int (tf (kd = 1 ∨ kd = 5)))] I2 J2 := by
      have e363 : E2 41 (D + 1) (fun y => y = (r, (I', J', mj_R2))) 363 [(0, .ref 0), (1, .int (nI op)), (2, .int (nI kd)), (3, .int (tf (kd = 1 ∨ kd = 5)))] I2 J2 := by
        refine mj_on (s41_363 _ _ _ ?_)
        refine if_tf (fun z => ?_) (fun _ => hq)
        rw [nI_clamp (by omega), f3]
        refine ⟨vp, ?_⟩
        rw [if_neg (show ¬ nI ph = 0 from nI_ne0 (by have := (ht z).1; omega) (by omega))]
        exact hq
      refine mj_on (s41_248 _ _ _ ?_)
      refine if_tf (fun z => ?_) (fun _ => e363)
      refine ⟨trivial, _, _, _, wd_r (w := 9) h1 (by decide), if_tf (fun y => absurd y (ht z).2.2) (fun _ => ?_)⟩
      exact ⟨trivial, _, _, _, wd_r (w := 8) h1 (by decide), if_tf (fun y => absurd y (ht z).2.1) (fun _ => e363)⟩
    refine mj_on (s41_151 _ _ _ ?_)
    refine if_tf (fun z => ?_) (fun _ => e248)
    rw [nI_clamp (by omega), f3]
    refine ⟨vp, ?_⟩
    rw [if_neg (show ¬ nI ph = 0 from nI_ne0 (by have := (ht z).1; omega) (by omega))]
    exact e248
  refine mj_mk (e41 ?_)
  rw [f1, nI_pred, nI_clamp (by omega), f2]
  refine ⟨vp, trivial, _, _, _, r_isTest f10, vp, ?_⟩
  rw [f3, show (2 : Int32) = nI 2 from rfl]
  refine if_le (by decide) (by omega) (fun _ => e151) (fun z => ?_)
  have hv : ¬ (t = 1 ∧ (v = 43 ∨ v = 45 ∨ v = 42 ∨ v = 47)) := hp.resolve_left (by omega)
  refine ⟨trivial, _, _, _, sg_r (c := 43) h1 (by decide), if_tf (fun y => absurd ⟨y.1, Or.inl y.2⟩ hv) (fun _ => ?_)⟩
  refine ⟨trivial, _, _, _, sg_r (c := 45) h1 (by decide), if_tf (fun y => absurd ⟨y.1, Or.inr (Or.inl y.2)⟩ hv) (fun _ => ?_)⟩
  refine ⟨trivial, _, _, _, sg_r (c := 42) h1 (by decide), if_tf (fun y => absurd ⟨y.1, Or.inr (Or.inr (Or.inl y.2))⟩ hv) (fun _ => ?_)⟩
  exact ⟨trivial, _, _, _, sg_r (c := 47) h1 (by decide), if_tf (fun y => absurd ⟨y.1, Or.inr (Or.inr (Or.inr y.2))⟩ hv) (fun _ => e151)⟩
theorem c_takeY {c : Nat} {Ia : (Nat → Nat → Int32)} (h : tkR n x p a t v l o I1 I2 J2) (hc : c < 256) (e : t = 1 ∧ v = c) (k : C1 D 139 [.ref 11] I1 J1 .null Ia J1) (hD : 1 ≤ D) : C1 (D + 1) 162 [.ref 11, .int (nI c)] I1 J1 .null Ia J1 := by
  obtain ⟨D, rfl⟩ : ∃ D0, D = D0 + 1 := ⟨D - 1, by omega⟩
  exact mj_mk (e162 _ ⟨trivial, _, _, _, sg_c h hc, if_tf (fun _ => ⟨trivial, _, _, k, rfl⟩) (fun z => absurd e z)⟩)
theorem c_takeN {c : Nat} {Ia : (Nat → Nat → Int32)} (h : tkR n x p a t v l o I1 I2 J2) (hc : c < 256) (e : ¬ (t = 1 ∧ v = c)) (k : C1 D 144 [.ref 11, .int (nI 1)] I1 J1 .null Ia J1) (hD : 1 ≤ D) : C1 (D + 1) 162 [.ref 11, .int (nI c)] I1 J1 .null Ia J1 := by
  obtain ⟨D, rfl⟩ : ∃ D0, D = D0 + 1 := ⟨D - 1, by omega⟩
  exact mj_mk (e162 _ ⟨trivial, _, _, _, sg_c h hc, if_tf (fun z => absurd z e) (fun _ => ⟨trivial, _, _, k, rfl⟩)⟩)
/-- a bracket that closes, on both sides -/
theorem ts_close {k c f pr : Nat} {b : Int32} {kk : List Nat} {L' I0 : (Nat → Nat → Int32)} (hS : stc d W H B1 B2 BJ) (hk : (k = 2 ∨ k = 4) ∧ c = 41 ∨ k = 5 ∧ c = 93) (h : TS n x d s0 f0 B1 B2 BJ (op + 1) k f (bs + K.length) b kk L' A1 A2 p a t v l o I1 I2 J2) (h45 : I2 0 45 = 1) (hp : f = 2 ∨ ¬ (t = 1 ∧ (v = 43 ∨ v = 45 ∨ v = 42 ∨ v = 47))) (ht : k = 5 → f ≠ 0 ∧ o ≠ 8 ∧ o ≠ 9)
    (hF : tsF op kd ph bs bg K L I0) (e1 : ∀ q, 23 ≤ q → q ≤ 27 → ∀ i, i < op + 1 → L' q i = I0 q i) (e2 : ∀ i, i < bs + K.length → L' 28 i = I0 28 i) (hpr : k = 4 → L' 26 (op + 1) = nI pr) (q1 : s0 + A1.length ≤ p) (q2 : f0 + A2.length + (bs + K.length + kk.length) ≤ p) (q3 : bs + K.length + kk.length < 500) :
    ∃ I1' I2' J2', C1 (D + 4) 162 [.ref 11, .int (nI c)] I1 J1 .null I1' J1 ∧ I1' 11 9 = I1 11 9 ∧ ((gD E I2 J2 I2' J2' ∧ DD d s0 f0 B1 B2 BJ I1' I2' J2') ∨ (gA E I2 J2 I2' J2' ∧ I2' 0 45 = 1 ∧ ∃ p' a' t' v' l' o', TS n x d s0 f0 B1 B2 BJ op kd (if k = 5 then 2 else ph) bs bg K L A1 (A2 ++ pops kk ++ (if k = 4 then [(pr, 0)] else [])) p' a' t' v' l' o' I1' I2' J2' ∧ p < p')) := by
  have hn := tk_n h.1
  have h8 := h.1.2.2.2.2.2.2.2.2.2.2.2.2.2.1
  have hop := h.2.2.2.2.1.2.2.2.2.1
  have vp : vp_in (nI (op + 1)) 20 := vp_in_nI (by omega) (by decide)
  have hc : c < 256 := by omega
  -- the reference's way to 487
  have r41 : ∀ {r : Value} {I' : (Nat → Nat → Int32)} {J' : (Nat → Nat → Int64)} {Ib : (Nat → Nat → Int32)}, ((t = 1 ∧ v = c) → Ib = I2) → (¬ (t = 1 ∧ v = c) → C2 (E + 4) 16 [.ref 0, .int 1, .int (I2 0 4)] I2 J2 .null Ib J2) → E2 41 (E + 4) (fun y => y = (r, (I', J', mj_R2))) 487 [(0, .ref 0), (1, .int (nI (op + 1))), (2, .int (nI k))] Ib J2 → mj_Cl mj_S2 mj_CD (E + 5) 41 [.ref 0] (I2, J2, mj_R2) (r, (I', J', mj_R2)) := fun {r I' J' Ib} y1 y2 hh => by
    refine go_385 (D := E + 3) h hp (fun z => ht (by omega)) ?_
    refine mj_on (s41_385 _ _ ?_)
    rcases hk with ⟨rfl | rfl, rfl⟩ | ⟨rfl, rfl⟩
    · rw [if_neg (by decide), if_neg (by decide), if_neg (by decide)]
      exact ⟨trivial, _, _, _, sg_r (c := 41) h.1 (by decide), if_tf (fun z => by rw [← y1 z]; exact hh) (fun z => ⟨trivial, _, _, y2 z, hh⟩)⟩
    · rw [if_neg (by decide), if_neg (by decide), if_neg (by decide)]
      exact ⟨trivial, _, _, _, sg_r (c := 41) h.1 (by decide), if_tf (fun z => by rw [← y1 z]; exact hh) (fun z => ⟨trivial, _, _, y2 z, hh⟩)⟩
    · rw [if_neg (by decide), if_neg (by decide), if_pos (show nI 5 = 5 from rfl)]
      exact ⟨trivial, _, _, _, sg_r (c := 93) h.1 (by decide), if_tf (fun z => by rw [← y1 z]; exact hh) (fun z => ⟨trivial, _, _, y2 z, hh⟩)⟩
  rcases Classical.em (t = 1 ∧ v = c) with e | e
  · -- it stands there
    obtain ⟨Ij, j1, j2, j3⟩ := ts_join (D := E + 2) (r := 1) (K := []) (kk := kk) hS (by decide) (fun c hc => by cases hc) h (fun c _ => rk_1 c) (by omega) (by show bs + K.length + 0 + kk.length < 500; omega)
    have jF := j2.2.2.2.2.2
    have jA := j2.2.2.2.2.1
    obtain ⟨Ik, hIk⟩ : ∃ Ik, Ik = mj_up (mj_up Ij 0 41 (nI (op + 1))) 0 42 (nI op) := ⟨_, rfl⟩
    have tk : TS n x d s0 f0 B1 B2 BJ op kd ph bs bg K L A1 (A2 ++ pops kk) p a t v l o I1 Ik J2 := by rw [hIk]; exact TS_pop j2 hF e1 e2
    have k45 : Ik 0 45 = 1 := by rw [hIk, up_n (by omega), up_n (by omega), j3, h45]
    -- from 537 on
    have fin : ∀ (A3 : (List (Nat × Nat))) (Il : (Nat → Nat → Int32)), TS n x d s0 f0 B1 B2 BJ op kd ph bs bg K L A1 A3 p a t v l o I1 Il J2 → Il 0 45 = 1 → A3 = A2 ++ pops kk ++ (if k = 4 then [(pr, 0)] else []) → (∀ {r : Value} {I' : (Nat → Nat → Int32)} {J' : (Nat → Nat → Int64)}, E2 41 (E + 4) (fun y => y = (r, (I', J', mj_R2))) 537 [(0, .ref 0), (2, .int (nI k))] Il J2 → mj_Cl mj_S2 mj_CD (E + 5) 41 [.ref 0] (I2, J2, mj_R2) (r, (I', J', mj_R2))) → ∃ I1' I2' J2', C1 (D + 4) 162 [.ref 11, .int (nI c)] I1 J1 .null I1' J1 ∧ I1' 11 9 = I1 11 9 ∧ ((gD E I2 J2 I2' J2' ∧ DD d s0 f0 B1 B2 BJ I1' I2' J2') ∨ (gA E I2 J2 I2' J2' ∧ I2' 0 45 = 1 ∧ ∃ p' a' t' v' l' o', TS n x d s0 f0 B1 B2 BJ op kd (if k = 5 then 2 else ph) bs bg K L A1 (A2 ++ pops kk ++ (if k = 4 then [(pr, 0)] else [])) p' a' t' v' l' o' I1' I2' J2' ∧ p < p')) := fun A3 Il tl l45 hA3 r537 => by
      have last : ∀ (Im : (Nat → Nat → Int32)) (fq : Nat), TS n x d s0 f0 B1 B2 BJ op kd fq bs bg K L A1 A3 p a t v l o I1 Im J2 → Im 0 45 = 1 → fq = (if k = 5 then 2 else ph) → (∀ {I' : (Nat → Nat → Int32)} {J' : (Nat → Nat → Int64)}, C2 (E + 4) 13 [.ref 0] Im J2 .null I' J' → E2 41 (E + 4) (fun y => y = (.int 1, (I', J', mj_R2))) 537 [(0, .ref 0), (2, .int (nI k))] Il J2) → ∃ I1' I2' J2', C1 (D + 4) 162 [.ref 11, .int (nI c)] I1 J1 .null I1' J1 ∧ I1' 11 9 = I1 11 9 ∧ ((gD E I2 J2 I2' J2' ∧ DD d s0 f0 B1 B2 BJ I1' I2' J2') ∨ (gA E I2 J2 I2' J2' ∧ I2' 0 45 = 1 ∧ ∃ p' a' t' v' l' o', TS n x d s0 f0 B1 B2 BJ op kd (if k = 5 then 2 else ph) bs bg K L A1 (A2 ++ pops kk ++ (if k = 4 then [(pr, 0)] else [])) p' a' t' v' l' o' I1' I2' J2' ∧ p < p')) := fun Im fq tm m45 hfq r13 => by
        obtain ⟨Ia, Ra, Sa, k1, k2, k3, k4, k5⟩ := ts_adv (D := D) (D' := E + 2) (J1 := J1) tm (by omega) (by omega)
        have c41 : C2 (E + 5) 41 [.ref 0] I2 J2 (.int 1) Ra Sa := r537 (r13 k2)
        refine ⟨Ia, Ra, Sa, c_takeY h.1 hc e k1 (by omega), k4, ?_⟩
        rcases k5 with ⟨p', a', t', v', l', o', w1, w2, -⟩ | ⟨w1, -⟩
        · rw [hfq, hA3] at w1
          exact Or.inr ⟨g_go h45 c41 w1.1.2.2.2.2.2.2.2.2.2.2.2.2.2.1, by rw [k3, m45], p', a', t', v', l', o', w1, w2⟩
        · exact Or.inl ⟨g_goD h45 c41 (Or.inl (DD_8 w1).1), w1⟩
      by_cases k5 : k = 5
      · refine last (mj_up Il 24 op (nI 2)) 2 (TS_ph tl (by decide)) (by rw [up_n (by omega)]; exact l45) (by rw [if_pos k5]) (fun {I' J'} q => ?_)
        refine mj_on (s41_537 _ ?_)
        rw [if_pos (show nI k = 5 by rw [k5]; rfl), tl.2.2.2.2.2.1, nI_pred, nI_clamp (by omega)]
        exact ⟨vp_in_nI (by omega) (by decide), trivial, _, _, q, Or.inr rfl, rfl⟩
      · refine last Il ph tl l45 (by rw [if_neg k5]) (fun {I' J'} q => ?_)
        refine mj_on (s41_537 _ ?_)
        rw [if_neg (show ¬ nI k = 5 from fun z => k5 ((nI_eq (b := 5) (by omega) (by decide)).mp z))]
        exact ⟨trivial, _, _, q, Or.inr rfl, rfl⟩
    by_cases k4 : k = 4
    · obtain ⟨Il, l1, l2, l3⟩ := ts_addR (D := E + 3) (c := pr) (y := 0) hS tk (by rw [List.length_append, pops_len]; omega)
      refine fin _ Il l2 (by rw [l3, k45]) (by rw [if_pos k4]) (fun {r I' J'} q => r41 (fun _ => rfl) (fun z => absurd e z) ?_)
      refine mj_on (s41_487 _ _ ?_)
      rw [if_pos (by rw [h8]; decide)]
      refine ⟨trivial, _, _, j1, ?_⟩
      rw [if_pos (show nI k = 4 by rw [k4]; rfl), nI_clamp (by omega), jF.1, jA.2.2.2.2.2.1, nI_pred, nI_pred, ← hIk, jF.2.2.2.2.2.2.2.1, hpr k4]
      exact ⟨vp, trivial, _, _, l1, q⟩
    · refine fin _ Ik tk k45 (by rw [if_neg k4, List.append_nil]) (fun {r I' J'} q => r41 (fun _ => rfl) (fun z => absurd e z) ?_)
      refine mj_on (s41_487 _ _ ?_)
      rw [if_pos (by rw [h8]; decide)]
      refine ⟨trivial, _, _, j1, ?_⟩
      rw [if_neg (show ¬ nI k = 4 from fun z => k4 ((nI_eq (b := 4) (by omega) (by decide)).mp z)), jF.1, jA.2.2.2.2.2.1, nI_pred, nI_pred, ← hIk]
      exact q
  · -- a fault
    obtain ⟨Ib, Rb, m1, m2, m3, m4, m5, m6, m7⟩ := ts_bl (D := D + 2) (D' := E + 3) (J1 := J1) (k := 1) h (by decide) (by decide) (by omega)
    have c41 : C2 (E + 5) 41 [.ref 0] I2 J2 (.int 0) Rb J2 := r41 (Ib := Rb) (fun z => absurd z e) (fun _ => m2) (by
      refine mj_on (s41_487 _ _ ?_)
      rw [if_neg (DD_8 m3).2]
      exact ⟨Or.inl rfl, rfl⟩)
    exact ⟨Ib, Rb, J2, c_takeN h.1 hc e m1 (by omega), m6, Or.inl ⟨g_goD h45 c41 (Or.inr rfl), m3⟩⟩
/-- the comma of a pair -/
theorem ts_comma {M : Nat} {kk : List Nat} (hS : stc d W H B1 B2 BJ) (h : TS n x d s0 f0 B1 B2 BJ op 3 0 M bg kk L A1 A2 p a t v l o I1 I2 J2) (h45 : I2 0 45 = 1) (hp : ¬ (t = 1 ∧ (v = 43 ∨ v = 45 ∨ v = 42 ∨ v = 47))) (q1 : s0 + A1.length ≤ p) (q2 : f0 + A2.length + (M + kk.length) ≤ p) (q3 : M + kk.length < 500) :
    ∃ I1' I2' J2', C1 (D + 4) 162 [.ref 11, .int (nI 44)] I1 J1 .null I1' J1 ∧ I1' 11 9 = I1 11 9 ∧ ((gD E I2 J2 I2' J2' ∧ DD d s0 f0 B1 B2 BJ I1' I2' J2') ∨ (gA E I2 J2 I2' J2' ∧ I2' 0 45 = 0 ∧ ∃ p' a' t' v' l' o', TS n x d s0 f0 B1 B2 BJ op 4 0 M bg [] L A1 (A2 ++ pops kk) p' a' t' v' l' o' I1' I2' J2' ∧ p < p')) := by
  have hn := tk_n h.1
  have h8 := h.1.2.2.2.2.2.2.2.2.2.2.2.2.2.1
  have hop := h.2.2.2.2.1.2.2.2.2.1
  have vp : vp_in (nI op) 20 := vp_in_nI (by omega) (by decide)
  have r41 : ∀ {r : Value} {I' : (Nat → Nat → Int32)} {J' : (Nat → Nat → Int64)} {Ib : (Nat → Nat → Int32)}, ((t = 1 ∧ v = 44) → Ib = I2) → (¬ (t = 1 ∧ v = 44) → C2 (E + 4) 16 [.ref 0, .int 1, .int (I2 0 4)] I2 J2 .null Ib J2) → E2 41 (E + 4) (fun y => y = (r, (I', J', mj_R2))) 427 [(0, .ref 0), (1, .int (nI op))] Ib J2 → mj_Cl mj_S2 mj_CD (E + 5) 41 [.ref 0] (I2, J2, mj_R2) (r, (I', J', mj_R2)) := fun {r I' J' Ib} y1 y2 hh => by
    refine go_385 (D := E + 3) h (Or.inr hp) (fun z => by omega) ?_
    refine mj_on (s41_385 _ _ ?_)
    rw [if_neg (by decide), if_pos (show nI 3 = 3 from rfl)]
    exact ⟨trivial, _, _, _, sg_r (c := 44) h.1 (by decide), if_tf (fun z => by rw [← y1 z]; exact hh) (fun z => ⟨trivial, _, _, y2 z, hh⟩)⟩
  rcases Classical.em (t = 1 ∧ v = 44) with e | e
  · obtain ⟨Ij, j1, j2, j3⟩ := ts_join (D := E + 2) (r := 1) (K := []) (kk := kk) hS (by decide) (fun c hc => by cases hc) h (fun c _ => rk_1 c) (by omega) (by show M + 0 + kk.length < 500; omega)
    have tk := TS_kd (y := 4) j2 (by decide)
    obtain ⟨Ia, Ra, Sa, k1, k2, k3, k4, k5⟩ := ts_adv (D := D) (D' := E + 2) (J1 := J1) tk (by omega) (by omega)
    have c41 : C2 (E + 5) 41 [.ref 0] I2 J2 (.int 1) (mj_up Ra 0 45 0) Sa := r41 (fun _ => rfl) (fun z => absurd e z) (by
      refine mj_on (s41_427 _ ?_)
      rw [if_pos (by rw [h8]; decide)]
      refine ⟨trivial, _, _, j1, vp, ?_⟩
      rw [nI_clamp (by omega)]
      exact ⟨trivial, _, _, k2, Or.inl rfl, Or.inr rfl, rfl⟩)
    refine ⟨Ia, mj_up Ra 0 45 0, Sa, c_takeY h.1 (by decide) e k1 (by omega), k4, ?_⟩
    rcases k5 with ⟨p', a', t', v', l', o', w1, w2, -⟩ | ⟨w1, -⟩
    · exact Or.inr ⟨g_go h45 c41 (by rw [up_n (by omega)]; exact w1.1.2.2.2.2.2.2.2.2.2.2.2.2.2.1), up_s, p', a', t', v', l', o', TS_45 w1, w2⟩
    · exact Or.inl ⟨g_goD h45 c41 (Or.inl (by rw [up_n (by omega)]; exact (DD_8 w1).1)), DD_45 w1⟩
  · obtain ⟨Ib, Rb, m1, m2, m3, m4, m5, m6, m7⟩ := ts_bl (D := D + 2) (D' := E + 3) (J1 := J1) (k := 1) h (by decide) (by decide) (by omega)
    have c41 : C2 (E + 5) 41 [.ref 0] I2 J2 (.int 0) Rb J2 := r41 (Ib := Rb) (fun z => absurd z e) (fun _ => m2) (by
      refine mj_on (s41_427 _ ?_)
      rw [if_neg (DD_8 m3).2]
      exact ⟨Or.inl rfl, rfl⟩)
    exact ⟨Ib, Rb, J2, c_takeN h.1 (by decide) e m1 (by omega), m6, Or.inl ⟨g_goD h45 c41 (Or.inr rfl), m3⟩⟩
end Sa8e
end
section
/-! reading a test: one part of a product, on both sides -/
/-- what comes of reading a number: the same number is laid down on both sides, or a fault is found -/
def LN (n : Nat) (x : Nat → Nat) (d s0 f0 W H : Nat) (B1 B2 : (Nat → Nat → Int32)) (BJ : (Nat → Nat → Int64)) (E : Nat) (r h : Nat) (nx : Nat → Nat → Prop) (op kd ph bs : Nat) (K : List Nat) (L : (Nat → Nat → Int32)) (A1 A2 : (List (Nat × Nat))) (p : Nat) (I1' I2 : (Nat → Nat → Int32)) (J2 : (Nat → Nat → Int64)) : Prop :=
  (∃ p' a' t' v' l' o' c1 c2 kk I2' J2', gA E I2 J2 I2' J2' ∧ TS n x d s0 f0 B1 B2 BJ op kd ph bs 0 (K ++ kk) L (A1 ++ c1) (A2 ++ c2) p' a' t' v' l' o' I1' I2' J2' ∧ I2' 0 45 = 1 ∧ I1' 11 9 = nI op ∧ fr2 W H false h c1 (c2 ++ pops kk) ∧ (∀ c ∈ kk, r ≤ rnk c) ∧ p < p' ∧ c1.length + p ≤ p' ∧ f0 + (A2 ++ c2).length + (bs + (K ++ kk).length) ≤ p' ∧ 3 * (bs + (K ++ kk).length) ≤ 18 * op + 18 + p' ∧ nx t' v') ∨
  (∃ I2' J2', gD E I2 J2 I2' J2' ∧ DD d s0 f0 B1 B2 BJ I1' I2' J2')
def nx5 (t v : Nat) : Prop := ¬ (t = 1 ∧ (v = 43 ∨ v = 45 ∨ v = 42 ∨ v = 47))
def nx6 (t v : Nat) : Prop := ¬ (t = 1 ∧ (v = 42 ∨ v = 47))
/-- sums are read alike, with u more brackets to open -/
def SumOK (n : Nat) (x : Nat → Nat) (d s0 f0 W H : Nat) (B1 B2 : (Nat → Nat → Int32)) (BJ : (Nat → Nat → Int64)) (J1 : (Nat → Nat → Int64)) (E u : Nat) : Prop := ∀ (D op kd ph bs : Nat) (bg : Int32) (K : List Nat) (L : (Nat → Nat → Int32)) (A1 A2 : (List (Nat × Nat))) (p a t v : Nat) (l : List Nat) (o : Int) (I1 I2 : (Nat → Nat → Int32)) (J2 : (Nat → Nat → Int64)), 4 * u + 12 ≤ D → op + u = 8 → TS n x d s0 f0 B1 B2 BJ op kd ph bs bg K L A1 A2 p a t v l o I1 I2 J2 → I2 0 45 = 0 → I1 11 9 = nI op → ph < 2 → (fst1 kd bg → ¬ spcl t v o) → (∀ c ∈ K, rnk c < 5) → s0 + A1.length ≤ p → f0 + A2.length + (bs + K.length) ≤ p → 3 * (bs + K.length) ≤ 18 * op + 12 + p →
  ∃ I1', C1 D 164 [.ref 11] I1 J1 .null I1' J1 ∧ LN n x d s0 f0 W H B1 B2 BJ E 5 (3 * u + 3) nx5 op kd ph bs K L A1 A2 p I1' I2 J2
section Sa8f
variable {n d s0 f0 W H : Nat} {x : Nat → Nat} {B1 B2 : Nat → Nat → Int32} {BJ : Nat → Nat → Int64}
variable {D D' E op kd ph bs p a t v u : Nat} {l : List Nat} {o : Int} {bg : Int32} {K : List Nat} {A1 A2 : List (Nat × Nat)} {L I1 I2 : Nat → Nat → Int32} {J1 J2 : Nat → Nat → Int64}
theorem part_in {r : Value} {I' : (Nat → Nat → Int32)} {J' : (Nat → Nat → Int64)} (h : TS n x d s0 f0 B1 B2 BJ op kd ph bs bg K L A1 A2 p a t v l o I1 I2 J2) (hq : E2 35 (D + 1) (fun y => y = (r, (I', J', mj_R2))) 34 [(0, .ref 0), (1, .int (nI op)), (2, .int (tf (fst1 kd bg)))] I2 J2) : mj_Cl mj_S2 mj_CD (D + 2) 35 [.ref 0] (I2, J2, mj_R2) (r, (I', J', mj_R2)) := by
  obtain ⟨-, -, -, -, ⟨-, -, -, -, a5, -, -⟩, ⟨f1, f2, f3, f4, -, -, -, -, -, f10, -, f12, -⟩⟩ := h
  have vp : vp_in (nI op) 20 := vp_in_nI (by omega) (by decide)
  refine mj_mk (e35 ?_)
  rw [f1, nI_pred, nI_clamp (by omega), f2]
  refine ⟨vp, trivial, _, _, _, r_isTest f10, if_tf (fun z => ⟨vp, ?_⟩) (fun z => ?_)⟩
  · rw [f4]
    rcases f12 with rfl | rfl
    · rw [tf_f (show ¬ fst1 kd 0 from fun q => absurd q.2 (by decide))] at hq
      rw [if_pos rfl]; exact hq
    · rw [tf_t (show fst1 kd 1 from ⟨z, rfl⟩)] at hq
      rw [if_neg (by decide)]; exact hq
  · rw [tf_f (show ¬ fst1 kd bg from fun q => z q.1)] at hq
    exact hq
/-- no word or bracket of a test: on to the operands -/
theorem part_148 {Q : mj_R → Prop} (h : TS n x d s0 f0 B1 B2 BJ op kd ph bs bg K L A1 A2 p a t v l o I1 I2 J2) (hb : fst1 kd bg → ¬ spcl t v o) (hq : E2 35 (D + 1) Q 148 [(0, .ref 0)] (mj_up I2 25 op 0) J2) : E2 35 (D + 1) Q 34 [(0, .ref 0), (1, .int (nI op)), (2, .int (tf (fst1 kd bg)))] I2 J2 := by
  have a5 := h.2.2.2.2.1.2.2.2.2.1
  have vp : vp_in (nI op) 20 := vp_in_nI (by omega) (by decide)
  have h' := (TS_bg (y := 0) h (Or.inl rfl)).1
  have e60 : E2 35 (D + 1) Q 60 [(0, .ref 0), (1, .int (nI op)), (2, .int (tf (fst1 kd bg)))] I2 J2 := by
    have e87 : E2 35 (D + 1) Q 87 [(0, .ref 0), (1, .int (nI op)), (2, .int (tf (fst1 kd bg)))] (mj_up I2 25 op 0) J2 := by
      have e120 : E2 35 (D + 1) Q 120 [(0, .ref 0), (1, .int (nI op)), (2, .int (tf (fst1 kd bg)))] (mj_up I2 25 op 0) J2 := by
        refine mj_on (s35_120 _ _ ?_)
        refine if_tf (fun z => ?_) (fun _ => hq)
        exact ⟨trivial, _, _, _, wd_r (w := 12) h' (by decide), if_tf (fun y => absurd (Or.inr (Or.inr (Or.inr y))) (hb z)) (fun _ => hq)⟩
      refine mj_on (s35_87 _ _ ?_)
      refine if_tf (fun z => ?_) (fun _ => e120)
      exact ⟨trivial, _, _, _, wd_r (w := 11) h' (by decide), if_tf (fun y => absurd (Or.inr (Or.inr (Or.inl y))) (hb z)) (fun _ => e120)⟩
    refine mj_on (s35_60 _ _ ?_)
    rw [nI_clamp (by omega)]
    refine ⟨vp, if_tf (fun z => ?_) (fun _ => e87)⟩
    exact ⟨trivial, _, _, _, sg_r (c := 91) h' (by decide), if_tf (fun y => absurd (Or.inl y) (hb z)) (fun _ => e87)⟩
  refine mj_on (s35_34 _ _ ?_)
  refine if_tf (fun z => ?_) (fun _ => e60)
  exact ⟨trivial, _, _, _, wd_r (w := 10) h.1 (by decide), if_tf (fun y => absurd (Or.inr (Or.inl y)) (hb z)) (fun _ => e60)⟩
/-- one step that stands for one token -/
theorem lv_leaf {c y u : Nat} {Ia Ib : (Nat → Nat → Int32)} {Jb : (Nat → Nat → Int64)} (hc : c ≤ 2) (hv : (c = 0 → y ≤ 9999) ∧ (c = 2 → y < W) ∧ (c = 4 → y < H) ∧ (c = 1 ∨ c = 3 → y = 0)) (hg : gA E I2 J2 Ib Jb) {p' a' t' v' : Nat} {l' : List Nat} {o' : Int} (h : TS n x d s0 f0 B1 B2 BJ op kd ph bs 0 K L (A1 ++ [(c, y)]) (A2 ++ [(c, y)]) p' a' t' v' l' o' Ia Ib Jb) (h45 : Ib 0 45 = 1) (h9 : Ia 11 9 = nI op) (hp : p < p') (q1 : s0 + A1.length ≤ p) (q2 : f0 + A2.length + (bs + K.length) ≤ p) (q3 : 3 * (bs + K.length) ≤ 18 * op + 15 + p) : LN n x d s0 f0 W H B1 B2 BJ E 6 (3 * u + 1) (fun _ _ => True) op kd ph bs K L A1 A2 p Ia I2 J2 := by
  refine Or.inl ⟨p', a', t', v', l', o', [(c, y)], [(c, y)], [], Ib, Jb, hg, by rw [List.append_nil]; exact h, h45, h9, ?_, fun c hc => (by cases hc), hp, ?_, ?_, ?_, trivial⟩
  · rw [pops_nil, List.append_nil]
    have q := fr2_leaf (W := W) (H := H) (c := c) (v := y) (by omega) hv
    rw [decide_eq_false (by omega)] at q
    exact fr2_up q (by omega)
  · show 1 + p ≤ p'; omega
  · rw [List.length_append, List.append_nil]; show f0 + (A2.length + 1) + (bs + K.length) ≤ p'; omega
  · rw [List.append_nil]; omega
theorem TS_pr {y : Int32} (h : TS n x d s0 f0 B1 B2 BJ op kd ph bs bg K L A1 A2 p a t v l o I1 I2 J2) : TS n x d s0 f0 B1 B2 BJ op kd ph bs bg K (mj_up I2 26 op y) A1 A2 p a t v l o I1 (mj_up I2 26 op y) J2 := by
  obtain ⟨h1, h2, h3, h4, h5, ⟨f1, f2, f3, f4, f5, f6, f7, f8, f9, f10⟩⟩ := h
  refine ⟨tkR_cg h1 (fun _ _ _ => rfl) (fun q j z => up_n (by omega)) rfl, h2, fun q j z1 z2 z3 => by rw [up_n (by omega)]; exact h3 q j z1 z2 z3, h4, tsA_cg h5 rfl (fun _ => rfl) (up_n (by omega)) (fun j => ⟨up_n (by omega), up_n (by omega)⟩) (up_n (by omega)) (up_n (by omega)), ⟨?_, ?_, ?_, ?_, ?_, fun i z zz => ?_, fun _ _ _ _ _ => rfl, rfl, fun _ _ => rfl, f10⟩⟩
  · rw [up_n (by omega)]; exact f1
  · rw [up_n (by omega)]; exact f2
  · rw [up_n (by omega)]; exact f3
  · rw [up_n (by omega)]; exact f4
  · rw [up_n (by omega)]; exact f5
  · rw [up_n (by omega)]; exact f6 i z zz
theorem TS_119 {y : Int32} (h : TS n x d s0 f0 B1 B2 BJ op kd ph bs bg K L A1 A2 p a t v l o I1 I2 J2) : TS n x d s0 f0 B1 B2 BJ op kd ph bs bg K L A1 A2 p a t v l o (mj_up I1 11 9 y) I2 J2 := by
  obtain ⟨h1, h2, h3, h4, h5, h6⟩ := h
  refine ⟨tkR_cg h1 (fun q j z => up_n (by omega)) (fun _ _ _ => rfl) rfl, fun q j z1 z2 z3 => by rw [up_n (by omega)]; exact h2 q j z1 z2 z3, h3, h4, tsA_cg h5 (up_n (by omega)) (fun j => up_n (by omega)) rfl (fun _ => ⟨rfl, rfl⟩) rfl rfl, h6⟩
/-- opens does nothing behind a fault -/
theorem r38_D {k : Nat} (h : DD d s0 f0 B1 B2 BJ I1 I2 J2) : C2 (D + 2) 38 [.ref 0, .int (nI k)] I2 J2 .null I2 J2 := by
  obtain ⟨j, j1, j2, j3⟩ := DD_k h
  have e18 : E2 38 (D + 1) (fun y => y = (.null, (I2, J2, mj_R2))) 18 [(0, .ref 0), (1, .int (nI k))] I2 J2 := by
    refine mj_on (s38_18 _ ?_)
    rw [if_neg (DD_8 h).2]
  refine mj_mk (e38 _ ?_)
  exact if_i (fun _ => ⟨trivial, _, _, r_blD j3 j1 j2, e18⟩) (fun _ => e18)
theorem r224_D {Q : mj_R → Prop} {y : Int32} (h : DD d s0 f0 B1 B2 BJ I1 I2 J2) (hQ : Q (.int 0, (I2, J2, mj_R2))) : E2 35 (E + 4) Q 224 [(0, .ref 0), (3, .int y)] I2 J2 := by
  refine mj_on (s35_224 _ ?_)
  refine ⟨trivial, _, _, r38_D (k := 3) (D := E + 2) h, ?_⟩
  rw [if_neg (DD_8 h).1]
  exact ⟨Or.inl rfl, hQ⟩
theorem tk_n2 (h : tkR n x p a t v l o I1 I2 J2) : p ≤ n ∧ n ≤ 900 := ⟨(tk_n h).1, (tk_n h).2.1⟩
end Sa8f
end
section
section Sa8f
variable {n d s0 f0 W H : Nat} {x : Nat → Nat} {B1 B2 : Nat → Nat → Int32} {BJ : Nat → Nat → Int64}
variable {D D' E op kd ph bs p a t v u : Nat} {l : List Nat} {o : Int} {bg : Int32} {K : List Nat} {A1 A2 : List (Nat × Nat)} {L I1 I2 : Nat → Nat → Int32} {J1 J2 : Nat → Nat → Int64}
set_option maxHeartbeats 16000000 in
/-- a pair in brackets, behind its word -/
theorem lv_pair {F w pr p0 : Nat} {I0 : (Nat → Nat → Int32)} {J0 : (Nat → Nat → Int64)} (hS : stc d W H B1 B2 BJ) (IH : ∀ y, u = y + 1 → SumOK n x d s0 f0 W H B1 B2 BJ J1 E y) (hw : w = 15 ∧ pr = 9 ∨ w = 16 ∧ pr = 10) (hF : 4 * u ≤ F) (hu : op + u = 8) (h : TS n x d s0 f0 B1 B2 BJ op kd ph bs 0 K L A1 A2 p a t v l o I1 I2 J2) (h9 : I1 11 9 = nI op) (hp0 : p0 < p) (q1 : s0 + A1.length ≤ p) (q2 : f0 + A2.length + (bs + K.length) ≤ p) (q3 : 3 * (bs + K.length) ≤ 18 * op + 15 + p)
    (g45 : I0 0 45 = 0) (hr : ∀ {r : Value} {I' : (Nat → Nat → Int32)} {J' : (Nat → Nat → Int64)} {Rz : (Nat → Nat → Int32)}, ((t = 1 ∧ v = 40) → Rz = I2) → (¬ (t = 1 ∧ v = 40) → C2 (E + 4) 16 [.ref 0, .int 1, .int (I2 0 4)] I2 J2 .null Rz J2) → E2 35 (E + 4) (fun y => y = (r, (I', J', mj_R2))) 224 [(0, .ref 0), (3, .int (nI pr))] Rz J2 → mj_Cl mj_S2 mj_CD (E + 5) 35 [.ref 0] (I0, J0, mj_R2) (r, (I', J', mj_R2))) :
    ∃ I1', C1 (F + 9) 167 [.ref 11, .int (nI w)] I1 J1 .null I1' J1 ∧ LN n x d s0 f0 W H B1 B2 BJ E 6 (3 * u + 1) (fun _ _ => True) op kd ph bs K L A1 A2 p0 I1' I0 J0 := by
  have hn := tk_n2 h.1
  have hbM : bs + K.length < 500 := by have := h.2.2.2.2.1.2.2.2.2.1; omega
  have hopc : nI (opc pr) = nI w := by rcases hw with ⟨rfl, rfl⟩ | ⟨rfl, rfl⟩ <;> rfl
  -- the class behind a fault
  have cz : ∀ {Ia : (Nat → Nat → Int32)} {R : (Nat → Nat → Int32)} {S : (Nat → Nat → Int64)}, DD d s0 f0 B1 B2 BJ Ia R S → ∃ Ib, C1 (F + 8) 163 [.ref 14, .int (nI w), .int 0] (mj_up Ia 11 9 (Ia 11 9 - 1)) J1 .null Ib J1 ∧ DD d s0 f0 B1 B2 BJ Ib R S := fun {Ia R S} q => d_add (D := F + 6) (J1 := J1) (y := nI w) (z := 0) (DD_119 q)
  by_cases e : t = 1 ∧ v = 40
  · obtain ⟨r, Ic, Rc, Sc, k1, k2, k3⟩ := ts_open (D := F + 4) (E := E) (J1 := J1) (c := 40) (k := 3) (by decide) (by decide) h e.1 e.2 h9 q1 hbM
    rcases k3 with ⟨rfl, k3⟩ | ⟨rfl, k3⟩ | ⟨rfl, k3, k4, k5, k6, k7, p2, a2, t2, v2, l2, o2, k8, k9⟩
    · refine ⟨Ic, mj_mk (e167 _ ⟨trivial, _, _, _, k1, by rw [if_pos rfl]⟩), Or.inr ⟨_, _, g_partD g45 (hr (Rz := I2) (fun _ => rfl) (fun z => absurd e z) (I' := Rc) (J' := Sc) (r := .int 0) ?_) (Or.inl rfl) (DD_8 k3).1, DD_45 k3⟩⟩
      refine mj_on (s35_224 _ ?_)
      refine ⟨trivial, _, _, k2, ?_⟩
      rw [if_neg (DD_8 k3).1]
      exact ⟨Or.inl rfl, rfl⟩
    · obtain ⟨Ia, a1, b1⟩ := d_sum (D := F + 3) (J1 := J1) k3
      obtain ⟨Ib, a2, b2⟩ := d_take (D := F + 6) (J1 := J1) (c := 44) b1
      obtain ⟨Id, a3, b3⟩ := d_sum (D := F + 3) (J1 := J1) b2
      obtain ⟨Ie, a4, b4⟩ := d_take (D := F + 6) (J1 := J1) (c := 41) b3
      obtain ⟨If, a5, b5⟩ := cz b4
      refine ⟨If, mj_mk (e167 _ ⟨trivial, _, _, _, k1, ?_⟩), Or.inr ⟨_, _, g_partD g45 (hr (Rz := I2) (fun _ => rfl) (fun z => absurd e z) (I' := Rc) (J' := Sc) (r := .int 0) ?_) (Or.inl rfl) (DD_8 b5).1, DD_45 b5⟩⟩
      · rw [if_neg (by decide)]
        exact ⟨trivial, _, _, a1, trivial, _, _, a2, trivial, _, _, a3, trivial, _, _, a4, trivial, _, _, a5, rfl⟩
      · refine mj_on (s35_224 _ ?_)
        refine ⟨trivial, _, _, k2, ?_⟩
        rw [if_neg (DD_8 b5).1]
        exact ⟨Or.inl rfl, rfl⟩
    · -- the first number
      obtain ⟨y, rfl⟩ : ∃ y, u = y + 1 := ⟨u - 1, by omega⟩
      have hn2 := tk_n2 k8.1
      have k81 := TS_45 (r := 0) (TS_pr (y := nI pr) k8)
      obtain ⟨Rd, hRd⟩ : ∃ Rd, Rd = mj_up (mj_up Rc 26 (op + 1) (nI pr)) 0 45 0 := ⟨_, rfl⟩
      obtain ⟨L', hL'⟩ : ∃ L', L' = mj_up Rc 26 (op + 1) (nI pr) := ⟨_, rfl⟩
      rw [← hRd, ← hL'] at k81
      have g0 : gA E I0 J0 Rd Sc := by
        rw [hRd]
        refine g_part g45 (hr (Rz := I2) (fun _ => rfl) (fun z => absurd e z) ?_) (Or.inl rfl) ?_
        · refine mj_on (s35_224 _ ?_)
          refine ⟨trivial, _, _, k2, ?_⟩
          rw [if_pos k8.1.2.2.2.2.2.2.2.2.2.2.2.2.2.1, k8.2.2.2.2.2.1, nI_pred, nI_clamp (by omega)]
          exact ⟨vp_in_nI (by omega) (by decide), Or.inl rfl, rfl⟩
        · rw [up_n (by omega)]; exact k8.1.2.2.2.2.2.2.2.2.2.2.2.2.2.1
      have hF0 := h.2.2.2.2.2
      have ag1 : ∀ q, 23 ≤ q → q ≤ 27 → ∀ i, i < op + 1 → L' q i = I2 q i := fun q z1 z2 i hi => by rw [hL', up_n (by omega)]; exact k6 q z1 z2 i hi
      have ag2 : ∀ i, i < bs + K.length → L' 28 i = I2 28 i := fun i _ => by rw [hL', up_n (by omega)]; exact k7 i
      have lpr : L' 26 (op + 1) = nI pr := by rw [hL', up_s]
      obtain ⟨I3, c3, n3⟩ := IH y rfl (F + 8) (op + 1) 3 0 (bs + K.length) 1 [] L' A1 A2 p2 a2 t2 v2 l2 o2 Ic Rd Sc (by omega) (by omega) k81 (by rw [hRd, up_s]) k5 (by decide) (fun z => absurd z.1 (by omega)) (fun c hc => by cases hc) (by omega) (by show f0 + A2.length + (bs + K.length + 0) ≤ p2; omega) (by show 3 * (bs + K.length + 0) ≤ 18 * (op + 1) + 12 + p2; omega)
      have hd : ∀ {Iy : (Nat → Nat → Int32)} {R : (Nat → Nat → Int32)} {S : (Nat → Nat → Int64)}, C1 (F + 8) 164 [.ref 11] Ic J1 .null Iy J1 → DD d s0 f0 B1 B2 BJ Iy R S → ∃ If, C1 (F + 9) 167 [.ref 11, .int (nI w)] I1 J1 .null If J1 ∧ DD d s0 f0 B1 B2 BJ If R S := fun {Iy R S} cc b1 => by
        obtain ⟨Ib, a2, b2⟩ := d_take (D := F + 6) (J1 := J1) (c := 44) b1
        obtain ⟨Id, a3, b3⟩ := d_sum (D := F + 3) (J1 := J1) b2
        obtain ⟨Ie, a4, b4⟩ := d_take (D := F + 6) (J1 := J1) (c := 41) b3
        obtain ⟨If, a5, b5⟩ := cz b4
        refine ⟨If, mj_mk (e167 _ ⟨trivial, _, _, _, k1, ?_⟩), b5⟩
        rw [if_neg (by decide)]
        exact ⟨trivial, _, _, cc, trivial, _, _, a2, trivial, _, _, a3, trivial, _, _, a4, trivial, _, _, a5, rfl⟩
      rcases n3 with ⟨p3, a3, t3, v3, l3, o3, x1, x2, kk, R3, S3, m1, m2, m3, m4, m5, m6, m7, m8, m9, m10, m11⟩ | ⟨R3, S3, m1, m2⟩
      · -- the comma
        have hn3 := tk_n2 m2.1
        have e00 : ([] ++ kk).length = kk.length := rfl
        rw [e00] at m9 m10
        obtain ⟨I4, R4, S4, c4, c49, n4⟩ := ts_comma (D := F + 4) (E := E) (J1 := J1) hS m2 m3 m11 (by rw [List.length_append]; omega) m9 (by omega)
        rcases n4 with ⟨g4, d4⟩ | ⟨g4, z45, p4, a4, t4, v4, l4, o4, m12, m13⟩
        · obtain ⟨Id, a3, b3⟩ := d_sum (D := F + 3) (J1 := J1) d4
          obtain ⟨Ie, a4, b4⟩ := d_take (D := F + 6) (J1 := J1) (c := 41) b3
          obtain ⟨If, a5, b5⟩ := cz b4
          refine ⟨If, mj_mk (e167 _ ⟨trivial, _, _, _, k1, ?_⟩), Or.inr ⟨R4, S4, gA_D g0 (gA_D m1 g4), b5⟩⟩
          rw [if_neg (by decide)]
          exact ⟨trivial, _, _, c3, trivial, _, _, c4, trivial, _, _, a3, trivial, _, _, a4, trivial, _, _, a5, rfl⟩
        · -- the second number
          have hn4 := tk_n2 m12.1
          have e01 : (A2 ++ x2 ++ pops kk).length = (A2 ++ x2).length + kk.length := by rw [List.length_append, pops_len]
          obtain ⟨I5, c5, n5⟩ := IH y rfl (F + 8) (op + 1) 4 0 (bs + K.length) 0 [] L' (A1 ++ x1) (A2 ++ x2 ++ pops kk) p4 a4 t4 v4 l4 o4 I4 R4 S4 (by omega) (by omega) m12 z45 (by rw [c49, m4]) (by decide) (fun z => absurd z.1 (by omega)) (fun c hc => by cases hc) (by rw [List.length_append]; omega) (by rw [e01]; show (f0 + ((A2 ++ x2).length + kk.length) + (bs + K.length + 0)) ≤ p4; omega) (by show 3 * (bs + K.length + 0) ≤ 18 * (op + 1) + 12 + p4; omega)
          rcases n5 with ⟨p5, a5, t5, v5, l5, o5, y1, y2, k2', R5, S5, r1, r2, r3, r4, r5, r6, r7, r8, r9, r10, r11⟩ | ⟨R5, S5, r1, r2⟩
          · have hn5 := tk_n2 r2.1
            have e02 : ([] ++ k2').length = k2'.length := rfl
            rw [e02] at r9 r10
            obtain ⟨I6, R6, S6, c6, c69, n6⟩ := ts_close (D := F + 4) (E := E) (J1 := J1) (k := 4) (c := 41) (pr := pr) hS (Or.inl ⟨Or.inr rfl, rfl⟩) r2 r3 (Or.inr r11) (fun z => by omega) hF0 ag1 ag2 (fun _ => lpr) (by rw [List.length_append, List.length_append]; omega) r9 (by omega)
            have c167 : ∀ {If : (Nat → Nat → Int32)}, C1 (F + 8) 163 [.ref 14, .int (nI w), .int 0] (mj_up I6 11 9 (I6 11 9 - 1)) J1 .null If J1 → C1 (F + 9) 167 [.ref 11, .int (nI w)] I1 J1 .null If J1 := fun {If} a5 => by
              refine mj_mk (e167 _ ⟨trivial, _, _, _, k1, ?_⟩)
              rw [if_neg (by decide)]
              exact ⟨trivial, _, _, c3, trivial, _, _, c4, trivial, _, _, c5, trivial, _, _, c6, trivial, _, _, a5, rfl⟩
            rcases n6 with ⟨g6, d6⟩ | ⟨g6, z46, p6, a6, t6, v6, l6, o6, m14, m15⟩
            · obtain ⟨If, a5, b5⟩ := cz d6
              exact ⟨If, c167 a5, Or.inr ⟨R6, S6, gA_D g0 (gA_D m1 (gA_D g4 (gA_D r1 g6))), b5⟩⟩
            · rw [if_neg (by decide), if_pos rfl] at m14
              have hn6 := tk_n2 m14.1
              obtain ⟨If, a7, b7, b8⟩ := ts_addC (D := F + 6) (J1 := J1) (c := pr) (y := 0) (TS_119 (y := I6 11 9 - 1) m14) (by rw [List.length_append, List.length_append]; omega) (by decide)
              rw [hopc] at a7
              refine ⟨If, c167 a7, Or.inl ⟨p6, a6, t6, v6, l6, o6, x1 ++ (y1 ++ [(pr, 0)]), (x2 ++ pops kk) ++ ((y2 ++ pops k2') ++ [(pr, 0)]), [], R6, S6, gA_tr g0 (gA_tr m1 (gA_tr g4 (gA_tr r1 g6))), ?_, z46, ?_, ?_, fun c hc => (by cases hc), by omega, ?_, ?_, ?_, trivial⟩⟩
              · rw [List.append_nil]
                simp only [List.append_assoc] at b7 ⊢
                exact b7
              · rw [b8, up_s, c69, r4, nI_pred]
              · rw [pops_nil, List.append_nil]
                exact fr2_num (by omega) (by omega) m5 r5 (by omega) (by omega)
              · simp only [List.length_append, List.length_cons, List.length_nil]
                omega
              · simp only [List.length_append, List.length_cons, List.length_nil, pops_len] at r9 ⊢
                omega
              · simp only [List.append_nil]
                omega
          · obtain ⟨Ie, a4, b4⟩ := d_take (D := F + 6) (J1 := J1) (c := 41) r2
            obtain ⟨If, a5, b5⟩ := cz b4
            refine ⟨If, mj_mk (e167 _ ⟨trivial, _, _, _, k1, ?_⟩), Or.inr ⟨R5, S5, gA_D g0 (gA_D m1 (gA_D g4 r1)), b5⟩⟩
            rw [if_neg (by decide)]
            exact ⟨trivial, _, _, c3, trivial, _, _, c4, trivial, _, _, c5, trivial, _, _, a4, trivial, _, _, a5, rfl⟩
      · obtain ⟨If, a5, b5⟩ := hd c3 m2
        exact ⟨If, a5, Or.inr ⟨R3, S3, gA_D g0 m1, b5⟩⟩
  · obtain ⟨Ib, Rb, m1, m2, m3, m4, m5, m6, m7⟩ := ts_bl (D := F + 6) (D' := E + 3) (J1 := J1) (k := 1) h (by decide) (by decide) (by omega)
    refine ⟨Ib, mj_mk (e167 _ ⟨trivial, _, _, _, mj_mk (r := (.int 0, (Ib, J1, mj_R1))) (e161 _ ⟨trivial, _, _, _, sg_c h.1 (c := 40) (by decide), if_tf (fun z => absurd z e) (fun _ => ⟨trivial, _, _, m1, Or.inl rfl, rfl⟩)⟩), by rw [if_pos rfl]⟩), Or.inr ⟨_, _, g_partD g45 (hr (fun z => absurd z e) (fun _ => m2) (r224_D m3 rfl)) (Or.inl rfl) (DD_8 m3).1, DD_45 m3⟩⟩
end Sa8f
end
section
section Sa8f
variable {n d s0 f0 W H : Nat} {x : Nat → Nat} {B1 B2 : Nat → Nat → Int32} {BJ : Nat → Nat → Int64}
variable {D D' E op kd ph bs p a t v u : Nat} {l : List Nat} {o : Int} {bg : Int32} {K : List Nat} {A1 A2 : List (Nat × Nat)} {L I1 I2 : Nat → Nat → Int32} {J1 J2 : Nat → Nat → Int64}
set_option maxHeartbeats 16000000 in
theorem lv_part (hS : stc d W H B1 B2 BJ) (IH : ∀ w, u = w + 1 → SumOK n x d s0 f0 W H B1 B2 BJ J1 E w) (hD : 4 * u + 10 ≤ D) (hu : op + u = 8) (h : TS n x d s0 f0 B1 B2 BJ op kd ph bs bg K L A1 A2 p a t v l o I1 I2 J2) (h45 : I2 0 45 = 0) (h9 : I1 11 9 = nI op) (hph : ph < 2) (hb : fst1 kd bg → ¬ spcl t v o) (q1 : s0 + A1.length ≤ p) (q2 : f0 + A2.length + (bs + K.length) ≤ p) (q3 : 3 * (bs + K.length) ≤ 18 * op + 15 + p) :
    ∃ I1', C1 D 166 [.ref 11] I1 J1 .null I1' J1 ∧ LN n x d s0 f0 W H B1 B2 BJ E 6 (3 * u + 1) (fun _ _ => True) op kd ph bs K L A1 A2 p I1' I2 J2 := by
  obtain ⟨F, rfl⟩ : ∃ F, D = F + 10 := ⟨D - 10, by omega⟩
  have hn := tk_n h.1
  have h' := TS_bg (y := 0) h (Or.inl rfl)
  obtain ⟨Ib, hIb⟩ : ∃ Ib, Ib = mj_up I2 25 op 0 := ⟨_, rfl⟩
  rw [← hIb] at h'
  have hd := TS_d h' hS
  have h8 := h'.1.2.2.2.2.2.2.2.2.2.2.2.2.2.1
  have b45 : Ib 0 45 = 0 := by rw [hIb, up_n (by omega)]; exact h45
  have r35 : ∀ {r : Value} {I' : (Nat → Nat → Int32)} {J' : (Nat → Nat → Int64)}, E2 35 (E + 4) (fun y => y = (r, (I', J', mj_R2))) 148 [(0, .ref 0)] Ib J2 → mj_Cl mj_S2 mj_CD (E + 5) 35 [.ref 0] (I2, J2, mj_R2) (r, (I', J', mj_R2)) := fun {r I' J'} q => part_in (D := E + 3) h (part_148 (D := E + 3) h hb (by rw [← hIb]; exact q))
  have hbM : bs + K.length < 500 := by omega
  have sg : t ≠ 1 → ∀ {T1 T2 : Prop}, T1 → (if tf (t = 1 ∧ v = 40) = 0 then T1 else T2) := fun q T1 T2 y => if_tf (fun z => absurd z.1 q) (fun _ => y)
  by_cases t2 : t = 2
  · -- a number
    obtain ⟨Ic, m1, m2, m3⟩ := ts_addR (D := E + 3) (c := 0) (y := v) hS h' (by omega)
    obtain ⟨Ia, Ra, Sa, k1, k2, k3, k4, k5⟩ := ts_adv (D := F + 5) (D' := E + 2) (J1 := J1) m2 (by omega) (by omega)
    have hv : v ≤ 9999 := (tk_n h.1).2.2.2.1 t2
    have vv : I1 11 6 = nI v ∧ Ib 0 6 = nI v := by
      rcases h'.1.2.2.2.2.2.2.2.2.2.2.2.2.2.2.2.2 with ⟨q, -⟩ | ⟨q, -⟩ | ⟨-, -, -, -, -, w1, w2, -⟩ | ⟨q, -⟩
      · omega
      · omega
      · exact ⟨w1, w2⟩
      · omega
    have o1 : o = -1 := tk_o h.1 (by omega)
    have c35 : C2 (E + 5) 35 [.ref 0] I2 J2 (.int 1) Ra Sa := r35 (by
      refine mj_on (s35_148 ?_)
      refine ⟨trivial, _, _, _, sg_r (c := 40) h'.1 (by decide), sg (by omega) ?_⟩
      refine ⟨trivial, _, _, _, wd_r (w := 15) h'.1 (by decide), if_tf (fun z => by omega) (fun _ => ?_)⟩
      refine ⟨trivial, _, _, _, wd_r (w := 16) h'.1 (by decide), if_tf (fun z => by omega) (fun _ => ?_)⟩
      refine ⟨trivial, _, _, _, wd_r (w := 14) h'.1 (by decide), if_tf (fun z => by omega) (fun _ => ?_)⟩
      rw [if_pos ((rtk_eq (y := 2) h'.1 (k := 2) (by decide) (by decide) rfl).mpr t2), vv.2]
      refine ⟨trivial, _, _, m1, ?_⟩
      refine mj_on (s35_315 ?_)
      rw [if_pos m2.1.2.2.2.2.2.2.2.2.2.2.2.2.2.1]
      exact ⟨trivial, _, _, k2, Or.inr rfl, rfl⟩)
    have c166 : ∀ {Id : (Nat → Nat → Int32)}, C1 (F + 9) 163 [.ref 14, .int 17, .int (nI v)] Ia J1 .null Id J1 → C1 (F + 10) 166 [.ref 11] I1 J1 .null Id J1 := fun {Id} q => by
      refine mj_mk (e166 ?_)
      rw [if_pos ((tok_eq (y := 2) h.1 (k := 2) (by decide) rfl).mpr t2)]
      refine ⟨trivial, _, _, _, mj_mk (r := (.int (nI v), (Ia, J1, mj_R1))) (e156 ?_), trivial, _, _, q, rfl⟩
      rw [if_pos ((tok_eq (y := 2) h.1 (k := 2) (by decide) rfl).mpr t2), vv.1]
      exact ⟨trivial, _, _, k1, rfl⟩
    rcases k5 with ⟨p', a', t', v', l', o', w1, w2, -⟩ | ⟨w1, -⟩
    · obtain ⟨Id, g1, g2, g3⟩ := ts_addC (D := F + 7) (J1 := J1) (c := 0) (y := v) w1 (by have := tk_n w1.1; omega) hv
      exact ⟨Id, c166 g1, lv_leaf (by decide) ⟨fun _ => hv, fun z => by omega, fun z => by omega, fun z => by omega⟩ (g_part h45 c35 (Or.inr rfl) w1.1.2.2.2.2.2.2.2.2.2.2.2.2.2.1) (TS_45 g2) up_s (by rw [g3, k4, h9]) w2 q1 q2 q3⟩
    · obtain ⟨Id, g1, g2⟩ := d_add (D := F + 7) (J1 := J1) (y := 17) (z := nI v) w1
      exact ⟨Id, c166 g1, Or.inr ⟨_, _, g_partD h45 c35 (Or.inr rfl) (DD_8 w1).1, DD_45 g2⟩⟩
  have nt2 : ¬ I1 11 5 = 2 := fun z => t2 ((tok_eq (y := 2) h.1 (k := 2) (by decide) rfl).mp z)
  have rt2 : ¬ Ib 0 3 = 2 := fun z => t2 ((rtk_eq (y := 2) h'.1 (k := 2) (by decide) (by decide) rfl).mp z)
  by_cases o13 : o = (13 : Nat)
  · -- many
    have t3 : t = 3 := (tk_w h.1 (by decide) o13).1
    obtain ⟨Ic, m1, m2, m3⟩ := ts_addR (D := E + 3) (c := 1) (y := 0) hS h' (by omega)
    obtain ⟨Id, g1, g2, g3⟩ := ts_addC (D := F + 7) (J1 := J1) (c := 1) (y := 0) m2 (by omega) (by decide)
    obtain ⟨Ia, Ra, Sa, k1, k2, k3, k4, k5⟩ := ts_adv (D := F + 6) (D' := E + 2) (J1 := J1) g2 (by omega) (by rw [List.length_append]; show s0 + (A1.length + 1) ≤ 900; omega)
    have c35 : C2 (E + 5) 35 [.ref 0] I2 J2 (.int 1) Ra Sa := r35 (by
      refine mj_on (s35_148 ?_)
      refine ⟨trivial, _, _, _, sg_r (c := 40) h'.1 (by decide), sg (by omega) ?_⟩
      refine ⟨trivial, _, _, _, wd_r (w := 15) h'.1 (by decide), if_tf (fun z => by omega) (fun _ => ?_)⟩
      refine ⟨trivial, _, _, _, wd_r (w := 16) h'.1 (by decide), if_tf (fun z => by omega) (fun _ => ?_)⟩
      refine ⟨trivial, _, _, _, wd_r (w := 14) h'.1 (by decide), if_tf (fun z => by omega) (fun _ => ?_)⟩
      rw [if_neg rt2]
      refine ⟨trivial, _, _, _, wd_r (w := 13) h'.1 (by decide), if_tf (fun _ => ?_) (fun z => absurd o13 z)⟩
      refine ⟨trivial, _, _, m1, ?_⟩
      refine mj_on (s35_315 ?_)
      rw [if_pos m2.1.2.2.2.2.2.2.2.2.2.2.2.2.2.1]
      exact ⟨trivial, _, _, k2, Or.inr rfl, rfl⟩)
    have c166 : C1 (F + 10) 166 [.ref 11] I1 J1 .null Ia J1 := by
      refine mj_mk (e166 ?_)
      rw [if_neg nt2, if_pos ((own_eq (y := 13) h.1 (w := 13) (by decide) rfl).mpr o13)]
      exact ⟨trivial, _, _, g1, trivial, _, _, k1, rfl⟩
    rcases k5 with ⟨p', a', t', v', l', o', w1, w2, -⟩ | ⟨w1, -⟩
    · exact ⟨Ia, c166, lv_leaf (by decide) ⟨fun z => by omega, fun z => by omega, fun z => by omega, fun _ => rfl⟩ (g_part h45 c35 (Or.inr rfl) w1.1.2.2.2.2.2.2.2.2.2.2.2.2.2.1) (TS_45 w1) up_s (by rw [k4, g3, h9]) w2 q1 q2 q3⟩
    · exact ⟨Ia, c166, Or.inr ⟨_, _, g_partD h45 c35 (Or.inr rfl) (DD_8 w1).1, DD_45 w1⟩⟩
  have n13 : ¬ I1 11 7 = 13 := fun z => o13 ((own_eq (y := 13) h.1 (w := 13) (by decide) rfl).mp z)
  by_cases o14 : o = (14 : Nat)
  · -- of
    have t3 : t = 3 := (tk_w h.1 (by decide) o14).1
    obtain ⟨Ia, r, Ic, Id, Ra, Sa, k1, k2, k3, k4, k5⟩ := ts_named (D := F + 4) (E := E) (J1 := J1) (c := 2) (i := 0) hS (Or.inl ⟨rfl, rfl⟩) h' (by omega) q1 (by omega)
    have c35 : C2 (E + 5) 35 [.ref 0] I2 J2 (.int 1) Ra Sa := r35 (by
      refine mj_on (s35_148 ?_)
      refine ⟨trivial, _, _, _, sg_r (c := 40) h'.1 (by decide), sg (by omega) ?_⟩
      refine ⟨trivial, _, _, _, wd_r (w := 15) h'.1 (by decide), if_tf (fun z => by omega) (fun _ => ?_)⟩
      refine ⟨trivial, _, _, _, wd_r (w := 16) h'.1 (by decide), if_tf (fun z => by omega) (fun _ => ?_)⟩
      refine ⟨trivial, _, _, _, wd_r (w := 14) h'.1 (by decide), if_tf (fun _ => ?_) (fun z => absurd o14 z)⟩
      exact ⟨trivial, _, _, k4, Or.inr rfl, rfl⟩)
    have c166 : C1 (F + 10) 166 [.ref 11] I1 J1 .null Id J1 := by
      refine mj_mk (e166 ?_)
      rw [if_neg nt2, if_neg n13, if_pos ((own_eq (y := 14) h.1 (w := 14) (by decide) rfl).mpr o14)]
      exact ⟨trivial, _, _, k1, trivial, _, _, _, k2, trivial, _, _, k3, rfl⟩
    rcases k5 with ⟨k, p', a', t', v', l', o', w1, w2, w3, w4, w5, w6, -⟩ | w1
    · exact ⟨Id, c166, lv_leaf (by decide) ⟨fun z => by omega, fun _ => w6 rfl, fun z => by omega, fun z => by omega⟩ (g_part h45 c35 (Or.inr rfl) w1.1.2.2.2.2.2.2.2.2.2.2.2.2.2.1) (TS_45 w1) up_s (by rw [w5, h9]) w2 q1 q2 q3⟩
    · exact ⟨Id, c166, Or.inr ⟨_, _, g_partD h45 c35 (Or.inr rfl) (DD_8 w1).1, DD_45 w1⟩⟩
  have n14 : ¬ I1 11 7 = 14 := fun z => o14 ((own_eq (y := 14) h.1 (w := 14) (by decide) rfl).mp z)
  by_cases om : o = (15 : Nat) ∨ o = (16 : Nat)
  · -- min, max
    obtain ⟨w, pr, hw, ow, hpr⟩ : ∃ w pr : Nat, (w = 15 ∧ pr = 9 ∨ w = 16 ∧ pr = 10) ∧ o = (w : Nat) ∧ opc pr = w := by
      rcases om with e | e
      · exact ⟨15, 9, Or.inl ⟨rfl, rfl⟩, e, rfl⟩
      · exact ⟨16, 10, Or.inr ⟨rfl, rfl⟩, e, rfl⟩
    have t3 : t = 3 := (tk_w h.1 (w := w) (by omega) ow).1
    have w7 : I1 11 7 = nI w := (own_eq h.1 (w := w) (by omega) rfl).mpr ow
    obtain ⟨Ia, Ra, Sa, k1, k2, k3, k4, k5⟩ := ts_adv (D := F + 6) (D' := E + 2) (J1 := J1) h' (by omega) (by omega)
    -- the reference up to what is behind the word
    have r202 : ∀ {r : Value} {I' : (Nat → Nat → Int32)} {J' : (Nat → Nat → Int64)}, E2 35 (E + 4) (fun y => y = (r, (I', J', mj_R2))) 202 [(0, .ref 0), (3, .int (nI pr))] Ib J2 → mj_Cl mj_S2 mj_CD (E + 5) 35 [.ref 0] (I2, J2, mj_R2) (r, (I', J', mj_R2)) := fun {r I' J'} q => r35 (by
      refine mj_on (s35_148 ?_)
      refine ⟨trivial, _, _, _, sg_r (c := 40) h'.1 (by decide), sg (by omega) ?_⟩
      have e184 : E2 35 (E + 4) (fun y => y = (r, (I', J', mj_R2))) 184 [(0, .ref 0)] Ib J2 := by
        refine mj_on (s35_184 ?_)
        refine ⟨trivial, _, _, _, wd_r (w := 15) h'.1 (by decide), if_tf (fun z => ?_) (fun z => ?_)⟩
        · rcases hw with ⟨rfl, rfl⟩ | ⟨rfl, rfl⟩
          · exact q
          · exact absurd (z.symm.trans ow) (by decide)
        · rcases hw with ⟨rfl, rfl⟩ | ⟨rfl, rfl⟩
          · exact absurd ow z
          · exact q
      refine ⟨trivial, _, _, _, wd_r (w := 15) h'.1 (by decide), if_tf (fun _ => e184) (fun z1 => ?_)⟩
      exact ⟨trivial, _, _, _, wd_r (w := 16) h'.1 (by decide), if_tf (fun _ => e184) (fun z2 => om.elim (fun y => absurd y z1) (fun y => absurd y z2))⟩)
    have c166 : ∀ {Id : (Nat → Nat → Int32)}, C1 (F + 9) 167 [.ref 11, .int (nI w)] Ia J1 .null Id J1 → C1 (F + 10) 166 [.ref 11] I1 J1 .null Id J1 := fun {Id} q => by
      have e92 : E1 166 (F + 9) (fun y => y = (.null, (Id, J1, mj_R1))) 92 [(0, .ref 11), (1, .int (nI w))] I1 J1 := mj_on (s166_92 _ ⟨trivial, _, _, k1, trivial, _, _, q, rfl⟩)
      refine mj_mk (e166 ?_)
      rw [if_neg nt2, if_neg n13, if_neg n14, w7]
      refine if_i (fun _ => e92) (fun z1 => if_i (fun _ => e92) (fun z2 => ?_))
      rcases hw with ⟨rfl, -⟩ | ⟨rfl, -⟩
      · exact absurd rfl z1
      · exact absurd rfl z2
    rcases k5 with ⟨p1, a1, t1, v1, l1, o1, ha, hp1, -⟩ | ⟨hda, -⟩
    · obtain ⟨Id, g1, g2⟩ := lv_pair (F := F) (w := w) (pr := pr) (p0 := p) (I0 := I2) (J0 := J2) hS IH hw (by omega) hu ha (by rw [k4, h9]) hp1 (by omega) (by omega) (by omega) h45 (fun {r I' J' Rz} y1 y2 hh => r202 (by
        refine mj_on (s35_202 _ ?_)
        refine ⟨trivial, _, _, k2, trivial, _, _, _, sg_r (c := 40) ha.1 (by decide), if_tf (fun z => by rw [← y1 z]; exact hh) (fun z => ⟨trivial, _, _, y2 z, hh⟩)⟩))
      exact ⟨Id, c166 g1, g2⟩
    · obtain ⟨Id, g1, g2⟩ := d_open (D := F + 6) (J1 := J1) (c := 40) hda
      obtain ⟨j, j1, j2, j3⟩ := DD_k hda
      refine ⟨Id, c166 (mj_mk (e167 _ ⟨trivial, _, _, _, g1, by rw [if_pos rfl]⟩)), Or.inr ⟨_, _, g_partD h45 (r202 (I' := Ra) (J' := Sa) (r := .int 0) ?_) (Or.inl rfl) (DD_8 g2).1, DD_45 g2⟩⟩
      obtain ⟨y, hy⟩ := sg_any (D := E + 3) (I2 := Ra) (J2 := Sa) (y := 40)
      refine mj_on (s35_202 _ ?_)
      refine ⟨trivial, _, _, k2, trivial, _, _, _, hy, if_i (fun _ => ?_) (fun _ => r224_D hda rfl)⟩
      exact ⟨trivial, _, _, r_blD j3 j1 j2, r224_D hda rfl⟩
  have n15 : ¬ I1 11 7 = 15 := fun z => om (Or.inl ((own_eq (y := 15) h.1 (w := 15) (by decide) rfl).mp z))
  have n16 : ¬ I1 11 7 = 16 := fun z => om (Or.inr ((own_eq (y := 16) h.1 (w := 16) (by decide) rfl).mp z))
  by_cases e : t = 1 ∧ v = 40
  · -- a bracket
    obtain ⟨r, Ic, Rc, Sc, k1, k2, k3⟩ := ts_open (D := F + 5) (E := E) (J1 := J1) (c := 40) (k := 2) (by decide) (by decide) h' e.1 e.2 h9 q1 hbM
    have c35 : C2 (E + 5) 35 [.ref 0] I2 J2 (.int 0) Rc Sc := r35 (by
      refine mj_on (s35_148 ?_)
      exact ⟨trivial, _, _, _, sg_r (c := 40) h'.1 (by decide), if_tf (fun _ => ⟨trivial, _, _, k2, Or.inl rfl, rfl⟩) (fun z => absurd e z)⟩)
    rcases k3 with ⟨rfl, k3⟩ | ⟨rfl, k3⟩ | ⟨rfl, k3, k4, k5, k6, k7, p2, a2, t2', v2, l2, o2, k8, k9⟩
    · refine ⟨Ic, mj_mk (e166 ?_), Or.inr ⟨_, _, g_partD h45 c35 (Or.inl rfl) (DD_8 k3).1, DD_45 k3⟩⟩
      rw [if_neg nt2, if_neg n13, if_neg n14, if_neg n15, if_neg n16]
      exact ⟨trivial, _, _, _, k1, by rw [if_pos rfl]⟩
    · obtain ⟨Ia, a1, b1⟩ := d_sum (D := F + 4) (J1 := J1) k3
      obtain ⟨Id, a2, b2⟩ := d_take (D := F + 7) (J1 := J1) (c := 41) b1
      refine ⟨mj_up Id 11 9 (Id 11 9 - 1), mj_mk (e166 ?_), Or.inr ⟨_, _, g_partD h45 c35 (Or.inl rfl) (DD_8 b2).1, DD_45 (DD_119 b2)⟩⟩
      rw [if_neg nt2, if_neg n13, if_neg n14, if_neg n15, if_neg n16]
      refine ⟨trivial, _, _, _, k1, ?_⟩
      rw [if_neg (by decide)]
      exact ⟨trivial, _, _, a1, trivial, _, _, a2, rfl⟩
    · obtain ⟨y, rfl⟩ : ∃ y, u = y + 1 := ⟨u - 1, by omega⟩
      have hn2 := tk_n2 k8.1
      have g0 : gA E I2 J2 (mj_up Rc 0 45 0) Sc := g_part h45 c35 (Or.inl rfl) k8.1.2.2.2.2.2.2.2.2.2.2.2.2.2.1
      obtain ⟨I3, c3, n3⟩ := IH y rfl (F + 9) (op + 1) 2 0 (bs + K.length) 1 [] Rc A1 A2 p2 a2 t2' v2 l2 o2 Ic (mj_up Rc 0 45 0) Sc (by omega) (by omega) (TS_45 k8) up_s k5 (by decide) (fun z => absurd z.1 (by omega)) (fun c hc => by cases hc) (by omega) (by show f0 + A2.length + (bs + K.length + 0) ≤ p2; omega) (by show 3 * (bs + K.length + 0) ≤ 18 * (op + 1) + 12 + p2; omega)
      have c166 : ∀ {Iz : (Nat → Nat → Int32)}, C1 (F + 9) 162 [.ref 11, .int (nI 41)] I3 J1 .null Iz J1 → C1 (F + 10) 166 [.ref 11] I1 J1 .null (mj_up Iz 11 9 (Iz 11 9 - 1)) J1 := fun {Iz} q => by
        refine mj_mk (e166 ?_)
        rw [if_neg nt2, if_neg n13, if_neg n14, if_neg n15, if_neg n16]
        refine ⟨trivial, _, _, _, k1, ?_⟩
        rw [if_neg (by decide)]
        exact ⟨trivial, _, _, c3, trivial, _, _, q, rfl⟩
      rcases n3 with ⟨p3, a3, t3, v3, l3, o3, x1, x2, kk, R3, S3, m1, m2, m3, m4, m5, m6, m7, m8, m9, m10, m11⟩ | ⟨R3, S3, m1, m2⟩
      · have hn3 := tk_n2 m2.1
        have e00 : ([] ++ kk).length = kk.length := rfl
        rw [e00] at m9 m10
        obtain ⟨I6, R6, S6, c6, c69, n6⟩ := ts_close (D := F + 5) (E := E) (J1 := J1) (k := 2) (c := 41) (pr := 0) hS (Or.inl ⟨Or.inl rfl, rfl⟩) m2 m3 (Or.inr m11) (fun z => by omega) h'.2.2.2.2.2 k6 (fun i _ => k7 i) (fun z => by omega) (by rw [List.length_append]; omega) m9 (by omega)
        rcases n6 with ⟨g6, d6⟩ | ⟨g6, z46, p6, a6, t6, v6, l6, o6, m14, m15⟩
        · exact ⟨_, c166 c6, Or.inr ⟨R6, S6, gA_D g0 (gA_D m1 g6), DD_119 d6⟩⟩
        · rw [if_neg (by decide), if_neg (by decide), List.append_nil] at m14
          have hn6 := tk_n2 m14.1
          refine ⟨_, c166 c6, Or.inl ⟨p6, a6, t6, v6, l6, o6, x1, x2 ++ pops kk, [], R6, S6, gA_tr g0 (gA_tr m1 g6), ?_, z46, ?_, ?_, fun c hc => (by cases hc), by omega, by omega, ?_, ?_, trivial⟩⟩
          · rw [List.append_nil, ← List.append_assoc]
            exact TS_119 m14
          · rw [up_s, c69, m4, nI_pred]
          · rw [pops_nil, List.append_nil]
            exact fr2_up m5 (by omega)
          · simp only [List.length_append, pops_len, List.append_nil] at m9 ⊢
            omega
          · simp only [List.append_nil]
            omega
      · obtain ⟨Id, a2, b2⟩ := d_take (D := F + 7) (J1 := J1) (c := nI 41) m2
        exact ⟨_, c166 a2, Or.inr ⟨R3, S3, gA_D g0 m1, DD_119 b2⟩⟩
  · -- nothing that a part begins with
    obtain ⟨Id, Rb, m1, m2, m3, m4, m5, m6, m7⟩ := ts_bl (D := F + 7) (D' := E + 3) (J1 := J1) (k := 1) h' (by decide) (by decide) (by omega)
    refine ⟨Id, mj_mk (e166 ?_), Or.inr ⟨_, _, g_partD h45 (r35 (I' := Rb) (J' := J2) (r := .int 1) ?_) (Or.inr rfl) (DD_8 m3).1, DD_45 m3⟩⟩
    · rw [if_neg nt2, if_neg n13, if_neg n14, if_neg n15, if_neg n16]
      exact ⟨trivial, _, _, _, mj_mk (r := (.int 0, (Id, J1, mj_R1))) (e161 _ ⟨trivial, _, _, _, sg_c h.1 (c := 40) (by decide), if_tf (fun z => absurd z e) (fun _ => ⟨trivial, _, _, m1, Or.inl rfl, rfl⟩)⟩), by rw [if_pos rfl]⟩
    · refine mj_on (s35_148 ?_)
      refine ⟨trivial, _, _, _, sg_r (c := 40) h'.1 (by decide), if_tf (fun z => absurd z e) (fun _ => ?_)⟩
      refine ⟨trivial, _, _, _, wd_r (w := 15) h'.1 (by decide), if_tf (fun z => absurd (Or.inl z) om) (fun _ => ?_)⟩
      refine ⟨trivial, _, _, _, wd_r (w := 16) h'.1 (by decide), if_tf (fun z => absurd (Or.inr z) om) (fun _ => ?_)⟩
      refine ⟨trivial, _, _, _, wd_r (w := 14) h'.1 (by decide), if_tf (fun z => absurd z o14) (fun _ => ?_)⟩
      rw [if_neg rt2]
      refine ⟨trivial, _, _, _, wd_r (w := 13) h'.1 (by decide), if_tf (fun z => absurd z o13) (fun _ => ?_)⟩
      refine ⟨trivial, _, _, m2, ?_⟩
      refine mj_on (s35_315 ?_)
      rw [if_neg (DD_8 m3).1]
      exact ⟨Or.inr rfl, rfl⟩
end Sa8f
end
section
/-! reading a test: operators on both sides -/
section Sa8g
variable {n d s0 f0 W H : Nat} {x : Nat → Nat} {B1 B2 : Nat → Nat → Int32} {BJ : Nat → Nat → Int64}
variable {D D' E op kd ph bs p a t v u : Nat} {l : List Nat} {o : Int} {bg : Int32} {K : List Nat} {A1 A2 : List (Nat × Nat)} {L I1 I2 : Nat → Nat → Int32} {J1 J2 : Nat → Nat → Int64}
/-- plus, minus, times, over -/
theorem ts_arith {c r : Nat} {kk : List Nat} (hS : stc d W H B1 B2 BJ) (hc : (v = 43 ∧ c = 5 ∧ r = 5) ∨ (v = 45 ∧ c = 6 ∧ r = 5) ∨ (v = 42 ∧ c = 7 ∧ r = 6) ∨ (v = 47 ∧ c = 8 ∧ r = 6)) (ht : t = 1) (hph : ph < 2) (h : TS n x d s0 f0 B1 B2 BJ op kd ph bs bg (K ++ kk) L A1 A2 p a t v l o I1 I2 J2) (h45 : I2 0 45 = 1) (hK : ∀ c ∈ K, rnk c < r) (hk : ∀ c ∈ kk, r ≤ rnk c) (q1 : s0 + A1.length ≤ p) (q2 : f0 + A2.length + (bs + (K ++ kk).length) ≤ p) (q3 : bs + (K ++ kk).length < 499) :
    ∃ Ia Ra Sa, C1 (D + 3) 139 [.ref 11] I1 J1 .null Ia J1 ∧ Ia 11 9 = I1 11 9 ∧ ((gD E I2 J2 Ra Sa ∧ DD d s0 f0 B1 B2 BJ Ia Ra Sa) ∨ (gA E I2 J2 Ra Sa ∧ Ra 0 45 = 0 ∧ ∃ p' a' t' v' l' o', TS n x d s0 f0 B1 B2 BJ op kd ph bs bg (K ++ [c]) L A1 (A2 ++ pops kk) p' a' t' v' l' o' Ia Ra Sa ∧ p < p')) := by
  have hn := tk_n2 h.1
  have e0 : (K ++ kk).length = K.length + kk.length := List.length_append
  rw [e0] at q2 q3
  have r10 : r < 10 := by omega
  have c17 : c < 17 := by omega
  have r5 : v = 43 ∨ v = 45 → r = 5 := by omega
  have r6 : ¬ v = 43 → ¬ v = 45 → r = 6 := by omega
  have c5 : v = 43 → c = 5 := by omega
  have c6 : v = 45 → c = 6 := by omega
  have c7 : v = 42 → c = 7 := by omega
  have c8 : v ≠ 43 → v ≠ 45 → v ≠ 42 → c = 8 := by omega
  have hv : v = 43 ∨ v = 45 ∨ v = 42 ∨ v = 47 := by omega
  obtain ⟨h1, -, -, -, ⟨-, -, -, -, a5, -, -⟩, ⟨f1, f2, f3, -, -, -, -, -, -, f10, f11, -, -⟩⟩ := id h
  have vp : vp_in (nI op) 20 := vp_in_nI (by omega) (by decide)
  obtain ⟨Ij, j1, j2, j3⟩ := ts_join (D := E + 2) (r := r) (K := K) (kk := kk) hS r10 hK h hk (by omega) (by omega)
  obtain ⟨Ih, b1, b2, b3⟩ := ts_hold (D := E + 3) (c := c) j2 (by omega) c17
  obtain ⟨Ia, Ra, Sa, k1, k2, k3, k4, k5⟩ := ts_adv (D := D) (D' := E + 2) (J1 := J1) b2 (by omega) (by omega)
  have sg : ∀ {c' : Nat} {I : (Nat → Nat → Int32)} {A : (List (Nat × Nat))} {K' : List Nat}, TS n x d s0 f0 B1 B2 BJ op kd ph bs bg K' L A1 A p a t v l o I1 I J2 → c' < 256 → C2 (E + 4) 28 [.ref 0, .int (nI c')] I J2 (.int (tf (t = 1 ∧ v = c'))) I J2 := fun q q2 => sg_r q.1 q2
  have e93 : E2 41 (E + 4) (fun y => y = (.int 1, (mj_up Ra 0 45 0, Sa, mj_R2))) 93 [(0, .ref 0)] Ij J2 := by
    have e140 : E2 41 (E + 4) (fun y => y = (.int 1, (mj_up Ra 0 45 0, Sa, mj_R2))) 140 [(0, .ref 0)] Ih J2 := by
      refine mj_on (s41_140 ?_)
      exact ⟨trivial, _, _, k2, Or.inl rfl, Or.inr rfl, rfl⟩
    refine mj_on (s41_93 ?_)
    refine ⟨trivial, _, _, _, sg (c' := 43) j2 (by decide), if_tf (fun z => ?_) (fun z1 => ?_)⟩
    · rw [c5 z.2] at b1; exact ⟨trivial, _, _, b1, e140⟩
    refine ⟨trivial, _, _, _, sg (c' := 45) j2 (by decide), if_tf (fun z => ?_) (fun z2 => ?_)⟩
    · rw [c6 z.2] at b1; exact ⟨trivial, _, _, b1, e140⟩
    refine ⟨trivial, _, _, _, sg (c' := 42) j2 (by decide), if_tf (fun z => ?_) (fun z3 => ?_)⟩
    · rw [c7 z.2] at b1; exact ⟨trivial, _, _, b1, e140⟩
    · rw [c8 (fun q => z1 ⟨ht, q⟩) (fun q => z2 ⟨ht, q⟩) (fun q => z3 ⟨ht, q⟩)] at b1; exact ⟨trivial, _, _, b1, e140⟩
  have e65 : E2 41 (E + 4) (fun y => y = (.int 1, (mj_up Ra 0 45 0, Sa, mj_R2))) 65 [(0, .ref 0)] I2 J2 := by
    refine mj_on (s41_65 ?_)
    refine ⟨trivial, _, _, _, sg (c' := 43) h (by decide), if_tf (fun z => ?_) (fun z1 => ?_)⟩
    · rw [r5 (Or.inl z.2)] at j1; exact ⟨trivial, _, _, j1, e93⟩
    refine ⟨trivial, _, _, _, sg (c' := 45) h (by decide), if_tf (fun z => ?_) (fun z2 => ?_)⟩
    · rw [r5 (Or.inr z.2)] at j1; exact ⟨trivial, _, _, j1, e93⟩
    · rw [r6 (fun q => z1 ⟨ht, q⟩) (fun q => z2 ⟨ht, q⟩)] at j1; exact ⟨trivial, _, _, j1, e93⟩
  have c41 : C2 (E + 5) 41 [.ref 0] I2 J2 (.int 1) (mj_up Ra 0 45 0) Sa := by
    refine mj_mk (e41 ?_)
    rw [f1, nI_pred, nI_clamp (by omega), f2]
    refine ⟨vp, trivial, _, _, _, r_isTest f10, vp, ?_⟩
    rw [f3, show (2 : Int32) = nI 2 from rfl]
    refine if_le (by decide) (by omega) (fun z => absurd z (by omega)) (fun _ => ?_)
    refine ⟨trivial, _, _, _, sg (c' := 43) h (by decide), if_tf (fun _ => e65) (fun z1 => ?_)⟩
    refine ⟨trivial, _, _, _, sg (c' := 45) h (by decide), if_tf (fun _ => e65) (fun z2 => ?_)⟩
    refine ⟨trivial, _, _, _, sg (c' := 42) h (by decide), if_tf (fun _ => e65) (fun z3 => ?_)⟩
    refine ⟨trivial, _, _, _, sg (c' := 47) h (by decide), if_tf (fun _ => e65) (fun z4 => ?_)⟩
    rcases hv with q | q | q | q
    · exact absurd ⟨ht, q⟩ z1
    · exact absurd ⟨ht, q⟩ z2
    · exact absurd ⟨ht, q⟩ z3
    · exact absurd ⟨ht, q⟩ z4
  refine ⟨Ia, mj_up Ra 0 45 0, Sa, k1, k4, ?_⟩
  rcases k5 with ⟨p', a', t', v', l', o', w1, w2, -⟩ | ⟨w1, -⟩
  · exact Or.inr ⟨g_go h45 c41 (by rw [up_n (by omega)]; exact w1.1.2.2.2.2.2.2.2.2.2.2.2.2.2.1), up_s, p', a', t', v', l', o', TS_45 w1, w2⟩
  · exact Or.inl ⟨g_goD h45 c41 (Or.inl (by rw [up_n (by omega)]; exact (DD_8 w1).1)), DD_45 w1⟩
/-- less, more, like -/
theorem ts_comp {c : Nat} {kk : List Nat} (hS : stc d W H B1 B2 BJ) (hc : (v = 60 ∧ c = 11) ∨ (v = 62 ∧ c = 12) ∨ (v = 61 ∧ c = 13)) (ht : t = 1) (hkd : kd = 1 ∨ kd = 5) (h : TS n x d s0 f0 B1 B2 BJ op kd 0 bs bg (K ++ kk) L A1 A2 p a t v l o I1 I2 J2) (h45 : I2 0 45 = 1) (hK : ∀ c ∈ K, rnk c < 5) (hk : ∀ c ∈ kk, 5 ≤ rnk c) (q1 : s0 + A1.length ≤ p) (q2 : f0 + A2.length + (bs + (K ++ kk).length) ≤ p) (q3 : bs + (K ++ kk).length < 499) :
    ∃ Ia Ra Sa, C1 (D + 3) 139 [.ref 11] I1 J1 .null Ia J1 ∧ Ia 11 9 = I1 11 9 ∧ ((gD E I2 J2 Ra Sa ∧ DD d s0 f0 B1 B2 BJ Ia Ra Sa) ∨ (gA E I2 J2 Ra Sa ∧ Ra 0 45 = 0 ∧ ∃ p' a' t' v' l' o', TS n x d s0 f0 B1 B2 BJ op kd 1 bs bg (K ++ [c]) L A1 (A2 ++ pops kk) p' a' t' v' l' o' Ia Ra Sa ∧ p < p')) := by
  have hn := tk_n2 h.1
  have e0 : (K ++ kk).length = K.length + kk.length := List.length_append
  rw [e0] at q2 q3
  have c17 : c < 17 := by omega
  have c60 : v = 60 → c = 11 := by omega
  have c62 : v = 62 → c = 12 := by omega
  have c61 : v ≠ 60 → v ≠ 62 → c = 13 := by omega
  have hv : v = 60 ∨ v = 62 ∨ v = 61 := by omega
  have nv : v ≠ 43 ∧ v ≠ 45 ∧ v ≠ 42 ∧ v ≠ 47 := by omega
  obtain ⟨h1, -, -, -, ⟨-, -, -, -, a5, -, -⟩, ⟨f1, f2, f3, -, -, -, -, -, -, f10, f11, -, -⟩⟩ := id h
  have vp : vp_in (nI op) 20 := vp_in_nI (by omega) (by decide)
  obtain ⟨Ij, j1, j2, j3⟩ := ts_join (D := E + 2) (r := 5) (K := K) (kk := kk) hS (by decide) hK h hk (by omega) (by omega)
  obtain ⟨Ih, b1, b2, b3⟩ := ts_hold (D := E + 3) (c := c) j2 (by omega) c17
  have b4 := TS_ph (y := 1) b2 (by decide)
  obtain ⟨Ia, Ra, Sa, k1, k2, k3, k4, k5⟩ := ts_adv (D := D) (D' := E + 2) (J1 := J1) b4 (by omega) (by omega)
  have sg : ∀ {c' : Nat} {I : (Nat → Nat → Int32)} {A : (List (Nat × Nat))} {K' : List Nat}, TS n x d s0 f0 B1 B2 BJ op kd 0 bs bg K' L A1 A p a t v l o I1 I J2 → c' < 256 → C2 (E + 4) 28 [.ref 0, .int (nI c')] I J2 (.int (tf (t = 1 ∧ v = c'))) I J2 := fun q q2 => sg_r q.1 q2
  have e191 : E2 41 (E + 4) (fun y => y = (.int 1, (mj_up Ra 0 45 0, Sa, mj_R2))) 191 [(0, .ref 0), (1, .int (nI op))] I2 J2 := by
    have e230 : E2 41 (E + 4) (fun y => y = (.int 1, (mj_up Ra 0 45 0, Sa, mj_R2))) 230 [(0, .ref 0), (1, .int (nI op))] Ih J2 := by
      refine mj_on (s41_230 _ ?_)
      rw [nI_clamp (by omega)]
      exact ⟨vp, trivial, _, _, k2, Or.inl rfl, Or.inr rfl, rfl⟩
    refine mj_on (s41_191 _ ?_)
    refine ⟨trivial, _, _, j1, trivial, _, _, _, sg (c' := 60) j2 (by decide), if_tf (fun z => ?_) (fun z1 => ?_)⟩
    · rw [c60 z.2] at b1; exact ⟨trivial, _, _, b1, e230⟩
    refine ⟨trivial, _, _, _, sg (c' := 62) j2 (by decide), if_tf (fun z => ?_) (fun z2 => ?_)⟩
    · rw [c62 z.2] at b1; exact ⟨trivial, _, _, b1, e230⟩
    · rw [c61 (fun q => z1 ⟨ht, q⟩) (fun q => z2 ⟨ht, q⟩)] at b1; exact ⟨trivial, _, _, b1, e230⟩
  have c41 : C2 (E + 5) 41 [.ref 0] I2 J2 (.int 1) (mj_up Ra 0 45 0) Sa := by
    refine mj_mk (e41 ?_)
    rw [f1, nI_pred, nI_clamp (by omega), f2]
    refine ⟨vp, trivial, _, _, _, r_isTest f10, vp, ?_⟩
    rw [f3, show (2 : Int32) = nI 2 from rfl]
    refine if_le (by decide) (by omega) (fun z => absurd z (by omega)) (fun _ => ?_)
    refine ⟨trivial, _, _, _, sg (c' := 43) h (by decide), if_tf (fun z => absurd z.2 nv.1) (fun _ => ?_)⟩
    refine ⟨trivial, _, _, _, sg (c' := 45) h (by decide), if_tf (fun z => absurd z.2 nv.2.1) (fun _ => ?_)⟩
    refine ⟨trivial, _, _, _, sg (c' := 42) h (by decide), if_tf (fun z => absurd z.2 nv.2.2.1) (fun _ => ?_)⟩
    refine ⟨trivial, _, _, _, sg (c' := 47) h (by decide), if_tf (fun z => absurd z.2 nv.2.2.2) (fun _ => ?_)⟩
    refine mj_on (s41_151 _ _ _ ?_)
    refine if_tf (fun _ => ?_) (fun z => absurd hkd z)
    rw [nI_clamp (by omega), f3]
    refine ⟨vp, ?_⟩
    rw [if_pos (show nI 0 = 0 from rfl)]
    refine ⟨trivial, _, _, _, sg (c' := 60) h (by decide), if_tf (fun _ => e191) (fun z1 => ?_)⟩
    refine ⟨trivial, _, _, _, sg (c' := 62) h (by decide), if_tf (fun _ => e191) (fun z2 => ?_)⟩
    refine ⟨trivial, _, _, _, sg (c' := 61) h (by decide), if_tf (fun _ => e191) (fun z3 => ?_)⟩
    rcases hv with q | q | q
    · exact absurd ⟨ht, q⟩ z1
    · exact absurd ⟨ht, q⟩ z2
    · exact absurd ⟨ht, q⟩ z3
  refine ⟨Ia, mj_up Ra 0 45 0, Sa, k1, k4, ?_⟩
  rcases k5 with ⟨p', a', t', v', l', o', w1, w2, -⟩ | ⟨w1, -⟩
  · exact Or.inr ⟨g_go h45 c41 (by rw [up_n (by omega)]; exact w1.1.2.2.2.2.2.2.2.2.2.2.2.2.2.1), up_s, p', a', t', v', l', o', TS_45 w1, w2⟩
  · exact Or.inl ⟨g_goD h45 c41 (Or.inl (by rw [up_n (by omega)]; exact (DD_8 w1).1)), DD_45 w1⟩
/-- no comparison where there should be one -/
theorem ts_nocomp (hv : ¬ (t = 1 ∧ (v = 43 ∨ v = 45 ∨ v = 42 ∨ v = 47))) (hw : ¬ (t = 1 ∧ (v = 60 ∨ v = 62 ∨ v = 61))) (hkd : kd = 1 ∨ kd = 5) (h : TS n x d s0 f0 B1 B2 BJ op kd 0 bs bg K L A1 A2 p a t v l o I1 I2 J2) (h45 : I2 0 45 = 1) (q1 : s0 + A1.length ≤ p) :
    ∃ Ia Ra, C1 (D + 1) 144 [.ref 11, .int (nI 1)] I1 J1 .null Ia J1 ∧ gD E I2 J2 Ra J2 ∧ DD d s0 f0 B1 B2 BJ Ia Ra J2 := by
  have hn := tk_n2 h.1
  obtain ⟨h1, -, -, -, ⟨-, -, -, -, a5, -, -⟩, ⟨f1, f2, f3, -, -, -, -, -, -, f10, f11, -, -⟩⟩ := id h
  have vp : vp_in (nI op) 20 := vp_in_nI (by omega) (by decide)
  obtain ⟨Ia, Ra, m1, m2, m3, m4, m5, m6, m7⟩ := ts_bl (D := D) (D' := E + 3) (J1 := J1) (k := 1) h (by decide) (by decide) (by omega)
  obtain ⟨j, j1, j2, j3⟩ := DD_k m3
  -- whatever comes behind the fault, no further call is made
  have e385 : ∃ R, E2 41 (E + 4) (fun y => y = (.int 0, (R, J2, mj_R2))) 385 [(0, .ref 0), (1, .int (nI op)), (2, .int (nI kd))] Ra J2 ∧ R = Ra := by
    refine ⟨Ra, ?_, rfl⟩
    refine mj_on (s41_385 _ _ ?_)
    rcases hkd with rfl | rfl
    · rw [if_pos (show nI 1 = 1 from rfl), if_neg (DD_8 m3).1]
      exact ⟨Or.inl rfl, rfl⟩
    · rw [if_neg (by decide), if_neg (by decide), if_pos (show nI 5 = 5 from rfl)]
      obtain ⟨y, hy⟩ := sg_any (D := E + 3) (I2 := Ra) (J2 := J2) (y := 93)
      have e487 : E2 41 (E + 4) (fun y => y = (.int 0, (Ra, J2, mj_R2))) 487 [(0, .ref 0), (1, .int (nI op)), (2, .int (nI 5))] Ra J2 := by
        refine mj_on (s41_487 _ _ ?_)
        rw [if_neg (DD_8 m3).2]
        exact ⟨Or.inl rfl, rfl⟩
      exact ⟨trivial, _, _, _, hy, if_i (fun _ => ⟨trivial, _, _, r_blD j3 j1 j2, e487⟩) (fun _ => e487)⟩
  obtain ⟨R, e385, rfl⟩ := e385
  have e272 : E2 41 (E + 4) (fun y => y = (.int 0, (R, J2, mj_R2))) 272 [(0, .ref 0), (1, .int (nI op))] I2 J2 := by
    refine mj_on (s41_272 _ ?_)
    rw [nI_clamp (by omega), f3, if_pos (show nI 0 = 0 from rfl)]
    refine ⟨vp, trivial, _, _, m2, ?_⟩
    refine mj_on (s41_290 _ ?_)
    rw [if_neg (DD_8 m3).2]
    exact ⟨Or.inl rfl, rfl⟩
  have c41 : C2 (E + 5) 41 [.ref 0] I2 J2 (.int 0) R J2 := by
    refine mj_mk (e41 ?_)
    rw [f1, nI_pred, nI_clamp (by omega), f2]
    refine ⟨vp, trivial, _, _, _, r_isTest f10, vp, ?_⟩
    rw [f3, show (2 : Int32) = nI 2 from rfl]
    refine if_le (by decide) (by omega) (fun z => absurd z (by omega)) (fun _ => ?_)
    refine ⟨trivial, _, _, _, sg_r (c := 43) h1 (by decide), if_tf (fun z => absurd ⟨z.1, Or.inl z.2⟩ hv) (fun _ => ?_)⟩
    refine ⟨trivial, _, _, _, sg_r (c := 45) h1 (by decide), if_tf (fun z => absurd ⟨z.1, Or.inr (Or.inl z.2)⟩ hv) (fun _ => ?_)⟩
    refine ⟨trivial, _, _, _, sg_r (c := 42) h1 (by decide), if_tf (fun z => absurd ⟨z.1, Or.inr (Or.inr (Or.inl z.2))⟩ hv) (fun _ => ?_)⟩
    refine ⟨trivial, _, _, _, sg_r (c := 47) h1 (by decide), if_tf (fun z => absurd ⟨z.1, Or.inr (Or.inr (Or.inr z.2))⟩ hv) (fun _ => ?_)⟩
    refine mj_on (s41_151 _ _ _ ?_)
    refine if_tf (fun _ => ?_) (fun z => absurd hkd z)
    rw [nI_clamp (by omega), f3]
    refine ⟨vp, ?_⟩
    rw [if_pos (show nI 0 = 0 from rfl)]
    refine ⟨trivial, _, _, _, sg_r (c := 60) h1 (by decide), if_tf (fun z => absurd ⟨z.1, Or.inl z.2⟩ hw) (fun z1 => ?_)⟩
    refine ⟨trivial, _, _, _, sg_r (c := 62) h1 (by decide), if_tf (fun z => absurd ⟨z.1, Or.inr (Or.inl z.2)⟩ hw) (fun z2 => ?_)⟩
    refine ⟨trivial, _, _, _, sg_r (c := 61) h1 (by decide), if_tf (fun z => absurd ⟨z.1, Or.inr (Or.inr z.2)⟩ hw) (fun z3 => ?_)⟩
    refine mj_on (s41_248 _ _ _ ?_)
    refine if_tf (fun _ => ?_) (fun z => absurd hkd z)
    refine ⟨trivial, _, _, _, wd_r (w := 9) h1 (by decide), if_tf (fun _ => e272) (fun _ => ?_)⟩
    refine ⟨trivial, _, _, _, wd_r (w := 8) h1 (by decide), if_tf (fun _ => e272) (fun _ => ?_)⟩
    refine mj_on (s41_363 _ _ _ ?_)
    refine if_tf (fun _ => ?_) (fun z => absurd hkd z)
    rw [nI_clamp (by omega), f3]
    refine ⟨vp, ?_⟩
    rw [if_pos (show nI 0 = 0 from rfl)]
    exact ⟨trivial, _, _, m2, e385⟩
  exact ⟨Ia, R, m1, g_goD h45 c41 (Or.inr rfl), m3⟩
/-- and, or -/
theorem ts_logic {c r w : Nat} {kk : List Nat} (hS : stc d W H B1 B2 BJ) (hc : (w = 9 ∧ c = 14 ∧ r = 2) ∨ (w = 8 ∧ c = 15 ∧ r = 1)) (ho : o = (w : Nat)) (hkd : kd = 1 ∨ kd = 5) (h0 : ph ≠ 0) (h : TS n x d s0 f0 B1 B2 BJ op kd ph bs bg (K ++ kk) L A1 A2 p a t v l o I1 I2 J2) (h45 : I2 0 45 = 1) (hK : ∀ c ∈ K, rnk c < r) (hk : ∀ c ∈ kk, r ≤ rnk c) (q1 : s0 + A1.length ≤ p) (q2 : f0 + A2.length + (bs + (K ++ kk).length) ≤ p) (q3 : bs + (K ++ kk).length < 499) :
    ∃ Ia Ra Sa, C1 (D + 3) 139 [.ref 11] I1 J1 .null Ia J1 ∧ Ia 11 9 = I1 11 9 ∧ ((gD E I2 J2 Ra Sa ∧ DD d s0 f0 B1 B2 BJ Ia Ra Sa) ∨ (gA E I2 J2 Ra Sa ∧ Ra 0 45 = 0 ∧ ∃ p' a' t' v' l' o', TS n x d s0 f0 B1 B2 BJ op kd 0 bs 1 (K ++ [c]) L A1 (A2 ++ pops kk) p' a' t' v' l' o' Ia Ra Sa ∧ p < p')) := by
  have hn := tk_n2 h.1
  have e0 : (K ++ kk).length = K.length + kk.length := List.length_append
  rw [e0] at q2 q3
  have r10 : r < 10 := by omega
  have c17 : c < 17 := by omega
  have w17 : w < 17 := by omega
  have t3 : t = 3 := (tk_w h.1 w17 ho).1
  have n1 : ¬ t = 1 := by omega
  have o9 : o = (9 : Nat) → c = 14 ∧ r = 2 := by omega
  have o8 : ¬ o = (9 : Nat) → c = 15 ∧ r = 1 ∧ o = (8 : Nat) := by omega
  obtain ⟨h1, -, -, -, ⟨-, -, -, -, a5, -, -⟩, ⟨f1, f2, f3, -, -, -, -, -, -, f10, f11, -, -⟩⟩ := id h
  have h8 := h1.2.2.2.2.2.2.2.2.2.2.2.2.2.1
  have vp : vp_in (nI op) 20 := vp_in_nI (by omega) (by decide)
  obtain ⟨Ij, j1, j2, j3⟩ := ts_join (D := E + 2) (r := r) (K := K) (kk := kk) hS r10 hK h hk (by omega) (by omega)
  obtain ⟨Ih, b1, b2, b3⟩ := ts_hold (D := E + 3) (c := c) j2 (by omega) c17
  have b4 := TS_bg (y := 1) (TS_ph (y := 0) b2 (by decide)) (Or.inr rfl)
  obtain ⟨Ia, Ra, Sa, k1, k2, k3, k4, k5⟩ := ts_adv (D := D) (D' := E + 2) (J1 := J1) b4 (by omega) (by omega)
  have sg : ∀ {c' : Nat}, c' < 256 → C2 (E + 4) 28 [.ref 0, .int (nI c')] I2 J2 (.int (tf (t = 1 ∧ v = c'))) I2 J2 := fun q => sg_r h1 q
  have pne : ¬ nI ph = 0 := nI_ne0 (by omega) (by omega)
  have e272 : E2 41 (E + 4) (fun y => y = (.int 1, (mj_up Ra 0 45 0, Sa, mj_R2))) 272 [(0, .ref 0), (1, .int (nI op))] I2 J2 := by
    have e338 : E2 41 (E + 4) (fun y => y = (.int 1, (mj_up Ra 0 45 0, Sa, mj_R2))) 338 [(0, .ref 0), (1, .int (nI op))] Ih J2 := by
      refine mj_on (s41_338 _ ?_)
      rw [nI_clamp (by omega)]
      exact ⟨vp, vp, trivial, _, _, k2, Or.inl rfl, Or.inr rfl, rfl⟩
    refine mj_on (s41_272 _ ?_)
    rw [nI_clamp (by omega), f3, if_neg pne]
    refine ⟨vp, ?_⟩
    refine mj_on (s41_290 _ ?_)
    rw [if_pos (by rw [h8]; decide)]
    refine ⟨trivial, _, _, _, wd_r (w := 9) h1 (by decide), if_tf (fun z => ?_) (fun z => ?_)⟩
    · rw [(o9 z).2] at j1
      rw [(o9 z).1] at b1
      refine ⟨trivial, _, _, j1, ?_⟩
      refine mj_on (s41_322 _ _ ?_)
      rw [tf_t z, if_neg (by decide)]
      exact ⟨trivial, _, _, b1, e338⟩
    · rw [(o8 z).2.1] at j1
      rw [(o8 z).1] at b1
      refine ⟨trivial, _, _, j1, ?_⟩
      refine mj_on (s41_322 _ _ ?_)
      rw [tf_f z, if_pos rfl]
      exact ⟨trivial, _, _, b1, e338⟩
  have e151 : E2 41 (E + 4) (fun y => y = (.int 1, (mj_up Ra 0 45 0, Sa, mj_R2))) 151 [(0, .ref 0), (1, .int (nI op)), (2, .int (nI kd)), (3, .int (tf (kd = 1 ∨ kd = 5)))] I2 J2 := by
    refine mj_on (s41_151 _ _ _ ?_)
    refine if_tf (fun _ => ?_) (fun z => absurd hkd z)
    rw [nI_clamp (by omega), f3, if_neg pne]
    refine ⟨vp, ?_⟩
    refine mj_on (s41_248 _ _ _ ?_)
    refine if_tf (fun _ => ?_) (fun z => absurd hkd z)
    refine ⟨trivial, _, _, _, wd_r (w := 9) h1 (by decide), if_tf (fun _ => e272) (fun z => ?_)⟩
    exact ⟨trivial, _, _, _, wd_r (w := 8) h1 (by decide), if_tf (fun _ => e272) (fun y => absurd (o8 z).2.2 y)⟩
  have c41 : C2 (E + 5) 41 [.ref 0] I2 J2 (.int 1) (mj_up Ra 0 45 0) Sa := by
    refine mj_mk (e41 ?_)
    rw [f1, nI_pred, nI_clamp (by omega), f2]
    refine ⟨vp, trivial, _, _, _, r_isTest f10, vp, ?_⟩
    rw [f3, show (2 : Int32) = nI 2 from rfl]
    refine if_le (by decide) (by omega) (fun _ => e151) (fun _ => ?_)
    refine ⟨trivial, _, _, _, sg (c' := 43) (by decide), if_tf (fun z => absurd z.1 n1) (fun _ => ?_)⟩
    refine ⟨trivial, _, _, _, sg (c' := 45) (by decide), if_tf (fun z => absurd z.1 n1) (fun _ => ?_)⟩
    refine ⟨trivial, _, _, _, sg (c' := 42) (by decide), if_tf (fun z => absurd z.1 n1) (fun _ => ?_)⟩
    exact ⟨trivial, _, _, _, sg (c' := 47) (by decide), if_tf (fun z => absurd z.1 n1) (fun _ => e151)⟩
  refine ⟨Ia, mj_up Ra 0 45 0, Sa, k1, k4, ?_⟩
  rcases k5 with ⟨p', a', t', v', l', o', w1, w2, -⟩ | ⟨w1, -⟩
  · exact Or.inr ⟨g_go h45 c41 (by rw [up_n (by omega)]; exact w1.1.2.2.2.2.2.2.2.2.2.2.2.2.2.1), up_s, p', a', t', v', l', o', TS_45 w1, w2⟩
  · exact Or.inl ⟨g_goD h45 c41 (Or.inl (by rw [up_n (by omega)]; exact (DD_8 w1).1)), DD_45 w1⟩
end Sa8g
end
