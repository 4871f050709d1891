/-! one token on both sides, or a fault on both -/
def tkr (t : Nat) : Nat := if t = 0 then 0 else 4 - t
def tkS (n : Nat) (x : Nat → Nat) (p a t v : Nat) (l : List Nat) (o : Int) (I1 I2 : Nat → Nat → Int32) (J2 : Nat → Nat → Int64) : Prop :=
  (t = 0 ∧ p = n ∧ a = n ∧ o = -1) ∨
  (t = 1 ∧ p < n ∧ a = p + 1 ∧ lxk (x p) = 1 ∧ v = x p ∧ v < 256 ∧ I1 11 6 = nI v ∧ I2 0 6 = nI v ∧ o = -1) ∨
  (t = 2 ∧ p < a ∧ a ≤ n ∧ lxk (x (a - 1)) = 2 ∧ v ≤ 9999 ∧ I1 11 6 = nI v ∧ I2 0 6 = nI v ∧ o = -1) ∨
  (t = 3 ∧ p + l.length ≤ a ∧ a ≤ n ∧ lxk (x (a - 1)) = 3 ∧ lxl l ∧ I1 11 6 = nI (nmC l) ∧ J2 0 7 = lN (nmR l) ∧ lxo l o)
def tkR (n : Nat) (x : Nat → Nat) (p a t v : Nat) (l : List Nat) (o : Int) (I1 I2 : Nat → Nat → Int32) (J2 : Nat → Nat → Int64) : Prop :=
  lxt n x I1 13 ∧ lxt n x I2 1 ∧ rlO I1 ∧ I1 11 2 = nI n ∧ I2 0 2 = nI n ∧ I1 11 8 = nI p ∧ I2 0 4 = nI p ∧ I1 11 4 = nI a ∧ I2 0 5 = nI a ∧ I1 11 5 = nI t ∧ I2 0 3 = nI (tkr t) ∧ I1 11 7 = iI o ∧ (I1 11 10 = 0 ∧ I1 11 11 = -1) ∧ I2 0 8 = 0 ∧ I2 0 9 = -1 ∧ p ≤ n ∧ tkS n x p a t v l o I1 I2 J2
/-- a fault: k at p, on both sides (the class may have to tell it yet) -/
def tkD (k p : Nat) (I1 I2 : Nat → Nat → Int32) : Prop := 1 ≤ k ∧ k ≤ 6 ∧ p ≤ 900 ∧ I1 11 5 = nI 4 ∧ I1 11 7 = -1 ∧ ((I1 11 10 = 0 ∧ k = 1 ∧ I1 11 8 = nI p) ∨ (I1 11 10 = nI k ∧ I1 11 11 = nI p)) ∧ I2 0 8 = nI k ∧ I2 0 9 = nI p
/-- the class' flag and the reference's look back say the same -/
def tkA (n : Nat) (x : Nat → Nat) (a t : Nat) : Prop := ∀ p, lxs n x a p → p < n → (((t = 2 ∨ t = 3) ∧ p = a) ↔ (0 < p ∧ lxk (x (p - 1)) ≠ 1))
theorem lxb_1 {y : Nat} (h : lxb y) : lxk y = 1 := by
  rcases h with rfl | rfl <;> decide
theorem tkA_0 {n t : Nat} {x : Nat → Nat} (ht : t ≠ 2 ∧ t ≠ 3) : tkA n x 0 t := fun p hs hp => by
  constructor
  · rintro ⟨q, -⟩; omega
  · rintro ⟨q1, q2⟩
    exact absurd (lxb_1 (hs.2.2.1 (p - 1) (by omega) (by omega))) q2
section Sa3
variable {D D' n a p t v : Nat} {x : Nat → Nat} {l : List Nat} {o : Int} {I1 I2 : Nat → Nat → Int32} {J1 J2 : Nat → Nat → Int64}
theorem tkR_A (h : tkR n x p a t v l o I1 I2 J2) (h0 : t ≠ 0) : tkA n x a t := fun q hs hq => by
  have hS := h.2.2.2.2.2.2.2.2.2.2.2.2.2.2.2.2
  have back : a < q → lxk (x (q - 1)) = 1 := fun z => lxb_1 (hs.2.2.1 (q - 1) (by omega) (by omega))
  have haq := hs.1
  rcases hS with ⟨q1, -⟩ | ⟨q1, q2, q3, q4, -⟩ | ⟨q1, q2, q3, q4, -⟩ | ⟨q1, q2, q3, q4, ⟨q5, -⟩, -⟩
  · exact absurd q1 h0
  · constructor
    · rintro ⟨z, -⟩; omega
    · rintro ⟨z1, z2⟩
      by_cases e : a < q
      · exact absurd (back e) z2
      · rw [show q - 1 = p by omega] at z2
        exact absurd q4 z2
  · constructor
    · rintro ⟨-, rfl⟩
      exact ⟨by omega, by rw [q4]; decide⟩
    · rintro ⟨z1, z2⟩
      by_cases e : a < q
      · exact absurd (back e) z2
      · exact ⟨Or.inl q1, by omega⟩
  · constructor
    · rintro ⟨-, rfl⟩
      exact ⟨by omega, by rw [q4]; decide⟩
    · rintro ⟨z1, z2⟩
      by_cases e : a < q
      · exact absurd (back e) z2
      · exact ⟨Or.inr q1, by omega⟩
theorem adv_both (h1 : lxt n x I1 13) (h2 : lxt n x I2 1) (hO : rlO I1) (c2 : I1 11 2 = nI n) (r2 : I2 0 2 = nI n) (c4 : I1 11 4 = nI a) (r5 : I2 0 5 = nI a) (c5 : I1 11 5 = nI t) (ht : t ≤ 4) (w0 : I1 11 10 = 0 ∧ I1 11 11 = -1) (r8 : I2 0 8 = 0) (r9 : I2 0 9 = -1) (han : a ≤ n) (hadj : tkA n x a t) :
    ∃ I1' J1' I2' J2', C1 (D + 3) 139 [.ref 11] I1 J1 .null I1' J1' ∧ C2 (D' + 2) 13 [.ref 0] I2 J2 .null I2' J2' ∧ J1' = J1 ∧ lxf I1 I1' ∧ lxg I2 I2' ∧ lxgJ J2 J2' ∧ ((∃ p a' t' v l o, tkR n x p a' t' v l o I1' I2' J2' ∧ a ≤ p) ∨ ∃ p, tkD 1 p I1' I2') := by
  have hn := h1.1
  have im1 : (-1 : Int32) = iI (-1) := by decide
  obtain ⟨p, hs⟩ := lxs_ex (n := n) (x := x) (n - a) a (by omega)
  have hap := hs.1
  have hpn := hs.2.1
  have keep : ∀ {I1' I2'}, lxf I1 I1' → lxg I2 I2' → lxt n x I1' 13 ∧ lxt n x I2' 1 ∧ rlO I1' ∧ I1' 11 2 = nI n ∧ I2' 0 2 = nI n ∧ (I1' 11 10 = 0 ∧ I1' 11 11 = -1) := fun {I1' I2'} f g => ⟨⟨hn, fun j hj => by rw [f 13 j (Or.inl (by decide))]; exact h1.2 j hj⟩, ⟨hn, fun j hj => by rw [g 1 j (Or.inl (by decide))]; exact h2.2 j hj⟩, fun z hz => by rw [f 12 z (Or.inl (by decide))]; exact hO z hz, by rw [f 11 2 (by decide)]; exact c2, by rw [g 0 2 (by decide)]; exact r2, by rw [f 11 10 (by decide)]; exact w0.1, by rw [f 11 11 (by decide)]; exact w0.2⟩
  by_cases e : p = n
  · subst e
    obtain ⟨I1', J1', k1, k2, k3, k4, k5, k6, k7⟩ := c_advE (D := D) (J := J1) h1 c2 c4 hs
    obtain ⟨I2', J2', m1, m2, m3, m4, m5, m6, m7, m8⟩ := r_nxtE (D := D' + 1) (J := J2) h2 r2 r5 hs
    obtain ⟨g1, g2, g3, g4, g5, g6⟩ := keep k3 m2
    exact ⟨I1', J1', I2', J2', k1, m1, k2, k3, m2, fun q j _ => by rw [m3], Or.inl ⟨p, p, 0, 0, [], -1, ⟨g1, g2, g3, g4, g5, k7, m5, k4, m4, k5, m6, k6.trans im1, g6, by rw [m7]; exact r8, by rw [m8]; exact r9, Nat.le_refl _, Or.inl ⟨rfl, rfl, rfl, rfl⟩⟩, hap⟩⟩
  have hp : p < n := by omega
  obtain ⟨m, hr⟩ := lxr_ex (n := n) (x := x) (lxk (x p)) (n - p) p (by omega)
  obtain ⟨I1', J1', k1, k2, k3, k4, k5, k6, k7⟩ := c_advT (D := D) (J := J1) h1 hO c2 c4 c5 ht hs hp hr
  obtain ⟨I2', J2', m1, m2, m3, m4, m5, m6, m7⟩ := r_nxtT (D := D') (J := J2) h2 r2 r5 r8 hs hp hr
  obtain ⟨g1, g2, g3, g4, g5, g6⟩ := keep k3 m2
  have ha := hadj p hs hp
  refine ⟨I1', J1', I2', J2', k1, m1, k2, k3, m2, m3, ?_⟩
  by_cases q1 : lxk (x p) = 1
  · obtain ⟨u1, u2, u3, u4, u5⟩ := k4 q1
    obtain ⟨v1, v2, v3, v4, v5, v6⟩ := m4 q1
    exact Or.inl ⟨p, p + 1, 1, x p, [], -1, ⟨g1, g2, g3, g4, g5, u5, v4, u1, v1, u2, v2, u4.trans im1, g6, v5, by rw [v6]; exact r9, by omega, Or.inr (Or.inl ⟨rfl, hp, rfl, q1, rfl, (h1.2 p hp).2, u3, v3, rfl⟩)⟩, hap⟩
  by_cases ad : 0 < p ∧ lxk (x (p - 1)) ≠ 1
  · obtain ⟨tt, pa⟩ := ha.mpr ad
    obtain ⟨u1, u2, u3⟩ := k5 q1 tt pa
    obtain ⟨v1, v2⟩ := m5 q1 ad.1 ad.2
    exact Or.inr ⟨p, by decide, by decide, by omega, u1, u2, Or.inl ⟨g6.1, rfl, u3⟩, v1, v2⟩
  have nad : ¬ ((t = 2 ∨ t = 3) ∧ p = a) := fun z => ad (ha.mp z)
  have lm : lxm (lxk (x p)) = 6 ∨ lxm (lxk (x p)) = 4 := by unfold lxm; split <;> omega
  have hm1 : 1 ≤ m := Classical.byContradiction fun z => by
    obtain rfl : m = 0 := by omega
    exact hr.2.2 (by omega) rfl
  by_cases lg : lxm (lxk (x p)) < m
  · obtain ⟨u1, u2, u3⟩ := k6 q1 nad lg
    obtain ⟨v1, v2⟩ := m6 q1 ad lg
    have := hr.1
    exact Or.inr ⟨_, by decide, by decide, by omega, u1, u2, Or.inl ⟨g6.1, rfl, u3⟩, v1, v2⟩
  obtain ⟨u1, u2, u3, u4, u5⟩ := k7 q1 nad (by omega)
  obtain ⟨v1, v2, v3, v4, v5, v6⟩ := m7 q1 ad (by omega)
  have hpm := hr.1
  have hlast := hr.2.1 (m - 1) (by omega)
  rw [show p + (m - 1) = p + m - 1 by omega] at hlast
  rcases lxk_rng (x p) with z | z | z
  · exact absurd z q1
  · rw [z] at u2 v4 v6 hlast lg
    obtain ⟨s1, s2⟩ := u4 z
    have hv := lxn_lt (x := x) (p := p) (i := m) fun j hj => by rw [hr.2.1 j hj, z]
    have h4 : 10 ^ m ≤ 10 ^ 4 := Nat.pow_le_pow_right (by decide) (by have : lxm 2 = 4 := rfl; omega)
    exact Or.inl ⟨p, p + m, 2, lxn x p m, [], -1, ⟨g1, g2, g3, g4, g5, u3, v5, u1, v3, u2, v4, s2.trans im1, g6, v1, by rw [v2]; exact r9, by omega, Or.inr (Or.inr (Or.inl ⟨rfl, by omega, hpm, hlast, by omega, s1, v6.1 rfl, rfl⟩))⟩, hap⟩
  · rw [z] at u2 v4 v6 hlast lg
    obtain ⟨s1, o, s2, s3⟩ := u5 z
    have hw : ∀ y ∈ lxw x p m, 1 ≤ y ∧ y ≤ 26 := lxw_ok fun j hj => by rw [hr.2.1 j hj, z]
    have h6 : lxm 3 = 6 := rfl
    exact Or.inl ⟨p, p + m, 3, 0, lxw x p m, o, ⟨g1, g2, g3, g4, g5, u3, v5, u1, v3, u2, v4, s2, g6, v1, by rw [v2]; exact r9, by omega, Or.inr (Or.inr (Or.inr ⟨rfl, by rw [lxw_len]; exact Nat.le_refl _, hpm, hlast, ⟨by rw [lxw_len]; omega, by rw [lxw_len]; omega, hw⟩, s1, v6.2 rfl, s3⟩))⟩, hap⟩
theorem adv_tk (h : tkR n x p a t v l o I1 I2 J2) (h0 : t ≠ 0) : ∃ I1' J1' I2' J2', C1 (D + 3) 139 [.ref 11] I1 J1 .null I1' J1' ∧ C2 (D' + 2) 13 [.ref 0] I2 J2 .null I2' J2' ∧ J1' = J1 ∧ lxf I1 I1' ∧ lxg I2 I2' ∧ lxgJ J2 J2' ∧ ((∃ p' a' t' v' l' o', tkR n x p' a' t' v' l' o' I1' I2' J2' ∧ p < p') ∨ ∃ p', tkD 1 p' I1' I2') := by
  have hA := tkR_A h h0
  obtain ⟨h1, h2, hO, c2, r2, c8, r4, c4, r5, c5, r3, c7, w0, r8, r9, hpn, hS⟩ := h
  have key : t ≤ 4 ∧ a ≤ n ∧ p < a := by
    rcases hS with ⟨q, -⟩ | ⟨q1, q2, q3, -⟩ | ⟨q1, q2, q3, -⟩ | ⟨q1, q2, q3, -, ⟨q5, -⟩, -⟩
    · exact absurd q h0
    · omega
    · omega
    · omega
  obtain ⟨I1', J1', I2', J2', k1, k2, k3, k4, k5, k6, k7⟩ := adv_both (D := D) (D' := D') (J1 := J1) (J2 := J2) h1 h2 hO c2 r2 c4 r5 c5 key.1 w0 r8 r9 key.2.1 hA
  refine ⟨I1', J1', I2', J2', k1, k2, k3, k4, k5, k6, k7.imp (fun ⟨p', a', t', v', l', o', q1, q2⟩ => ⟨p', a', t', v', l', o', q1, by omega⟩) id⟩
end Sa3
