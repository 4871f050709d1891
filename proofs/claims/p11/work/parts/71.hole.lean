/-! kept, letter, hole -/
def stA (dz : Nat → Int) : Nat → Nat
  | 0 => 0
  | j + 1 => if dz j ≤ 0 then stA dz j else if stA dz j = 0 ∨ dz j < stA dz j then (dz j).toNat else stA dz j
section S71
variable {D b W Rn Kn Tn Hn Un g : Nat} {I I1 I2 : Nat → Nat → Int32} {J J1 J2 : Nat → Nat → Int64}
theorem al_kept {x : Int32} (h : Rl b W Rn Kn Tn Hn Un g I1 J1 I2 J2) : AI 251 101 [.int x] I1 J1 I2 J2 (Rl b W Rn Kn Tn Hn Un g) := by
  obtain ⟨n, n1, n2, n3, n4⟩ := h.2.2.2.2.2.2.2.1
  by_cases e : ∃ i, i < n ∧ x = nI i
  · obtain ⟨i, hi, rfl⟩ := e
    refine AI.same (I1 50 i) (mj_mk (D := 899) (e251 _ ?_)) (mj_mk (D := 899) (e101 _ ?_)) h
    · rw [n2, if_neg (nI_pos (by omega)), nI_clamp (by omega)]
      exact if_le (by omega) (by omega) (fun q => absurd q (by omega)) (fun _ => ⟨vp_in_nI (by omega) (by decide), rfl⟩)
    · rw [n3, if_neg (nI_pos (by omega)), nI_clamp (by omega), n4 i hi]
      exact if_le (by omega) (by omega) (fun q => absurd q (by omega)) (fun _ => ⟨vp_in_nI (by omega) (by decide), rfl⟩)
  · refine AI.same (-1) (mj_mk (D := 899) (e251 _ ?_)) (mj_mk (D := 899) (e101 _ ?_)) h
    · rw [n2]
      exact if_rg (by omega) (fun j hj q => absurd ⟨j, hj, q⟩ e) (fun _ => rfl)
    · rw [n3]
      exact if_rg (by omega) (fun j hj q => absurd ⟨j, hj, q⟩ e) (fun _ => rfl)
theorem c_letK {κ N : Nat} {x2 x3 : Int32} (hκ : κ < 6) (hN : I1 2 κ = nI N) (hN2 : N ≤ 40) : (∀ j l, j < N → x2 = nI j → l.length ≤ 6 → (∀ a ∈ l, 1 ≤ a ∧ a ≤ 26) → I1 3 (40 * κ + j) = nI (nmC l) → E1 191 899 (fun q => q = (.int (lett l x3), (I1, J1, mj_R1))) 23 [(0, .ref 0), (2, .int x2), (3, .int x3), (4, .int (nI κ))] I1 J1) ∧ ((¬ ∃ j, j < N ∧ x2 = nI j) → E1 191 899 (fun q => q = (.int (-1), (I1, J1, mj_R1))) 23 [(0, .ref 0), (2, .int x2), (3, .int x3), (4, .int (nI κ))] I1 J1) := by
  constructor
  · rintro j l hj rfl h1 h2 h3
    refine mj_on (s191_23 _ _ _ ?_)
    refine ⟨trivial, _, _, _, c_there (k := κ) hN hN2 hκ, if_tf (fun _ => ?_) (fun q => absurd ⟨j, hj, rfl⟩ q)⟩
    rw [show nI κ * (40 : Int32) = nI (40 * κ) from (pk_mul κ 40).trans (by rw [Nat.mul_comm]), nI_add, nI_clamp (by omega), h3]
    exact ⟨vp_in_nI (by omega) (by decide), trivial, _, _, _, c_letterOf h1 h2, rfl⟩
  · intro q
    refine mj_on (s191_23 _ _ _ ?_)
    exact ⟨trivial, _, _, _, c_there (k := κ) hN hN2 hκ, if_tf (fun f => absurd f q) (fun _ => rfl)⟩
theorem al_letter {x1 x2 x3 : Int32} (h : Rl b W Rn Kn Tn Hn Un g I1 J1 I2 J2) : AI 191 47 [.int x1, .int x2, .int x3] I1 J1 I2 J2 (Rl b W Rn Kn Tn Hn Un g) := by
  obtain ⟨a1, a2, a3, a4, a5, a6, d1, d2, d3, d4, d5, d6, e1, e2, e3, e4, e5, e6, e7⟩ := h.N
  obtain ⟨n1, n2, n3, n4⟩ := h.2.1.2.2.2.2.2.1
  have hB := h.rB
  have b0 := hB.1
  -- the class
  have cl : ∀ (κ : Nat) (r : Int32), κ ≤ 3 → x1 = nI κ → E1 191 899 (fun q => q = (.int r, (I1, J1, mj_R1))) 23 [(0, .ref 0), (2, .int x2), (3, .int x3), (4, .int (nI (if κ = 3 then 4 else κ)))] I1 J1 → C1 900 191 [.ref 0, .int x1, .int x2, .int x3] I1 J1 (.int r) I1 J1 := fun κ r hκ e w => by
    refine mj_mk (D := 899) (e191 _ _ _ ?_)
    rw [e, if_neg (nI_pos (by omega)), show (3 : Int32) = nI 3 from rfl]
    refine if_le (by omega) (by omega) (fun _ => if_eq (by omega) (by omega) (fun y => ?_) (fun y => ?_)) (fun y => absurd y (by omega))
    · rw [if_pos y] at w; exact w
    · rw [if_neg y] at w; exact w
  -- the reference's three doors
  have go2 : ∀ r : Int32, x1 ≠ nI 0 → x1 ≠ nI 1 → E2 47 899 (fun q => q = (.int r, (I2, J2, mj_R2))) 62 [(0, .ref 0), (1, .int x1), (2, .int x2), (3, .int x3)] I2 J2 → C2 900 47 [.ref 0, .int x1, .int x2, .int x3] I2 J2 (.int r) I2 J2 := fun r z0 z1 w => by
    refine mj_mk (D := 899) (e47 _ _ _ ?_)
    rw [if_neg (show ¬ x1 = 0 from z0)]
    refine mj_on (s47_30 _ _ _ ?_)
    rw [if_neg (show ¬ x1 = 1 from z1)]
    exact w
  by_cases c0 : x1 = nI 0
  · subst c0
    have k := c_letK (J1 := J1) (x2 := x2) (x3 := x3) (κ := 0) (by decide) a1 (by omega)
    by_cases q : ∃ j, j < W ∧ x2 = nI j
    · obtain ⟨j, hj, rfl⟩ := id q
      obtain ⟨l, l1, l2, l3, l4, l5⟩ := n1 j hj
      refine AI.same (lett l x3) (cl 0 _ (by decide) rfl (k.1 j l hj rfl l2 l3 (by rw [Nat.mul_zero, Nat.zero_add]; exact l4))) (mj_mk (D := 899) (e47 _ _ _ ?_)) h
      rw [if_pos (show nI 0 = 0 from rfl)]
      refine ⟨trivial, _, _, _, r_isWish hB, if_tf (fun _ => ?_) (fun f => absurd q f)⟩
      rw [b0, ix4', nI_clamp (by omega), l5]
      exact ⟨vp_in_nI (by omega) (by decide), trivial, _, _, _, r_letterOf l2 l3, rfl⟩
    · refine AI.same (-1) (cl 0 _ (by decide) rfl (k.2 q)) (mj_mk (D := 899) (e47 _ _ _ ?_)) h
      rw [if_pos (show nI 0 = 0 from rfl)]
      refine ⟨trivial, _, _, _, r_isWish hB, if_tf (fun f => absurd f q) (fun _ => ?_)⟩
      refine mj_on (s47_30 _ _ _ ?_)
      rw [if_neg (show ¬ nI 0 = 1 by decide)]
      refine mj_on (s47_62 _ _ _ ?_)
      rw [if_neg (show ¬ nI 0 = 2 by decide)]
      refine mj_on (s47_105 _ _ _ ?_)
      rw [if_neg (show ¬ nI 0 = 3 by decide)]
  by_cases c1 : x1 = nI 1
  · subst c1
    have k := c_letK (J1 := J1) (x2 := x2) (x3 := x3) (κ := 1) (by decide) a2 (by omega)
    by_cases q : ∃ j, j < Rn ∧ x2 = nI j
    · obtain ⟨j, hj, rfl⟩ := id q
      obtain ⟨l, l1, l2, l3, l4, l5⟩ := n2 j hj
      refine AI.same (lett l x3) (cl 1 _ (by decide) rfl (k.1 j l hj rfl l2 l3 l4)) (mj_mk (D := 899) (e47 _ _ _ ?_)) h
      rw [if_neg (show ¬ nI 1 = 0 by decide)]
      refine mj_on (s47_30 _ _ _ ?_)
      rw [if_pos (show nI 1 = 1 from rfl)]
      refine ⟨trivial, _, _, _, r_isRow hB, if_tf (fun _ => ?_) (fun f => absurd q f)⟩
      rw [b0, ix40, nI_clamp (by omega), l5]
      exact ⟨vp_in_nI (by omega) (by decide), trivial, _, _, _, r_letterOf l2 l3, rfl⟩
    · refine AI.same (-1) (cl 1 _ (by decide) rfl (k.2 q)) (mj_mk (D := 899) (e47 _ _ _ ?_)) h
      rw [if_neg (show ¬ nI 1 = 0 by decide)]
      refine mj_on (s47_30 _ _ _ ?_)
      rw [if_pos (show nI 1 = 1 from rfl)]
      refine ⟨trivial, _, _, _, r_isRow hB, if_tf (fun f => absurd f q) (fun _ => ?_)⟩
      refine mj_on (s47_62 _ _ _ ?_)
      rw [if_neg (show ¬ nI 1 = 2 by decide)]
      refine mj_on (s47_105 _ _ _ ?_)
      rw [if_neg (show ¬ nI 1 = 3 by decide)]
  by_cases c2 : x1 = nI 2
  · subst c2
    have k := c_letK (J1 := J1) (x2 := x2) (x3 := x3) (κ := 2) (by decide) a3 (by omega)
    by_cases q : ∃ j, j < Kn ∧ x2 = nI j
    · obtain ⟨j, hj, rfl⟩ := id q
      obtain ⟨l, l1, l2, l3, l4, l5⟩ := n3 j hj
      refine AI.same (lett l x3) (cl 2 _ (by decide) rfl (k.1 j l hj rfl l2 l3 l4)) (go2 _ c0 c1 (mj_on (s47_62 _ _ _ ?_))) h
      rw [if_pos (show nI 2 = 2 from rfl), b0, nI_clamp (by omega), d3]
      refine ⟨vp_in_nI e1 (by decide), trivial, _, _, _, r_is, if_tf (fun _ => ?_) (fun f => absurd ((r_rg (by omega)).mpr q) f)⟩
      rw [b0, show (10 : Int32) * nI b = nI (10 * b) from pk_mul 10 b, nI_add, nI_clamp (by omega), l5]
      exact ⟨vp_in_nI (by omega) (by decide), trivial, _, _, _, r_letterOf l2 l3, rfl⟩
    · refine AI.same (-1) (cl 2 _ (by decide) rfl (k.2 q)) (go2 _ c0 c1 (mj_on (s47_62 _ _ _ ?_))) h
      rw [if_pos (show nI 2 = 2 from rfl), b0, nI_clamp (by omega), d3]
      refine ⟨vp_in_nI e1 (by decide), trivial, _, _, _, r_is, if_tf (fun f => absurd ((r_rg (by omega)).mp f) q) (fun _ => ?_)⟩
      refine mj_on (s47_105 _ _ _ ?_)
      rw [if_neg (show ¬ nI 2 = 3 by decide)]
  by_cases c3 : x1 = nI 3
  · subst c3
    have k := c_letK (J1 := J1) (x2 := x2) (x3 := x3) (κ := 4) (by decide) a5 (by omega)
    by_cases q : ∃ j, j < Hn ∧ x2 = nI j
    · obtain ⟨j, hj, rfl⟩ := id q
      obtain ⟨l, l1, l2, l3, l4, l5⟩ := n4 j hj
      refine AI.same (lett l x3) (cl 3 _ (by decide) rfl (k.1 j l hj rfl l2 l3 l4)) (go2 _ c0 c1 (mj_on (s47_62 _ _ _ ?_))) h
      rw [if_neg (show ¬ nI 3 = 2 by decide)]
      refine mj_on (s47_105 _ _ _ ?_)
      rw [if_pos (show nI 3 = 3 from rfl), b0, nI_clamp (by omega), d5]
      refine ⟨vp_in_nI e1 (by decide), trivial, _, _, _, r_is, if_tf (fun _ => ?_) (fun f => absurd ((r_rg (by omega)).mpr q) f)⟩
      rw [b0, show (12 : Int32) * nI b = nI (12 * b) from pk_mul 12 b, nI_add, nI_clamp (by omega), l5]
      exact ⟨vp_in_nI (by omega) (by decide), trivial, _, _, _, r_letterOf l2 l3, rfl⟩
    · refine AI.same (-1) (cl 3 _ (by decide) rfl (k.2 q)) (go2 _ c0 c1 (mj_on (s47_62 _ _ _ ?_))) h
      rw [if_neg (show ¬ nI 3 = 2 by decide)]
      refine mj_on (s47_105 _ _ _ ?_)
      rw [if_pos (show nI 3 = 3 from rfl), b0, nI_clamp (by omega), d5]
      exact ⟨vp_in_nI e1 (by decide), trivial, _, _, _, r_is, if_tf (fun f => absurd ((r_rg (by omega)).mp f) q) (fun _ => rfl)⟩
  · refine AI.same (-1) (mj_mk (D := 899) (e191 _ _ _ ?_)) (go2 _ c0 c1 (mj_on (s47_62 _ _ _ ?_))) h
    · refine if_i (fun _ => rfl) (fun y => if_i (fun z => ?_) (fun _ => rfl))
      obtain ⟨k, hk, rfl⟩ := nI_of2 (n := 3) (by decide) y z
      rcases (by omega : k = 0 ∨ k = 1 ∨ k = 2 ∨ k = 3) with rfl | rfl | rfl | rfl
      · exact absurd rfl c0
      · exact absurd rfl c1
      · exact absurd rfl c2
      · exact absurd rfl c3
    · rw [if_neg (show ¬ x1 = 2 from c2)]
      refine mj_on (s47_105 _ _ _ ?_)
      rw [if_neg (show ¬ x1 = 3 from c3)]
/-- the front at hand, by short names -/
theorem Rl.H (h : Rl b W Rn Kn Tn Hn Un g I1 J1 I2 J2) : (I1 38 0 = -1 ∧ I1 38 1 = nI 0 ∧ I2 0 58 = -1) ∨ ∃ n, n ≤ 100 ∧ I1 38 0 ≠ -1 ∧ I1 38 1 = nI n ∧ I2 0 58 = nI n ∧ 1 ≤ W ∧ ∀ k, k < n → ∀ w, w < W → I2 37 (4 * k + w) = I1 39 (4 * k + w) ∧ ∃ x : Int, -1000000 ≤ x ∧ x ≤ 1000000 ∧ I1 39 (4 * k + w) = iI x := by
  rcases h.2.2.2.2.2.1 with q | ⟨kd, n, h1, h2, h3, h4, h5, h6, h7, h8, h9⟩
  · exact Or.inl q
  · refine Or.inr ⟨n, h2, ?_, h4, h5, h7, h8⟩
    rw [h3]
    exact nI_nm1 (by omega)
def dfz (I : Nat → Nat → Int32) (j k w : Nat) : Int := (I 39 (4 * j + w)).toInt - (I 39 (4 * k + w)).toInt
theorem dfz_at {j k w : Nat} (hj : ∃ x : Int, -1000000 ≤ x ∧ x ≤ 1000000 ∧ I 39 (4 * j + w) = iI x) (hk : ∃ x : Int, -1000000 ≤ x ∧ x ≤ 1000000 ∧ I 39 (4 * k + w) = iI x) : I 39 (4 * j + w) - I 39 (4 * k + w) = iI (dfz I j k w) ∧ -2000000 ≤ dfz I j k w ∧ dfz I j k w ≤ 2000000 := by
  obtain ⟨x, x1, x2, x3⟩ := hj
  obtain ⟨y, y1, y2, y3⟩ := hk
  unfold dfz
  rw [x3, y3, iI_sub, iI_toInt (by omega) (by omega), iI_toInt (by omega) (by omega)]
  exact ⟨rfl, by omega, by omega⟩
theorem c_dif {j k w : Nat} (hj : j < 100) (hk : k < 100) (hw : w < 4) : C1 (D + 1) 245 [.ref 38, .int (nI j), .int (nI k), .int (nI w)] I J (.int (I 39 (4 * j + w) - I 39 (4 * k + w))) I J := by
  refine mj_mk (e245 _ _ _ ?_)
  rw [ix4, ix4, nI_clamp (by omega), nI_clamp (by omega)]
  exact ⟨vp_in_nI (by omega) (by decide), vp_in_nI (by omega) (by decide), rfl⟩
theorem iI_le0 {z : Int} (h1 : -2000000 ≤ z) (h2 : z ≤ 2000000) : iI z ≤ 0 ↔ z ≤ 0 := by
  rw [Int32.le_iff_toInt_le, iI_toInt (by omega) (by omega)]
  exact Iff.rfl
theorem stA_le {dz : Nat → Int} (h : ∀ j, dz j ≤ 2000000) : ∀ n, stA dz n ≤ 2000000
  | 0 => Nat.zero_le _
  | n + 1 => by
    have := stA_le h n
    have := h n
    unfold stA
    split
    · assumption
    · split
      · omega
      · assumption
theorem iI_toNat {z : Int} (h : 0 < z) : iI z = nI z.toNat := by
  rw [← iI_nI]
  congr 1
  omega
theorem al_hole {x : Int32} (h : Rl b W Rn Kn Tn Hn Un g I1 J1 I2 J2) : AI 254 104 [.int x] I1 J1 I2 J2 (Rl b W Rn Kn Tn Hn Un g) := by
  obtain ⟨a1, a2, -⟩ := h.N
  have hB := h.rB
  have b4 := hB.2.2.2.1
  rcases h.H with ⟨h1, h2, h3⟩ | ⟨n, h1, h2, h3, h4, h5, h6⟩
  · refine AI.same (-1) (mj_mk (D := 899) (e254 _ ⟨trivial, _, _, _, mj_mk (D := 898) (e242 ?_), if_tf (P := False) (fun q => q.elim) (fun _ => rfl)⟩)) (mj_mk (D := 899) (e104 _ ?_)) h
    · rw [if_pos h1]
      exact mzF id
    · rw [if_pos h3]
  have hand : C1 899 242 [.ref 38] I1 J1 (.int (tf True)) I1 J1 := by
    refine mj_mk (D := 898) (e242 ?_)
    rw [if_neg h2]
    exact mzT trivial
  have nn : I2 0 58 ≠ -1 := by rw [h4]; exact nI_nm1 (by omega)
  by_cases q : ∃ w, w < W ∧ x = nI w
  · obtain ⟨w, hw, rfl⟩ := q
    have q : ∃ j, j < W ∧ nI w = nI j := ⟨w, hw, rfl⟩
    obtain ⟨dz, hdz⟩ : ∃ dz : Nat → Nat → Int, dz = fun k j => if j < n then dfz I1 j k w else 0 := ⟨_, rfl⟩
    have dz1 : ∀ k j, k < n → j < n → I1 39 (4 * j + w) - I1 39 (4 * k + w) = iI (dz k j) ∧ -2000000 ≤ dz k j := fun k j hk hj => by
      have := dfz_at (I := I1) (h6 j hj w hw).2 (h6 k hk w hw).2
      rw [hdz]
      show _ = iI (if j < n then _ else 0) ∧ _ ≤ (if j < n then _ else 0)
      rw [if_pos hj]
      exact ⟨this.1, this.2.1⟩
    have dz2 : ∀ k, k < n → ∀ j, dz k j ≤ 2000000 := fun k hk j => by
      rw [hdz]
      show (if j < n then _ else 0) ≤ _
      by_cases hj : j < n
      · rw [if_pos hj]
        exact (dfz_at (I := I1) (h6 j hj w hw).2 (h6 k hk w hw).2).2.2
      · rw [if_neg hj]
        decide
    obtain ⟨f, hf⟩ : ∃ f : Nat → Nat, f = fun k => stA (dz k) n := ⟨_, rfl⟩
    have fle : ∀ k, k < n → f k ≤ 2000000 := fun k hk => by rw [hf]; exact stA_le (dz2 k hk) n
    have mle : ∀ k, k ≤ n → mxN f k ≤ 2000000 := by
      intro k
      induction k with
      | zero => intro _; exact Nat.zero_le _
      | succ k ih => intro hk; exact Nat.max_le.mpr ⟨ih (by omega), fle k (by omega)⟩
    have step : ∀ k, k < n → C1 899 255 [.ref 38, .int (nI k), .int (nI w)] I1 J1 (.int (nI (f k))) I1 J1 := fun k hk => by
      refine mj_mk (D := 898) (e255 _ _ ?_)
      refine lp_up (n := n) (fun j => E1 255 898 (fun q => q = (.int (nI (f k)), (I1, J1, mj_R1))) 5 [(0, .ref 38), (1, .int (nI k)), (2, .int (nI w)), (3, .int (nI (stA (dz k) j))), (4, .int (nI j))] I1 J1) (fun j hj ih => ?_) 0 (Nat.zero_le _)
      refine mj_on (s255_5 _ _ _ _ ?_)
      rw [h3, nI_1]
      refine if_le (by omega) (by omega) (fun c => ?_) (fun c => ⟨trivial, _, _, _, c_dif (D := 897) (by omega) (by omega) (by omega), ?_⟩)
      · obtain rfl : j = n := by omega
        rw [hf]
      obtain ⟨y1, y2⟩ := dz1 k j hk c
      have y3 := dz2 k hk j
      have y4 := stA_le (dz2 k hk) j
      rw [y1]
      have z := ih c
      have es : stA (dz k) (j + 1) = if dz k j ≤ 0 then stA (dz k) j else if stA (dz k) j = 0 ∨ dz k j < stA (dz k) j then (dz k j).toNat else stA (dz k) j := rfl
      refine if_i (fun d => ?_) (fun d => ?_)
      · rw [es, if_pos ((iI_le0 y2 y3).mp d)] at z
        exact z
      have d' : ¬ dz k j ≤ 0 := fun q => d ((iI_le0 y2 y3).mpr q)
      rw [es, if_neg d'] at z
      rw [iI_toNat (by omega)]
      refine if_eq (b := 0) (by omega) (by decide) (fun e => ?_) (fun e => if_le (by omega) (by omega) (fun e2 => ?_) (fun e2 => ?_))
      · rw [if_pos (Or.inl e)] at z; exact z
      · rw [if_neg (by omega)] at z; exact z
      · rw [if_pos (by omega)] at z; exact z
    refine AI.same (nI (mxN f n)) (mj_mk (D := 899) (e254 _ ?_)) (mj_mk (D := 899) (e104 _ ?_)) h
    · refine ⟨trivial, _, _, _, hand, if_tf (fun _ => ?_) (fun q => absurd trivial q)⟩
      refine ⟨trivial, _, _, _, c_there (k := 0) a1 (by omega) (by decide), if_tf (fun _ => ?_) (fun f => absurd q f)⟩
      refine lp_up (n := n) (fun k => E1 254 899 (fun q => q = (.int (nI (mxN f n)), (I1, J1, mj_R1))) 28 [(0, .ref 0), (1, .int (nI w)), (2, .int (nI (mxN f k))), (3, .int (nI k))] I1 J1) (fun k hk ih => ?_) 0 (Nat.zero_le _)
      refine mj_on (s254_28 _ _ _ ?_)
      rw [h3, nI_1]
      refine if_le (by omega) (by omega) (fun c => ?_) (fun c => ⟨trivial, _, _, _, step k c, trivial, _, _, _, c_max, ?_⟩)
      · obtain rfl : k = n := by omega
        rfl
      · rw [(i32_max (by have := mle k hk; omega) (by have := fle k c; omega)).1]
        exact ih c
    · rw [if_neg nn]
      refine ⟨trivial, _, _, _, r_isWish hB, if_tf (fun _ => ?_) (fun f => absurd q f)⟩
      refine lp_up (n := n) (fun k => E2 104 899 (fun q => q = (.int (nI (mxN f n)), (I2, J2, mj_R2))) 22 [(0, .ref 0), (1, .int (nI w)), (2, .int (nI (mxN f k))), (3, .int (nI k))] I2 J2) (fun k hk ih => ?_) 0 (Nat.zero_le _)
      refine mj_on (s104_22 _ _ _ ?_)
      rw [h4]
      refine if_le (by omega) (by omega) (fun c => ?_) (fun c => ?_)
      · obtain rfl : k = n := by omega
        rfl
      have mk := mle k hk
      refine lp_up (n := n) (fun j => E2 104 899 (fun q => q = (.int (nI (mxN f n)), (I2, J2, mj_R2))) 36 [(0, .ref 0), (1, .int (nI w)), (2, .int (nI (mxN f k))), (3, .int (nI k)), (4, .int (if stA (dz k) j = 0 then -1 else nI (stA (dz k) j))), (5, .int (nI j))] I2 J2) (fun j hj ih2 => ?_) 0 (Nat.zero_le _)
      refine mj_on (s104_36 _ _ _ _ _ ?_)
      rw [h4, nI_1, nI_1]
      have y4 := stA_le (dz2 k c) j
      refine if_le (by omega) (by omega) (fun d => ?_) (fun d => ?_)
      · obtain rfl : j = n := by omega
        have z := ih c
        have ef : f k = stA (dz k) j := by rw [hf]
        rw [show mxN f (k + 1) = max (mxN f k) (f k) from rfl, ef] at z
        by_cases e : stA (dz k) j = 0
        · rw [if_pos e, if_pos]
          · rw [e, Nat.max_zero] at z
            exact z
          · rw [Int32.le_iff_toInt_le, nI_toInt (by omega)]
            show (-1 : Int) ≤ _
            omega
        · rw [if_neg e]
          refine if_le (by omega) (by omega) (fun y => ?_) (fun y => ?_)
          · rw [Nat.max_eq_left y] at z; exact z
          · rw [Nat.max_eq_right (by omega)] at z; exact z
      obtain ⟨y1, y2⟩ := dz1 k j c d
      have y3 := dz2 k c j
      rw [ix4', ix4', nI_clamp (by omega), nI_clamp (by omega), (h6 j d w hw).1, (h6 k c w hw).1, y1]
      have z := ih2 d
      have es : stA (dz k) (j + 1) = if dz k j ≤ 0 then stA (dz k) j else if stA (dz k) j = 0 ∨ dz k j < stA (dz k) j then (dz k j).toNat else stA (dz k) j := rfl
      refine ⟨vp_in_nI (by omega) (by decide), vp_in_nI (by omega) (by decide), if_i (fun y => ?_) (fun y => ?_)⟩
      · rw [es, if_pos ((iI_le0 y2 y3).mp y)] at z
        exact z
      have y' : ¬ dz k j ≤ 0 := fun q => y ((iI_le0 y2 y3).mpr q)
      rw [if_neg y'] at es
      rw [iI_toNat (by omega)]
      by_cases e : stA (dz k) j = 0
      · rw [if_pos e, if_pos rfl]
        rw [if_pos (Or.inl e)] at es
        rw [es, if_neg (by omega)] at z
        exact z
      · rw [if_neg e, if_neg (nI_nm1 (by omega))]
        refine if_le (by omega) (by omega) (fun e2 => ?_) (fun e2 => ?_)
        · rw [if_neg (by omega)] at es
          rw [es, if_neg e] at z; exact z
        · rw [if_pos (by omega)] at es
          rw [es, if_neg (by omega)] at z; exact z
  · refine AI.same (-1) (mj_mk (D := 899) (e254 _ ?_)) (mj_mk (D := 899) (e104 _ ?_)) h
    · refine ⟨trivial, _, _, _, hand, if_tf (fun _ => ?_) (fun q => absurd trivial q)⟩
      exact ⟨trivial, _, _, _, c_there (k := 0) a1 (by omega) (by decide), if_tf (fun f => absurd f q) (fun _ => rfl)⟩
    · rw [if_neg nn]
      exact ⟨trivial, _, _, _, r_isWish hB, if_tf (fun f => absurd f q) (fun _ => rfl)⟩
end S71
