/-! the class reads what stands next -/
theorem nI_mns {a c : Nat} (h : c ≤ a) : nI a - nI c = nI (a - c) := by
  have : nI a = nI (a - c) + nI c := by rw [nI_add, Nat.sub_add_cancel h]
  rw [this, Int32.add_sub_cancel]
/-- the longest that a word or a number may be -/
def lxm (k : Nat) : Nat := if k = 3 then 6 else 4
def lxf (I I' : Nat → Nat → Int32) : Prop := ∀ q j, (q ≠ 11 ∨ (j ≠ 4 ∧ j ≠ 5 ∧ j ≠ 6 ∧ j ≠ 7 ∧ j ≠ 8)) → I' q j = I q j
section Sa1
variable {D n a p t m : Nat} {x : Nat → Nat} {I : Nat → Nat → Int32} {J : Nat → Nat → Int64}
theorem c_advE (ht : lxt n x I 13) (h2 : I 11 2 = nI n) (h4 : I 11 4 = nI a) (hs : lxs n x a n) : ∃ I' J', C1 (D + 3) 139 [.ref 11] I J .null I' J' ∧ J' = J ∧ lxf I I' ∧ I' 11 4 = nI n ∧ I' 11 5 = nI 0 ∧ I' 11 7 = -1 ∧ I' 11 8 = nI n := by
  have hn := ht.1
  refine mj_cN (e139 ?_)
  have go : ∀ fl : Int32, E1 139 (D + 2) (qN mj_R1 fun I' J' => J' = J ∧ lxf I I' ∧ I' 11 4 = nI n ∧ I' 11 5 = nI 0 ∧ I' 11 7 = -1 ∧ I' 11 8 = nI n) 22 [(0, .ref 11), (1, .int fl)] I J := fun fl => by
    obtain ⟨Ia, Ja, ca, rfl, a1, a2⟩ := c_skip (D := D + 1) (J := J) ht h2 h4 hs
    refine mj_on (s139_22 _ ?_)
    refine ⟨trivial, _, _, ca, ?_⟩
    rw [a1, a2 11 2 (by decide), h2]
    refine if_lt (by omega) (by omega) (fun z => absurd z (by omega)) (fun _ => ⟨_, _, rfl, rfl, fun q j hq => ?_, ?_, up_s, ?_, ?_⟩)
    · rw [up_n (by omega), up_n (by omega), up_n (by omega), up_n (by omega), a2 q j (by omega)]
    · rw [up_n (by decide), up_n (by decide), up_n (by decide), up_n (by decide), a1]
    · rw [up_n (by decide), up_n (by decide), up_s]
    · rw [up_n (by decide), up_n (by decide), up_n (by decide), up_s]
  exact if_i (fun _ => go 1) (fun _ => if_i (fun _ => go 1) (fun _ => go 0))
theorem c_advT (ht : lxt n x I 13) (hO : rlO I) (h2 : I 11 2 = nI n) (h4 : I 11 4 = nI a) (h5 : I 11 5 = nI t) (ht4 : t ≤ 4) (hs : lxs n x a p) (hp : p < n) (hr : lxr n x p (lxk (x p)) m) : ∃ I' J', C1 (D + 3) 139 [.ref 11] I J .null I' J' ∧ J' = J ∧ lxf I I' ∧
    (lxk (x p) = 1 → I' 11 4 = nI (p + 1) ∧ I' 11 5 = nI 1 ∧ I' 11 6 = nI (x p) ∧ I' 11 7 = -1 ∧ I' 11 8 = nI p) ∧
    (lxk (x p) ≠ 1 → (t = 2 ∨ t = 3) → p = a → I' 11 5 = nI 4 ∧ I' 11 7 = -1 ∧ I' 11 8 = nI p) ∧
    (lxk (x p) ≠ 1 → ¬ ((t = 2 ∨ t = 3) ∧ p = a) → lxm (lxk (x p)) < m → I' 11 5 = nI 4 ∧ I' 11 7 = -1 ∧ I' 11 8 = nI (p + lxm (lxk (x p)))) ∧
    (lxk (x p) ≠ 1 → ¬ ((t = 2 ∨ t = 3) ∧ p = a) → m ≤ lxm (lxk (x p)) → I' 11 4 = nI (p + m) ∧ I' 11 5 = nI (lxk (x p)) ∧ I' 11 8 = nI p ∧ (lxk (x p) = 2 → I' 11 6 = nI (lxn x p m) ∧ I' 11 7 = -1) ∧ (lxk (x p) = 3 → I' 11 6 = nI (nmC (lxw x p m)) ∧ ∃ o, I' 11 7 = iI o ∧ lxo (lxw x p m) o)) := by
  have hn := ht.1
  obtain ⟨hx, hx2⟩ := ht.2 p hp
  obtain ⟨k, hk⟩ : ∃ k, k = lxk (x p) := ⟨_, rfl⟩
  rw [← hk] at hr ⊢
  obtain ⟨r1, r2, r3⟩ := hr
  have k123 : k = 1 ∨ k = 2 ∨ k = 3 := by rw [hk]; exact lxk_rng _
  have m1 : 1 ≤ m := by
    refine Classical.byContradiction fun q => ?_
    obtain rfl : m = 0 := by omega
    exact r3 (by omega) hk.symm
  refine mj_cN (e139 ?_)
  obtain ⟨P, hP⟩ : ∃ P : (Nat → Nat → Int32) → Prop, P = fun I' => lxf I I' ∧
    (k = 1 → I' 11 4 = nI (p + 1) ∧ I' 11 5 = nI 1 ∧ I' 11 6 = nI (x p) ∧ I' 11 7 = -1 ∧ I' 11 8 = nI p) ∧
    (k ≠ 1 → (t = 2 ∨ t = 3) → p = a → I' 11 5 = nI 4 ∧ I' 11 7 = -1 ∧ I' 11 8 = nI p) ∧
    (k ≠ 1 → ¬ ((t = 2 ∨ t = 3) ∧ p = a) → lxm k < m → I' 11 5 = nI 4 ∧ I' 11 7 = -1 ∧ I' 11 8 = nI (p + lxm k)) ∧
    (k ≠ 1 → ¬ ((t = 2 ∨ t = 3) ∧ p = a) → m ≤ lxm k → I' 11 4 = nI (p + m) ∧ I' 11 5 = nI k ∧ I' 11 8 = nI p ∧ (k = 2 → I' 11 6 = nI (lxn x p m) ∧ I' 11 7 = -1) ∧ (k = 3 → I' 11 6 = nI (nmC (lxw x p m)) ∧ ∃ o, I' 11 7 = iI o ∧ lxo (lxw x p m) o)) := ⟨_, rfl⟩
  obtain ⟨Q, hQ⟩ : ∃ Q, Q = qN mj_R1 (fun I' J' => J' = J ∧ P I') := ⟨_, rfl⟩
  have eQ : qN mj_R1 (fun I' J' => J' = J ∧ lxf I I' ∧
    (k = 1 → I' 11 4 = nI (p + 1) ∧ I' 11 5 = nI 1 ∧ I' 11 6 = nI (x p) ∧ I' 11 7 = -1 ∧ I' 11 8 = nI p) ∧
    (k ≠ 1 → (t = 2 ∨ t = 3) → p = a → I' 11 5 = nI 4 ∧ I' 11 7 = -1 ∧ I' 11 8 = nI p) ∧
    (k ≠ 1 → ¬ ((t = 2 ∨ t = 3) ∧ p = a) → lxm k < m → I' 11 5 = nI 4 ∧ I' 11 7 = -1 ∧ I' 11 8 = nI (p + lxm k)) ∧
    (k ≠ 1 → ¬ ((t = 2 ∨ t = 3) ∧ p = a) → m ≤ lxm k → I' 11 4 = nI (p + m) ∧ I' 11 5 = nI k ∧ I' 11 8 = nI p ∧ (k = 2 → I' 11 6 = nI (lxn x p m) ∧ I' 11 7 = -1) ∧ (k = 3 → I' 11 6 = nI (nmC (lxw x p m)) ∧ ∃ o, I' 11 7 = iI o ∧ lxo (lxw x p m) o))) = Q := by rw [hQ, hP]
  rw [eQ]
  have fin : ∀ I', P I' → Q (.null, (I', J, mj_R1)) := fun I' h => by rw [hQ]; exact ⟨_, _, rfl, rfl, h⟩
  have go : ∀ fl : Int32, (fl = 0 ↔ ¬ (t = 2 ∨ t = 3)) → E1 139 (D + 2) Q 22 [(0, .ref 11), (1, .int fl)] I J := fun fl hfl => by
    obtain ⟨Ia, Ja, ca, hJa, a1, a2⟩ := c_skip (D := D + 1) (J := J) ht h2 h4 hs
    rw [hJa] at ca
    refine mj_on (s139_22 _ ?_)
    refine ⟨trivial, _, _, ca, ?_⟩
    rw [a1, a2 11 2 (by decide), h2]
    refine if_lt (by omega) (by omega) (fun _ => ?_) (fun z => absurd z (by omega))
    rw [nI_clamp (by omega), a2 13 p (Or.inl (by decide)), hx]
    obtain ⟨Ib, hIb⟩ : ∃ Ib, Ib = mj_up (mj_up (mj_up Ia 11 8 (nI p)) 11 7 (-1)) 11 6 0 := ⟨_, rfl⟩
    rw [← hIb]
    have vp : vp_in (nI p) 900 := vp_in_nI (by omega) (by decide)
    refine ⟨vp, trivial, _, _, _, c_kind hx2, ?_⟩
    rw [← hk]
    have b4 : Ib 11 4 = nI p := by rw [hIb, up_n (by decide), up_n (by decide), up_n (by decide), a1]
    have b8 : Ib 11 8 = nI p := by rw [hIb, up_n (by decide), up_n (by decide), up_s]
    have b7 : Ib 11 7 = -1 := by rw [hIb, up_n (by decide), up_s]
    have b6 : Ib 11 6 = nI 0 := by rw [hIb, up_s]; rfl
    have fb : lxf I Ib := fun q j hq => by rw [hIb, up_n (by omega), up_n (by omega), up_n (by omega), a2 q j (by omega)]
    rw [b4, b8, h4, nI_clamp (by omega), fb 13 p (Or.inl (by decide)), hx, nI_1]
    by_cases k1 : k = 1
    · rw [if_pos (show nI k = 1 by rw [k1]; rfl)]
      refine ⟨vp, fin _ ?_⟩
      rw [hP]
      refine ⟨fun q j hq => ?_, fun _ => ⟨up_s, ?_, ?_, ?_, ?_⟩, fun q => absurd k1 q, fun q => absurd k1 q, fun q => absurd k1 q⟩
      · rw [up_n (by omega), up_n (by omega), up_n (by omega)]; exact fb q j hq
      · rw [up_n (by decide), up_n (by decide), up_s, k1]
      · rw [up_n (by decide), up_s]
      · rw [up_n (by decide), up_n (by decide), up_n (by decide)]; exact b7
      · rw [up_n (by decide), up_n (by decide), up_n (by decide)]; exact b8
    rw [if_neg (show ¬ nI k = 1 from fun z => k1 ((nI_eq (b := 1) (by omega) (by decide)).mp z))]
    obtain ⟨Ic, hIc⟩ : ∃ Ic, Ic = mj_up Ib 11 5 (nI k) := ⟨_, rfl⟩
    rw [← hIc]
    have c4 : Ic 11 4 = nI p := by rw [hIc, up_n (by decide)]; exact b4
    have c5 : Ic 11 5 = nI k := by rw [hIc, up_s]
    have c6 : Ic 11 6 = nI 0 := by rw [hIc, up_n (by decide)]; exact b6
    have c7 : Ic 11 7 = -1 := by rw [hIc, up_n (by decide)]; exact b7
    have c8 : Ic 11 8 = nI p := by rw [hIc, up_n (by decide)]; exact b8
    have fc : lxf I Ic := fun q j hq => by rw [hIc, up_n (by omega)]; exact fb q j hq
    have run : ¬ ((t = 2 ∨ t = 3) ∧ p = a) → E1 139 (D + 2) Q 132 [(0, .ref 11)] Ic J := fun hna => by
      have inv0 : ∀ i, i ≤ m → i ≤ lxm k → ∃ z : Nat, z = if k = 3 then nmC (lxw x p i) else lxn x p i := fun i _ _ => ⟨_, rfl⟩
      -- behind the run
      have e303 : ∀ I0, lxf I I0 → m ≤ lxm k → I0 11 4 = nI (p + m) → I0 11 5 = nI k → I0 11 6 = nI (if k = 3 then nmC (lxw x p m) else lxn x p m) → I0 11 7 = -1 → I0 11 8 = nI p → E1 139 (D + 2) Q 303 [(0, .ref 11)] I0 J := fun I0 f0 hm i4 i5 i6 i7 i8 => by
        refine mj_on (s139_303 ?_)
        rw [i5]
        by_cases k3 : k = 3
        · rw [if_pos (show nI k = 3 by rw [k3]; rfl), i6, if_pos k3]
          have hw : ∀ z ∈ lxw x p m, 1 ≤ z ∧ z ≤ 26 := lxw_ok fun j hj => by rw [r2 j hj, k3]
          obtain ⟨r, Id, Jd, cd, ⟨o, rfl, ho⟩, hId, hJd⟩ := c_own (D := D + 1) (J := J) (I := I0) (l := lxw x p m) (fun z hz => by rw [f0 12 z (Or.inl (by decide))]; exact hO z hz) hw (by rw [lxw_len]; rw [k3] at hm; exact hm)
          rw [hId, hJd] at cd
          refine ⟨trivial, _, _, _, cd, fin _ ?_⟩
          rw [hP]
          refine ⟨fun q j hq => by rw [up_n (by omega)]; exact f0 q j hq, fun q => absurd q k1, fun _ q1 q2 => absurd ⟨q1, q2⟩ hna, fun _ _ q => absurd q (by omega), fun _ _ _ => ⟨?_, ?_, ?_, fun q => absurd q (by omega), fun _ => ⟨?_, o, up_s, ho⟩⟩⟩
          · rw [up_n (by decide)]; exact i4
          · rw [up_n (by decide)]; exact i5
          · rw [up_n (by decide)]; exact i8
          · rw [up_n (by decide), i6, if_pos k3]
        · rw [if_neg (show ¬ nI k = 3 from fun z => k3 ((nI_eq (b := 3) (by omega) (by decide)).mp z))]
          refine fin _ ?_
          rw [hP]
          rw [if_neg k3] at i6
          exact ⟨f0, fun q => absurd q k1, fun _ q1 q2 => absurd ⟨q1, q2⟩ hna, fun _ _ q => absurd q (by omega), fun _ _ _ => ⟨i4, i5, i8, fun _ => ⟨i6, i7⟩, fun q => absurd q k3⟩⟩
      have e257 : ∀ i I0, i ≤ m → (i = m ∧ i ≤ lxm k ∨ i = lxm k) → lxf I I0 → I0 11 4 = nI (p + i) → I0 11 5 = nI k → I0 11 6 = nI (if k = 3 then nmC (lxw x p i) else lxn x p i) → I0 11 7 = -1 → I0 11 8 = nI p → E1 139 (D + 2) Q 257 [(0, .ref 11)] I0 J := fun i I0 him hi f0 i4 i5 i6 i7 i8 => by
        refine mj_on (s139_257 ?_)
        rw [f0 11 2 (by decide), h2, i4]
        refine if_le (by omega) (by omega) (fun c => ?_) (fun c => ?_)
        · obtain rfl : i = m := by omega
          exact e303 I0 f0 (by omega) i4 i5 i6 i7 i8
        · obtain ⟨u1, u2⟩ := ht.2 (p + i) c
          rw [nI_clamp (by omega), f0 13 (p + i) (Or.inl (by decide)), u1]
          refine ⟨vp_in_nI (by omega) (by decide), trivial, _, _, _, c_kind u2, ?_⟩
          rw [i5]
          have lk : lxk (x (p + i)) < 2 ^ 31 := by rcases lxk_rng (x (p + i)) with q | q | q <;> omega
          refine if_eq lk (by omega) (fun e => ?_) (fun e => ?_)
          · have hlt : i < m := Classical.byContradiction fun q => by
              obtain rfl : i = m := by omega
              exact r3 c e
            refine fin _ ?_
            rw [hP, i4]
            have il : i = lxm k := by omega
            refine ⟨fun q j hq => by rw [up_n (by omega), up_n (by omega)]; exact f0 q j hq, fun q => absurd q k1, fun _ q1 q2 => absurd ⟨q1, q2⟩ hna, fun _ _ _ => ⟨?_, ?_, ?_⟩, fun _ _ q => absurd q (by omega)⟩
            · rw [up_n (by decide), up_s]; rfl
            · rw [up_n (by decide), up_n (by decide)]; exact i7
            · rw [up_s, il]
          · obtain rfl : i = m := Classical.byContradiction fun q => e (r2 i (by omega))
            exact e303 I0 f0 (by omega) i4 i5 i6 i7 i8
      have lm : lxm k = 6 ∨ lxm k = 4 := by unfold lxm; split <;> omega
      have e147 : E1 139 (D + 2) Q 147 [(0, .ref 11), (3, .int (nI (lxm k)))] Ic J := by
        refine mj_on (s139_147 _ ?_)
        rw [fc 11 2 (by decide), h2, c4, nI_add]
        refine ⟨trivial, _, _, _, c_minN (by omega) (by omega), ?_⟩
        rw [c4]
        obtain ⟨N, hN⟩ : ∃ N, N = min m (lxm k) := ⟨_, rfl⟩
        have lp := lp_up (n := N) (fun i => ∀ I0, lxf I I0 → I0 11 4 = nI (p + i) → I0 11 5 = nI k → I0 11 6 = nI (if k = 3 then nmC (lxw x p i) else lxn x p i) → I0 11 7 = -1 → I0 11 8 = nI p → E1 139 (D + 2) Q 168 [(0, .ref 11), (4, .int (nI (min n (p + lxm k)))), (5, .int (nI (p + i)))] I0 J) (fun i hi ih I0 f0 i4 i5 i6 i7 i8 => ?_) 0 (Nat.zero_le _) Ic fc c4 c5 (by rw [c6]; split <;> rfl) c7 c8
        · exact lp
        refine mj_on (s139_168 _ _ ?_)
        refine if_le (by omega) (by omega) (fun c => ?_) (fun c => ?_)
        · exact e257 i I0 (by omega) (by omega) f0 i4 i5 i6 i7 i8
        · obtain ⟨u1, u2⟩ := ht.2 (p + i) (by omega)
          rw [nI_clamp (by omega), f0 13 (p + i) (Or.inl (by decide)), u1]
          have vi : vp_in (nI (p + i)) 900 := vp_in_nI (by omega) (by decide)
          refine ⟨vi, trivial, _, _, _, c_kind u2, ?_⟩
          rw [i5]
          have lk : lxk (x (p + i)) < 2 ^ 31 := by rcases lxk_rng (x (p + i)) with q | q | q <;> omega
          refine if_eq lk (by omega) (fun e => ?_) (fun e => ?_)
          · have hlt : i < m := Classical.byContradiction fun q => by
              obtain rfl : i = m := by omega
              exact r3 (by omega) e
            have hiN : i < N := by omega
            rw [f0 13 (p + i) (Or.inl (by decide)), u1, i6]
            have nx : ∀ z, z = nI (if k = 3 then nmC (lxw x p (i + 1)) else lxn x p (i + 1)) → E1 139 (D + 2) Q 243 [(0, .ref 11), (4, .int (nI (min n (p + lxm k)))), (5, .int (nI (p + i)))] (mj_up I0 11 6 z) J := fun z hz => by
              refine mj_on (s139_243 _ _ ?_)
              rw [nI_1]
              refine ih hiN _ (fun q j hq => by rw [up_n (by omega), up_n (by omega)]; exact f0 q j hq) up_s ?_ ?_ ?_ ?_
              · rw [up_n (by decide), up_n (by decide)]; exact i5
              · rw [up_n (by decide), up_s]; exact hz
              · rw [up_n (by decide), up_n (by decide)]; exact i7
              · rw [up_n (by decide), up_n (by decide)]; exact i8
            by_cases k3 : k = 3
            · rw [if_pos (show nI k = 3 by rw [k3]; rfl), if_pos k3]
              refine ⟨vi, nx _ ?_⟩
              have h3 := lxk_3.mp (e.trans k3)
              rw [if_pos k3, show (32 : Int32) = nI 32 from rfl, show (96 : Int32) = nI 96 from rfl, pk_mul, nI_add, nI_mns (by omega)]
              show _ = nI (nmC (lxw x p i) * 32 + (x (p + i) - 96))
              congr 1
              omega
            · rw [if_neg (show ¬ nI k = 3 from fun z => k3 ((nI_eq (b := 3) (by omega) (by decide)).mp z)), if_neg k3]
              refine ⟨vi, nx _ ?_⟩
              have h2 := lxk_2.mp (e.trans (show k = 2 by omega))
              rw [if_neg k3, show (10 : Int32) = nI 10 from rfl, show (48 : Int32) = nI 48 from rfl, pk_mul, nI_add, nI_mns (by omega)]
              show _ = nI (10 * lxn x p i + (x (p + i) - 48))
              congr 1
              omega
          · obtain rfl : i = m := Classical.byContradiction fun q => e (r2 i (by omega))
            exact e257 i I0 (Nat.le_refl _) (Or.inl ⟨rfl, by omega⟩) f0 i4 i5 i6 i7 i8
      refine mj_on (s139_132 ?_)
      rw [c5]
      by_cases k3 : k = 3
      · rw [if_pos (show nI k = 3 by rw [k3]; rfl)]
        have : lxm k = 6 := by rw [k3]; rfl
        rw [this] at e147
        exact e147
      · rw [if_neg (show ¬ nI k = 3 from fun z => k3 ((nI_eq (b := 3) (by omega) (by decide)).mp z))]
        have : lxm k = 4 := if_neg k3
        rw [this] at e147
        exact e147
    refine if_i (fun z => run fun q => hfl.mp z q.1) (fun z => ?_)
    refine if_eq (by omega) (by have := hs.1; omega) (fun e => ?_) (fun e => run fun q => e q.2)
    refine fin _ ?_
    rw [hP]
    have tt : t = 2 ∨ t = 3 := Classical.byContradiction fun q => z (hfl.mpr q)
    refine ⟨fun q j hq => by rw [up_n (by omega)]; exact fc q j hq, fun q => absurd q k1, fun _ _ _ => ⟨up_s, ?_, ?_⟩, fun _ q => absurd ⟨tt, e⟩ q, fun _ q => absurd ⟨tt, e⟩ q⟩
    · rw [up_n (by decide)]; exact c7
    · rw [up_n (by decide)]; exact c8
  rw [h5]
  refine if_i (fun z => go 1 ⟨fun q => absurd q (by decide), fun q => absurd (Or.inr ((nI_eq (b := 3) (by omega) (by decide)).mp z)) q⟩) (fun z3 => if_i (fun z => go 1 ⟨fun q => absurd q (by decide), fun q => absurd (Or.inl ((nI_eq (b := 2) (by omega) (by decide)).mp z)) q⟩) (fun z2 => go 0 ⟨fun _ q => ?_, fun _ => rfl⟩))
  rcases q with rfl | rfl
  · exact z2 rfl
  · exact z3 rfl
end Sa1
