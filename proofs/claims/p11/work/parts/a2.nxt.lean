/-! the reference reads what stands next -/
theorem r_blame0 {D : Nat} {I : Nat → Nat → Int32} {J : Nat → Nat → Int64} {k p : Int32} (h : I 0 8 = 0) : C2 (D + 1) 16 [.ref 0, .int k, .int p] I J .null (mj_up (mj_up I 0 8 k) 0 9 p) J := by
  refine mj_mk (e16 _ _ ?_)
  rw [h, if_pos (by decide)]
theorem r_blame1 {D : Nat} {I : Nat → Nat → Int32} {J : Nat → Nat → Int64} {k p : Int32} (h : ¬ I 0 8 ≤ 0) : C2 (D + 1) 16 [.ref 0, .int k, .int p] I J .null I J := by
  refine mj_mk (e16 _ _ ?_)
  rw [if_neg h]
def lxg (I I' : Nat → Nat → Int32) : Prop := ∀ q j, (q ≠ 0 ∨ (j ≠ 3 ∧ j ≠ 4 ∧ j ≠ 5 ∧ j ≠ 6 ∧ j ≠ 8 ∧ j ≠ 9)) → I' q j = I q j
def lxgJ (J J' : Nat → Nat → Int64) : Prop := ∀ q j, (q ≠ 0 ∨ j ≠ 7) → J' q j = J q j
section Sa2
variable {D n a p m : Nat} {x : Nat → Nat} {I : Nat → Nat → Int32} {J : Nat → Nat → Int64}
theorem r_nxtE (ht : lxt n x I 1) (h2 : I 0 2 = nI n) (h5 : I 0 5 = nI a) (hs : lxs n x a n) : ∃ I' J', C2 (D + 1) 13 [.ref 0] I J .null I' J' ∧ lxg I I' ∧ J' = J ∧ I' 0 5 = nI n ∧ I' 0 4 = nI n ∧ I' 0 3 = nI 0 ∧ I' 0 8 = I 0 8 ∧ I' 0 9 = I 0 9 := by
  have hn := ht.1
  refine mj_cN (e13 ?_)
  rw [h5]
  refine r_skip ht h2 hs ?_
  refine mj_on (s13_41 _ ?_)
  rw [h2]
  refine if_lt (by omega) (by omega) (fun z => absurd z (by omega)) (fun _ => ⟨_, _, rfl, fun q j hq => ?_, rfl, ?_, ?_, up_s, ?_, ?_⟩)
  · rw [up_n (by omega), up_n (by omega), up_n (by omega)]
  · rw [up_n (by decide), up_s]
  · rw [up_n (by decide), up_n (by decide), up_s]
  · rw [up_n (by decide), up_n (by decide), up_n (by decide)]
  · rw [up_n (by decide), up_n (by decide), up_n (by decide)]
/-- what has been read of a word or a number -/
def lxv (k i : Nat) (x : Nat → Nat) (p : Nat) (I : Nat → Nat → Int32) (J : Nat → Nat → Int64) : Prop := (k = 2 → I 0 6 = nI (lxn x p i)) ∧ (k = 3 → J 0 7 = lN (nmR (lxw x p i)))
theorem nmR_le6 {l : List Nat} (h : ∀ a ∈ l, 1 ≤ a ∧ a ≤ 26) (h6 : l.length ≤ 6) : nmR l < 2 ^ 48 := by
  have h1 := nmR_lt h
  have h2 : 256 ^ l.length ≤ 256 ^ 6 := Nat.pow_le_pow_right (by decide) h6
  omega
theorem r_nxtT (ht : lxt n x I 1) (h2 : I 0 2 = nI n) (h5 : I 0 5 = nI a) (h8 : I 0 8 = 0) (hs : lxs n x a p) (hp : p < n) (hr : lxr n x p (lxk (x p)) m) : ∃ I' J', C2 (D + 2) 13 [.ref 0] I J .null I' J' ∧ lxg I I' ∧ lxgJ J J' ∧
    (lxk (x p) = 1 → I' 0 5 = nI (p + 1) ∧ I' 0 3 = nI 3 ∧ I' 0 6 = nI (x p) ∧ I' 0 4 = nI p ∧ I' 0 8 = 0 ∧ I' 0 9 = I 0 9) ∧
    (lxk (x p) ≠ 1 → 0 < p → lxk (x (p - 1)) ≠ 1 → I' 0 8 = nI 1 ∧ I' 0 9 = nI p) ∧
    (lxk (x p) ≠ 1 → ¬ (0 < p ∧ lxk (x (p - 1)) ≠ 1) → lxm (lxk (x p)) < m → I' 0 8 = nI 1 ∧ I' 0 9 = nI (p + lxm (lxk (x p)))) ∧
    (lxk (x p) ≠ 1 → ¬ (0 < p ∧ lxk (x (p - 1)) ≠ 1) → m ≤ lxm (lxk (x p)) → I' 0 8 = 0 ∧ I' 0 9 = I 0 9 ∧ I' 0 5 = nI (p + m) ∧ I' 0 3 = nI (4 - lxk (x p)) ∧ I' 0 4 = nI p ∧ lxv (lxk (x p)) m x p I' J') := by
  have hn := ht.1
  obtain ⟨hx, hx2⟩ := ht.2 p hp
  obtain ⟨k, hk⟩ : ∃ k, k = lxk (x p) := ⟨_, rfl⟩
  rw [← hk] at hr ⊢
  obtain ⟨r1, r2, r3⟩ := hr
  have k123 : k = 1 ∨ k = 2 ∨ k = 3 := by rw [hk]; exact lxk_rng _
  have m1 : 1 ≤ m := by
    refine Classical.byContradiction fun q => ?_
    obtain rfl : m = 0 := by omega
    exact r3 (by omega) hk.symm
  have vp : vp_in (nI p) 900 := vp_in_nI (by omega) (by decide)
  refine mj_cN (e13 ?_)
  obtain ⟨P, hP⟩ : ∃ P : (Nat → Nat → Int32) → (Nat → Nat → Int64) → Prop, P = fun I' J' => lxg I I' ∧ lxgJ J J' ∧
    (k = 1 → I' 0 5 = nI (p + 1) ∧ I' 0 3 = nI 3 ∧ I' 0 6 = nI (x p) ∧ I' 0 4 = nI p ∧ I' 0 8 = 0 ∧ I' 0 9 = I 0 9) ∧
    (k ≠ 1 → 0 < p → lxk (x (p - 1)) ≠ 1 → I' 0 8 = nI 1 ∧ I' 0 9 = nI p) ∧
    (k ≠ 1 → ¬ (0 < p ∧ lxk (x (p - 1)) ≠ 1) → lxm k < m → I' 0 8 = nI 1 ∧ I' 0 9 = nI (p + lxm k)) ∧
    (k ≠ 1 → ¬ (0 < p ∧ lxk (x (p - 1)) ≠ 1) → m ≤ lxm k → I' 0 8 = 0 ∧ I' 0 9 = I 0 9 ∧ I' 0 5 = nI (p + m) ∧ I' 0 3 = nI (4 - k) ∧ I' 0 4 = nI p ∧ lxv k m x p I' J') := ⟨_, rfl⟩
  obtain ⟨Q, hQ⟩ : ∃ Q, Q = qN mj_R2 (fun I' J' => P I' J') := ⟨_, rfl⟩
  have eQ : qN mj_R2 (fun I' J' => lxg I I' ∧ lxgJ J J' ∧
    (k = 1 → I' 0 5 = nI (p + 1) ∧ I' 0 3 = nI 3 ∧ I' 0 6 = nI (x p) ∧ I' 0 4 = nI p ∧ I' 0 8 = 0 ∧ I' 0 9 = I 0 9) ∧
    (k ≠ 1 → 0 < p → lxk (x (p - 1)) ≠ 1 → I' 0 8 = nI 1 ∧ I' 0 9 = nI p) ∧
    (k ≠ 1 → ¬ (0 < p ∧ lxk (x (p - 1)) ≠ 1) → lxm k < m → I' 0 8 = nI 1 ∧ I' 0 9 = nI (p + lxm k)) ∧
    (k ≠ 1 → ¬ (0 < p ∧ lxk (x (p - 1)) ≠ 1) → m ≤ lxm k → I' 0 8 = 0 ∧ I' 0 9 = I 0 9 ∧ I' 0 5 = nI (p + m) ∧ I' 0 3 = nI (4 - k) ∧ I' 0 4 = nI p ∧ lxv k m x p I' J')) = Q := by rw [hQ, hP]
  rw [eQ, h5]
  have fin : ∀ I' J', P I' J' → Q (.null, (I', J', mj_R2)) := fun I' J' h => by rw [hQ]; exact ⟨_, _, rfl, h⟩
  refine r_skip ht h2 hs ?_
  refine mj_on (s13_41 _ ?_)
  rw [h2, nI_clamp (by omega)]
  refine if_lt (by omega) (by omega) (fun _ => ?_) (fun z => absurd z (by omega))
  rw [hx]
  refine ⟨vp, trivial, _, _, _, r_letter hx2, vp, ?_⟩
  rw [up_n (Or.inl (by decide)), up_n (Or.inl (by decide)), up_n (Or.inl (by decide)), hx]
  refine ⟨trivial, _, _, _, r_digit hx2, ?_⟩
  rw [← hk]
  obtain ⟨Ia, hIa⟩ : ∃ Ia, Ia = mj_up (mj_up (mj_up I 0 4 (nI p)) 0 5 (nI p)) 0 3 0 := ⟨_, rfl⟩
  rw [← hIa]
  have a4 : Ia 0 4 = nI p := by rw [hIa, up_n (by decide), up_n (by decide), up_s]
  have a8 : Ia 0 8 = 0 := by rw [hIa, up_n (by decide), up_n (by decide), up_n (by decide)]; exact h8
  have a9 : Ia 0 9 = I 0 9 := by rw [hIa, up_n (by decide), up_n (by decide), up_n (by decide)]
  have fa : lxg I Ia := fun q j hq => by rw [hIa, up_n (by omega), up_n (by omega), up_n (by omega)]
  -- from 131 on, with a fault told or none
  obtain ⟨adj, hadj⟩ : ∃ adj : Prop, adj = (0 < p ∧ lxk (x (p - 1)) ≠ 1) := ⟨_, rfl⟩
  have e131 : ∀ Ib, lxg I Ib → Ib 0 4 = nI p → ((k = 1 ∨ ¬ adj) ∧ Ib 0 8 = 0 ∧ Ib 0 9 = I 0 9 ∨ adj ∧ k ≠ 1 ∧ Ib 0 8 = nI 1 ∧ Ib 0 9 = nI p) → E2 13 (D + 1) Q 131 [(0, .ref 0), (1, .int (nI p)), (2, .int (tf (k = 3))), (3, .int (tf (k = 2)))] Ib J := fun Ib fb b4 hb => by
    refine mj_on (s13_131 _ _ _ ?_)
    rw [nI_1]
    obtain ⟨Ic, hIc⟩ : ∃ Ic, Ic = mj_up (mj_up (mj_up Ib 0 6 0) 0 3 3) 0 5 (nI (p + 1)) := ⟨_, rfl⟩
    obtain ⟨Jc, hJc⟩ : ∃ Jc, Jc = mj_up J 0 7 0 := ⟨_, rfl⟩
    rw [← hIc, ← hJc]
    have c3 : Ic 0 3 = nI 3 := by rw [hIc, up_n (by decide), up_s]; rfl
    have c4 : Ic 0 4 = nI p := by rw [hIc, up_n (by decide), up_n (by decide), up_n (by decide)]; exact b4
    have c5 : Ic 0 5 = nI (p + 1) := by rw [hIc, up_s]
    have c6 : Ic 0 6 = nI 0 := by rw [hIc, up_n (by decide), up_n (by decide), up_s]; rfl
    have c8 : Ic 0 8 = Ib 0 8 := by rw [hIc, up_n (by decide), up_n (by decide), up_n (by decide)]
    have c9 : Ic 0 9 = Ib 0 9 := by rw [hIc, up_n (by decide), up_n (by decide), up_n (by decide)]
    have fc : lxg I Ic := fun q j hq => by rw [hIc, up_n (by omega), up_n (by omega), up_n (by omega)]; exact fb q j hq
    have fJ : lxgJ J Jc := fun q j hq => by rw [hJc, up_n hq]
    have j7 : Jc 0 7 = lN 0 := by rw [hJc, up_s]; rfl
    have hch : ∀ i, p + i < n → Ic 1 (p + i) = nI (x (p + i)) ∧ x (p + i) < 256 := fun i hi => by rw [fc 1 _ (Or.inl (by decide))]; exact ht.2 _ hi
    refine mj_on (s13_153 _ _ _ ?_)
    by_cases k1 : k = 1
    · rw [tf_f (show ¬ k = 3 by omega), tf_f (show ¬ k = 2 by omega), if_pos rfl, if_pos rfl, nI_clamp (by omega)]
      have hx' := (hch 0 (by omega)).1
      rw [Nat.add_zero] at hx'
      rw [hx']
      refine ⟨vp, fin _ _ ?_⟩
      rw [hP]
      rcases hb with ⟨-, b8, b9⟩ | ⟨_, q, _⟩
      · refine ⟨fun q j hq => by rw [up_n (by omega)]; exact fc q j hq, fJ, fun _ => ⟨?_, ?_, up_s, ?_, ?_, ?_⟩, fun q => absurd k1 q, fun q => absurd k1 q, fun q => absurd k1 q⟩
        · rw [up_n (by decide)]; exact c5
        · rw [up_n (by decide)]; exact c3
        · rw [up_n (by decide)]; exact c4
        · rw [up_n (by decide), c8]; exact b8
        · rw [up_n (by decide), c9]; exact b9
      · exact absurd k1 q
    -- a word or a number
    have e172 : E2 13 (D + 1) Q 172 [(0, .ref 0), (1, .int (nI p)), (2, .int (tf (k = 3))), (3, .int (tf (k = 2)))] Ic Jc := by
      refine mj_on (s13_172 _ _ _ ?_)
      have e185 : ∀ Id, Id = mj_up Ic 0 3 (nI (4 - k)) → E2 13 (D + 1) Q 185 [(0, .ref 0), (1, .int (nI p)), (2, .int (tf (k = 3))), (3, .int (tf (k = 2)))] Id Jc := fun Id hId => by
        have d3 : Id 0 3 = nI (4 - k) := by rw [hId, up_s]
        have d4 : Id 0 4 = nI p := by rw [hId, up_n (by decide)]; exact c4
        have d6 : Id 0 6 = nI 0 := by rw [hId, up_n (by decide)]; exact c6
        have d8 : Id 0 8 = Ib 0 8 := by rw [hId, up_n (by decide)]; exact c8
        have d9 : Id 0 9 = Ib 0 9 := by rw [hId, up_n (by decide)]; exact c9
        have fd : lxg I Id := fun q j hq => by rw [hId, up_n (by omega)]; exact fc q j hq
        have lm : lxm k = 6 ∨ lxm k = 4 := by unfold lxm; split <;> omega
        have e197 : E2 13 (D + 1) Q 197 [(0, .ref 0), (1, .int (nI p)), (2, .int (tf (k = 3))), (3, .int (tf (k = 2))), (4, .int (nI (lxm k)))] Id Jc := by
          refine mj_on (s13_197 _ _ _ _ ?_)
          have lp := lp_up (n := m) (fun i => ∀ I0 J0, lxg I I0 → lxgJ J J0 → I0 0 3 = nI (4 - k) → I0 0 4 = nI p → (i ≤ lxm k → lxv k i x p I0 J0) → (adj ∧ I0 0 8 = nI 1 ∧ I0 0 9 = nI p ∨ ¬ adj ∧ i ≤ lxm k ∧ I0 0 8 = 0 ∧ I0 0 9 = I 0 9 ∨ ¬ adj ∧ lxm k < i ∧ I0 0 8 = nI 1 ∧ I0 0 9 = nI (p + lxm k)) → E2 13 (D + 1) Q 200 [(0, .ref 0), (1, .int (nI (p + i))), (2, .int (tf (k = 3))), (3, .int (tf (k = 2))), (4, .int (nI (lxm k))), (5, .int (nI i))] I0 J0) (fun i hi ih I0 J0 f0 g0 i3 i4 iv ib => ?_) 0 (Nat.zero_le _) Id Jc fd fJ d3 d4 (fun _ => ⟨fun _ => d6, fun _ => j7⟩) (by
            rcases hb with ⟨q | q, b8, b9⟩ | ⟨q, -, b8, b9⟩
            · exact absurd q k1
            · exact Or.inr (Or.inl ⟨q, Nat.zero_le _, by rw [d8]; exact b8, by rw [d9]; exact b9⟩)
            · exact Or.inl ⟨q, by rw [d8]; exact b8, by rw [d9]; exact b9⟩)
          · exact lp
          refine mj_on (s13_200 _ _ _ _ _ ?_)
          rw [f0 0 2 (by decide), h2]
          have stop : i = m → Q (.null, (mj_up I0 0 5 (nI (p + i)), J0, mj_R2)) := fun e => by
            refine fin _ _ ?_
            rw [hP]
            refine ⟨fun q j hq => by rw [up_n (by omega)]; exact f0 q j hq, g0, fun q => absurd q k1, fun _ q1 q2 => ?_, fun _ q1 q2 => ?_, fun _ q1 q2 => ?_⟩
            · rw [up_n (by decide), up_n (by decide)]
              rw [hadj] at ib
              rcases ib with ⟨_, b⟩ | ⟨b, _⟩ | ⟨b, _⟩
              · exact b
              · exact absurd ⟨q1, q2⟩ b
              · exact absurd ⟨q1, q2⟩ b
            · rw [up_n (by decide), up_n (by decide)]
              rw [hadj] at ib
              rcases ib with ⟨b, _⟩ | ⟨_, b, _⟩ | ⟨_, _, b⟩
              · exact absurd b q1
              · omega
              · exact b
            · rw [hadj] at ib
              rcases ib with ⟨b, _⟩ | ⟨_, b, b8, b9⟩ | ⟨_, b, _⟩
              · exact absurd b q1
              · subst e
                refine ⟨?_, ?_, up_s, ?_, ?_, fun q => ?_, fun q => (iv b).2 q⟩
                · rw [up_n (by decide)]; exact b8
                · rw [up_n (by decide)]; exact b9
                · rw [up_n (by decide)]; exact i3
                · rw [up_n (by decide)]; exact i4
                · rw [up_n (by decide)]; exact (iv b).1 q
              · omega
          refine if_le (by omega) (by omega) (fun c => stop (by omega)) (fun c => ?_)
          obtain ⟨u1, u2⟩ := ht.2 (p + i) c
          have vi : vp_in (nI (p + i)) 900 := vp_in_nI (by omega) (by decide)
          rw [nI_clamp (by omega), f0 1 _ (Or.inl (by decide)), u1]
          have on : i < m → E2 13 (D + 1) Q 239 [(0, .ref 0), (1, .int (nI (p + i))), (2, .int (tf (k = 3))), (3, .int (tf (k = 2))), (4, .int (nI (lxm k))), (5, .int (nI i))] I0 J0 := fun him => by
            have hki := r2 i him
            have e252 : ∀ Ie, lxg I Ie → Ie 0 3 = nI (4 - k) → Ie 0 4 = nI p → (i ≤ lxm k → lxv k i x p Ie J0) → (adj ∧ Ie 0 8 = nI 1 ∧ Ie 0 9 = nI p ∨ ¬ adj ∧ i + 1 ≤ lxm k ∧ Ie 0 8 = 0 ∧ Ie 0 9 = I 0 9 ∨ ¬ adj ∧ lxm k < i + 1 ∧ Ie 0 8 = nI 1 ∧ Ie 0 9 = nI (p + lxm k)) → E2 13 (D + 1) Q 252 [(0, .ref 0), (1, .int (nI (p + i))), (2, .int (tf (k = 3))), (3, .int (tf (k = 2))), (4, .int (nI (lxm k))), (5, .int (nI i))] Ie J0 := fun Ie fe e3 e4 ev eb => by
              have e282 : ∀ If Jf, lxg I If → lxgJ J Jf → If 0 3 = nI (4 - k) → If 0 4 = nI p → (lxm k ≤ i ∨ (k = 3 ∧ lxv k (i + 1) x p If Jf) ∨ (k = 2 ∧ lxv k i x p If Jf)) → (adj ∧ If 0 8 = nI 1 ∧ If 0 9 = nI p ∨ ¬ adj ∧ i + 1 ≤ lxm k ∧ If 0 8 = 0 ∧ If 0 9 = I 0 9 ∨ ¬ adj ∧ lxm k < i + 1 ∧ If 0 8 = nI 1 ∧ If 0 9 = nI (p + lxm k)) → E2 13 (D + 1) Q 282 [(0, .ref 0), (1, .int (nI (p + i))), (2, .int (tf (k = 3))), (3, .int (tf (k = 2))), (4, .int (nI (lxm k))), (5, .int (nI i))] If Jf := fun If Jf ff gf f3 f4 fv fbl => by
                refine mj_on (s13_282 _ _ _ _ _ ?_)
                rw [nI_1, nI_1]
                refine if_le (by omega) (by omega) (fun d => ih him If Jf ff gf f3 f4 (fun q => absurd q (by omega)) fbl) (fun d => ?_)
                refine if_tf (fun k2 => ?_) (fun k2 => ?_)
                · refine ⟨vi, ?_⟩
                  rcases fv with q | ⟨q, _⟩ | ⟨_, fv⟩
                  · omega
                  · omega
                  rw [nI_clamp (by omega), ff 1 _ (Or.inl (by decide)), u1, fv.1 k2]
                  have hd := lxk_2.mp (hki.trans k2)
                  rw [show (10 : Int32) = nI 10 from rfl, show (48 : Int32) = nI 48 from rfl, pk_mul, nI_add, nI_mns (by omega)]
                  refine ih him _ Jf (fun q j hq => by rw [up_n (by omega)]; exact ff q j hq) gf (by rw [up_n (by decide)]; exact f3) (by rw [up_n (by decide)]; exact f4) (fun _ => ⟨fun _ => ?_, fun q => absurd q (by omega)⟩) ?_
                  · rw [up_s]
                    show _ = nI (10 * lxn x p i + (x (p + i) - 48))
                    congr 1
                    omega
                  · rw [up_n (by decide), up_n (by decide)]; exact fbl
                · refine ih him If Jf ff gf f3 f4 (fun _ => ?_) fbl
                  rcases fv with q | ⟨_, q⟩ | ⟨q, _⟩
                  · omega
                  · exact q
                  · exact absurd q k2
              refine mj_on (s13_252 _ _ _ _ _ ?_)
              refine if_le (by omega) (by omega) (fun d => e282 Ie J0 fe g0 e3 e4 (Or.inl d) eb) (fun d => ?_)
              refine if_tf (fun k3 => ?_) (fun k3 => e282 Ie J0 fe g0 e3 e4 (Or.inr (Or.inr ⟨by omega, ev (by omega)⟩)) eb)
              rw [nI_clamp (by omega), fe 1 _ (Or.inl (by decide)), u1, (ev (by omega)).2 k3]
              have hl := lxk_3.mp (hki.trans k3)
              have hw : ∀ z ∈ lxw x p i, 1 ≤ z ∧ z ≤ 26 := lxw_ok fun j hj => by rw [r2 j (by omega), k3]
              have h6 : i < 6 := by rw [k3] at d; exact d
              have hlt := nmR_le6 hw (by rw [lxw_len]; omega)
              have h48 := hlt
              rw [show (8 : Int32) = nI 8 from rfl, wb_shl _ (by decide), nI_toL (by omega), g_or (k := 8) (p := 2 ^ 8) rfl (by omega) (by omega)]
              refine ⟨vi, e282 Ie _ fe (fun q j hq => by rw [up_n hq]; exact g0 q j hq) e3 e4 (Or.inr (Or.inl ⟨k3, fun q => absurd q (by omega), fun _ => ?_⟩)) eb⟩
              rw [up_s]
              show _ = lN (nmR (lxw x p i) * 256 + (x (p + i) - 96 + 96))
              congr 1
              omega
            refine mj_on (s13_239 _ _ _ _ _ ?_)
            refine if_eq (by omega) (by omega) (fun e => ?_) (fun e => e252 I0 f0 i3 i4 iv ?_)
            · rcases ib with ⟨b1, b8, b9⟩ | ⟨b1, b2, b8, b9⟩ | ⟨b1, b2, _⟩
              · refine ⟨trivial, _, _, r_blame1 (by rw [b8]; decide), e252 I0 f0 i3 i4 iv (Or.inl ⟨b1, b8, b9⟩)⟩
              · refine ⟨trivial, _, _, r_blame0 b8, e252 _ (fun q j hq => by rw [up_n (by omega), up_n (by omega)]; exact f0 q j hq) (by rw [up_n (by decide), up_n (by decide)]; exact i3) (by rw [up_n (by decide), up_n (by decide)]; exact i4) (fun q => ⟨fun z => ?_, fun z => (iv q).2 z⟩) (Or.inr (Or.inr ⟨b1, by omega, ?_, ?_⟩))⟩
                · rw [up_n (by decide), up_n (by decide)]; exact (iv q).1 z
                · rw [up_n (by decide), up_s]; rfl
                · rw [up_s, e]
              · omega
            · rcases ib with b | ⟨b1, b2, b3⟩ | ⟨b1, b2, b3⟩
              · exact Or.inl b
              · exact Or.inr (Or.inl ⟨b1, by omega, b3⟩)
              · exact Or.inr (Or.inr ⟨b1, by omega, b3⟩)
          refine if_tf (fun k3 => ⟨vi, trivial, _, _, _, r_letter u2, if_tf (fun q => on (Classical.byContradiction fun z => ?_)) (fun q => stop (Classical.byContradiction fun z => ?_))⟩) (fun k3 => ⟨vi, trivial, _, _, _, r_digit u2, if_tf (fun q => on (Classical.byContradiction fun z => ?_)) (fun q => stop (Classical.byContradiction fun z => ?_))⟩)
          · obtain rfl : i = m := by omega
            exact r3 c (q.trans k3.symm)
          · exact q ((r2 i (by omega)).trans k3)
          · obtain rfl : i = m := by omega
            exact r3 c (q.trans (show 2 = k by omega))
          · exact q ((r2 i (by omega)).trans (show k = 2 by omega))
        refine mj_on (s13_185 _ _ _ ?_)
        refine if_tf (fun k3 => ?_) (fun k3 => ?_)
        · have : lxm k = 6 := by rw [k3]; rfl
          rw [this] at e197
          exact e197
        · have : lxm k = 4 := if_neg k3
          rw [this] at e197
          exact e197
      refine if_tf (fun k3 => e185 _ (by rw [k3]; rfl)) (fun k3 => e185 _ (by rw [show k = 2 by omega]; rfl))
    refine if_tf (fun _ => e172) (fun k3 => if_tf (fun _ => e172) (fun k2 => absurd k1 (by omega)))
  have none : (k = 1 ∨ ¬ adj) → E2 13 (D + 1) Q 131 [(0, .ref 0), (1, .int (nI p)), (2, .int (tf (k = 3))), (3, .int (tf (k = 2)))] Ia J := fun q => e131 Ia fa a4 (Or.inl ⟨q, a8, a9⟩)
  have e93 : k ≠ 1 → E2 13 (D + 1) Q 93 [(0, .ref 0), (1, .int (nI p)), (2, .int (tf (k = 3))), (3, .int (tf (k = 2)))] Ia J := fun k1 => by
    refine mj_on (s13_93 _ _ _ ?_)
    rw [show (0 : Int32) = nI 0 from rfl]
    refine if_le (by omega) (by decide) (fun c => none (Or.inr (by rw [hadj]; omega))) (fun c => ?_)
    obtain ⟨u1, u2⟩ := ht.2 (p - 1) (by omega)
    have vm : vp_in (nI (p - 1)) 900 := vp_in_nI (by omega) (by decide)
    rw [show (1 : Int32) = nI 1 from rfl, nI_mns (by omega), nI_clamp (by omega), fa 1 _ (Or.inl (by decide)), u1]
    have tell : lxk (x (p - 1)) ≠ 1 → E2 13 (D + 1) Q 131 [(0, .ref 0), (1, .int (nI p)), (2, .int (tf (k = 3))), (3, .int (tf (k = 2)))] (mj_up (mj_up Ia 0 8 1) 0 9 (nI p)) J := fun q => e131 _ (fun q j hq => by rw [up_n (by omega), up_n (by omega)]; exact fa q j hq) (by rw [up_n (by decide), up_n (by decide)]; exact a4) (Or.inr ⟨by rw [hadj]; exact ⟨c, q⟩, k1, by rw [up_n (by decide), up_s]; rfl, up_s⟩)
    refine ⟨vm, trivial, _, _, _, r_letter u2, if_tf (fun q => ⟨trivial, _, _, r_blame0 a8, tell (by omega)⟩) (fun q => ⟨vm, ?_⟩)⟩
    rw [fa 1 _ (Or.inl (by decide)), u1]
    refine ⟨trivial, _, _, _, r_digit u2, if_tf (fun q2 => ⟨trivial, _, _, r_blame0 a8, tell (by omega)⟩) (fun q2 => none (Or.inr ?_))⟩
    rw [hadj]
    intro z
    rcases lxk_rng (x (p - 1)) with w | w | w
    · exact z.2 w
    · exact q2 w
    · exact q w
  refine if_tf (fun k3 => e93 (by omega)) (fun k3 => if_tf (fun k2 => e93 (by omega)) (fun k2 => none (Or.inl (by omega))))
end Sa2
