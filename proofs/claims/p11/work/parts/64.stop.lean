/-! stop -/
theorem xb_nI {n i : Nat} (hi : i < 32) : xb (nI n) i = n.testBit i := by
  show (BitVec.ofNat 32 n).getLsbD i = _
  rw [BitVec.getLsbD_ofNat]
  simp [hi]
theorem tz_mask {m i : Nat} (hi : i < 32) (h1 : m.testBit i = true) (h2 : ∀ j, j < i → m.testBit j = false) : (nI m ^^^ (-1)) &&& (nI m - 1) = nI (2 ^ i - 1) := by
  obtain ⟨q, hq⟩ : ∃ q, m = 2 ^ i * (2 * q + 1) := by
    have e1 : m % 2 ^ i = 0 := by
      apply Nat.eq_of_testBit_eq
      intro j
      rw [Nat.testBit_mod_two_pow, Nat.zero_testBit]
      by_cases h : j < i
      · simp [h, h2 j h]
      · simp [h]
    have e2 : m / 2 ^ i % 2 = 1 := by
      rw [Nat.testBit_eq_decide_div_mod_eq] at h1
      exact of_decide_eq_true h1
    refine ⟨m / 2 ^ i / 2, ?_⟩
    have e3 := Nat.div_add_mod m (2 ^ i)
    have e4 := Nat.div_add_mod (m / 2 ^ i) 2
    rw [e1, Nat.add_zero] at e3
    rw [e2] at e4
    rw [e4, e3]
  have hp := Nat.two_pow_pos i
  have hm1 : 1 ≤ m := by
    rw [hq]
    exact Nat.mul_pos hp (by omega)
  have em : m - 1 = 2 ^ (i + 1) * q + (2 ^ i - 1) := by
    rw [hq, Nat.pow_succ, Nat.mul_add, Nat.mul_one, ← Nat.mul_assoc]
    omega
  have hlt : 2 ^ i - 1 < 2 ^ (i + 1) := by rw [Nat.pow_succ]; omega
  have e1 : nI m - 1 = nI (m - 1) := pk_sub (b := 1) hm1
  rw [e1]
  apply b_ext
  intro j hj
  rw [b_and, b_xor, b_m1 j hj, xb_nI hj, xb_nI hj, xb_nI hj, em, Nat.testBit_two_pow_mul_add q hlt, Nat.testBit_two_pow_sub_one]
  by_cases c : j < i
  · rw [h2 j c, if_pos (by omega)]
    simp [c]
  · by_cases e : j = i
    · rw [e, h1]
      simp
    · rw [if_neg (by omega)]
      have : m.testBit j = q.testBit (j - (i + 1)) := by
        have e5 : m = 2 ^ (i + 1) * q + 2 ^ i := by
          rw [hq, Nat.pow_succ, Nat.mul_add, Nat.mul_one, ← Nat.mul_assoc]
        rw [e5, Nat.testBit_two_pow_mul_add q (by rw [Nat.pow_succ]; omega), if_neg (by omega)]
      rw [this]
      simp [c]
section S64
variable {D b W Rn Kn Tn Hn Un g : Nat} {I I1 I2 : Nat → Nat → Int32} {J J1 J2 : Nat → Nat → Int64}
theorem pw_le : ∀ k s, k ≤ 31 → s ≤ 16 → 1 ≤ s → (nI (2 ^ k - 1) ≤ nI (2 ^ s) ↔ k ≤ s) := by
  have : ∀ k, k < 32 → ∀ s, s < 17 → 1 ≤ s → (nI (2 ^ k - 1) ≤ nI (2 ^ s) ↔ k ≤ s) := by decide +kernel
  exact fun k s h1 h2 h3 => this k (by omega) s (by omega) h3
theorem pw_sh {k s : Nat} (hk : k ≤ 31) (hs : s ≤ k) (v : Int32) (hv : ((v.toUInt32 &&& Int32.toUInt32 31).toBitVec % 32).toNat = s) : ((nI (2 ^ k - 1)).toUInt32 >>> (v.toUInt32 &&& Int32.toUInt32 31)).toInt32 = nI (2 ^ (k - s) - 1) := by
  have h1 : 2 ^ k - 1 < 2 ^ 32 := by
    have : 2 ^ k ≤ 2 ^ 31 := Nat.pow_le_pow_right (by decide) hk
    omega
  rw [pk_ushrN h1 v s hv]
  congr 1
  have : ∀ k, k < 32 → ∀ s, s < 32 → s ≤ k → (2 ^ k - 1) / 2 ^ s = 2 ^ (k - s) - 1 := by decide +kernel
  exact this k (by omega) s (by omega) hs
theorem c_tzI {m i : Nat} (hi : i < 32) (h1 : m.testBit i = true) (h2 : ∀ j, j < i → m.testBit j = false) : C1 (D + 1) 8 [.int (nI m)] I J (.int (nI i)) I J := by
  refine mj_mk (e8 _ ?_)
  rw [tz_mask hi h1 h2]
  have fin : ∀ k c : Nat, c + k = i + 1 → 1 ≤ k → k ≤ 2 → E1 8 D (fun q => q = (.int (nI i), (I, J, mj_R1))) 74 [(0, .int (nI (2 ^ k - 1))), (1, .int (nI c))] I J := by
    intro k c hc hk1 hk
    refine mj_on (s8_74 _ _ ?_)
    have e : ((nI (2 ^ k - 1)).toUInt32 >>> ((1 : Int32).toUInt32 &&& Int32.toUInt32 31)).toInt32 = nI (2 ^ (k - 1) - 1) := pw_sh (by omega) hk1 1 (by decide)
    rw [e, nI_add]
    match k, hk1, hk with
    | 1, _, _ => rw [show c + (2 ^ (1 - 1) - 1) = i by simp; omega]
    | 2, _, _ => rw [show c + (2 ^ (2 - 1) - 1) = i by simp; omega]
  have s62 : ∀ k c : Nat, c + k = i + 1 → 1 ≤ k → k ≤ 4 → E1 8 D (fun q => q = (.int (nI i), (I, J, mj_R1))) 62 [(0, .int (nI (2 ^ k - 1))), (1, .int (nI c))] I J := by
    intro k c hc hk1 hk
    refine mj_on (s8_62 _ _ ?_)
    refine if_i (fun q => fin k c hc hk1 ((pw_le k 2 (by omega) (by omega) (by omega)).mp q)) (fun q => ?_)
    have hk2 : 2 < k := Nat.lt_of_not_le fun z => q ((pw_le k 2 (by omega) (by omega) (by omega)).mpr z)
    rw [pw_sh (by omega) (show 2 ≤ k by omega) 2 (by decide), show (2 : Int32) = nI 2 from rfl, nI_add]
    exact fin (k - 2) (c + 2) (by omega) (by omega) (by omega)
  have s49 : ∀ k c : Nat, c + k = i + 1 → 1 ≤ k → k ≤ 8 → E1 8 D (fun q => q = (.int (nI i), (I, J, mj_R1))) 49 [(0, .int (nI (2 ^ k - 1))), (1, .int (nI c))] I J := by
    intro k c hc hk1 hk
    refine mj_on (s8_49 _ _ ?_)
    refine if_i (fun q => s62 k c hc hk1 ((pw_le k 4 (by omega) (by omega) (by omega)).mp q)) (fun q => ?_)
    have hk2 : 4 < k := Nat.lt_of_not_le fun z => q ((pw_le k 4 (by omega) (by omega) (by omega)).mpr z)
    rw [pw_sh (by omega) (show 4 ≤ k by omega) 4 (by decide), show (4 : Int32) = nI 4 from rfl, nI_add]
    exact s62 (k - 4) (c + 4) (by omega) (by omega) (by omega)
  have s34 : ∀ k c : Nat, c + k = i + 1 → 1 ≤ k → k ≤ 16 → E1 8 D (fun q => q = (.int (nI i), (I, J, mj_R1))) 34 [(0, .int (nI (2 ^ k - 1))), (1, .int (nI c))] I J := by
    intro k c hc hk1 hk
    refine mj_on (s8_34 _ _ ?_)
    refine if_i (fun q => s49 k c hc hk1 ((pw_le k 8 (by omega) (by omega) (by omega)).mp q)) (fun q => ?_)
    have hk2 : 8 < k := Nat.lt_of_not_le fun z => q ((pw_le k 8 (by omega) (by omega) (by omega)).mpr z)
    rw [pw_sh (by omega) (show 8 ≤ k by omega) 8 (by decide), show (8 : Int32) = nI 8 from rfl, nI_add]
    exact s49 (k - 8) (c + 8) (by omega) (by omega) (by omega)
  by_cases i0 : i = 0
  · subst i0
    rw [if_pos (show nI (2 ^ 0 - 1) ≤ 0 by decide)]
    rfl
  · have hz : ¬ nI (2 ^ i - 1) ≤ 0 := by
      have : ∀ i, i < 32 → i ≠ 0 → ¬ nI (2 ^ i - 1) ≤ 0 := by decide +kernel
      exact this i hi i0
    rw [if_neg hz]
    refine if_i (fun q => s34 i 1 (by omega) (by omega) ((pw_le i 16 (by omega) (by omega) (by omega)).mp q)) (fun q => ?_)
    have hk2 : 16 < i := Nat.lt_of_not_le fun z => q ((pw_le i 16 (by omega) (by omega) (by omega)).mpr z)
    rw [pw_sh (by omega) (show 16 ≤ i by omega) 16 (by decide), show (1 : Int32) + 16 = nI 17 from rfl]
    exact s34 (i - 16) 17 (by omega) (by omega) (by omega)
theorem lb_nat {m i : Nat} (hm : m < 2 ^ 64) (hi : i < 64) : lbit (lN m) i ↔ m.testBit i = true := by
  unfold lbit
  show (BitVec.ofNat 64 m).getLsbD i = true ↔ _
  rw [BitVec.getLsbD_ofNat]
  simp [hi]
theorem c_tzL {x : Int64} {i : Nat} (hi : i < 64) (h1 : lbit x i) (h2 : ∀ j, j < i → ¬ lbit x j) : C1 (D + 2) 7 [.long x] I J (.int (nI i)) I J := by
  obtain ⟨m, hm, rfl⟩ := wb_of x
  have t1 : m.testBit i = true := (lb_nat hm hi).mp h1
  have t2 : ∀ j, j < i → m.testBit j = false := fun j hj => by
    have := h2 j hj
    rw [lb_nat hm (by omega)] at this
    exact Bool.not_eq_true _ ▸ this
  refine mj_mk (e7 _ ?_)
  rw [lN_i]
  by_cases c : i < 32
  · have nz : ¬ nI m = 0 := fun e => by
      have := congrArg (fun y => xb y i) e
      simp only [xb_nI c, b_0, t1] at this
      cases this
    rw [if_neg nz]
    exact ⟨trivial, _, _, _, c_tzI c t1 t2, rfl⟩
  · have z : nI m = 0 := by
      apply b_ext
      intro j hj
      rw [xb_nI hj, b_0, t2 j (by omega)]
    rw [if_pos z]
    have e : ((lN m).toUInt64 >>> ((32 : Int32).toInt64.toUInt64 &&& Int64.toUInt64 63)).toInt64 = lN (m / 2 ^ 32) := wb_shr (k := 32) hm (by decide)
    rw [e, lN_i]
    refine ⟨trivial, _, _, _, c_tzI (i := i - 32) (by omega) ?_ ?_, ?_⟩
    · rw [Nat.testBit_div_two_pow, show i - 32 + 32 = i by omega]
      exact t1
    · intro j hj
      rw [Nat.testBit_div_two_pow]
      exact t2 _ (by omega)
    · rw [show (32 : Int32) = nI 32 from rfl, nI_add, show 32 + (i - 32) = i by omega]
theorem al_stop {x : Int32} (h : Rl b W Rn Kn Tn Hn Un g I1 J1 I2 J2) : AI 273 117 [.int x] I1 J1 I2 J2 (Rl b W Rn Kn Tn Hn Un g) := by
  obtain ⟨S, s1, s2, -, -⟩ := h.S
  obtain ⟨hG, g1, g2, g3, g4, g5⟩ := h.G
  obtain ⟨w1, w2, w3, w4⟩ := h.W24
  have hB := h.rB
  obtain ⟨b1, b2, b3, b4, b5, b6⟩ := id hB
  by_cases ok : ¬ x < 0 ∧ x ≤ 9999
  · obtain ⟨d, hd, rfl⟩ := nI_of2 (n := 9999) (by decide) ok.1 ok.2
    obtain ⟨P, hP⟩ : ∃ P, P = sAg I1 J1 W S := ⟨_, rfl⟩
    obtain ⟨A, hA⟩ : ∃ A, A = fl P (wl W g) := ⟨_, rfl⟩
    have hgb := hG.2
    have hdg : d * g ≤ 200000 := Nat.le_trans (Nat.mul_le_mul hd hgb) (by decide)
    -- the row that is told
    obtain ⟨T, hT⟩ : ∃ T : List (List Nat) → Nat → Prop, T = fun A u => lbit (J1 24 6) u ∧ ∀ r, r ∈ A → fbP Rn (lbit (J1 24 6)) (rwo I1 W r) (d * g : Nat) u := ⟨_, rfl⟩
    have bfr : ∀ {u}, lbit (J1 24 6) u → u < Rn := fun {u} q => by
      rw [h.2.2.2.2.1.2.2.2.2] at q
      exact ((bs_bit (by omega) u).mp q).1
    obtain ⟨v, hv1, hv2⟩ : ∃ v : Int32, (A = [] → v = -1) ∧ (A ≠ [] → v = fs (T A) (Rn - 0) 0) := by
      by_cases e : A = []
      · exact ⟨-1, fun _ => rfl, fun q => absurd e q⟩
      · exact ⟨_, fun q => absurd q e, fun _ => rfl⟩
    have cl : ∃ r I1' J1', C1 900 273 [.ref 0, .int (nI d)] I1 J1 (.int r) I1' J1' ∧ (r = v ∧ k1 I1' = k1 I1 ∧ J1' = J1) := by
      refine mj_cI (D := 899) (e273 _ ?_)
      rw [if_neg ok.1, if_pos ok.2]
      have key := lp_up (n := (wl W g).length) (fun n => ∀ I B, k1 I = k1 I1 → (∀ i, i < 64 → (lbit B i ↔ T (fl P ((wl W g).take n)) i)) → E1 273 899 (qI mj_R1 (fun r I' J' => r = v ∧ k1 I' = k1 I1 ∧ J' = J1)) 26 [(0, .ref 0), (1, .int (nI d)), (2, .int (tf (fl P ((wl W g).take n) ≠ []))), (3, .long B), (5, .int (nI n))] I J1) (fun n hn ih I B hI hB2 => ?_) 0 (Nat.zero_le _) I1 (J1 24 6) rfl (fun i hi => by
        rw [hT]
        exact ⟨fun q => ⟨q, fun r hr => by cases hr⟩, fun q => q.1⟩)
      · rw [show tf (fl P ((wl W g).take 0) ≠ []) = 0 from tf_f (fun q => q rfl)] at key
        exact key
      refine mj_on (s273_26 _ _ _ _ ?_)
      rw [k1_at hI (q := 51) (j := 2) rfl, g4, nI_1]
      refine if_le (by omega) (by omega) (fun c => ?_) (fun c => ?_)
      · rw [tk_e c] at hB2 ⊢
        rw [← hA] at hB2 ⊢
        refine if_tf (fun q => ?_) (fun q => ?_)
        · by_cases z : B = 0
          · rw [if_pos (cmp0.mpr z)]
            refine ⟨_, _, _, rfl, ?_, hI, rfl⟩
            rw [hv2 q]
            have : ∀ k i, k + i = Rn → fs (T A) k i = -1 := by
              intro k
              induction k with
              | zero => intro i _; rfl
              | succ k ih =>
                intro i hi
                have e : fs (T A) (k + 1) i = fs (T A) k (i + 1) := @if_neg _ (Classical.propDecidable _) (fun q => by
                  have := (hB2 i (by omega)).mpr q
                  rw [z] at this
                  exact absurd this (by unfold lbit; simp)) _ _ _
                rw [e]
                exact ih (i + 1) (by omega)
            exact (this Rn 0 (by omega)).symm
          · rw [if_neg (fun e => z (cmp0.mp e))]
            obtain ⟨i, hi, t1, t2⟩ : ∃ i, i < Rn ∧ T A i ∧ ∀ j, j < i → ¬ T A j := by
              have ex : ∃ i, i < 64 ∧ lbit B i := by
                refine Classical.byContradiction fun q => z (i64_ext fun i hi => ?_)
                refine ⟨fun y => absurd ⟨i, hi, y⟩ q, fun y => absurd y (by simp)⟩
              obtain ⟨i, hi, hb⟩ := ex
              have tA := (hB2 i hi).mp hb
              have : ∀ k, k ≤ i + 1 → (∃ i, i < k ∧ T A i ∧ ∀ j, j < i → ¬ T A j) ∨ ∀ j, j < k → ¬ T A j := by
                intro k
                induction k with
                | zero => exact fun _ => Or.inr fun j hj => absurd hj (Nat.not_lt_zero j)
                | succ k ih =>
                  intro hk
                  rcases ih (by omega) with ⟨u, q1, q2, q3⟩ | q
                  · exact Or.inl ⟨u, by omega, q2, q3⟩
                  · rcases Classical.em (T A k) with y | y
                    · exact Or.inl ⟨k, by omega, y, q⟩
                    · exact Or.inr fun j hj => by
                        by_cases e : j = k
                        · rw [e]; exact y
                        · exact q j (by omega)
              rcases this (i + 1) (Nat.le_refl _) with ⟨u, q1, q2, q3⟩ | q
              · have hu : lbit (J1 24 6) u := by rw [hT] at q2; exact q2.1
                exact ⟨u, bfr hu, q2, q3⟩
              · exact absurd tA (q i (by omega))
            refine ⟨trivial, _, _, _, c_tzL (D := 897) (i := i) (by omega) ((hB2 i (by omega)).mpr t1) (fun j hj y => t2 j hj ((hB2 j (by omega)).mp y)), ?_⟩
            refine ⟨_, _, _, rfl, ?_, hI, rfl⟩
            rw [hv2 q]
            have : ∀ k j, j ≤ i → k + j = Rn → fs (T A) k j = nI i := by
              intro k
              induction k with
              | zero => intro j h1 h2; omega
              | succ k ih =>
                intro j h1 h2
                by_cases e : j = i
                · subst e
                  exact @if_pos _ (Classical.propDecidable _) t1 _ _ _
                · have e : fs (T A) (k + 1) j = fs (T A) k (j + 1) := @if_neg _ (Classical.propDecidable _) (t2 j (by omega)) _ _ _
                  rw [e]
                  exact ih (j + 1) (by omega) (by omega)
            exact (this Rn 0 (Nat.zero_le _) (by omega)).symm
        · refine ⟨_, _, _, rfl, ?_, hI, rfl⟩
          rw [hv1 (Classical.byContradiction q)]
      · obtain ⟨r, hr, -, -⟩ := gt_of c
        have ih := ih c
        rw [tk_s hr] at ih
        refine ⟨trivial, _, _, _, c_isAg (D := 895) h s2 s1 hI hr, if_tf (fun f => ?_) (fun f => ?_)⟩
        · rw [← hP] at f
          rw [fl_t f] at ih
          obtain ⟨I', hc, q1, q2⟩ := c_firstBy (D := 897) h (d := d * g) hI hr hdg
          rw [k1_at hI (q := 51) (j := 0) rfl, g2, pk_mul]
          refine ⟨trivial, _, _, _, hc, ?_⟩
          have z := ih I' (B &&& fb I1 J1 W Rn (d * g : Nat) r) ((k1_28 q1).trans hI) (fun i hi => ?_)
          · rw [show tf (fl P (List.take n (wl W g)) ++ [r] ≠ []) = 1 from tf_t (by simp)] at z
            exact z
          · have e1 : lbit (B &&& fb I1 J1 W Rn (d * g : Nat) r) i ↔ lbit B i ∧ lbit (fb I1 J1 W Rn (d * g : Nat) r) i := by
              unfold lbit
              rw [Int64.toBitVec_and, BitVec.getLsbD_and, Bool.and_eq_true]
            rw [e1, hB2 i hi, hT]
            have e2 : lbit (fb I1 J1 W Rn (d * g : Nat) r) i ↔ i < Rn ∧ fbP Rn (lbit (J1 24 6)) (rwo I1 W r) (d * g : Nat) i := bs_bit (by omega) i
            rw [e2]
            constructor
            · rintro ⟨⟨q1, q2⟩, q3, q4⟩
              refine ⟨q1, fun r' hr' => ?_⟩
              rcases List.mem_append.mp hr' with z | z
              · exact q2 r' z
              · rw [List.mem_singleton.mp z]; exact q4
            · rintro ⟨q1, q2⟩
              exact ⟨⟨q1, fun r' hr' => q2 r' (List.mem_append_left _ hr')⟩, bfr q1, q2 r (List.mem_append_right _ List.mem_cons_self)⟩
        · rw [← hP] at f
          rw [fl_f f] at ih
          exact ih I B hI hB2
    have rf : ∃ r I2' J2', C2 900 117 [.ref 0, .int (nI d)] I2 J2 (.int r) I2' J2' ∧ (r = v ∧ k2 I2' = k2 I2 ∧ kJ2 J2' = kJ2 J2) := by
      obtain ⟨I', J', hc2, q1, q2, q3⟩ := r_gather (D := 892) h s2 s1
      rw [← hP, ← hA] at q3
      have hAl : A.length ≤ 455 := by rw [hA]; exact Nat.le_trans fl_len g5
      have hBI := rB_k hB q1
      have hAm : ∀ r, r ∈ A → r ∈ wl W g := fun r hr => by rw [hA] at hr; exact fl_mem hr
      refine mj_cI (D := 899) (e117 _ ?_)
      have e9 : ¬ (9999 : Int32) < nI d := Int32.not_lt.mpr ok.2
      refine ⟨trivial, _, _, _, r_is, if_tf (fun _ => ⟨trivial, _, _, _, h.rfront, trivial, _, _, hc2, ?_⟩) (fun f => absurd ⟨ok.1, e9⟩ f)⟩
      obtain ⟨Q, hQ⟩ : ∃ Q, Q = qI mj_R2 (fun r I' J' => r = v ∧ k2 I' = k2 I2 ∧ kJ2 J' = kJ2 J2) := ⟨_, rfl⟩
      rw [← hQ]
      have fin : ∀ r : Int32, r = v → Q (.int r, (I', J', mj_R2)) := fun r hr => by rw [hQ]; exact ⟨_, _, _, rfl, hr, q1, q2⟩
      refine lp_up (n := Rn) (fun u => (A ≠ [] → fs (T A) (Rn - u) u = v) → E2 117 899 Q 25 [(0, .ref 0), (1, .int (nI d)), (2, .long (J1 24 6)), (4, .int (nI u))] I' J') (fun u hu ih he => ?_) 0 (Nat.zero_le _) (fun e => (hv2 e).symm)
      refine mj_on (s117_25 _ _ _ ?_)
      rw [hBI.1, nI_clamp (by omega), hBI.2.2.2.2.1, q3.1]
      refine ⟨vp_in_nI b2 (by decide), if_le (by omega) (by omega) (fun c => fin _ ?_) (fun c => ?_)⟩
      · by_cases e : A = []
        · exact (hv1 e).symm
        · rw [← he e, fs_e c]
      refine if_le (b := 0) (by omega) (by decide) (fun z => fin _ (hv1 (List.eq_nil_of_length_eq_zero (by omega))).symm) (fun z => ?_)
      have hne : A ≠ [] := fun e => by rw [e] at z; exact absurd z (Nat.not_lt_zero _)
      have he := he hne
      -- over those that agree
      have over : ∀ n, n ≤ A.length → ∀ B : Prop, (B ↔ T (A.take n) u) → E2 117 899 Q 67 [(0, .ref 0), (1, .int (nI d)), (2, .long (J1 24 6)), (4, .int (nI u)), (5, .int (tf B)), (6, .int (nI n))] I' J' := by
        have last : ∀ B : Prop, (B ↔ T A u) → E2 117 899 Q 201 [(0, .ref 0), (1, .int (nI d)), (2, .long (J1 24 6)), (4, .int (nI u)), (5, .int (tf B))] I' J' := by
          intro B hB'
          refine mj_on (s117_201 _ _ _ _ ?_)
          rw [nI_1]
          refine if_tf (fun q => fin _ ?_) (fun q => ih c fun _ => ?_)
          · rw [← he, fs_t c (hB'.mp q)]
          · rw [← he, fs_f c (fun y => q (hB'.mpr y))]
        refine lp_up (n := A.length) (fun n => ∀ B : Prop, (B ↔ T (A.take n) u) → E2 117 899 Q 67 [(0, .ref 0), (1, .int (nI d)), (2, .long (J1 24 6)), (4, .int (nI u)), (5, .int (tf B)), (6, .int (nI n))] I' J') (fun n hn ih2 B hB' => ?_)
        refine mj_on (s117_67 _ _ _ _ _ ?_)
        rw [q3.1, ix40, nI_clamp (by omega)]
        refine if_le (by omega) (by omega) (fun f => ?_) (fun f => ?_)
        · rw [tk_e f] at hB'
          exact last B hB'
        refine if_tf (fun q => ?_) (fun q => ?_)
        · have hTu := hB'.mp q
          have hbu : lbit (J1 24 6) u := by rw [hT] at hTu; exact hTu.1
          obtain ⟨r, hr, hrA, -⟩ := gt_of f
          obtain ⟨-, wv⟩ := q3.2 n r hr
          refine ⟨vp_in_nI (by omega) (by decide), ?_⟩
          rw [wv u c hbu]
          -- the least worth
          have least := lp_up (n := Rn) (fun i => ∀ x7, (∃ o, o < Rn ∧ lbit (J1 24 6) o ∧ x7 = rwo I1 W r o) → (∀ p, p < i → lbit (J1 24 6) p → x7 ≤ rwo I1 W r p) → x7 ≤ rwo I1 W r u → E2 117 899 Q 99 [(0, .ref 0), (1, .int (nI d)), (2, .long (J1 24 6)), (4, .int (nI u)), (6, .int (nI n)), (7, .int x7), (8, .int (nI i))] I' J') (fun i hi ih3 x7 h1 h2 h3 => ?_) 0 (Nat.zero_le _) (rwo I1 W r u) ⟨u, c, hbu, rfl⟩ (fun p hp => absurd hp (Nat.not_lt_zero p)) (Int32.le_refl _)
          · exact least
          refine mj_on (s117_99 _ _ _ _ _ _ ?_)
          rw [hBI.1, nI_clamp (by omega), hBI.2.2.2.2.1, ix40, ix40, nI_clamp (by omega), nI_clamp (by omega), wv u c hbu, nI_1, nI_1, k2_at q1 (q := 0) (j := 63) rfl, hG.1, pk_mul]
          refine ⟨vp_in_nI b2 (by decide), if_le (by omega) (by omega) (fun y => ⟨vp_in_nI (by omega) (by decide), ?_⟩) (fun y => ?_)⟩
          · obtain ⟨o, o1, o2, o3⟩ := h1
            obtain ⟨zu, zu1, zu2, zu3⟩ := h.wrng (hAm r hrA) c
            obtain ⟨zo, zo1, zo2, zo3⟩ := h.wrng (hAm r hrA) o1
            have et : (x7 + nI (d * g) < rwo I1 W r u) ↔ ¬ fbP Rn (lbit (J1 24 6)) (rwo I1 W r) (d * g : Nat) u := by
              rw [o3, zo3, zu3, ← iI_nI, iI_add, Int32.lt_iff_toInt_lt, iI_toInt (by omega) (by omega), iI_toInt (by omega) (by omega)]
              constructor
              · intro q5 hp
                have := hp.2 o o1 o2
                rw [zu3, zo3, iI_toInt (by omega) (by omega), iI_toInt (by omega) (by omega)] at this
                omega
              · intro q5
                refine Int.lt_of_not_ge fun q6 => q5 ⟨hbu, fun p p1 p2 => ?_⟩
                have h7 := Int32.le_iff_toInt_le.mp (h2 p (by omega) p2)
                rw [o3, zo3, iI_toInt (by omega) (by omega)] at h7
                rw [zu3, iI_toInt (by omega) (by omega)]
                omega
            have hs : ∀ C : Prop, (C ↔ fbP Rn (lbit (J1 24 6)) (rwo I1 W r) (d * g : Nat) u) → (C ↔ T (A.take (n + 1)) u) := fun C hC => by
              rw [tk_s hr, hC, hT]
              constructor
              · intro q5
                refine ⟨hbu, fun r' hr' => ?_⟩
                rcases List.mem_append.mp hr' with z | z
                · rw [hT] at hTu; exact hTu.2 r' z
                · rw [List.mem_singleton.mp z]; exact q5
              · exact fun q5 => q5.2 r (List.mem_append_right _ List.mem_cons_self)
            refine if_i (fun q5 => ?_) (fun q5 => ?_)
            · have z := ih2 f False (hs False ⟨fun y => y.elim, fun y => et.mp q5 y⟩)
              rw [tf_f id] at z
              exact z
            · have z := ih2 f True (hs True ⟨fun _ => Classical.byContradiction fun y => q5 (et.mpr y), fun _ => trivial⟩)
              rw [tf_t trivial] at z
              exact z
          · refine if_i (fun q5 => ?_) (fun q5 => ?_)
            · have hbi := (sb_1 (by omega)).mp q5
              rw [wv i y hbi]
              refine ⟨vp_in_nI (by omega) (by decide), if_i (fun q6 => ?_) (fun q6 => ⟨vp_in_nI (by omega) (by decide), ?_⟩)⟩
              · refine ih3 y x7 h1 (fun p hp hb => ?_) h3
                by_cases e : p = i
                · rw [e]; exact q6
                · exact h2 p (by omega) hb
              · have q6 := Int32.not_le.mp q6
                refine ih3 y _ ⟨i, y, hbi, rfl⟩ (fun p hp hb => ?_) (Int32.le_trans (Int32.le_of_lt q6) h3)
                by_cases e : p = i
                · rw [e]; exact Int32.le_refl _
                · exact Int32.le_trans (Int32.le_of_lt q6) (h2 p (by omega) hb)
            · have hbi : ¬ lbit (J1 24 6) i := fun z => q5 ((sb_1 (by omega)).mpr z)
              refine ih3 y x7 h1 (fun p hp hb => ?_) h3
              by_cases e : p = i
              · rw [e] at hb; exact absurd hb hbi
              · exact h2 p (by omega) hb
        · refine last B ⟨fun y => absurd y q, fun y => absurd (hB'.mpr ?_) q⟩
          rw [hT] at y ⊢
          exact ⟨y.1, fun r hr => y.2 r (List.mem_of_mem_take hr)⟩
      have go : ∀ B : Prop, (B ↔ lbit (J1 24 6) u) → E2 117 899 Q 64 [(0, .ref 0), (1, .int (nI d)), (2, .long (J1 24 6)), (4, .int (nI u)), (5, .int (tf B))] I' J' := by
        intro B hB'
        refine mj_on (s117_64 _ _ _ _ ?_)
        refine over 0 (Nat.zero_le _) B ?_
        rw [hB', hT]
        exact ⟨fun q => ⟨q, fun r hr => by cases hr⟩, fun q => q.1⟩
      refine if_i (fun q => ?_) (fun q => ?_)
      · have z := go True ⟨fun _ => (sb_1 (by omega)).mp q, fun _ => trivial⟩
        rw [tf_t trivial] at z
        exact z
      · have z := go False ⟨fun y => y.elim, fun y => q ((sb_1 (by omega)).mpr y)⟩
        rw [tf_f id] at z
        exact z
    obtain ⟨r, I1', J1', hc, rfl, p1, rfl⟩ := cl
    obtain ⟨r, I2', J2', hc2, rfl, p2, p3⟩ := rf
    exact ⟨_, _, _, _, _, hc, hc2, Rl_same h p1 rfl p2 p3⟩
  · refine AI.same (-1) (mj_mk (D := 899) (e273 _ ?_)) (mj_mk (D := 899) (e117 _ ?_)) h
    · exact if_i (fun _ => rfl) (fun c => if_i (fun d => absurd ⟨c, d⟩ ok) (fun _ => rfl))
    · exact ⟨trivial, _, _, _, r_is, if_tf (fun f => absurd ⟨f.1, Int32.not_lt.mp f.2⟩ ok) (fun _ => rfl)⟩
end S64
