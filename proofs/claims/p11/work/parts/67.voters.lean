/-! those who have a say: what they weigh, whom they put where -/
theorem upJ_s {f : Nat → Nat → Int64} {q j : Nat} {v : Int64} : mj_up f q j v q j = v := by simp [mj_up]
theorem ct_up {p : Nat → Prop} {n : Nat} : ∀ {m : Nat}, n ≤ m → (∀ i, n ≤ i → i < m → ¬ p i) → ct m p = ct n p
  | 0, h, _ => by rw [show n = 0 by omega]
  | m + 1, h, q => by
    by_cases e : n = m + 1
    · rw [e]
    · rw [ct_f (q m (by omega) (by omega))]
      exact ct_up (by omega) fun i h1 h2 => q i h1 (by omega)
theorem ct_pos {p : Nat → Prop} : ∀ {n : Nat}, 0 < ct n p ↔ ∃ i, i < n ∧ p i
  | 0 => ⟨fun h => absurd h (Nat.lt_irrefl 0), fun ⟨i, h, _⟩ => absurd h (Nat.not_lt_zero i)⟩
  | n + 1 => by
    rcases Classical.em (p n) with h | h
    · rw [ct_t h]
      exact ⟨fun _ => ⟨n, by omega, h⟩, fun _ => by omega⟩
    · rw [ct_f h, ct_pos]
      refine ⟨fun ⟨i, h1, h2⟩ => ⟨i, by omega, h2⟩, fun ⟨i, h1, h2⟩ => ⟨i, ?_, h2⟩⟩
      by_cases e : i = n
      · exact absurd (e ▸ h2) h
      · omega
def vot (I : Nat → Nat → Int32) (p : Nat) : Prop := I 60 p ≠ 0
def pwo (I : Nat → Nat → Int32) (p r : Nat) : Nat → Int32
  | 0 => 0
  | k + 1 => pwo I p r k + I 59 (4 * p + k) * I 25 (4 * r + k)
def cnd (J : Nat → Nat → Int64) : Nat → Int64
  | 0 => J 24 6
  | k + 1 => cnd J k &&& (J 61 k ^^^ (-1))
def aP (I : Nat → Nat → Int32) (W p o u : Nat) : Prop := pwo I p o W < pwo I p u W ∨ (pwo I p o W = pwo I p u W ∧ o < u)
noncomputable def vN (I : Nat → Nat → Int32) : Nat := ct 6 (vot I)
def wn (I : Nat → Nat → Int32) (W o u : Nat) : Prop := vN I < 2 * ct 6 (fun p => vot I p ∧ aP I W p o u)
noncomputable def rk (I : Nat → Nat → Int32) (W Rn : Nat) (C : Int64) (p u : Nat) : Nat := ct Rn (fun o => lbit C o ∧ aP I W p o u)
theorem cnd_bit {J : Nat → Nat → Int64} {i : Nat} : ∀ {k : Nat}, lbit (cnd J k) i → lbit (J 24 6) i
  | 0, h => h
  | k + 1, h => by
    refine cnd_bit (k := k) ?_
    unfold lbit cnd at h
    rw [Int64.toBitVec_and, BitVec.getLsbD_and, Bool.and_eq_true] at h
    exact h.1
section S67
variable {D b W Rn Kn Tn Hn Un g : Nat} {I I1 I2 : Nat → Nat → Int32} {J J1 J2 : Nat → Nat → Int64}
theorem Rl.cbit (h : Rl b W Rn Kn Tn Hn Un g I1 J1 I2 J2) {i : Nat} (q : lbit (cnd J1 6) i) : i < Rn := by
  have q := cnd_bit q
  rw [h.2.2.2.2.1.2.2.2.2] at q
  exact ((bs_bit (by have := h.rB.2.2.2.2.2; omega) i).mp q).1
theorem Rl.vw (h : Rl b W Rn Kn Tn Hn Un g I1 J1 I2 J2) {p : Nat} (hp : p < 6) : (I1 60 p = 0 ∨ I1 60 p = 1) ∧ (vot I1 p ↔ ∃ w, w < 4 ∧ I2 48 (4 * p + w) ≠ nI 0) ∧ (vot I1 p → ∀ w, w < 4 → I1 59 (4 * p + w) = I2 48 (4 * p + w)) ∧ ∀ w, w < 4 → ∃ x, x ≤ 9 ∧ I2 48 (4 * p + w) = nI x := by
  obtain ⟨o1, o2, o3⟩ := h.2.2.2.2.2.2.2.2.2.1 p hp
  have o4 : ∀ w, w < 4 → ∃ x, x ≤ 9 ∧ I2 48 (4 * p + w) = nI x := fun w hw => by
    obtain ⟨x, q1, q2, -⟩ := o2 w hw
    exact ⟨x, q1, q2⟩
  rcases o3 with ⟨y1, y2⟩ | ⟨y1, y2, y3⟩
  · exact ⟨Or.inl y1, ⟨fun q => absurd y1 q, fun ⟨w, hw, q⟩ => absurd (y2 w hw) q⟩, fun q => absurd y1 q, o4⟩
  · exact ⟨Or.inr y1, ⟨fun _ => y3, fun _ => by unfold vot; rw [y1]; decide⟩, fun _ => y2, o4⟩
theorem Rl.prng (h : Rl b W Rn Kn Tn Hn Un g I1 J1 I2 J2) {p r : Nat} (hp : p < 6) (hv : vot I1 p) (hr : r < Rn) : ∀ k, k ≤ W → ∃ z : Int, -(89991 * (k : Int)) ≤ z ∧ z ≤ 89991 * (k : Int) ∧ pwo I1 p r k = iI z
  | 0, _ => ⟨0, by omega, by omega, rfl⟩
  | k + 1, hk => by
    obtain ⟨z, z1, z2, z3⟩ := h.prng hp hv hr k (by omega)
    obtain ⟨y, y1, y2, y3⟩ := h.lrng hr (w := k) (by omega)
    have b4 := h.rB.2.2.2.1
    obtain ⟨-, -, q3, q4⟩ := h.vw hp
    obtain ⟨x, x1, x2⟩ := q4 k (by omega)
    refine ⟨z + x * y, ?_, ?_, ?_⟩
    · have : -(9 * 9999 : Int) ≤ x * y := by
        have e1 : (x : Int) * y ≥ x * (-9999) := Int.mul_le_mul_of_nonneg_left y1 (by omega)
        omega
      rw [Int.natCast_add, Int.mul_add]
      omega
    · have : x * y ≤ (9 * 9999 : Int) := by
        have e1 : (x : Int) * y ≤ x * 9999 := Int.mul_le_mul_of_nonneg_left y2 (by omega)
        omega
      rw [Int.natCast_add, Int.mul_add]
      omega
    · show pwo I1 p r k + I1 59 (4 * p + k) * I1 25 (4 * r + k) = _
      rw [z3, y3, q3 hv k (by omega), x2, ← iI_nI, iI_mul, iI_add]
theorem Rl.acmp (h : Rl b W Rn Kn Tn Hn Un g I1 J1 I2 J2) {p o u : Nat} (hp : p < 6) (hv : vot I1 p) (ho : o < Rn) (hu : u < Rn) : (pwo I1 p o W - pwo I1 p u W < 0 ↔ pwo I1 p o W < pwo I1 p u W) ∧ (pwo I1 p o W - pwo I1 p u W = 0 ↔ pwo I1 p o W = pwo I1 p u W) := by
  have b4 := h.rB.2.2.2.1
  obtain ⟨z, z1, z2, z3⟩ := h.prng hp hv ho W (Nat.le_refl _)
  obtain ⟨y, y1, y2, y3⟩ := h.prng hp hv hu W (Nat.le_refl _)
  have hW : (W : Int) ≤ 4 := by omega
  rw [z3, y3, iI_sub]
  constructor
  · rw [Int32.lt_iff_toInt_lt, Int32.lt_iff_toInt_lt, iI_toInt (by omega) (by omega), iI_toInt (by omega) (by omega), iI_toInt (by omega) (by omega)]
    show z - y < 0 ↔ _
    omega
  · rw [show (0 : Int32) = iI 0 from rfl, ← Int32.toInt_inj, ← Int32.toInt_inj, iI_toInt (by omega) (by omega), iI_toInt (by omega) (by omega), iI_toInt (by omega) (by omega), iI_toInt (by omega) (by omega)]
    omega
/-- what the class has gathered -/
def gat (I1 : Nat → Nat → Int32) (J1 : Nat → Nat → Int64) (W Rn n : Nat) (I : Nat → Nat → Int32) (J : Nat → Nat → Int64) : Prop := k1 I = k1 I1 ∧ kJ1 J = kJ1 J1 ∧ I 58 4 = nI (ct n (vot I1)) ∧ J 58 5 = cnd J1 n ∧ ∀ p, p < n → vot I1 p → ∀ r, r < Rn → I 62 (40 * p + r) = pwo I1 p r W
theorem c_weighAll (h : Rl b W Rn Kn Tn Hn Un g I1 J1 I2 J2) {p : Nat} (hp : p < 6) (hk : k1 I = k1 I1) : ∃ I' J', C1 (D + 1) 280 [.ref 58, .int (nI p), .ref 24] I J .null I' J' ∧ J' = J ∧ (∀ q, q ≠ 62 → I' q = I q) ∧ (∀ j, j < 40 * p → I' 62 j = I 62 j) ∧ ∀ r, r < Rn → I' 62 (40 * p + r) = pwo I1 p r W := by
  obtain ⟨w1, w2, w3, w4⟩ := h.W24
  refine mj_cN (e280 _ ?_)
  refine lp_up (n := Rn) (fun r => ∀ I', (∀ q, q ≠ 62 → I' q = I q) → (∀ j, j < 40 * p → I' 62 j = I 62 j) → (∀ o, o < r → I' 62 (40 * p + o) = pwo I1 p o W) → E1 280 D (qN mj_R1 (fun I' J' => J' = J ∧ (∀ q, q ≠ 62 → I' q = I q) ∧ (∀ j, j < 40 * p → I' 62 j = I 62 j) ∧ ∀ r, r < Rn → I' 62 (40 * p + r) = pwo I1 p r W)) 2 [(0, .ref 58), (1, .int (nI p)), (2, .ref 24), (3, .int (nI r))] I' J) (fun r hr ih I' q1 q2 q3 => ?_) 0 (Nat.zero_le _) I (fun _ _ => rfl) (fun _ _ => rfl) (fun o ho => absurd ho (Nat.not_lt_zero o))
  refine mj_on (s280_2 _ _ ?_)
  have hI' : k1 I' = k1 I1 := by
    rw [← hk]
    funext q j
    unfold k1
    by_cases e : q = 62
    · rw [e]; rfl
    · rw [q1 q e]
  rw [k1_at hI' (q := 24) (j := 0) rfl, w1]
  refine if_le (by omega) (by omega) (fun c => ⟨_, _, rfl, rfl, q1, q2, fun o ho => q3 o (by omega)⟩) (fun c => ?_)
  refine lp_up (n := W) (fun k => E1 280 D (qN mj_R1 (fun I' J' => J' = J ∧ (∀ q, q ≠ 62 → I' q = I q) ∧ (∀ j, j < 40 * p → I' 62 j = I 62 j) ∧ ∀ r, r < Rn → I' 62 (40 * p + r) = pwo I1 p r W)) 16 [(0, .ref 58), (1, .int (nI p)), (2, .ref 24), (3, .int (nI r)), (4, .int (pwo I1 p r k)), (5, .int (nI k))] I' J) (fun k hk2 ih2 => ?_) 0 (Nat.zero_le _)
  refine mj_on (s280_16 _ _ _ _ ?_)
  rw [k1_at hI' (q := 24) (j := 1) rfl, w3, show nI p * (40 : Int32) = nI (40 * p) from (pk_mul p 40).trans (by rw [Nat.mul_comm]), nI_add, nI_1, ix4, ix4, nI_1, nI_clamp (by omega), nI_clamp (by omega), nI_clamp (by omega), k1_at hI' (q := 59) rfl, k1_at hI' (q := 25) rfl]
  refine if_le (by omega) (by omega) (fun d => ⟨vp_in_nI (by omega) (by decide), ?_⟩) (fun d => ⟨vp_in_nI (by omega) (by decide), vp_in_nI (by omega) (by decide), ih2 d⟩)
  obtain rfl : k = W := by omega
  refine ih c _ (fun q hq => by rw [up_c hq]; exact q1 q hq) (fun j hj => by rw [up_j (by omega)]; exact q2 j hj) (fun o ho => ?_)
  by_cases e : o = r
  · rw [e, up_s]
  · rw [up_j (by omega)]; exact q3 o (by omega)
theorem c_gatherP (h : Rl b W Rn Kn Tn Hn Un g I1 J1 I2 J2) : ∃ r I' J', C1 (D + 2) 279 [.ref 58, .ref 24] I1 J1 (.int r) I' J' ∧ r = tf (0 < vN I1) ∧ gat I1 J1 W Rn 6 I' J' := by
  refine mj_cI (e279 ?_)
  have hR := h.rB.2.2.2.2.2
  refine lp_up (n := 6) (fun i => ∀ I J, gat I1 J1 W Rn i I J → E1 279 (D + 1) (qI mj_R1 (fun r I' J' => r = tf (0 < vN I1) ∧ gat I1 J1 W Rn 6 I' J')) 15 [(0, .ref 58), (1, .ref 24), (2, .int (nI i))] I J) (fun i hi ih I J hg => ?_) 0 (Nat.zero_le _) _ _ ⟨by rw [k1_up rfl], by rw [kJ1_up rfl], by rw [up_s]; rfl, upJ_s, fun p hp => absurd hp (Nat.not_lt_zero p)⟩
  obtain ⟨g1, g2, g3, g4, g5⟩ := id hg
  refine mj_on (s279_15 _ ?_)
  rw [nI_1, nI_clamp (by omega), show (6 : Int32) = nI 6 from rfl]
  refine if_le (by omega) (by omega) (fun c => ?_) (fun c => ⟨vp_in_nI (by omega) (by decide), vp_in_nI (by omega) (by decide), ?_⟩)
  · obtain rfl : i = 6 := by omega
    have hv : ct 6 (vot I1) ≤ 6 := ct_le
    rw [g3]
    refine if_le (b := 0) (by omega) (by decide) (fun d => ⟨Or.inl rfl, _, _, _, rfl, ?_, hg⟩) (fun d => ⟨Or.inr rfl, _, _, _, rfl, ?_, hg⟩)
    · rw [tf_f]
      intro q
      exact absurd d (Nat.not_le.mpr q)
    · rw [tf_t]
      exact d
  rw [k1_at g1 (q := 60) rfl, kJ1_at g2 (q := 61) rfl, g4, g3]
  have eJ : kJ1 (mj_up J 58 5 (cnd J1 i &&& (J1 61 i ^^^ (-1)))) = kJ1 J1 := by rw [kJ1_up rfl]; exact g2
  have eC : mj_up J 58 5 (cnd J1 i &&& (J1 61 i ^^^ (-1))) 58 5 = cnd J1 (i + 1) := upJ_s
  refine if_i (fun d => ih c _ _ ⟨g1, eJ, ?_, eC, fun p hp hv r hr => ?_⟩) (fun d => ?_)
  · rw [g3, ct_f (fun q => q d)]
  · by_cases e : p = i
    · rw [e] at hv; exact absurd d hv
    · exact g5 p (by omega) hv r hr
  · have hk : k1 (mj_up I 58 4 (nI (ct i (vot I1)) + 1)) = k1 I1 := by rw [k1_up rfl]; exact g1
    obtain ⟨I', J', hc, hJ', q1, q2, q3⟩ := c_weighAll (D := D) (J := mj_up J 58 5 (cnd J1 i &&& (J1 61 i ^^^ (-1)))) h c hk
    subst hJ'
    refine ⟨trivial, _, _, hc, ih c _ _ ⟨?_, eJ, ?_, eC, fun p hp hv r hr => ?_⟩⟩
    · rw [← hk]
      funext q j
      unfold k1
      by_cases e : q = 62
      · rw [e]; rfl
      · rw [q1 q e]
    · rw [q1 58 (by decide), up_s, nI_1, ct_t d]
    · by_cases e : p = i
      · rw [e]; exact q3 r hr
      · rw [q2 _ (by omega), up_c (by decide)]; exact g5 p (by omega) hv r hr
theorem c_aheadP (h : Rl b W Rn Kn Tn Hn Un g I1 J1 I2 J2) (hg : gat I1 J1 W Rn 6 I J) {p o u : Nat} (hp : p < 6) (hv : vot I1 p) (ho : o < Rn) (hu : u < Rn) : C1 (D + 1) 284 [.ref 58, .int (nI p), .int (nI o), .int (nI u)] I J (.int (tf (aP I1 W p o u))) I J := by
  obtain ⟨g1, g2, g3, g4, g5⟩ := id hg
  have hR := h.rB.2.2.2.2.2
  obtain ⟨q1, q2⟩ := h.acmp hp hv ho hu
  refine mj_mk (e284 _ _ _ ?_)
  rw [show nI p * (40 : Int32) = nI (40 * p) from (pk_mul p 40).trans (by rw [Nat.mul_comm]), nI_add, nI_add, nI_clamp (by omega), nI_clamp (by omega), g5 p hp hv o ho, g5 p hp hv u hu]
  refine ⟨vp_in_nI (by omega) (by decide), vp_in_nI (by omega) (by decide), if_i (fun c => mzT (Or.inl (q1.mp c))) (fun c => if_i (fun d => if_le (by omega) (by omega) (fun f => mzF ?_) (fun f => mzT (Or.inr ⟨q2.mp d, f⟩))) (fun d => mzF ?_))⟩
  · rintro (z | z)
    · exact c (q1.mpr z)
    · exact absurd z.2 (by omega)
  · rintro (z | z)
    · exact c (q1.mpr z)
    · exact d (q2.mpr z.1)
theorem c_most (h : Rl b W Rn Kn Tn Hn Un g I1 J1 I2 J2) (hg : gat I1 J1 W Rn 6 I J) {o u : Nat} (ho : o < Rn) (hu : u < Rn) : C1 (D + 2) 283 [.ref 58, .int (nI o), .int (nI u)] I J (.int (tf (wn I1 W o u))) I J := by
  obtain ⟨g1, g2, g3, g4, g5⟩ := id hg
  have hR := h.rB.2.2.2.2.2
  have hv : ct 6 (vot I1) ≤ 6 := ct_le
  refine mj_mk (e283 _ _ ?_)
  refine lp_up (n := 6) (fun i => E1 283 (D + 1) (fun q => q = (.int (tf (wn I1 W o u)), (I, J, mj_R1))) 5 [(0, .ref 58), (1, .int (nI o)), (2, .int (nI u)), (3, .int (nI (ct i (fun p => vot I1 p ∧ aP I1 W p o u)))), (4, .int (nI i))] I J) (fun i hi ih => ?_) 0 (Nat.zero_le _)
  have hl : ct i (fun p => vot I1 p ∧ aP I1 W p o u) ≤ i := ct_le
  refine mj_on (s283_5 _ _ _ _ ?_)
  rw [nI_1, nI_1, nI_clamp (by omega), show (6 : Int32) = nI 6 from rfl, show (2 : Int32) = nI 2 from rfl, pk_mul, g3, k1_at g1 (q := 60) rfl]
  refine if_le (by omega) (by omega) (fun c => ?_) (fun c => ⟨vp_in_nI (by omega) (by decide), if_i (fun d => ?_) (fun d => ?_)⟩)
  · obtain rfl : i = 6 := by omega
    refine if_le (by omega) (by omega) (fun d => mzF fun q => ?_) (fun d => mzT d)
    exact absurd d (Nat.not_le.mpr q)
  · have z := ih c
    rw [ct_f (fun q => q.1 d)] at z
    exact z
  · refine ⟨trivial, _, _, _, c_aheadP h hg c d ho hu, if_tf (fun f => ?_) (fun f => ?_)⟩
    · have z := ih c
      rw [ct_t ⟨d, f⟩] at z
      exact z
    · have z := ih c
      rw [ct_f (fun q => f q.2)] at z
      exact z
theorem c_rank (h : Rl b W Rn Kn Tn Hn Un g I1 J1 I2 J2) (hg : gat I1 J1 W Rn 6 I J) {p u : Nat} {C : Int64} (hC : ∀ i, lbit C i → i < Rn) (hp : p < 6) (hv : vot I1 p) (hu : u < Rn) : C1 (D + 2) 286 [.ref 58, .int (nI p), .int (nI u), .long C] I J (.int (nI (rk I1 W Rn C p u))) I J := by
  have hR := h.rB.2.2.2.2.2
  have e40 : rk I1 W Rn C p u = ct 40 (fun o => lbit C o ∧ aP I1 W p o u) := (ct_up (by omega) fun i q1 q2 q3 => by have := hC i q3.1; omega).symm
  rw [e40]
  refine mj_mk (e286 _ _ _ ?_)
  refine lp_up (n := 40) (fun i => E1 286 (D + 1) (fun q => q = (.int (nI (ct 40 (fun o => lbit C o ∧ aP I1 W p o u))), (I, J, mj_R1))) 6 [(0, .ref 58), (1, .int (nI p)), (2, .int (nI u)), (3, .long C), (5, .int (nI (ct i (fun o => lbit C o ∧ aP I1 W p o u)))), (6, .int (nI i))] I J) (fun i hi ih => ?_) 0 (Nat.zero_le _)
  refine mj_on (s286_6 _ _ _ _ _ ?_)
  rw [nI_1, nI_1, show (40 : Int32) = nI 40 from rfl]
  refine if_le (by omega) (by omega) (fun c => ?_) (fun c => ⟨trivial, _, _, _, c_isIn (by omega), if_tf (fun d => ?_) (fun d => ?_)⟩)
  · obtain rfl : i = 40 := by omega
    rfl
  · refine ⟨trivial, _, _, _, c_aheadP h hg hp hv (hC i d) hu, if_tf (fun f => ?_) (fun f => ?_)⟩
    · have z := ih c
      rw [ct_t (n := i) ⟨d, f⟩] at z
      exact z
    · have z := ih c
      rw [ct_f (n := i) (fun q => f q.2)] at z
      exact z
  · have z := ih c
    rw [ct_f (n := i) (fun q => d q.1)] at z
    exact z
-- the reference
theorem r_votes (h : Rl b W Rn Kn Tn Hn Un g I1 J1 I2 J2) {p : Nat} (hp : p < 6) : C2 (D + 1) 123 [.ref 0, .int (nI p)] I2 J2 (.int (tf (vot I1 p))) I2 J2 := by
  obtain ⟨-, q2, -, q4⟩ := h.vw hp
  obtain ⟨x0, a0, e0⟩ := q4 0 (by decide)
  obtain ⟨x1, a1, e1⟩ := q4 1 (by decide)
  obtain ⟨x2, a2, e2⟩ := q4 2 (by decide)
  obtain ⟨x3, a3, e3⟩ := q4 3 (by decide)
  refine mj_mk (e123 _ ?_)
  rw [show (4 : Int32) * nI p = nI (4 * p) from pk_mul 4 p, show (1 : Int32) = nI 1 from rfl, show (2 : Int32) = nI 2 from rfl, show (3 : Int32) = nI 3 from rfl, nI_add, nI_add, nI_add, nI_clamp (by omega), nI_clamp (by omega), nI_clamp (by omega), nI_clamp (by omega), e1, e2, e3]
  rw [show I2 48 (4 * p) = nI x0 from e0, nI_add, nI_add, nI_add]
  refine ⟨vp_in_nI (by omega) (by decide), vp_in_nI (by omega) (by decide), vp_in_nI (by omega) (by decide), vp_in_nI (by omega) (by decide), if_le (b := 0) (by omega) (by decide) (fun c => ?_) (fun c => ?_)⟩
  · refine mzF fun q => ?_
    obtain ⟨w, hw, y⟩ := q2.mp q
    rcases (by omega : w = 0 ∨ w = 1 ∨ w = 2 ∨ w = 3) with rfl | rfl | rfl | rfl
    · rw [e0] at y; exact y (by rw [show x0 = 0 by omega])
    · rw [e1] at y; exact y (by rw [show x1 = 0 by omega])
    · rw [e2] at y; exact y (by rw [show x2 = 0 by omega])
    · rw [e3] at y; exact y (by rw [show x3 = 0 by omega])
  · refine mzT (q2.mpr (Classical.byContradiction fun q => ?_))
    have z : ∀ w, w < 4 → I2 48 (4 * p + w) = nI 0 := fun w hw => Classical.byContradiction fun y => q ⟨w, hw, y⟩
    have z0 := z 0 (by decide)
    have z1 := z 1 (by decide)
    have z2 := z 2 (by decide)
    have z3 := z 3 (by decide)
    rw [e0, nI_eq (by omega) (by decide)] at z0
    rw [e1, nI_eq (by omega) (by decide)] at z1
    rw [e2, nI_eq (by omega) (by decide)] at z2
    rw [e3, nI_eq (by omega) (by decide)] at z3
    omega
theorem r_voters (h : Rl b W Rn Kn Tn Hn Un g I1 J1 I2 J2) : C2 (D + 2) 122 [.ref 0] I2 J2 (.int (nI (vN I1))) I2 J2 := by
  refine mj_mk (e122 ?_)
  refine lp_up (n := 6) (fun i => E2 122 (D + 1) (fun q => q = (.int (nI (vN I1)), (I2, J2, mj_R2))) 4 [(0, .ref 0), (1, .int (nI (ct i (vot I1)))), (2, .int (nI i))] I2 J2) (fun i hi ih => ?_) 0 (Nat.zero_le _)
  refine mj_on (s122_4 _ _ ?_)
  rw [nI_1, nI_1, show (6 : Int32) = nI 6 from rfl, show (0 : Int32) = nI 0 from rfl, nI_add, Nat.add_zero]
  refine if_le (by omega) (by omega) (fun c => ?_) (fun c => ⟨trivial, _, _, _, r_votes h c, if_tf (fun d => ?_) (fun d => ?_)⟩)
  · obtain rfl : i = 6 := by omega
    rfl
  · have z := ih c
    rw [ct_t d] at z
    exact z
  · have z := ih c
    rw [ct_f d] at z
    exact z
theorem r_cand (h : Rl b W Rn Kn Tn Hn Un g I1 J1 I2 J2) : C2 (D + 5) 124 [.ref 0] I2 J2 (.long (cnd J1 6)) I2 J2 := by
  refine mj_mk (e124 ?_)
  refine ⟨trivial, _, _, _, h.rfront, ?_⟩
  refine lp_up (n := 6) (fun i => E2 124 (D + 4) (fun q => q = (.long (cnd J1 6), (I2, J2, mj_R2))) 7 [(0, .ref 0), (1, .long (cnd J1 i)), (3, .int (nI i))] I2 J2) (fun i hi ih => ?_) 0 (Nat.zero_le _)
  refine mj_on (s124_7 _ _ ?_)
  rw [nI_1, nI_clamp (by omega), show (6 : Int32) = nI 6 from rfl]
  refine if_le (by omega) (by omega) (fun c => ?_) (fun c => ⟨vp_in_nI (by omega) (by decide), ?_⟩)
  · obtain rfl : i = 6 := by omega
    rfl
  · rw [(h.2.2.2.2.2.2.2.2.2.1 i c).1]
    exact ih c
theorem r_pw (h : Rl b W Rn Kn Tn Hn Un g I1 J1 I2 J2) {p r : Nat} (hp : p < 6) (hv : vot I1 p) (hr : r < Rn) : C2 (D + 3) 129 [.ref 0, .int (nI p), .int (nI r)] I2 J2 (.int (pwo I1 p r W)) I2 J2 := by
  have hB := h.rB
  obtain ⟨b1, b2, b3, b4, b5, b6⟩ := id hB
  obtain ⟨-, -, q3, -⟩ := h.vw hp
  refine mj_mk (e129 _ _ ?_)
  refine lp_up (n := W) (fun k => E2 129 (D + 2) (fun q => q = (.int (pwo I1 p r W), (I2, J2, mj_R2))) 5 [(0, .ref 0), (1, .int (nI p)), (2, .int (nI r)), (3, .int (pwo I1 p r k)), (4, .int (nI k))] I2 J2) (fun k hk ih => ?_) 0 (Nat.zero_le _)
  refine mj_on (s129_5 _ _ _ _ ?_)
  rw [b1, nI_clamp (by omega), b3, nI_1, show (4 : Int32) * nI p = nI (4 * p) from pk_mul 4 p, nI_add, nI_clamp (by omega)]
  refine ⟨vp_in_nI b2 (by decide), if_le (by omega) (by omega) (fun c => ?_) (fun c => ⟨vp_in_nI (by omega) (by decide), trivial, _, _, _, r_rowLoss hB (by omega) c, ?_⟩)⟩
  · obtain rfl : k = W := by omega
    rfl
  · rw [h.ls hr c, ← q3 hv k (by omega)]
    exact ih c
theorem r_before (h : Rl b W Rn Kn Tn Hn Un g I1 J1 I2 J2) {p o u : Nat} (hp : p < 6) (hv : vot I1 p) (ho : o < Rn) (hu : u < Rn) : C2 (D + 4) 128 [.ref 0, .int (nI p), .int (nI o), .int (nI u)] I2 J2 (.int (tf (aP I1 W p o u))) I2 J2 := by
  have hR := h.rB.2.2.2.2.2
  refine mj_mk (e128 _ _ _ ?_)
  refine ⟨trivial, _, _, _, r_pw h hp hv ho, trivial, _, _, _, r_pw h hp hv hu, if_i (fun c => mzT (Or.inl c)) (fun c => if_i (fun d => if_le (by omega) (by omega) (fun f => mzF ?_) (fun f => mzT (Or.inr ⟨d, f⟩))) (fun d => mzF ?_))⟩
  · rintro (z | z)
    · exact c z
    · exact absurd z.2 (by omega)
  · rintro (z | z)
    · exact c z
    · exact d z.1
theorem r_wins (h : Rl b W Rn Kn Tn Hn Un g I1 J1 I2 J2) {o u : Nat} (ho : o < Rn) (hu : u < Rn) : C2 (D + 5) 130 [.ref 0, .int (nI o), .int (nI u)] I2 J2 (.int (tf (wn I1 W o u))) I2 J2 := by
  have hvN : vN I1 ≤ 6 := ct_le
  refine mj_mk (e130 _ _ ?_)
  refine lp_up (n := 6) (fun i => E2 130 (D + 4) (fun q => q = (.int (tf (wn I1 W o u)), (I2, J2, mj_R2))) 5 [(0, .ref 0), (1, .int (nI o)), (2, .int (nI u)), (3, .int (nI (ct i (fun p => vot I1 p ∧ aP I1 W p o u)))), (4, .int (nI i))] I2 J2) (fun i hi ih => ?_) 0 (Nat.zero_le _)
  have hl : ct i (fun p => vot I1 p ∧ aP I1 W p o u) ≤ i := ct_le
  refine mj_on (s130_5 _ _ _ _ ?_)
  rw [nI_1, nI_1, show (6 : Int32) = nI 6 from rfl, show (2 : Int32) = nI 2 from rfl, pk_mul, show (0 : Int32) = nI 0 from rfl, nI_add, Nat.add_zero]
  refine if_le (by omega) (by omega) (fun c => ?_) (fun c => ⟨trivial, _, _, _, r_votes h c, if_tf (fun d => ?_) (fun d => ?_)⟩)
  · obtain rfl : i = 6 := by omega
    refine ⟨trivial, _, _, _, r_voters h, if_le (by omega) (by omega) (fun d => mzF fun q => ?_) (fun d => mzT d)⟩
    exact absurd d (Nat.not_le.mpr q)
  · refine ⟨trivial, _, _, _, r_before h c d ho hu, if_tf (fun f => ?_) (fun f => ?_)⟩
    · have z := ih c
      rw [ct_t ⟨d, f⟩] at z
      exact z
    · have z := ih c
      rw [ct_f (fun q => f q.2)] at z
      exact z
  · have z := ih c
    rw [ct_f (fun q => d q.1)] at z
    exact z
theorem r_place (h : Rl b W Rn Kn Tn Hn Un g I1 J1 I2 J2) {p u : Nat} {C : Int64} (hp : p < 6) (hv : vot I1 p) (hu : u < Rn) : C2 (D + 5) 127 [.ref 0, .int (nI p), .int (nI u), .long C] I2 J2 (.int (nI (rk I1 W Rn C p u))) I2 J2 := by
  obtain ⟨b1, b2, b3, b4, b5, b6⟩ := h.rB
  refine mj_mk (e127 _ _ _ ?_)
  refine lp_up (n := Rn) (fun i => E2 127 (D + 4) (fun q => q = (.int (nI (rk I1 W Rn C p u)), (I2, J2, mj_R2))) 6 [(0, .ref 0), (1, .int (nI p)), (2, .int (nI u)), (3, .long C), (5, .int (nI (ct i (fun o => lbit C o ∧ aP I1 W p o u)))), (6, .int (nI i))] I2 J2) (fun i hi ih => ?_) 0 (Nat.zero_le _)
  refine mj_on (s127_6 _ _ _ _ _ ?_)
  rw [b1, nI_clamp (by omega), b5, nI_1, nI_1, show (0 : Int32) = nI 0 from rfl, nI_add, Nat.add_zero]
  refine ⟨vp_in_nI b2 (by decide), if_le (by omega) (by omega) (fun c => ?_) (fun c => if_i (fun d => ?_) (fun d => ?_))⟩
  · obtain rfl : i = Rn := by omega
    rfl
  · have d := (sb_1 (by omega)).mp d
    refine ⟨trivial, _, _, _, r_before h hp hv c hu, if_tf (fun f => ?_) (fun f => ?_)⟩
    · have z := ih c
      rw [ct_t ⟨d, f⟩] at z
      exact z
    · have z := ih c
      rw [ct_f (fun q => f q.2)] at z
      exact z
  · have z := ih c
    rw [ct_f (fun q => d ((sb_1 (by omega)).mpr q.1))] at z
    exact z
end S67
