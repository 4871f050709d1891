/-! how many bits: Long.bitCount, Integer.bitCount, the reference's own -/
theorem nx_and (a b : Nat) : nI a &&& nI b = nI (a &&& b) := by
  apply Int32.toBitVec_inj.1
  show BitVec.ofNat 32 a &&& BitVec.ofNat 32 b = BitVec.ofNat 32 (a &&& b)
  apply BitVec.eq_of_getLsbD_eq
  intro i hi
  simp [hi]
def bl1 (x : Int64) : Int64 := x - ((x.toUInt64 >>> ((1 : Int32).toInt64.toUInt64 &&& Int64.toUInt64 63)).toInt64 &&& (6148914691236517205 : Int64))
def bl2 (x : Int64) : Int64 := (x &&& (3689348814741910323 : Int64)) + ((x.toUInt64 >>> ((2 : Int32).toInt64.toUInt64 &&& Int64.toUInt64 63)).toInt64 &&& (3689348814741910323 : Int64))
def bl3 (x : Int64) : Int64 := (x + (x.toUInt64 >>> ((4 : Int32).toInt64.toUInt64 &&& Int64.toUInt64 63)).toInt64) &&& (1085102592571150095 : Int64)
def bl4 (x : Int64) : Int64 := x + (x.toUInt64 >>> ((8 : Int32).toInt64.toUInt64 &&& Int64.toUInt64 63)).toInt64
def bl5 (x : Int64) : Int64 := x + (x.toUInt64 >>> ((16 : Int32).toInt64.toUInt64 &&& Int64.toUInt64 63)).toInt64
def bl6 (x : Int64) : Int64 := x + (x.toUInt64 >>> ((32 : Int32).toInt64.toUInt64 &&& Int64.toUInt64 63)).toInt64
theorem bl_eq {m : Nat} (hm : m < 2 ^ 64) : (bl6 (bl5 (bl4 (bl3 (bl2 (bl1 (lN m))))))).toInt32 &&& (127 : Int32) = nI (pcn 64 m) := by
  have h8 : (256 : Nat) ^ 8 = 2 ^ 64 := by decide
  have hm8 : m < 256 ^ 8 := by rw [h8]; exact hm
  obtain ⟨q1, q2, q3, q4, q5, -⟩ := p_le 8 m hm8
  rw [h8] at q2 q3
  have d2 : ∀ {a k : Nat}, a < 2 ^ 64 → a / k < 2 ^ 64 := fun h => Nat.lt_of_le_of_lt (Nat.div_le_self _ _) h
  have z1 : ((lN m).toUInt64 >>> ((1 : Int32).toInt64.toUInt64 &&& Int64.toUInt64 63)).toInt64 = lN (m / 2) := wb_shr (k := 1) hm (by decide)
  have e1 : bl1 (lN m) = lN (p1 8 m) := by
    unfold bl1 p1
    rw [z1, show (6148914691236517205 : Int64) = lN (pm 85 8) from rfl, wb_and (d2 hm) (by decide), lN_sub q1]
  have z2 : ((lN (p1 8 m)).toUInt64 >>> ((2 : Int32).toInt64.toUInt64 &&& Int64.toUInt64 63)).toInt64 = lN (p1 8 m / 4) := wb_shr (k := 2) q2 (by decide)
  have e2 : bl2 (lN (p1 8 m)) = lN (p2 8 m) := by
    unfold bl2 p2
    rw [z2, show (3689348814741910323 : Int64) = lN (pm 51 8) from rfl, wb_and q2 (by decide), wb_and (d2 q2) (by decide), lN_add]
  have z3 : ((lN (p2 8 m)).toUInt64 >>> ((4 : Int32).toInt64.toUInt64 &&& Int64.toUInt64 63)).toInt64 = lN (p2 8 m / 16) := wb_shr (k := 4) q3 (by decide)
  have e3 : bl3 (lN (p2 8 m)) = lN (p3 8 m) := by
    unfold bl3 p3
    rw [z3, lN_add, show (1085102592571150095 : Int64) = lN (pm 15 8) from rfl, wb_mod]
    rw [wb_and (Nat.mod_lt _ (by decide)) (by decide)]
    congr 1
    have : p2 8 m + p2 8 m / 16 < 2 ^ 64 ∨ 2 ^ 64 ≤ p2 8 m + p2 8 m / 16 := Nat.lt_or_ge _ _
    rw [show pm 15 8 = 1085102592571150095 from rfl]
    apply Nat.eq_of_testBit_eq
    intro i
    rw [Nat.testBit_and, Nat.testBit_and, Nat.testBit_mod_two_pow]
    by_cases h : i < 64
    · simp [h]
    · have : (1085102592571150095 : Nat).testBit i = false := Nat.testBit_lt_two_pow (Nat.lt_of_lt_of_le (by decide : 1085102592571150095 < 2 ^ 64) (Nat.pow_le_pow_right (by decide) (by omega)))
      rw [this]
      simp
  obtain ⟨a4, a5, r1, r2, r3, r4, r5, r6, r7⟩ := pc_64 hm8
  have z4 : ((lN (p3 8 m)).toUInt64 >>> ((8 : Int32).toInt64.toUInt64 &&& Int64.toUInt64 63)).toInt64 = lN (p3 8 m / 256) := wb_shr (k := 8) (by omega) (by decide)
  have e4 : bl4 (lN (p3 8 m)) = lN a4 := by
    unfold bl4
    rw [z4, lN_add, r2]
  have z5 : ((lN a4).toUInt64 >>> ((16 : Int32).toInt64.toUInt64 &&& Int64.toUInt64 63)).toInt64 = lN (a4 / 65536) := wb_shr (k := 16) (by omega) (by decide)
  have e5 : bl5 (lN a4) = lN a5 := by
    unfold bl5
    rw [z5, lN_add, r4]
  have z6 : ((lN a5).toUInt64 >>> ((32 : Int32).toInt64.toUInt64 &&& Int64.toUInt64 63)).toInt64 = lN (a5 / 4294967296) := wb_shr (k := 32) (by omega) (by decide)
  have e6 : bl6 (lN a5) = lN (a5 + a5 / 4294967296) := by
    unfold bl6
    rw [z6, lN_add]
  rw [e1, e2, e3, e4, e5, e6, lN_i, show (127 : Int32) = nI 127 from rfl, nx_and, show (127 : Nat) = 2 ^ 7 - 1 from rfl, Nat.and_two_pow_sub_one_eq_mod]
  exact congrArg nI r7
def bi1 (x : Int32) : Int32 := x - ((x.toUInt32 >>> ((1 : Int32).toUInt32 &&& Int32.toUInt32 31)).toInt32 &&& (1431655765 : Int32))
def bi2 (x : Int32) : Int32 := (x &&& (858993459 : Int32)) + ((x.toUInt32 >>> ((2 : Int32).toUInt32 &&& Int32.toUInt32 31)).toInt32 &&& (858993459 : Int32))
def bi3 (x : Int32) : Int32 := (x + (x.toUInt32 >>> ((4 : Int32).toUInt32 &&& Int32.toUInt32 31)).toInt32) &&& (252645135 : Int32)
def bi4 (x : Int32) : Int32 := x + (x.toUInt32 >>> ((8 : Int32).toUInt32 &&& Int32.toUInt32 31)).toInt32
def bi5 (x : Int32) : Int32 := x + (x.toUInt32 >>> ((16 : Int32).toUInt32 &&& Int32.toUInt32 31)).toInt32
theorem bi_eq {m : Nat} (hm : m < 2 ^ 28) : bi5 (bi4 (bi3 (bi2 (bi1 (nI m))))) &&& (63 : Int32) = nI (pcn 32 m) := by
  have hm8 : m < 256 ^ 4 := by omega
  obtain ⟨q1, q2, q3, q4, q5, -⟩ := p_le 4 m hm8
  have b1 : p1 4 m ≤ m := Nat.sub_le _ _
  have b2 : p2 4 m < 2 ^ 30 := by
    have i1 : p1 4 m &&& pm 51 4 ≤ p1 4 m := Nat.and_le_left
    have i2 : p1 4 m / 4 &&& pm 51 4 ≤ p1 4 m / 4 := Nat.and_le_left
    unfold p2
    omega
  have e1 : bi1 (nI m) = nI (p1 4 m) := by
    unfold bi1 p1
    rw [pk_ushrN (by omega) (1 : Int32) 1 (by decide), show (1431655765 : Int32) = nI (pm 85 4) from rfl, nx_and, pk_sub q1]
  have e2 : bi2 (nI (p1 4 m)) = nI (p2 4 m) := by
    unfold bi2 p2
    rw [pk_ushrN (by omega) (2 : Int32) 2 (by decide), show (858993459 : Int32) = nI (pm 51 4) from rfl, nx_and, nx_and, nI_add]
  have e3 : bi3 (nI (p2 4 m)) = nI (p3 4 m) := by
    unfold bi3 p3
    rw [pk_ushrN (by omega) (4 : Int32) 4 (by decide), nI_add, show (252645135 : Int32) = nI (pm 15 4) from rfl, nx_and]
  obtain ⟨a4, r1, r2, r3, r4, r5⟩ := pc_32 hm8
  have e4 : bi4 (nI (p3 4 m)) = nI a4 := by
    unfold bi4
    rw [pk_ushrN (by omega) (8 : Int32) 8 (by decide), nI_add, r2]
  have e5 : bi5 (nI a4) = nI (a4 + a4 / 65536) := by
    unfold bi5
    rw [pk_ushrN (by omega) (16 : Int32) 16 (by decide), nI_add]
  rw [e1, e2, e3, e4, e5, show (63 : Int32) = nI 63 from rfl, nx_and, show (63 : Nat) = 2 ^ 6 - 1 from rfl, Nat.and_two_pow_sub_one_eq_mod]
  exact congrArg nI r5
section S50
variable {D : Nat} {I : Nat → Nat → Int32} {J : Nat → Nat → Int64}
def pcL (x : Int64) : Nat := pcn 64 x.toBitVec.toNat
theorem pcL_lN {m : Nat} (hm : m < 2 ^ 64) : pcL (lN m) = pcn 64 m := by
  unfold pcL
  rw [wb_tn hm]
set_option maxRecDepth 100000 in
set_option maxHeartbeats 4000000 in
theorem c_bcL {x : Int64} : C1 (D + 1) 2 [.long x] I J (.int (nI (pcL x))) I J := by
  obtain ⟨m, hm, rfl⟩ := wb_of x
  rw [pcL_lN hm, ← bl_eq hm]
  exact mj_mk (e2 _ rfl)
set_option maxRecDepth 100000 in
set_option maxHeartbeats 4000000 in
theorem c_bcI {m : Nat} (hm : m < 2 ^ 28) : C1 (D + 1) 3 [.int (nI m)] I J (.int (nI (pcn 32 m))) I J := by
  rw [← bi_eq hm]
  exact mj_mk (e3 _ rfl)
theorem pcn_big : ∀ (k j m : Nat), m < 2 ^ k → pcn (k + j) m = pcn k m
  | 0, j, m, h => by
    have : m = 0 := by omega
    subst this
    rw [pcn_0, pcn_0]
  | k + 1, j, m, h => by
    rw [Nat.add_right_comm]
    show m % 2 + pcn (k + j) (m / 2) = m % 2 + pcn k (m / 2)
    rw [pcn_big k j (m / 2) (by rw [Nat.pow_succ] at h; omega)]
theorem r_bits {x : Int64} : C2 (D + 1) 63 [.long x] I J (.int (nI (pcL x))) I J := by
  obtain ⟨m, hm, rfl⟩ := wb_of x
  rw [pcL_lN hm]
  refine mj_mk (e63 _ ?_)
  obtain ⟨t, ht⟩ : ∃ t, t = pcn 64 m := ⟨_, rfl⟩
  rw [← ht]
  suffices key : ∀ k m c, k ≤ 64 → m < 2 ^ k → c + pcn k m = t → E2 63 D (fun q => q = (.int (nI t), (I, J, mj_R2))) 4 [(2, .int (nI c)), (3, .long (lN m))] I J from key 64 m 0 (Nat.le_refl _) hm (by rw [ht, Nat.zero_add])
  clear ht hm m
  intro k
  induction k with
  | zero =>
    intro m c _ h hc
    obtain rfl : m = 0 := by omega
    refine mj_on (s63_4 _ _ ?_)
    rw [if_pos (show lg_cmp (lN 0) 0 = 0 from cmp0.mpr rfl), ← hc]
    rfl
  | succ k ih =>
    intro m c hk h hc
    have hm64 : m < 2 ^ 64 := Nat.lt_of_lt_of_le h (Nat.pow_le_pow_right (by decide) hk)
    refine mj_on (s63_4 _ _ ?_)
    have z : ((lN m).toUInt64 >>> ((1 : Int32).toInt64.toUInt64 &&& Int64.toUInt64 63)).toInt64 = lN (m / 2) := wb_shr (k := 1) hm64 (by decide)
    refine if_i (fun e => ?_) (fun e => ?_)
    · have e := cmp0.mp e
      have e2 : m = 0 := by
        have := congrArg (fun y => y.toBitVec.toNat) e
        simp only [wb_tn hm64] at this
        exact this
      subst e2
      rw [← hc, pcn_0, Nat.add_zero]
    · rw [z, wb_a1 hm64, lN_i, nI_add]
      refine ih (m / 2) (c + m % 2) (by omega) (by rw [Nat.pow_succ] at h; omega) ?_
      rw [← hc]
      show _ = c + (m % 2 + pcn k (m / 2))
      omega
end S50
