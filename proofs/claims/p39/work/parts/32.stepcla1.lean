/-! step lemmas, by program -/
-- java/lang/Math.min(II)I ('I', 'I')
set_option maxRecDepth 100000 in
set_option maxHeartbeats 8000000 in
theorem e0 {cal : Nat → List Value → mj_H → mj_R → Prop} {Q : mj_R → Prop} {K : Nat → mj_K} {I0 : Nat → Nat → Int32} {J0 : Nat → Nat → Int64} (x0 : Int32) (x1 : Int32)
    (h : (if x1 < x0 then
      Q (.int x1, (I0, J0, mj_R1))
    else
      Q (.int x0, (I0, J0, mj_R1)))) :
    mj_if (Nat.ble (mj_sz [.int x0, .int x1]) mt_0.2.2) (mj_sg mj_S1 mt_0 cal Q K 100 0 (mj_a0 0 [.int x0, .int x1]) [] (I0, J0, mj_R1)) := h
-- java/lang/Math.max(II)I ('I', 'I')
set_option maxRecDepth 100000 in
set_option maxHeartbeats 8000000 in
theorem e1 {cal : Nat → List Value → mj_H → mj_R → Prop} {Q : mj_R → Prop} {K : Nat → mj_K} {I0 : Nat → Nat → Int32} {J0 : Nat → Nat → Int64} (x0 : Int32) (x1 : Int32)
    (h : (if x0 < x1 then
      Q (.int x1, (I0, J0, mj_R1))
    else
      Q (.int x0, (I0, J0, mj_R1)))) :
    mj_if (Nat.ble (mj_sz [.int x0, .int x1]) mt_1.2.2) (mj_sg mj_S1 mt_1 cal Q K 100 0 (mj_a0 0 [.int x0, .int x1]) [] (I0, J0, mj_R1)) := h
-- java/lang/Long.bitCount(J)I ('J',)
set_option maxRecDepth 100000 in
set_option maxHeartbeats 8000000 in
theorem e2 {cal : Nat → List Value → mj_H → mj_R → Prop} {Q : mj_R → Prop} {K : Nat → mj_K} {I0 : Nat → Nat → Int32} {J0 : Nat → Nat → Int64} (x0 : Int64)
    (h : Q (.int (((((((((x0 - ((x0.toUInt64 >>> ((1 : Int32).toInt64.toUInt64 &&& Int64.toUInt64 63)).toInt64 &&& (6148914691236517205 : Int64))) &&& (3689348814741910323 : Int64)) + (((x0 - ((x0.toUInt64 >>> ((1 : Int32).toInt64.toUInt64 &&& Int64.toUInt64 63)).toInt64 &&& (6148914691236517205 : Int64))).toUInt64 >>> ((2 : Int32).toInt64.toUInt64 &&& Int64.toUInt64 63)).toInt64 &&& (3689348814741910323 : Int64))) + ((((x0 - ((x0.toUInt64 >>> ((1 : Int32).toInt64.toUInt64 &&& Int64.toUInt64 63)).toInt64 &&& (6148914691236517205 : Int64))) &&& (3689348814741910323 : Int64)) + (((x0 - ((x0.toUInt64 >>> ((1 : Int32).toInt64.toUInt64 &&& Int64.toUInt64 63)).toInt64 &&& (6148914691236517205 : Int64))).toUInt64 >>> ((2 : Int32).toInt64.toUInt64 &&& Int64.toUInt64 63)).toInt64 &&& (3689348814741910323 : Int64))).toUInt64 >>> ((4 : Int32).toInt64.toUInt64 &&& Int64.toUInt64 63)).toInt64) &&& (1085102592571150095 : Int64)) + ((((((x0 - ((x0.toUInt64 >>> ((1 : Int32).toInt64.toUInt64 &&& Int64.toUInt64 63)).toInt64 &&& (6148914691236517205 : Int64))) &&& (3689348814741910323 : Int64)) + (((x0 - ((x0.toUInt64 >>> ((1 : Int32).toInt64.toUInt64 &&& Int64.toUInt64 63)).toInt64 &&& (6148914691236517205 : Int64))).toUInt64 >>> ((2 : Int32).toInt64.toUInt64 &&& Int64.toUInt64 63)).toInt64 &&& (3689348814741910323 : Int64))) + ((((x0 - ((x0.toUInt64 >>> ((1 : Int32).toInt64.toUInt64 &&& Int64.toUInt64 63)).toInt64 &&& (6148914691236517205 : Int64))) &&& (3689348814741910323 : Int64)) + (((x0 - ((x0.toUInt64 >>> ((1 : Int32).toInt64.toUInt64 &&& Int64.toUInt64 63)).toInt64 &&& (6148914691236517205 : Int64))).toUInt64 >>> ((2 : Int32).toInt64.toUInt64 &&& Int64.toUInt64 63)).toInt64 &&& (3689348814741910323 : Int64))).toUInt64 >>> ((4 : Int32).toInt64.toUInt64 &&& Int64.toUInt64 63)).toInt64) &&& (1085102592571150095 : Int64)).toUInt64 >>> ((8 : Int32).toInt64.toUInt64 &&& Int64.toUInt64 63)).toInt64) + (((((((x0 - ((x0.toUInt64 >>> ((1 : Int32).toInt64.toUInt64 &&& Int64.toUInt64 63)).toInt64 &&& (6148914691236517205 : Int64))) &&& (3689348814741910323 : Int64)) + (((x0 - ((x0.toUInt64 >>> ((1 : Int32).toInt64.toUInt64 &&& Int64.toUInt64 63)).toInt64 &&& (6148914691236517205 : Int64))).toUInt64 >>> ((2 : Int32).toInt64.toUInt64 &&& Int64.toUInt64 63)).toInt64 &&& (3689348814741910323 : Int64))) + ((((x0 - ((x0.toUInt64 >>> ((1 : Int32).toInt64.toUInt64 &&& Int64.toUInt64 63)).toInt64 &&& (6148914691236517205 : Int64))) &&& (3689348814741910323 : Int64)) + (((x0 - ((x0.toUInt64 >>> ((1 : Int32).toInt64.toUInt64 &&& Int64.toUInt64 63)).toInt64 &&& (6148914691236517205 : Int64))).toUInt64 >>> ((2 : Int32).toInt64.toUInt64 &&& Int64.toUInt64 63)).toInt64 &&& (3689348814741910323 : Int64))).toUInt64 >>> ((4 : Int32).toInt64.toUInt64 &&& Int64.toUInt64 63)).toInt64) &&& (1085102592571150095 : Int64)) + ((((((x0 - ((x0.toUInt64 >>> ((1 : Int32).toInt64.toUInt64 &&& Int64.toUInt64 63)).toInt64 &&& (6148914691236517205 : Int64))) &&& (3689348814741910323 : Int64)) + (((x0 - ((x0.toUInt64 >>> ((1 : Int32).toInt64.toUInt64 &&& Int64.toUInt64 63)).toInt64 &&& (6148914691236517205 : Int64))).toUInt64 >>> ((2 : Int32).toInt64.toUInt64 &&& Int64.toUInt64 63)).toInt64 &&& (3689348814741910323 : Int64))) + ((((x0 - ((x0.toUInt64 >>> ((1 : Int32).toInt64.toUInt64 &&& Int64.toUInt64 63)).toInt64 &&& (6148914691236517205 : Int64))) &&& (3689348814741910323 : Int64)) + (((x0 - ((x0.toUInt64 >>> ((1 : Int32).toInt64.toUInt64 &&& Int64.toUInt64 63)).toInt64 &&& (6148914691236517205 : Int64))).toUInt64 >>> ((2 : Int32).toInt64.toUInt64 &&& Int64.toUInt64 63)).toInt64 &&& (3689348814741910323 : Int64))).toUInt64 >>> ((4 : Int32).toInt64.toUInt64 &&& Int64.toUInt64 63)).toInt64) &&& (1085102592571150095 : Int64)).toUInt64 >>> ((8 : Int32).toInt64.toUInt64 &&& Int64.toUInt64 63)).toInt64).toUInt64 >>> ((16 : Int32).toInt64.toUInt64 &&& Int64.toUInt64 63)).toInt64) + ((((((((x0 - ((x0.toUInt64 >>> ((1 : Int32).toInt64.toUInt64 &&& Int64.toUInt64 63)).toInt64 &&& (6148914691236517205 : Int64))) &&& (3689348814741910323 : Int64)) + (((x0 - ((x0.toUInt64 >>> ((1 : Int32).toInt64.toUInt64 &&& Int64.toUInt64 63)).toInt64 &&& (6148914691236517205 : Int64))).toUInt64 >>> ((2 : Int32).toInt64.toUInt64 &&& Int64.toUInt64 63)).toInt64 &&& (3689348814741910323 : Int64))) + ((((x0 - ((x0.toUInt64 >>> ((1 : Int32).toInt64.toUInt64 &&& Int64.toUInt64 63)).toInt64 &&& (6148914691236517205 : Int64))) &&& (3689348814741910323 : Int64)) + (((x0 - ((x0.toUInt64 >>> ((1 : Int32).toInt64.toUInt64 &&& Int64.toUInt64 63)).toInt64 &&& (6148914691236517205 : Int64))).toUInt64 >>> ((2 : Int32).toInt64.toUInt64 &&& Int64.toUInt64 63)).toInt64 &&& (3689348814741910323 : Int64))).toUInt64 >>> ((4 : Int32).toInt64.toUInt64 &&& Int64.toUInt64 63)).toInt64) &&& (1085102592571150095 : Int64)) + ((((((x0 - ((x0.toUInt64 >>> ((1 : Int32).toInt64.toUInt64 &&& Int64.toUInt64 63)).toInt64 &&& (6148914691236517205 : Int64))) &&& (3689348814741910323 : Int64)) + (((x0 - ((x0.toUInt64 >>> ((1 : Int32).toInt64.toUInt64 &&& Int64.toUInt64 63)).toInt64 &&& (6148914691236517205 : Int64))).toUInt64 >>> ((2 : Int32).toInt64.toUInt64 &&& Int64.toUInt64 63)).toInt64 &&& (3689348814741910323 : Int64))) + ((((x0 - ((x0.toUInt64 >>> ((1 : Int32).toInt64.toUInt64 &&& Int64.toUInt64 63)).toInt64 &&& (6148914691236517205 : Int64))) &&& (3689348814741910323 : Int64)) + (((x0 - ((x0.toUInt64 >>> ((1 : Int32).toInt64.toUInt64 &&& Int64.toUInt64 63)).toInt64 &&& (6148914691236517205 : Int64))).toUInt64 >>> ((2 : Int32).toInt64.toUInt64 &&& Int64.toUInt64 63)).toInt64 &&& (3689348814741910323 : Int64))).toUInt64 >>> ((4 : Int32).toInt64.toUInt64 &&& Int64.toUInt64 63)).toInt64) &&& (1085102592571150095 : Int64)).toUInt64 >>> ((8 : Int32).toInt64.toUInt64 &&& Int64.toUInt64 63)).toInt64) + (((((((x0 - ((x0.toUInt64 >>> ((1 : Int32).toInt64.toUInt64 &&& Int64.toUInt64 63)).toInt64 &&& (6148914691236517205 : Int64))) &&& (3689348814741910323 : Int64)) + (((x0 - ((x0.toUInt64 >>> ((1 : Int32).toInt64.toUInt64 &&& Int64.toUInt64 63)).toInt64 &&& (6148914691236517205 : Int64))).toUInt64 >>> ((2 : Int32).toInt64.toUInt64 &&& Int64.toUInt64 63)).toInt64 &&& (3689348814741910323 : Int64))) + ((((x0 - ((x0.toUInt64 >>> ((1 : Int32).toInt64.toUInt64 &&& Int64.toUInt64 63)).toInt64 &&& (6148914691236517205 : Int64))) &&& (3689348814741910323 : Int64)) + (((x0 - ((x0.toUInt64 >>> ((1 : Int32).toInt64.toUInt64 &&& Int64.toUInt64 63)).toInt64 &&& (6148914691236517205 : Int64))).toUInt64 >>> ((2 : Int32).toInt64.toUInt64 &&& Int64.toUInt64 63)).toInt64 &&& (3689348814741910323 : Int64))).toUInt64 >>> ((4 : Int32).toInt64.toUInt64 &&& Int64.toUInt64 63)).toInt64) &&& (1085102592571150095 : Int64)) + ((((((x0 - ((x0.toUInt64 >>> ((1 : Int32).toInt64.toUInt64 &&& Int64.toUInt64 63)).toInt64 &&& (6148914691236517205 : Int64))) &&& (3689348814741910323 : Int64)) + (((x0 - ((x0.toUInt64 >>> ((1 : Int32).toInt64.toUInt64 &&& Int64.toUInt64 63)).toInt64 &&& (6148914691236517205 : Int64))).toUInt64 >>> ((2 : Int32).toInt64.toUInt64 &&& Int64.toUInt64 63)).toInt64 &&& (3689348814741910323 : Int64))) + ((((x0 - ((x0.toUInt64 >>> ((1 : Int32).toInt64.toUInt64 &&& Int64.toUInt64 63)).toInt64 &&& (6148914691236517205 : Int64))) &&& (3689348814741910323 : Int64)) + (((x0 - ((x0.toUInt64 >>> ((1 : Int32).toInt64.toUInt64 &&& Int64.toUInt64 63)).toInt64 &&& (6148914691236517205 : Int64))).toUInt64 >>> ((2 : Int32).toInt64.toUInt64 &&& Int64.toUInt64 63)).toInt64 &&& (3689348814741910323 : Int64))).toUInt64 >>> ((4 : Int32).toInt64.toUInt64 &&& Int64.toUInt64 63)).toInt64) &&& (1085102592571150095 : Int64)).toUInt64 >>> ((8 : Int32).toInt64.toUInt64 &&& Int64.toUInt64 63)).toInt64).toUInt64 >>> ((16 : Int32).toInt64.toUInt64 &&& Int64.toUInt64 63)).toInt64).toUInt64 >>> ((32 : Int32).toInt64.toUInt64 &&& Int64.toUInt64 63)).toInt64).toInt32 &&& (127 : Int32)), (I0, J0, mj_R1))) :
    mj_if (Nat.ble (mj_sz [.long x0]) mt_2.2.2) (mj_sg mj_S1 mt_2 cal Q K 100 0 (mj_a0 0 [.long x0]) [] (I0, J0, mj_R1)) := h
-- java/lang/Integer.bitCount(I)I ('I',)
set_option maxRecDepth 100000 in
set_option maxHeartbeats 8000000 in
theorem e3 {cal : Nat → List Value → mj_H → mj_R → Prop} {Q : mj_R → Prop} {K : Nat → mj_K} {I0 : Nat → Nat → Int32} {J0 : Nat → Nat → Int64} (x0 : Int32)
    (h : Q (.int ((((((((x0 - ((x0.toUInt32 >>> ((1 : Int32).toUInt32 &&& Int32.toUInt32 31)).toInt32 &&& (1431655765 : Int32))) &&& (858993459 : Int32)) + (((x0 - ((x0.toUInt32 >>> ((1 : Int32).toUInt32 &&& Int32.toUInt32 31)).toInt32 &&& (1431655765 : Int32))).toUInt32 >>> ((2 : Int32).toUInt32 &&& Int32.toUInt32 31)).toInt32 &&& (858993459 : Int32))) + ((((x0 - ((x0.toUInt32 >>> ((1 : Int32).toUInt32 &&& Int32.toUInt32 31)).toInt32 &&& (1431655765 : Int32))) &&& (858993459 : Int32)) + (((x0 - ((x0.toUInt32 >>> ((1 : Int32).toUInt32 &&& Int32.toUInt32 31)).toInt32 &&& (1431655765 : Int32))).toUInt32 >>> ((2 : Int32).toUInt32 &&& Int32.toUInt32 31)).toInt32 &&& (858993459 : Int32))).toUInt32 >>> ((4 : Int32).toUInt32 &&& Int32.toUInt32 31)).toInt32) &&& (252645135 : Int32)) + ((((((x0 - ((x0.toUInt32 >>> ((1 : Int32).toUInt32 &&& Int32.toUInt32 31)).toInt32 &&& (1431655765 : Int32))) &&& (858993459 : Int32)) + (((x0 - ((x0.toUInt32 >>> ((1 : Int32).toUInt32 &&& Int32.toUInt32 31)).toInt32 &&& (1431655765 : Int32))).toUInt32 >>> ((2 : Int32).toUInt32 &&& Int32.toUInt32 31)).toInt32 &&& (858993459 : Int32))) + ((((x0 - ((x0.toUInt32 >>> ((1 : Int32).toUInt32 &&& Int32.toUInt32 31)).toInt32 &&& (1431655765 : Int32))) &&& (858993459 : Int32)) + (((x0 - ((x0.toUInt32 >>> ((1 : Int32).toUInt32 &&& Int32.toUInt32 31)).toInt32 &&& (1431655765 : Int32))).toUInt32 >>> ((2 : Int32).toUInt32 &&& Int32.toUInt32 31)).toInt32 &&& (858993459 : Int32))).toUInt32 >>> ((4 : Int32).toUInt32 &&& Int32.toUInt32 31)).toInt32) &&& (252645135 : Int32)).toUInt32 >>> ((8 : Int32).toUInt32 &&& Int32.toUInt32 31)).toInt32) + (((((((x0 - ((x0.toUInt32 >>> ((1 : Int32).toUInt32 &&& Int32.toUInt32 31)).toInt32 &&& (1431655765 : Int32))) &&& (858993459 : Int32)) + (((x0 - ((x0.toUInt32 >>> ((1 : Int32).toUInt32 &&& Int32.toUInt32 31)).toInt32 &&& (1431655765 : Int32))).toUInt32 >>> ((2 : Int32).toUInt32 &&& Int32.toUInt32 31)).toInt32 &&& (858993459 : Int32))) + ((((x0 - ((x0.toUInt32 >>> ((1 : Int32).toUInt32 &&& Int32.toUInt32 31)).toInt32 &&& (1431655765 : Int32))) &&& (858993459 : Int32)) + (((x0 - ((x0.toUInt32 >>> ((1 : Int32).toUInt32 &&& Int32.toUInt32 31)).toInt32 &&& (1431655765 : Int32))).toUInt32 >>> ((2 : Int32).toUInt32 &&& Int32.toUInt32 31)).toInt32 &&& (858993459 : Int32))).toUInt32 >>> ((4 : Int32).toUInt32 &&& Int32.toUInt32 31)).toInt32) &&& (252645135 : Int32)) + ((((((x0 - ((x0.toUInt32 >>> ((1 : Int32).toUInt32 &&& Int32.toUInt32 31)).toInt32 &&& (1431655765 : Int32))) &&& (858993459 : Int32)) + (((x0 - ((x0.toUInt32 >>> ((1 : Int32).toUInt32 &&& Int32.toUInt32 31)).toInt32 &&& (1431655765 : Int32))).toUInt32 >>> ((2 : Int32).toUInt32 &&& Int32.toUInt32 31)).toInt32 &&& (858993459 : Int32))) + ((((x0 - ((x0.toUInt32 >>> ((1 : Int32).toUInt32 &&& Int32.toUInt32 31)).toInt32 &&& (1431655765 : Int32))) &&& (858993459 : Int32)) + (((x0 - ((x0.toUInt32 >>> ((1 : Int32).toUInt32 &&& Int32.toUInt32 31)).toInt32 &&& (1431655765 : Int32))).toUInt32 >>> ((2 : Int32).toUInt32 &&& Int32.toUInt32 31)).toInt32 &&& (858993459 : Int32))).toUInt32 >>> ((4 : Int32).toUInt32 &&& Int32.toUInt32 31)).toInt32) &&& (252645135 : Int32)).toUInt32 >>> ((8 : Int32).toUInt32 &&& Int32.toUInt32 31)).toInt32).toUInt32 >>> ((16 : Int32).toUInt32 &&& Int32.toUInt32 31)).toInt32) &&& (63 : Int32)), (I0, J0, mj_R1))) :
    mj_if (Nat.ble (mj_sz [.int x0]) mt_3.2.2) (mj_sg mj_S1 mt_3 cal Q K 100 0 (mj_a0 0 [.int x0]) [] (I0, J0, mj_R1)) := h
-- java/lang/Math.min(JJ)J ('J', 'J')
set_option maxRecDepth 100000 in
set_option maxHeartbeats 8000000 in
theorem e4 {cal : Nat → List Value → mj_H → mj_R → Prop} {Q : mj_R → Prop} {K : Nat → mj_K} {I0 : Nat → Nat → Int32} {J0 : Nat → Nat → Int64} (x0 : Int64) (x2 : Int64)
    (h : (if (lg_cmp x0 x2) ≤ 0 then
      Q (.long x0, (I0, J0, mj_R1))
    else
      Q (.long x2, (I0, J0, mj_R1)))) :
    mj_if (Nat.ble (mj_sz [.long x0, .long x2]) mt_4.2.2) (mj_sg mj_S1 mt_4 cal Q K 100 0 (mj_a0 0 [.long x0, .long x2]) [] (I0, J0, mj_R1)) := h
-- java/lang/Math.max(JJ)J ('J', 'J')
set_option maxRecDepth 100000 in
set_option maxHeartbeats 8000000 in
theorem e5 {cal : Nat → List Value → mj_H → mj_R → Prop} {Q : mj_R → Prop} {K : Nat → mj_K} {I0 : Nat → Nat → Int32} {J0 : Nat → Nat → Int64} (x0 : Int64) (x2 : Int64)
    (h : (if (lg_cmp x0 x2) < 0 then
      Q (.long x2, (I0, J0, mj_R1))
    else
      Q (.long x0, (I0, J0, mj_R1)))) :
    mj_if (Nat.ble (mj_sz [.long x0, .long x2]) mt_5.2.2) (mj_sg mj_S1 mt_5 cal Q K 100 0 (mj_a0 0 [.long x0, .long x2]) [] (I0, J0, mj_R1)) := h
-- java/lang/Math.floorDiv(II)I ('I', 'I')
set_option maxRecDepth 100000 in
set_option maxHeartbeats 8000000 in
theorem e6 {cal : Nat → List Value → mj_H → mj_R → Prop} {Q : mj_R → Prop} {K : Nat → mj_K} {I0 : Nat → Nat → Int32} {J0 : Nat → Nat → Int64} (x0 : Int32) (x1 : Int32)
    (h : (¬ x1 = 0 ∧ ((if (x0 ^^^ x1) < 0 then
      (if ((x0 / x1) * x1) = x0 then
        Q (.int (x0 / x1), (I0, J0, mj_R1))
      else
        Q (.int ((x0 / x1) - (1 : Int32)), (I0, J0, mj_R1)))
    else
      Q (.int (x0 / x1), (I0, J0, mj_R1)))))) :
    mj_if (Nat.ble (mj_sz [.int x0, .int x1]) mt_6.2.2) (mj_sg mj_S1 mt_6 cal Q K 100 0 (mj_a0 0 [.int x0, .int x1]) [] (I0, J0, mj_R1)) := h
-- java/lang/Long.numberOfTrailingZeros(J)I ('J',)
set_option maxRecDepth 100000 in
set_option maxHeartbeats 8000000 in
theorem e7 {cal : Nat → List Value → mj_H → mj_R → Prop} {Q : mj_R → Prop} {K : Nat → mj_K} {I0 : Nat → Nat → Int32} {J0 : Nat → Nat → Int64} (x0 : Int64)
    (h : (if x0.toInt32 = 0 then
      (True ∧ ∃ (r1 : Int32) (I1 : Nat → Nat → Int32) (J1 : Nat → Nat → Int64), cal 8 [.int (x0.toUInt64 >>> ((32 : Int32).toInt64.toUInt64 &&& Int64.toUInt64 63)).toInt64.toInt32] (I0, J0, mj_R1) (.int r1, (I1, J1, mj_R1)) ∧ (Q (.int ((32 : Int32) + r1), (I1, J1, mj_R1))))
    else
      (True ∧ ∃ (r2 : Int32) (I2 : Nat → Nat → Int32) (J2 : Nat → Nat → Int64), cal 8 [.int x0.toInt32] (I0, J0, mj_R1) (.int r2, (I2, J2, mj_R1)) ∧ (Q (.int r2, (I2, J2, mj_R1)))))) :
    mj_if (Nat.ble (mj_sz [.long x0]) mt_7.2.2) (mj_sg mj_S1 mt_7 cal Q K 100 0 (mj_a0 0 [.long x0]) [] (I0, J0, mj_R1)) := h
-- java/lang/Integer.numberOfTrailingZeros(I)I ('I',)
set_option maxRecDepth 100000 in
set_option maxHeartbeats 8000000 in
theorem e8 {cal : Nat → List Value → mj_H → mj_R → Prop} {Q : mj_R → Prop} {K : Nat → mj_K} {I0 : Nat → Nat → Int32} {J0 : Nat → Nat → Int64} (x0 : Int32)
    (h : (if ((x0 ^^^ (-1 : Int32)) &&& (x0 - (1 : Int32))) ≤ 0 then
      Q (.int (((x0 ^^^ (-1 : Int32)) &&& (x0 - (1 : Int32))) &&& (32 : Int32)), (I0, J0, mj_R1))
    else
      (if ((x0 ^^^ (-1 : Int32)) &&& (x0 - (1 : Int32))) ≤ (65536 : Int32) then
        K 34 [(0, .int ((x0 ^^^ (-1 : Int32)) &&& (x0 - (1 : Int32)))), (1, .int (1 : Int32))] [] (I0, J0, mj_R1)
      else
        K 34 [(0, .int (((x0 ^^^ (-1 : Int32)) &&& (x0 - (1 : Int32))).toUInt32 >>> ((16 : Int32).toUInt32 &&& Int32.toUInt32 31)).toInt32), (1, .int ((1 : Int32) + (16 : Int32)))] [] (I0, J0, mj_R1)))) :
    mj_if (Nat.ble (mj_sz [.int x0]) mt_8.2.2) (mj_sg mj_S1 mt_8 cal Q K 100 0 (mj_a0 0 [.int x0]) [] (I0, J0, mj_R1)) := h
set_option maxRecDepth 100000 in
set_option maxHeartbeats 8000000 in
theorem s8_34 {cal : Nat → List Value → mj_H → mj_R → Prop} {Q : mj_R → Prop} {K : Nat → mj_K} {I0 : Nat → Nat → Int32} {J0 : Nat → Nat → Int64} (x0 : Int32) (x1 : Int32)
    (h : (if x0 ≤ (256 : Int32) then
      K 49 [(0, .int x0), (1, .int x1)] [] (I0, J0, mj_R1)
    else
      K 49 [(0, .int (x0.toUInt32 >>> ((8 : Int32).toUInt32 &&& Int32.toUInt32 31)).toInt32), (1, .int (x1 + (8 : Int32)))] [] (I0, J0, mj_R1))) :
    mj_go mj_S1 mt_8 cal Q K 34 [(0, .int x0), (1, .int x1)] [] (I0, J0, mj_R1) := h
set_option maxRecDepth 100000 in
set_option maxHeartbeats 8000000 in
theorem s8_49 {cal : Nat → List Value → mj_H → mj_R → Prop} {Q : mj_R → Prop} {K : Nat → mj_K} {I0 : Nat → Nat → Int32} {J0 : Nat → Nat → Int64} (x0 : Int32) (x1 : Int32)
    (h : (if x0 ≤ (16 : Int32) then
      K 62 [(0, .int x0), (1, .int x1)] [] (I0, J0, mj_R1)
    else
      K 62 [(0, .int (x0.toUInt32 >>> ((4 : Int32).toUInt32 &&& Int32.toUInt32 31)).toInt32), (1, .int (x1 + (4 : Int32)))] [] (I0, J0, mj_R1))) :
    mj_go mj_S1 mt_8 cal Q K 49 [(0, .int x0), (1, .int x1)] [] (I0, J0, mj_R1) := h
set_option maxRecDepth 100000 in
set_option maxHeartbeats 8000000 in
theorem s8_62 {cal : Nat → List Value → mj_H → mj_R → Prop} {Q : mj_R → Prop} {K : Nat → mj_K} {I0 : Nat → Nat → Int32} {J0 : Nat → Nat → Int64} (x0 : Int32) (x1 : Int32)
    (h : (if x0 ≤ (4 : Int32) then
      K 74 [(0, .int x0), (1, .int x1)] [] (I0, J0, mj_R1)
    else
      K 74 [(0, .int (x0.toUInt32 >>> ((2 : Int32).toUInt32 &&& Int32.toUInt32 31)).toInt32), (1, .int (x1 + (2 : Int32)))] [] (I0, J0, mj_R1))) :
    mj_go mj_S1 mt_8 cal Q K 62 [(0, .int x0), (1, .int x1)] [] (I0, J0, mj_R1) := h
set_option maxRecDepth 100000 in
set_option maxHeartbeats 8000000 in
theorem s8_74 {cal : Nat → List Value → mj_H → mj_R → Prop} {Q : mj_R → Prop} {K : Nat → mj_K} {I0 : Nat → Nat → Int32} {J0 : Nat → Nat → Int64} (x0 : Int32) (x1 : Int32)
    (h : Q (.int (x1 + (x0.toUInt32 >>> ((1 : Int32).toUInt32 &&& Int32.toUInt32 31)).toInt32), (I0, J0, mj_R1))) :
    mj_go mj_S1 mt_8 cal Q K 74 [(0, .int x0), (1, .int x1)] [] (I0, J0, mj_R1) := h
-- UnbeatenHouse.feed(IIIII)I (('c', 0), 'I', 'I', 'I', 'I', 'I')
set_option maxRecDepth 100000 in
set_option maxHeartbeats 8000000 in
theorem e133 {cal : Nat → List Value → mj_H → mj_R → Prop} {Q : mj_R → Prop} {K : Nat → mj_K} {I0 : Nat → Nat → Int32} {J0 : Nat → Nat → Int64} (x1 : Int32) (x2 : Int32) (x3 : Int32) (x4 : Int32) (x5 : Int32)
    (h : (if (I0 0 0) ≤ (880 : Int32) then
      (True ∧ ∃ (I1 : Nat → Nat → Int32) (J1 : Nat → Nat → Int64), cal 134 [.ref 0, .int x1] (I0, J0, mj_R1) (.null, (I1, J1, mj_R1)) ∧ ((True ∧ ∃ (I2 : Nat → Nat → Int32) (J2 : Nat → Nat → Int64), cal 134 [.ref 0, .int x2] (I1, J1, mj_R1) (.null, (I2, J2, mj_R1)) ∧ ((True ∧ ∃ (I3 : Nat → Nat → Int32) (J3 : Nat → Nat → Int64), cal 134 [.ref 0, .int x3] (I2, J2, mj_R1) (.null, (I3, J3, mj_R1)) ∧ ((True ∧ ∃ (I4 : Nat → Nat → Int32) (J4 : Nat → Nat → Int64), cal 134 [.ref 0, .int x4] (I3, J3, mj_R1) (.null, (I4, J4, mj_R1)) ∧ ((True ∧ ∃ (I5 : Nat → Nat → Int32) (J5 : Nat → Nat → Int64), cal 134 [.ref 0, .int x5] (I4, J4, mj_R1) (.null, (I5, J5, mj_R1)) ∧ (Q (.int (I5 0 0), (I5, J5, mj_R1))))))))))))
    else
      Q (.int (-1 : Int32), (I0, J0, mj_R1)))) :
    mj_if (Nat.ble (mj_sz [.ref 0, .int x1, .int x2, .int x3, .int x4, .int x5]) mt_133.2.2) (mj_sg mj_S1 mt_133 cal Q K 100 0 (mj_a0 0 [.ref 0, .int x1, .int x2, .int x3, .int x4, .int x5]) [] (I0, J0, mj_R1)) := h
-- UnbeatenHouse.putBytes(I)V (('c', 0), 'I')
set_option maxRecDepth 100000 in
set_option maxHeartbeats 8000000 in
theorem e134 {cal : Nat → List Value → mj_H → mj_R → Prop} {Q : mj_R → Prop} {K : Nat → mj_K} {I0 : Nat → Nat → Int32} {J0 : Nat → Nat → Int64} (x1 : Int32)
    (h : K 3 [(0, .ref 0), (1, .int x1), (2, .int (24 : Int32))] [] (I0, J0, mj_R1)) :
    mj_if (Nat.ble (mj_sz [.ref 0, .int x1]) mt_134.2.2) (mj_sg mj_S1 mt_134 cal Q K 100 0 (mj_a0 0 [.ref 0, .int x1]) [] (I0, J0, mj_R1)) := h
set_option maxRecDepth 100000 in
set_option maxHeartbeats 8000000 in
theorem s134_3 {cal : Nat → List Value → mj_H → mj_R → Prop} {Q : mj_R → Prop} {K : Nat → mj_K} {I0 : Nat → Nat → Int32} {J0 : Nat → Nat → Int64} (x1 : Int32) (x2 : Int32)
    (h : (if x2 < 0 then
      Q (.null, (I0, J0, mj_R1))
    else
      (vp_in (I0 0 0) 900 ∧ (K 3 [(0, .ref 0), (1, .int x1), (2, .int (x2 + (-8 : Int32)))] [] ((mj_up (mj_up I0 13 (I0 0 0).toNatClampNeg ((x1.toUInt32 >>> (x2.toUInt32 &&& Int32.toUInt32 31)).toInt32 &&& (255 : Int32))) 0 0 ((I0 0 0) + (1 : Int32))), J0, mj_R1))))) :
    mj_go mj_S1 mt_134 cal Q K 3 [(0, .ref 0), (1, .int x1), (2, .int x2)] [] (I0, J0, mj_R1) := h
-- UnbeatenHouse.end(I)Z (('c', 0), 'I')
set_option maxRecDepth 100000 in
set_option maxHeartbeats 8000000 in
theorem e135 {cal : Nat → List Value → mj_H → mj_R → Prop} {Q : mj_R → Prop} {K : Nat → mj_K} {I0 : Nat → Nat → Int32} {J0 : Nat → Nat → Int64} (x1 : Int32)
    (h : (if x1 < 0 then
      (((0 : Int32) = 0 ∨ (0 : Int32) = 1) ∧ Q (.int (0 : Int32), (I0, J0, mj_R1)))
    else
      (if x1 ≤ (I0 0 0) then
        (((1 : Int32) = 0 ∨ (1 : Int32) = 1) ∧ Q (.int (1 : Int32), ((mj_up I0 0 0 x1), J0, mj_R1)))
      else
        (((0 : Int32) = 0 ∨ (0 : Int32) = 1) ∧ Q (.int (0 : Int32), (I0, J0, mj_R1)))))) :
    mj_if (Nat.ble (mj_sz [.ref 0, .int x1]) mt_135.2.2) (mj_sg mj_S1 mt_135 cal Q K 100 0 (mj_a0 0 [.ref 0, .int x1]) [] (I0, J0, mj_R1)) := h
-- UnbeatenHouse.text()I (('c', 0),)
set_option maxRecDepth 100000 in
set_option maxHeartbeats 8000000 in
theorem e136 {cal : Nat → List Value → mj_H → mj_R → Prop} {Q : mj_R → Prop} {K : Nat → mj_K} {I0 : Nat → Nat → Int32} {J0 : Nat → Nat → Int64}
    (h : (True ∧ ∃ (r1 : Int32) (I1 : Nat → Nat → Int32) (J1 : Nat → Nat → Int64), cal 137 [.ref 11, .int (I0 0 0)] ((mj_up I0 0 0 (0 : Int32)), J0, mj_R1) (.int r1, (I1, J1, mj_R1)) ∧ ((if r1 = 0 then
      Q (.int (-1 : Int32), (I1, J1, mj_R1))
    else
      (True ∧ ∃ (r2 : Nat) (g2 : mj_H), cal 172 [.ref 11, .ref 1] (I1, J1, mj_R1) (.ref r2, g2) ∧ K 35 [(0, .ref 0)] [.ref r2, .ref 0] g2))))) :
    mj_if (Nat.ble (mj_sz [.ref 0]) mt_136.2.2) (mj_sg mj_S1 mt_136 cal Q K 100 0 (mj_a0 0 [.ref 0]) [] (I0, J0, mj_R1)) := h
set_option maxRecDepth 100000 in
set_option maxHeartbeats 8000000 in
theorem s136_38 {cal : Nat → List Value → mj_H → mj_R → Prop} {Q : mj_R → Prop} {K : Nat → mj_K} {I0 : Nat → Nat → Int32} {J0 : Nat → Nat → Int64}
    (h : (True ∧ ∃ (I1 : Nat → Nat → Int32) (J1 : Nat → Nat → Int64), cal 173 [.ref 24, .ref 1] (I0, J0, mj_R1) (.null, (I1, J1, mj_R1)) ∧ ((True ∧ ∃ (I2 : Nat → Nat → Int32) (J2 : Nat → Nat → Int64), cal 181 [.ref 38] (I1, J1, mj_R1) (.null, (I2, J2, mj_R1)) ∧ ((True ∧ ∃ (I3 : Nat → Nat → Int32) (J3 : Nat → Nat → Int64), cal 183 [.ref 47] ((mj_up I2 0 9 (-3 : Int32)), J2, mj_R1) (.null, (I3, J3, mj_R1)) ∧ ((True ∧ ∃ (I4 : Nat → Nat → Int32) (J4 : Nat → Nat → Int64), cal 184 [.ref 53] (I3, (mj_up (mj_up J3 0 14 (0 : Int64)) 0 15 (0 : Int64)), mj_R1) (.null, (I4, J4, mj_R1)) ∧ ((True ∧ ∃ (I5 : Nat → Nat → Int32) (J5 : Nat → Nat → Int64), cal 185 [.ref 58] (I4, J4, mj_R1) (.null, (I5, J5, mj_R1)) ∧ ((vp_in (0 : Int32) 6 ∧ ((True ∧ ∃ (I6 : Nat → Nat → Int32) (J6 : Nat → Nat → Int64), cal 186 [.ref 51, .int (I5 51 0), .int (I5 2 (0 : Int32).toNatClampNeg)] (I5, J5, mj_R1) (.null, (I6, J6, mj_R1)) ∧ (Q (.int (I6 1 0), (I6, J6, mj_R1))))))))))))))))) :
    mj_go mj_S1 mt_136 cal Q K 38 [(0, .ref 0)] [] (I0, J0, mj_R1) := h
-- UnbeatenHouse$Reader.read(I)Z (('c', 11), 'I')
set_option maxRecDepth 100000 in
set_option maxHeartbeats 8000000 in
theorem e137 {cal : Nat → List Value → mj_H → mj_R → Prop} {Q : mj_R → Prop} {K : Nat → mj_K} {I0 : Nat → Nat → Int32} {J0 : Nat → Nat → Int64} (x1 : Int32)
    (h : (True ∧ ∃ (I1 : Nat → Nat → Int32) (J1 : Nat → Nat → Int64), cal 138 [.ref 14] ((mj_up I0 11 2 x1), J0, mj_R1) (.null, (I1, J1, mj_R1)) ∧ (K 32 [(0, .ref 11)] [] ((mj_up (mj_up (mj_up (mj_up I1 11 4 (0 : Int32)) 11 5 (0 : Int32)) 11 9 (0 : Int32)) 11 10 (0 : Int32)), J1, mj_R1)))) :
    mj_if (Nat.ble (mj_sz [.ref 11, .int x1]) mt_137.2.2) (mj_sg mj_S1 mt_137 cal Q K 100 0 (mj_a0 0 [.ref 11, .int x1]) [] (I0, J0, mj_R1)) := h
set_option maxRecDepth 100000 in
set_option maxHeartbeats 8000000 in
theorem s137_32 {cal : Nat → List Value → mj_H → mj_R → Prop} {Q : mj_R → Prop} {K : Nat → mj_K} {I0 : Nat → Nat → Int32} {J0 : Nat → Nat → Int64}
    (h : (True ∧ ∃ (I1 : Nat → Nat → Int32) (J1 : Nat → Nat → Int64), cal 139 [.ref 11] ((mj_up I0 11 11 (-1 : Int32)), J0, mj_R1) (.null, (I1, J1, mj_R1)) ∧ (K 43 [(0, .ref 11), (2, .int (0 : Int32))] [] (I1, J1, mj_R1)))) :
    mj_go mj_S1 mt_137 cal Q K 32 [(0, .ref 11)] [] (I0, J0, mj_R1) := h
set_option maxRecDepth 100000 in
set_option maxHeartbeats 8000000 in
theorem s137_43 {cal : Nat → List Value → mj_H → mj_R → Prop} {Q : mj_R → Prop} {K : Nat → mj_K} {I0 : Nat → Nat → Int32} {J0 : Nat → Nat → Int64} (x2 : Int32)
    (h : (if (900 : Int32) ≤ x2 then
      K 93 [(0, .ref 11)] [] (I0, J0, mj_R1)
    else
      (if (I0 11 5) = 0 then
        K 93 [(0, .ref 11)] [] (I0, J0, mj_R1)
      else
        (if (I0 11 10) = 0 then
          (True ∧ ∃ (I1 : Nat → Nat → Int32) (J1 : Nat → Nat → Int64), cal 143 [.ref 11] (I0, J0, mj_R1) (.null, (I1, J1, mj_R1)) ∧ ((True ∧ ∃ (I2 : Nat → Nat → Int32) (J2 : Nat → Nat → Int64), cal 162 [.ref 11, .int (59 : Int32)] (I1, J1, mj_R1) (.null, (I2, J2, mj_R1)) ∧ (K 43 [(0, .ref 11), (2, .int (x2 + (1 : Int32)))] [] ((mj_up I2 14 0 ((I2 14 0) + (1 : Int32))), J2, mj_R1)))))
        else
          K 93 [(0, .ref 11)] [] (I0, J0, mj_R1))))) :
    mj_go mj_S1 mt_137 cal Q K 43 [(0, .ref 11), (2, .int x2)] [] (I0, J0, mj_R1) := h
set_option maxRecDepth 100000 in
set_option maxHeartbeats 8000000 in
theorem s137_93 {cal : Nat → List Value → mj_H → mj_R → Prop} {Q : mj_R → Prop} {K : Nat → mj_K} {I0 : Nat → Nat → Int32} {J0 : Nat → Nat → Int64}
    (h : (if (I0 11 10) = 0 then
      (((1 : Int32) = 0 ∨ (1 : Int32) = 1) ∧ Q (.int (1 : Int32), (I0, J0, mj_R1)))
    else
      (((0 : Int32) = 0 ∨ (0 : Int32) = 1) ∧ Q (.int (0 : Int32), (I0, J0, mj_R1))))) :
    mj_go mj_S1 mt_137 cal Q K 93 [(0, .ref 11)] [] (I0, J0, mj_R1) := h
-- UnbeatenHouse$Tale.clear()V (('c', 14),)
set_option maxRecDepth 100000 in
set_option maxHeartbeats 8000000 in
theorem e138 {cal : Nat → List Value → mj_H → mj_R → Prop} {Q : mj_R → Prop} {K : Nat → mj_K} {I0 : Nat → Nat → Int32} {J0 : Nat → Nat → Int64}
    (h : K 12 [(0, .ref 14), (1, .int (0 : Int32))] [] ((mj_up (mj_up I0 14 0 (0 : Int32)) 14 9 (0 : Int32)), J0, mj_R1)) :
    mj_if (Nat.ble (mj_sz [.ref 14]) mt_138.2.2) (mj_sg mj_S1 mt_138 cal Q K 100 0 (mj_a0 0 [.ref 14]) [] (I0, J0, mj_R1)) := h
set_option maxRecDepth 100000 in
set_option maxHeartbeats 8000000 in
theorem s138_12 {cal : Nat → List Value → mj_H → mj_R → Prop} {Q : mj_R → Prop} {K : Nat → mj_K} {I0 : Nat → Nat → Int32} {J0 : Nat → Nat → Int64} (x1 : Int32)
    (h : (if (6 : Int32) ≤ x1 then
      Q (.null, (I0, J0, mj_R1))
    else
      (vp_in x1 6 ∧ (K 12 [(0, .ref 14), (1, .int (x1 + (1 : Int32)))] [] ((mj_up I0 15 x1.toNatClampNeg (0 : Int32)), J0, mj_R1))))) :
    mj_go mj_S1 mt_138 cal Q K 12 [(0, .ref 14), (1, .int x1)] [] (I0, J0, mj_R1) := h
-- UnbeatenHouse$Reader.advance()V (('c', 11),)
set_option maxRecDepth 100000 in
set_option maxHeartbeats 8000000 in
theorem e139 {cal : Nat → List Value → mj_H → mj_R → Prop} {Q : mj_R → Prop} {K : Nat → mj_K} {I0 : Nat → Nat → Int32} {J0 : Nat → Nat → Int64}
    (h : (if (I0 11 5) = (3 : Int32) then
      K 22 [(0, .ref 11), (1, .int (1 : Int32))] [] (I0, J0, mj_R1)
    else
      (if (I0 11 5) = (2 : Int32) then
        K 22 [(0, .ref 11), (1, .int (1 : Int32))] [] (I0, J0, mj_R1)
      else
        K 22 [(0, .ref 11), (1, .int (0 : Int32))] [] (I0, J0, mj_R1)))) :
    mj_if (Nat.ble (mj_sz [.ref 11]) mt_139.2.2) (mj_sg mj_S1 mt_139 cal Q K 100 0 (mj_a0 0 [.ref 11]) [] (I0, J0, mj_R1)) := h
set_option maxRecDepth 100000 in
set_option maxHeartbeats 8000000 in
theorem s139_22 {cal : Nat → List Value → mj_H → mj_R → Prop} {Q : mj_R → Prop} {K : Nat → mj_K} {I0 : Nat → Nat → Int32} {J0 : Nat → Nat → Int64} (x1 : Int32)
    (h : (True ∧ ∃ (I1 : Nat → Nat → Int32) (J1 : Nat → Nat → Int64), cal 140 [.ref 11] (I0, J0, mj_R1) (.null, (I1, J1, mj_R1)) ∧ ((if (I1 11 4) < (I1 11 2) then
      (vp_in (I1 11 4) 900 ∧ ((True ∧ ∃ (r2 : Int32) (I2 : Nat → Nat → Int32) (J2 : Nat → Nat → Int64), cal 141 [.int (I1 13 (I1 11 4).toNatClampNeg)] ((mj_up (mj_up (mj_up I1 11 8 (I1 11 4)) 11 7 (-1 : Int32)) 11 6 (0 : Int32)), J1, mj_R1) (.int r2, (I2, J2, mj_R1)) ∧ ((if r2 = (1 : Int32) then
        (vp_in (I2 11 4) 900 ∧ (Q (.null, ((mj_up (mj_up (mj_up I2 11 5 r2) 11 6 (I2 13 (I2 11 4).toNatClampNeg)) 11 4 ((I2 11 4) + (1 : Int32))), J2, mj_R1))))
      else
        (if x1 = 0 then
          K 132 [(0, .ref 11)] [] ((mj_up I2 11 5 r2), J2, mj_R1)
        else
          (if (I2 11 8) = (I0 11 4) then
            Q (.null, ((mj_up (mj_up I2 11 5 r2) 11 5 (4 : Int32)), J2, mj_R1))
          else
            K 132 [(0, .ref 11)] [] ((mj_up I2 11 5 r2), J2, mj_R1))))))))
    else
      Q (.null, ((mj_up (mj_up (mj_up (mj_up I1 11 8 (I1 11 4)) 11 7 (-1 : Int32)) 11 6 (0 : Int32)) 11 5 (0 : Int32)), J1, mj_R1)))))) :
    mj_go mj_S1 mt_139 cal Q K 22 [(0, .ref 11), (1, .int x1)] [] (I0, J0, mj_R1) := h
set_option maxRecDepth 100000 in
set_option maxHeartbeats 8000000 in
theorem s139_132 {cal : Nat → List Value → mj_H → mj_R → Prop} {Q : mj_R → Prop} {K : Nat → mj_K} {I0 : Nat → Nat → Int32} {J0 : Nat → Nat → Int64}
    (h : (if (I0 11 5) = (3 : Int32) then
      K 147 [(0, .ref 11), (3, .int (6 : Int32))] [] (I0, J0, mj_R1)
    else
      K 147 [(0, .ref 11), (3, .int (4 : Int32))] [] (I0, J0, mj_R1))) :
    mj_go mj_S1 mt_139 cal Q K 132 [(0, .ref 11)] [] (I0, J0, mj_R1) := h
set_option maxRecDepth 100000 in
set_option maxHeartbeats 8000000 in
theorem s139_147 {cal : Nat → List Value → mj_H → mj_R → Prop} {Q : mj_R → Prop} {K : Nat → mj_K} {I0 : Nat → Nat → Int32} {J0 : Nat → Nat → Int64} (x3 : Int32)
    (h : (True ∧ ∃ (r1 : Int32) (I1 : Nat → Nat → Int32) (J1 : Nat → Nat → Int64), cal 0 [.int (I0 11 2), .int ((I0 11 4) + x3)] (I0, J0, mj_R1) (.int r1, (I1, J1, mj_R1)) ∧ (K 168 [(0, .ref 11), (4, .int r1), (5, .int (I1 11 4))] [] (I1, J1, mj_R1)))) :
    mj_go mj_S1 mt_139 cal Q K 147 [(0, .ref 11), (3, .int x3)] [] (I0, J0, mj_R1) := h
set_option maxRecDepth 100000 in
set_option maxHeartbeats 8000000 in
theorem s139_168 {cal : Nat → List Value → mj_H → mj_R → Prop} {Q : mj_R → Prop} {K : Nat → mj_K} {I0 : Nat → Nat → Int32} {J0 : Nat → Nat → Int64} (x4 : Int32) (x5 : Int32)
    (h : (if x4 ≤ x5 then
      K 257 [(0, .ref 11)] [] (I0, J0, mj_R1)
    else
      (vp_in x5 900 ∧ ((True ∧ ∃ (r1 : Int32) (I1 : Nat → Nat → Int32) (J1 : Nat → Nat → Int64), cal 141 [.int (I0 13 x5.toNatClampNeg)] (I0, J0, mj_R1) (.int r1, (I1, J1, mj_R1)) ∧ ((if r1 = (I1 11 5) then
        (if (I1 11 5) = (3 : Int32) then
          (vp_in x5 900 ∧ (K 243 [(0, .ref 11), (4, .int x4), (5, .int x5)] [] ((mj_up I1 11 6 ((((I1 11 6) * (32 : Int32)) + (I1 13 x5.toNatClampNeg)) - (96 : Int32))), J1, mj_R1)))
        else
          (vp_in x5 900 ∧ (K 243 [(0, .ref 11), (4, .int x4), (5, .int x5)] [] ((mj_up I1 11 6 ((((I1 11 6) * (10 : Int32)) + (I1 13 x5.toNatClampNeg)) - (48 : Int32))), J1, mj_R1))))
      else
        K 257 [(0, .ref 11)] [] (I1, J1, mj_R1)))))))) :
    mj_go mj_S1 mt_139 cal Q K 168 [(0, .ref 11), (4, .int x4), (5, .int x5)] [] (I0, J0, mj_R1) := h
set_option maxRecDepth 100000 in
set_option maxHeartbeats 8000000 in
theorem s139_243 {cal : Nat → List Value → mj_H → mj_R → Prop} {Q : mj_R → Prop} {K : Nat → mj_K} {I0 : Nat → Nat → Int32} {J0 : Nat → Nat → Int64} (x4 : Int32) (x5 : Int32)
    (h : K 168 [(0, .ref 11), (4, .int x4), (5, .int (x5 + (1 : Int32)))] [] ((mj_up I0 11 4 (x5 + (1 : Int32))), J0, mj_R1)) :
    mj_go mj_S1 mt_139 cal Q K 243 [(0, .ref 11), (4, .int x4), (5, .int x5)] [] (I0, J0, mj_R1) := h
set_option maxRecDepth 100000 in
set_option maxHeartbeats 8000000 in
theorem s139_257 {cal : Nat → List Value → mj_H → mj_R → Prop} {Q : mj_R → Prop} {K : Nat → mj_K} {I0 : Nat → Nat → Int32} {J0 : Nat → Nat → Int64}
    (h : (if (I0 11 2) ≤ (I0 11 4) then
      K 303 [(0, .ref 11)] [] (I0, J0, mj_R1)
    else
      (vp_in (I0 11 4) 900 ∧ ((True ∧ ∃ (r1 : Int32) (I1 : Nat → Nat → Int32) (J1 : Nat → Nat → Int64), cal 141 [.int (I0 13 (I0 11 4).toNatClampNeg)] (I0, J0, mj_R1) (.int r1, (I1, J1, mj_R1)) ∧ ((if r1 = (I1 11 5) then
        Q (.null, ((mj_up (mj_up I1 11 5 (4 : Int32)) 11 8 (I1 11 4)), J1, mj_R1))
      else
        K 303 [(0, .ref 11)] [] (I1, J1, mj_R1)))))))) :
    mj_go mj_S1 mt_139 cal Q K 257 [(0, .ref 11)] [] (I0, J0, mj_R1) := h
set_option maxRecDepth 100000 in
set_option maxHeartbeats 8000000 in
theorem s139_303 {cal : Nat → List Value → mj_H → mj_R → Prop} {Q : mj_R → Prop} {K : Nat → mj_K} {I0 : Nat → Nat → Int32} {J0 : Nat → Nat → Int64}
    (h : (if (I0 11 5) = (3 : Int32) then
      (True ∧ ∃ (r1 : Int32) (I1 : Nat → Nat → Int32) (J1 : Nat → Nat → Int64), cal 142 [.ref 11, .int (I0 11 6)] (I0, J0, mj_R1) (.int r1, (I1, J1, mj_R1)) ∧ (Q (.null, ((mj_up I1 11 7 r1), J1, mj_R1))))
    else
      Q (.null, (I0, J0, mj_R1)))) :
    mj_go mj_S1 mt_139 cal Q K 303 [(0, .ref 11)] [] (I0, J0, mj_R1) := h
-- UnbeatenHouse$Reader.skipBlanks()V (('c', 11),)
set_option maxRecDepth 100000 in
set_option maxHeartbeats 8000000 in
theorem e140 {cal : Nat → List Value → mj_H → mj_R → Prop} {Q : mj_R → Prop} {K : Nat → mj_K} {I0 : Nat → Nat → Int32} {J0 : Nat → Nat → Int64}
    (h : K 5 [(0, .ref 11), (1, .int (I0 11 4))] [] (I0, J0, mj_R1)) :
    mj_if (Nat.ble (mj_sz [.ref 11]) mt_140.2.2) (mj_sg mj_S1 mt_140 cal Q K 100 0 (mj_a0 0 [.ref 11]) [] (I0, J0, mj_R1)) := h
set_option maxRecDepth 100000 in
set_option maxHeartbeats 8000000 in
theorem s140_5 {cal : Nat → List Value → mj_H → mj_R → Prop} {Q : mj_R → Prop} {K : Nat → mj_K} {I0 : Nat → Nat → Int32} {J0 : Nat → Nat → Int64} (x1 : Int32)
    (h : (if (I0 11 2) ≤ x1 then
      Q (.null, (I0, J0, mj_R1))
    else
      (vp_in x1 900 ∧ ((if (I0 13 x1.toNatClampNeg) = (32 : Int32) then
        K 35 [(0, .ref 11), (1, .int x1)] [] (I0, J0, mj_R1)
      else
        (vp_in x1 900 ∧ ((if (I0 13 x1.toNatClampNeg) = (10 : Int32) then
          K 35 [(0, .ref 11), (1, .int x1)] [] (I0, J0, mj_R1)
        else
          Q (.null, (I0, J0, mj_R1)))))))))) :
    mj_go mj_S1 mt_140 cal Q K 5 [(0, .ref 11), (1, .int x1)] [] (I0, J0, mj_R1) := h
set_option maxRecDepth 100000 in
set_option maxHeartbeats 8000000 in
theorem s140_35 {cal : Nat → List Value → mj_H → mj_R → Prop} {Q : mj_R → Prop} {K : Nat → mj_K} {I0 : Nat → Nat → Int32} {J0 : Nat → Nat → Int64} (x1 : Int32)
    (h : K 5 [(0, .ref 11), (1, .int (x1 + (1 : Int32)))] [] ((mj_up I0 11 4 (x1 + (1 : Int32))), J0, mj_R1)) :
    mj_go mj_S1 mt_140 cal Q K 35 [(0, .ref 11), (1, .int x1)] [] (I0, J0, mj_R1) := h
-- UnbeatenHouse$Reader.kindOf(I)I ('I',)
set_option maxRecDepth 100000 in
set_option maxHeartbeats 8000000 in
theorem e141 {cal : Nat → List Value → mj_H → mj_R → Prop} {Q : mj_R → Prop} {K : Nat → mj_K} {I0 : Nat → Nat → Int32} {J0 : Nat → Nat → Int64} (x0 : Int32)
    (h : (if x0 < (97 : Int32) then
      K 14 [(0, .int x0)] [] (I0, J0, mj_R1)
    else
      (if (122 : Int32) < x0 then
        K 14 [(0, .int x0)] [] (I0, J0, mj_R1)
      else
        Q (.int (3 : Int32), (I0, J0, mj_R1))))) :
    mj_if (Nat.ble (mj_sz [.int x0]) mt_141.2.2) (mj_sg mj_S1 mt_141 cal Q K 100 0 (mj_a0 0 [.int x0]) [] (I0, J0, mj_R1)) := h
set_option maxRecDepth 100000 in
set_option maxHeartbeats 8000000 in
theorem s141_14 {cal : Nat → List Value → mj_H → mj_R → Prop} {Q : mj_R → Prop} {K : Nat → mj_K} {I0 : Nat → Nat → Int32} {J0 : Nat → Nat → Int64} (x0 : Int32)
    (h : (if x0 < (48 : Int32) then
      Q (.int (1 : Int32), (I0, J0, mj_R1))
    else
      (if (57 : Int32) < x0 then
        Q (.int (1 : Int32), (I0, J0, mj_R1))
      else
        Q (.int (2 : Int32), (I0, J0, mj_R1))))) :
    mj_go mj_S1 mt_141 cal Q K 14 [(0, .int x0)] [] (I0, J0, mj_R1) := h
-- UnbeatenHouse$Reader.ownNumber(I)I (('c', 11), 'I')
set_option maxRecDepth 100000 in
set_option maxHeartbeats 8000000 in
theorem e142 {cal : Nat → List Value → mj_H → mj_R → Prop} {Q : mj_R → Prop} {K : Nat → mj_K} {I0 : Nat → Nat → Int32} {J0 : Nat → Nat → Int64} (x1 : Int32)
    (h : K 2 [(0, .ref 11), (1, .int x1), (2, .int (0 : Int32))] [] (I0, J0, mj_R1)) :
    mj_if (Nat.ble (mj_sz [.ref 11, .int x1]) mt_142.2.2) (mj_sg mj_S1 mt_142 cal Q K 100 0 (mj_a0 0 [.ref 11, .int x1]) [] (I0, J0, mj_R1)) := h
set_option maxRecDepth 100000 in
set_option maxHeartbeats 8000000 in
theorem s142_2 {cal : Nat → List Value → mj_H → mj_R → Prop} {Q : mj_R → Prop} {K : Nat → mj_K} {I0 : Nat → Nat → Int32} {J0 : Nat → Nat → Int64} (x1 : Int32) (x2 : Int32)
    (h : (if (17 : Int32) ≤ x2 then
      Q (.int (-1 : Int32), (I0, J0, mj_R1))
    else
      (vp_in x2 17 ∧ ((if (I0 12 x2.toNatClampNeg) = x1 then
        Q (.int x2, (I0, J0, mj_R1))
      else
        K 2 [(0, .ref 11), (1, .int x1), (2, .int (x2 + (1 : Int32)))] [] (I0, J0, mj_R1)))))) :
    mj_go mj_S1 mt_142 cal Q K 2 [(0, .ref 11), (1, .int x1), (2, .int x2)] [] (I0, J0, mj_R1) := h
-- UnbeatenHouse$Reader.readStatement()V (('c', 11),)
set_option maxRecDepth 100000 in
set_option maxHeartbeats 8000000 in
theorem e143 {cal : Nat → List Value → mj_H → mj_R → Prop} {Q : mj_R → Prop} {K : Nat → mj_K} {I0 : Nat → Nat → Int32} {J0 : Nat → Nat → Int64}
    (h : (if (I0 11 7) < 0 then
      (True ∧ ∃ (I1 : Nat → Nat → Int32) (J1 : Nat → Nat → Int64), cal 144 [.ref 11, .int (1 : Int32)] (I0, J0, mj_R1) (.null, (I1, J1, mj_R1)) ∧ (Q (.null, (I1, J1, mj_R1))))
    else
      (if (I0 11 7) ≤ (5 : Int32) then
        (vp_in (I0 11 7) 6 ∧ ((vp_in (I0 11 7) 6 ∧ ((if (I0 15 (I0 11 7).toNatClampNeg) < (mj_most (I0 11 7).toNatClampNeg) then
          (True ∧ ∃ (r2 : Int32) (I2 : Nat → Nat → Int32) (J2 : Nat → Nat → Int64), cal 145 [.ref 11, .int (I0 11 7)] (I0, J0, mj_R1) (.int r2, (I2, J2, mj_R1)) ∧ ((if r2 = 0 then
            (True ∧ ∃ (I3 : Nat → Nat → Int32) (J3 : Nat → Nat → Int64), cal 139 [.ref 11] (I2, J2, mj_R1) (.null, (I3, J3, mj_R1)) ∧ ((if (I0 11 7) = (0 : Int32) then
              (True ∧ ∃ (I5 : Nat → Nat → Int32) (J5 : Nat → Nat → Int64), cal 146 [.ref 11] (I3, J3, mj_R1) (.null, (I5, J5, mj_R1)) ∧ (Q (.null, (I5, J5, mj_R1))))
            else (if (I0 11 7) = (1 : Int32) then
              (True ∧ ∃ (I6 : Nat → Nat → Int32) (J6 : Nat → Nat → Int64), cal 170 [.ref 11] (I3, J3, mj_R1) (.null, (I6, J6, mj_R1)) ∧ (Q (.null, (I6, J6, mj_R1))))
            else (if (I0 11 7) = (2 : Int32) then
              (True ∧ ∃ (I7 : Nat → Nat → Int32) (J7 : Nat → Nat → Int64), cal 147 [.ref 11, .int (2 : Int32)] (I3, J3, mj_R1) (.null, (I7, J7, mj_R1)) ∧ (Q (.null, (I7, J7, mj_R1))))
            else (if (I0 11 7) = (3 : Int32) then
              (True ∧ ∃ (I8 : Nat → Nat → Int32) (J8 : Nat → Nat → Int64), cal 152 [.ref 11] (I3, J3, mj_R1) (.null, (I8, J8, mj_R1)) ∧ (Q (.null, (I8, J8, mj_R1))))
            else (if (I0 11 7) = (4 : Int32) then
              (True ∧ ∃ (I9 : Nat → Nat → Int32) (J9 : Nat → Nat → Int64), cal 171 [.ref 11] (I3, J3, mj_R1) (.null, (I9, J9, mj_R1)) ∧ (Q (.null, (I9, J9, mj_R1))))
            else (if (I0 11 7) = (5 : Int32) then
              (True ∧ ∃ (I10 : Nat → Nat → Int32) (J10 : Nat → Nat → Int64), cal 157 [.ref 11] (I3, J3, mj_R1) (.null, (I10, J10, mj_R1)) ∧ ((True ∧ ∃ (I11 : Nat → Nat → Int32) (J11 : Nat → Nat → Int64), cal 169 [.ref 14] (I10, J10, mj_R1) (.null, (I11, J11, mj_R1)) ∧ (Q (.null, (I11, J11, mj_R1))))))
            else (True ∧ ∃ (I4 : Nat → Nat → Int32) (J4 : Nat → Nat → Int64), cal 171 [.ref 11] (I3, J3, mj_R1) (.null, (I4, J4, mj_R1)) ∧ (Q (.null, (I4, J4, mj_R1))))))))))))
          else
            (True ∧ ∃ (I12 : Nat → Nat → Int32) (J12 : Nat → Nat → Int64), cal 144 [.ref 11, .int (6 : Int32)] (I2, J2, mj_R1) (.null, (I12, J12, mj_R1)) ∧ (Q (.null, (I12, J12, mj_R1)))))))
        else
          (True ∧ ∃ (I13 : Nat → Nat → Int32) (J13 : Nat → Nat → Int64), cal 144 [.ref 11, .int (5 : Int32)] (I0, J0, mj_R1) (.null, (I13, J13, mj_R1)) ∧ (Q (.null, (I13, J13, mj_R1)))))))))
      else
        (True ∧ ∃ (I14 : Nat → Nat → Int32) (J14 : Nat → Nat → Int64), cal 144 [.ref 11, .int (1 : Int32)] (I0, J0, mj_R1) (.null, (I14, J14, mj_R1)) ∧ (Q (.null, (I14, J14, mj_R1))))))) :
    mj_if (Nat.ble (mj_sz [.ref 11]) mt_143.2.2) (mj_sg mj_S1 mt_143 cal Q K 100 0 (mj_a0 0 [.ref 11]) [] (I0, J0, mj_R1)) := h
-- UnbeatenHouse$Reader.blame(I)V (('c', 11), 'I')
set_option maxRecDepth 100000 in
set_option maxHeartbeats 8000000 in
theorem e144 {cal : Nat → List Value → mj_H → mj_R → Prop} {Q : mj_R → Prop} {K : Nat → mj_K} {I0 : Nat → Nat → Int32} {J0 : Nat → Nat → Int64} (x1 : Int32)
    (h : (if (I0 11 10) = 0 then
      K 20 [(0, .ref 11)] [] ((mj_up (mj_up I0 11 10 x1) 11 11 (I0 11 8)), J0, mj_R1)
    else
      K 20 [(0, .ref 11)] [] (I0, J0, mj_R1))) :
    mj_if (Nat.ble (mj_sz [.ref 11, .int x1]) mt_144.2.2) (mj_sg mj_S1 mt_144 cal Q K 100 0 (mj_a0 0 [.ref 11, .int x1]) [] (I0, J0, mj_R1)) := h
set_option maxRecDepth 100000 in
set_option maxHeartbeats 8000000 in
theorem s144_20 {cal : Nat → List Value → mj_H → mj_R → Prop} {Q : mj_R → Prop} {K : Nat → mj_K} {I0 : Nat → Nat → Int32} {J0 : Nat → Nat → Int64}
    (h : Q (.null, ((mj_up (mj_up I0 11 5 (4 : Int32)) 11 7 (-1 : Int32)), J0, mj_R1))) :
    mj_go mj_S1 mt_144 cal Q K 20 [(0, .ref 11)] [] (I0, J0, mj_R1) := h
-- UnbeatenHouse$Reader.isOutOfTurn(I)Z (('c', 11), 'I')
set_option maxRecDepth 100000 in
set_option maxHeartbeats 8000000 in
theorem e145 {cal : Nat → List Value → mj_H → mj_R → Prop} {Q : mj_R → Prop} {K : Nat → mj_K} {I0 : Nat → Nat → Int32} {J0 : Nat → Nat → Int64} (x1 : Int32)
    (h : (if x1 = 0 then
      (vp_in (1 : Int32) 6 ∧ ((vp_in (3 : Int32) 6 ∧ ((vp_in (4 : Int32) 6 ∧ ((if (((I0 15 (1 : Int32).toNatClampNeg) + (I0 15 (3 : Int32).toNatClampNeg)) + (I0 15 (4 : Int32).toNatClampNeg)) ≤ 0 then
        (((0 : Int32) = 0 ∨ (0 : Int32) = 1) ∧ Q (.int (0 : Int32), (I0, J0, mj_R1)))
      else
        (((1 : Int32) = 0 ∨ (1 : Int32) = 1) ∧ Q (.int (1 : Int32), (I0, J0, mj_R1))))))))))
    else
      (if x1 = (1 : Int32) then
        K 57 [(0, .ref 11)] [] (I0, J0, mj_R1)
      else
        (if x1 = (3 : Int32) then
          K 57 [(0, .ref 11)] [] (I0, J0, mj_R1)
        else
          (if x1 = (4 : Int32) then
            K 57 [(0, .ref 11)] [] (I0, J0, mj_R1)
          else
            (((0 : Int32) = 0 ∨ (0 : Int32) = 1) ∧ Q (.int (0 : Int32), (I0, J0, mj_R1)))))))) :
    mj_if (Nat.ble (mj_sz [.ref 11, .int x1]) mt_145.2.2) (mj_sg mj_S1 mt_145 cal Q K 100 0 (mj_a0 0 [.ref 11, .int x1]) [] (I0, J0, mj_R1)) := h
set_option maxRecDepth 100000 in
set_option maxHeartbeats 8000000 in
theorem s145_57 {cal : Nat → List Value → mj_H → mj_R → Prop} {Q : mj_R → Prop} {K : Nat → mj_K} {I0 : Nat → Nat → Int32} {J0 : Nat → Nat → Int64}
    (h : (vp_in (0 : Int32) 6 ∧ ((if (I0 15 (0 : Int32).toNatClampNeg) = 0 then
      (((1 : Int32) = 0 ∨ (1 : Int32) = 1) ∧ Q (.int (1 : Int32), (I0, J0, mj_R1)))
    else
      (((0 : Int32) = 0 ∨ (0 : Int32) = 1) ∧ Q (.int (0 : Int32), (I0, J0, mj_R1))))))) :
    mj_go mj_S1 mt_145 cal Q K 57 [(0, .ref 11)] [] (I0, J0, mj_R1) := h
-- UnbeatenHouse$Reader.readWish()V (('c', 11),)
set_option maxRecDepth 100000 in
set_option maxHeartbeats 8000000 in
theorem e146 {cal : Nat → List Value → mj_H → mj_R → Prop} {Q : mj_R → Prop} {K : Nat → mj_K} {I0 : Nat → Nat → Int32} {J0 : Nat → Nat → Int64}
    (h : (vp_in (0 : Int32) 6 ∧ ((True ∧ ∃ (I1 : Nat → Nat → Int32) (J1 : Nat → Nat → Int64), cal 147 [.ref 11, .int (0 : Int32)] (I0, J0, mj_R1) (.null, (I1, J1, mj_R1)) ∧ ((if (I1 11 7) = (6 : Int32) then
      K 33 [(0, .ref 11), (1, .int (I0 15 (0 : Int32).toNatClampNeg))] [] (I1, J1, mj_R1)
    else
      (if (I1 11 7) = (7 : Int32) then
        K 33 [(0, .ref 11), (1, .int (I0 15 (0 : Int32).toNatClampNeg))] [] (I1, J1, mj_R1)
      else
        (True ∧ ∃ (I2 : Nat → Nat → Int32) (J2 : Nat → Nat → Int64), cal 144 [.ref 11, .int (1 : Int32)] (I1, J1, mj_R1) (.null, (I2, J2, mj_R1)) ∧ (Q (.null, (I2, J2, mj_R1))))))))))) :
    mj_if (Nat.ble (mj_sz [.ref 11]) mt_146.2.2) (mj_sg mj_S1 mt_146 cal Q K 100 0 (mj_a0 0 [.ref 11]) [] (I0, J0, mj_R1)) := h
set_option maxRecDepth 100000 in
set_option maxHeartbeats 8000000 in
theorem s146_33 {cal : Nat → List Value → mj_H → mj_R → Prop} {Q : mj_R → Prop} {K : Nat → mj_K} {I0 : Nat → Nat → Int32} {J0 : Nat → Nat → Int64} (x1 : Int32)
    (h : (if (I0 11 7) = (7 : Int32) then
      (vp_in x1 4 ∧ (K 56 [(0, .ref 11)] [] ((mj_up I0 17 x1.toNatClampNeg (vp_nar .boolean (1 : Int32))), J0, mj_R1)))
    else
      (vp_in x1 4 ∧ (K 56 [(0, .ref 11)] [] ((mj_up I0 17 x1.toNatClampNeg (vp_nar .boolean (0 : Int32))), J0, mj_R1))))) :
    mj_go mj_S1 mt_146 cal Q K 33 [(0, .ref 11), (1, .int x1)] [] (I0, J0, mj_R1) := h
set_option maxRecDepth 100000 in
set_option maxHeartbeats 8000000 in
theorem s146_56 {cal : Nat → List Value → mj_H → mj_R → Prop} {Q : mj_R → Prop} {K : Nat → mj_K} {I0 : Nat → Nat → Int32} {J0 : Nat → Nat → Int64}
    (h : (True ∧ ∃ (I1 : Nat → Nat → Int32) (J1 : Nat → Nat → Int64), cal 139 [.ref 11] (I0, J0, mj_R1) (.null, (I1, J1, mj_R1)) ∧ (Q (.null, (I1, J1, mj_R1))))) :
    mj_go mj_S1 mt_146 cal Q K 56 [(0, .ref 11)] [] (I0, J0, mj_R1) := h
-- UnbeatenHouse$Reader.giveName(I)V (('c', 11), 'I')
set_option maxRecDepth 100000 in
set_option maxHeartbeats 8000000 in
theorem e147 {cal : Nat → List Value → mj_H → mj_R → Prop} {Q : mj_R → Prop} {K : Nat → mj_K} {I0 : Nat → Nat → Int32} {J0 : Nat → Nat → Int64} (x1 : Int32)
    (h : (True ∧ ∃ (r1 : Int32) (I1 : Nat → Nat → Int32) (J1 : Nat → Nat → Int64), cal 148 [.ref 11] (I0, J0, mj_R1) (.int r1, (I1, J1, mj_R1)) ∧ ((if r1 = 0 then
      (True ∧ ∃ (I2 : Nat → Nat → Int32) (J2 : Nat → Nat → Int64), cal 144 [.ref 11, .int (1 : Int32)] (I1, J1, mj_R1) (.null, (I2, J2, mj_R1)) ∧ (Q (.null, (I2, J2, mj_R1))))
    else
      (True ∧ ∃ (r3 : Int32) (I3 : Nat → Nat → Int32) (J3 : Nat → Nat → Int64), cal 149 [.ref 14, .int (I1 11 6)] (I1, J1, mj_R1) (.int r3, (I3, J3, mj_R1)) ∧ ((if r3 = 0 then
        (True ∧ ∃ (I4 : Nat → Nat → Int32) (J4 : Nat → Nat → Int64), cal 151 [.ref 14, .int x1, .int (I3 11 6)] (I3, J3, mj_R1) (.null, (I4, J4, mj_R1)) ∧ ((True ∧ ∃ (I5 : Nat → Nat → Int32) (J5 : Nat → Nat → Int64), cal 139 [.ref 11] (I4, J4, mj_R1) (.null, (I5, J5, mj_R1)) ∧ (Q (.null, (I5, J5, mj_R1))))))
      else
        (True ∧ ∃ (I6 : Nat → Nat → Int32) (J6 : Nat → Nat → Int64), cal 144 [.ref 11, .int (2 : Int32)] (I3, J3, mj_R1) (.null, (I6, J6, mj_R1)) ∧ (Q (.null, (I6, J6, mj_R1))))))))))) :
    mj_if (Nat.ble (mj_sz [.ref 11, .int x1]) mt_147.2.2) (mj_sg mj_S1 mt_147 cal Q K 100 0 (mj_a0 0 [.ref 11, .int x1]) [] (I0, J0, mj_R1)) := h
-- UnbeatenHouse$Reader.isName()Z (('c', 11),)
set_option maxRecDepth 100000 in
set_option maxHeartbeats 8000000 in
theorem e148 {cal : Nat → List Value → mj_H → mj_R → Prop} {Q : mj_R → Prop} {K : Nat → mj_K} {I0 : Nat → Nat → Int32} {J0 : Nat → Nat → Int64}
    (h : (if (I0 11 5) = (3 : Int32) then
      (if (I0 11 7) = (-1 : Int32) then
        (((1 : Int32) = 0 ∨ (1 : Int32) = 1) ∧ Q (.int (1 : Int32), (I0, J0, mj_R1)))
      else
        (((0 : Int32) = 0 ∨ (0 : Int32) = 1) ∧ Q (.int (0 : Int32), (I0, J0, mj_R1))))
    else
      (((0 : Int32) = 0 ∨ (0 : Int32) = 1) ∧ Q (.int (0 : Int32), (I0, J0, mj_R1))))) :
    mj_if (Nat.ble (mj_sz [.ref 11]) mt_148.2.2) (mj_sg mj_S1 mt_148 cal Q K 100 0 (mj_a0 0 [.ref 11]) [] (I0, J0, mj_R1)) := h
-- UnbeatenHouse$Tale.isGiven(I)Z (('c', 14), 'I')
set_option maxRecDepth 100000 in
set_option maxHeartbeats 8000000 in
theorem e149 {cal : Nat → List Value → mj_H → mj_R → Prop} {Q : mj_R → Prop} {K : Nat → mj_K} {I0 : Nat → Nat → Int32} {J0 : Nat → Nat → Int64} (x1 : Int32)
    (h : K 2 [(0, .ref 14), (1, .int x1), (2, .int (0 : Int32))] [] (I0, J0, mj_R1)) :
    mj_if (Nat.ble (mj_sz [.ref 14, .int x1]) mt_149.2.2) (mj_sg mj_S1 mt_149 cal Q K 100 0 (mj_a0 0 [.ref 14, .int x1]) [] (I0, J0, mj_R1)) := h
set_option maxRecDepth 100000 in
set_option maxHeartbeats 8000000 in
theorem s149_2 {cal : Nat → List Value → mj_H → mj_R → Prop} {Q : mj_R → Prop} {K : Nat → mj_K} {I0 : Nat → Nat → Int32} {J0 : Nat → Nat → Int64} (x1 : Int32) (x2 : Int32)
    (h : (if (6 : Int32) ≤ x2 then
      (((0 : Int32) = 0 ∨ (0 : Int32) = 1) ∧ Q (.int (0 : Int32), (I0, J0, mj_R1)))
    else
      (True ∧ ∃ (r1 : Int32) (I1 : Nat → Nat → Int32) (J1 : Nat → Nat → Int64), cal 150 [.ref 14, .int x2, .int x1] (I0, J0, mj_R1) (.int r1, (I1, J1, mj_R1)) ∧ ((if r1 = (-1 : Int32) then
        K 2 [(0, .ref 14), (1, .int x1), (2, .int (x2 + (1 : Int32)))] [] (I1, J1, mj_R1)
      else
        (((1 : Int32) = 0 ∨ (1 : Int32) = 1) ∧ Q (.int (1 : Int32), (I1, J1, mj_R1)))))))) :
    mj_go mj_S1 mt_149 cal Q K 2 [(0, .ref 14), (1, .int x1), (2, .int x2)] [] (I0, J0, mj_R1) := h
-- UnbeatenHouse$Tale.find(II)I (('c', 14), 'I', 'I')
set_option maxRecDepth 100000 in
set_option maxHeartbeats 8000000 in
theorem e150 {cal : Nat → List Value → mj_H → mj_R → Prop} {Q : mj_R → Prop} {K : Nat → mj_K} {I0 : Nat → Nat → Int32} {J0 : Nat → Nat → Int64} (x1 : Int32) (x2 : Int32)
    (h : (if x1 = (3 : Int32) then
      Q (.int (-1 : Int32), (I0, J0, mj_R1))
    else
      (if x1 = (5 : Int32) then
        Q (.int (-1 : Int32), (I0, J0, mj_R1))
      else
        K 14 [(0, .ref 14), (1, .int x1), (2, .int x2), (3, .int (0 : Int32))] [] (I0, J0, mj_R1)))) :
    mj_if (Nat.ble (mj_sz [.ref 14, .int x1, .int x2]) mt_150.2.2) (mj_sg mj_S1 mt_150 cal Q K 100 0 (mj_a0 0 [.ref 14, .int x1, .int x2]) [] (I0, J0, mj_R1)) := h
set_option maxRecDepth 100000 in
set_option maxHeartbeats 8000000 in
theorem s150_14 {cal : Nat → List Value → mj_H → mj_R → Prop} {Q : mj_R → Prop} {K : Nat → mj_K} {I0 : Nat → Nat → Int32} {J0 : Nat → Nat → Int64} (x1 : Int32) (x2 : Int32) (x3 : Int32)
    (h : (vp_in x1 6 ∧ ((if (I0 15 x1.toNatClampNeg) ≤ x3 then
      Q (.int (-1 : Int32), (I0, J0, mj_R1))
    else
      (vp_in ((x1 * (40 : Int32)) + x3) 240 ∧ ((if (I0 16 ((x1 * (40 : Int32)) + x3).toNatClampNeg) = x2 then
        Q (.int x3, (I0, J0, mj_R1))
      else
        K 14 [(0, .ref 14), (1, .int x1), (2, .int x2), (3, .int (x3 + (1 : Int32)))] [] (I0, J0, mj_R1)))))))) :
    mj_go mj_S1 mt_150 cal Q K 14 [(0, .ref 14), (1, .int x1), (2, .int x2), (3, .int x3)] [] (I0, J0, mj_R1) := h
-- UnbeatenHouse$Tale.give(II)V (('c', 14), 'I', 'I')
set_option maxRecDepth 100000 in
set_option maxHeartbeats 8000000 in
theorem e151 {cal : Nat → List Value → mj_H → mj_R → Prop} {Q : mj_R → Prop} {K : Nat → mj_K} {I0 : Nat → Nat → Int32} {J0 : Nat → Nat → Int64} (x1 : Int32) (x2 : Int32)
    (h : (vp_in x1 6 ∧ ((vp_in ((x1 * (40 : Int32)) + (I0 15 x1.toNatClampNeg)) 240 ∧ ((vp_in x1 6 ∧ ((vp_in x1 6 ∧ (Q (.null, ((mj_up (mj_up I0 16 ((x1 * (40 : Int32)) + (I0 15 x1.toNatClampNeg)).toNatClampNeg x2) 15 x1.toNatClampNeg ((I0 15 x1.toNatClampNeg) + (1 : Int32))), J0, mj_R1))))))))))) :
    mj_if (Nat.ble (mj_sz [.ref 14, .int x1, .int x2]) mt_151.2.2) (mj_sg mj_S1 mt_151 cal Q K 100 0 (mj_a0 0 [.ref 14, .int x1, .int x2]) [] (I0, J0, mj_R1)) := h
-- UnbeatenHouse$Reader.readTie()V (('c', 11),)
set_option maxRecDepth 100000 in
set_option maxHeartbeats 8000000 in
theorem e152 {cal : Nat → List Value → mj_H → mj_R → Prop} {Q : mj_R → Prop} {K : Nat → mj_K} {I0 : Nat → Nat → Int32} {J0 : Nat → Nat → Int64}
    (h : (vp_in (3 : Int32) 6 ∧ ((True ∧ ∃ (r1 : Int32) (I1 : Nat → Nat → Int32) (J1 : Nat → Nat → Int64), cal 153 [.ref 11, .int (2 : Int32), .int (-1 : Int32)] (I0, J0, mj_R1) (.int r1, (I1, J1, mj_R1)) ∧ ((vp_in (I0 15 (3 : Int32).toNatClampNeg) 24 ∧ ((vp_in (I0 15 (3 : Int32).toNatClampNeg) 24 ∧ ((True ∧ ∃ (r2 : Int32) (I2 : Nat → Nat → Int32) (J2 : Nat → Nat → Int64), cal 153 [.ref 11, .int (2 : Int32), .int ((mj_up I1 20 (I0 15 (3 : Int32).toNatClampNeg).toNatClampNeg r1) 20 (I0 15 (3 : Int32).toNatClampNeg).toNatClampNeg)] ((mj_up I1 20 (I0 15 (3 : Int32).toNatClampNeg).toNatClampNeg r1), J1, mj_R1) (.int r2, (I2, J2, mj_R1)) ∧ ((vp_in (I0 15 (3 : Int32).toNatClampNeg) 24 ∧ ((True ∧ ∃ (I3 : Nat → Nat → Int32) (J3 : Nat → Nat → Int64), cal 154 [.ref 11, .int (3 : Int32), .int (I0 15 (3 : Int32).toNatClampNeg)] ((mj_up I2 21 (I0 15 (3 : Int32).toNatClampNeg).toNatClampNeg r2), J2, mj_R1) (.null, (I3, J3, mj_R1)) ∧ ((vp_in (3 : Int32) 6 ∧ ((vp_in (3 : Int32) 6 ∧ (Q (.null, ((mj_up I3 15 (3 : Int32).toNatClampNeg ((I3 15 (3 : Int32).toNatClampNeg) + (1 : Int32))), J3, mj_R1))))))))))))))))))))) :
    mj_if (Nat.ble (mj_sz [.ref 11]) mt_152.2.2) (mj_sg mj_S1 mt_152 cal Q K 100 0 (mj_a0 0 [.ref 11]) [] (I0, J0, mj_R1)) := h
-- UnbeatenHouse$Reader.askName(II)I (('c', 11), 'I', 'I')
set_option maxRecDepth 100000 in
set_option maxHeartbeats 8000000 in
theorem e153 {cal : Nat → List Value → mj_H → mj_R → Prop} {Q : mj_R → Prop} {K : Nat → mj_K} {I0 : Nat → Nat → Int32} {J0 : Nat → Nat → Int64} (x1 : Int32) (x2 : Int32)
    (h : (True ∧ ∃ (r1 : Int32) (I1 : Nat → Nat → Int32) (J1 : Nat → Nat → Int64), cal 148 [.ref 11] (I0, J0, mj_R1) (.int r1, (I1, J1, mj_R1)) ∧ ((if r1 = 0 then
      (True ∧ ∃ (I2 : Nat → Nat → Int32) (J2 : Nat → Nat → Int64), cal 144 [.ref 11, .int (1 : Int32)] (I1, J1, mj_R1) (.null, (I2, J2, mj_R1)) ∧ (Q (.int (-1 : Int32), (I2, J2, mj_R1))))
    else
      (True ∧ ∃ (r3 : Int32) (I3 : Nat → Nat → Int32) (J3 : Nat → Nat → Int64), cal 150 [.ref 14, .int x1, .int (I1 11 6)] (I1, J1, mj_R1) (.int r3, (I3, J3, mj_R1)) ∧ ((if r3 = (-1 : Int32) then
        (True ∧ ∃ (I4 : Nat → Nat → Int32) (J4 : Nat → Nat → Int64), cal 144 [.ref 11, .int (3 : Int32)] (I3, J3, mj_R1) (.null, (I4, J4, mj_R1)) ∧ (Q (.int (-1 : Int32), (I4, J4, mj_R1))))
      else
        (if r3 = x2 then
          (True ∧ ∃ (I5 : Nat → Nat → Int32) (J5 : Nat → Nat → Int64), cal 144 [.ref 11, .int (3 : Int32)] (I3, J3, mj_R1) (.null, (I5, J5, mj_R1)) ∧ (Q (.int (-1 : Int32), (I5, J5, mj_R1))))
        else
          (True ∧ ∃ (I6 : Nat → Nat → Int32) (J6 : Nat → Nat → Int64), cal 139 [.ref 11] (I3, J3, mj_R1) (.null, (I6, J6, mj_R1)) ∧ (Q (.int r3, (I6, J6, mj_R1)))))))))))) :
    mj_if (Nat.ble (mj_sz [.ref 11, .int x1, .int x2]) mt_153.2.2) (mj_sg mj_S1 mt_153 cal Q K 100 0 (mj_a0 0 [.ref 11, .int x1, .int x2]) [] (I0, J0, mj_R1)) := h
-- UnbeatenHouse$Reader.readAmounts(II)V (('c', 11), 'I', 'I')
set_option maxRecDepth 100000 in
set_option maxHeartbeats 8000000 in
theorem e154 {cal : Nat → List Value → mj_H → mj_R → Prop} {Q : mj_R → Prop} {K : Nat → mj_K} {I0 : Nat → Nat → Int32} {J0 : Nat → Nat → Int64} (x1 : Int32) (x2 : Int32)
    (h : K 2 [(0, .ref 11), (1, .int x1), (2, .int x2), (3, .int (0 : Int32))] [] (I0, J0, mj_R1)) :
    mj_if (Nat.ble (mj_sz [.ref 11, .int x1, .int x2]) mt_154.2.2) (mj_sg mj_S1 mt_154 cal Q K 100 0 (mj_a0 0 [.ref 11, .int x1, .int x2]) [] (I0, J0, mj_R1)) := h
set_option maxRecDepth 100000 in
set_option maxHeartbeats 8000000 in
theorem s154_2 {cal : Nat → List Value → mj_H → mj_R → Prop} {Q : mj_R → Prop} {K : Nat → mj_K} {I0 : Nat → Nat → Int32} {J0 : Nat → Nat → Int64} (x1 : Int32) (x2 : Int32) (x3 : Int32)
    (h : (vp_in (0 : Int32) 6 ∧ ((if (I0 15 (0 : Int32).toNatClampNeg) ≤ x3 then
      Q (.null, (I0, J0, mj_R1))
    else
      (True ∧ ∃ (r1 : Int32) (I1 : Nat → Nat → Int32) (J1 : Nat → Nat → Int64), cal 155 [.int x1, .int x2, .int x3] (I0, J0, mj_R1) (.int r1, (I1, J1, mj_R1)) ∧ ((True ∧ ∃ (r2 : Int32) (I2 : Nat → Nat → Int32) (J2 : Nat → Nat → Int64), cal 156 [.ref 11] (I1, J1, mj_R1) (.int r2, (I2, J2, mj_R1)) ∧ ((vp_in r1 960 ∧ (K 2 [(0, .ref 11), (1, .int x1), (2, .int x2), (3, .int (x3 + (1 : Int32)))] [] ((mj_up I2 18 r1.toNatClampNeg r2), J2, mj_R1))))))))))) :
    mj_go mj_S1 mt_154 cal Q K 2 [(0, .ref 11), (1, .int x1), (2, .int x2), (3, .int x3)] [] (I0, J0, mj_R1) := h
-- UnbeatenHouse$Tale.slot(III)I ('I', 'I', 'I')
set_option maxRecDepth 100000 in
set_option maxHeartbeats 8000000 in
theorem e155 {cal : Nat → List Value → mj_H → mj_R → Prop} {Q : mj_R → Prop} {K : Nat → mj_K} {I0 : Nat → Nat → Int32} {J0 : Nat → Nat → Int64} (x0 : Int32) (x1 : Int32) (x2 : Int32)
    (h : Q (.int ((((x0 * (40 : Int32)) + x1) * (4 : Int32)) + x2), (I0, J0, mj_R1))) :
    mj_if (Nat.ble (mj_sz [.int x0, .int x1, .int x2]) mt_155.2.2) (mj_sg mj_S1 mt_155 cal Q K 100 0 (mj_a0 0 [.int x0, .int x1, .int x2]) [] (I0, J0, mj_R1)) := h
-- UnbeatenHouse$Reader.takeNumber()I (('c', 11),)
set_option maxRecDepth 100000 in
set_option maxHeartbeats 8000000 in
theorem e156 {cal : Nat → List Value → mj_H → mj_R → Prop} {Q : mj_R → Prop} {K : Nat → mj_K} {I0 : Nat → Nat → Int32} {J0 : Nat → Nat → Int64}
    (h : (if (I0 11 5) = (2 : Int32) then
      (True ∧ ∃ (I1 : Nat → Nat → Int32) (J1 : Nat → Nat → Int64), cal 139 [.ref 11] (I0, J0, mj_R1) (.null, (I1, J1, mj_R1)) ∧ (Q (.int (I0 11 6), (I1, J1, mj_R1))))
    else
      (True ∧ ∃ (I2 : Nat → Nat → Int32) (J2 : Nat → Nat → Int64), cal 144 [.ref 11, .int (1 : Int32)] (I0, J0, mj_R1) (.null, (I2, J2, mj_R1)) ∧ (Q (.int (0 : Int32), (I2, J2, mj_R1)))))) :
    mj_if (Nat.ble (mj_sz [.ref 11]) mt_156.2.2) (mj_sg mj_S1 mt_156 cal Q K 100 0 (mj_a0 0 [.ref 11]) [] (I0, J0, mj_R1)) := h
-- UnbeatenHouse$Reader.readTest()V (('c', 11),)
set_option maxRecDepth 100000 in
set_option maxHeartbeats 8000000 in
theorem e157 {cal : Nat → List Value → mj_H → mj_R → Prop} {Q : mj_R → Prop} {K : Nat → mj_K} {I0 : Nat → Nat → Int32} {J0 : Nat → Nat → Int64}
    (h : (True ∧ ∃ (I1 : Nat → Nat → Int32) (J1 : Nat → Nat → Int64), cal 158 [.ref 11] (I0, J0, mj_R1) (.null, (I1, J1, mj_R1)) ∧ (K 6 [(0, .ref 11), (1, .int (0 : Int32))] [] (I1, J1, mj_R1)))) :
    mj_if (Nat.ble (mj_sz [.ref 11]) mt_157.2.2) (mj_sg mj_S1 mt_157 cal Q K 100 0 (mj_a0 0 [.ref 11]) [] (I0, J0, mj_R1)) := h
set_option maxRecDepth 100000 in
set_option maxHeartbeats 8000000 in
theorem s157_6 {cal : Nat → List Value → mj_H → mj_R → Prop} {Q : mj_R → Prop} {K : Nat → mj_K} {I0 : Nat → Nat → Int32} {J0 : Nat → Nat → Int64} (x1 : Int32)
    (h : (if (900 : Int32) ≤ x1 then
      Q (.null, (I0, J0, mj_R1))
    else
      (if (I0 11 7) = (8 : Int32) then
        (True ∧ ∃ (I1 : Nat → Nat → Int32) (J1 : Nat → Nat → Int64), cal 139 [.ref 11] (I0, J0, mj_R1) (.null, (I1, J1, mj_R1)) ∧ ((True ∧ ∃ (I2 : Nat → Nat → Int32) (J2 : Nat → Nat → Int64), cal 158 [.ref 11] (I1, J1, mj_R1) (.null, (I2, J2, mj_R1)) ∧ ((True ∧ ∃ (I3 : Nat → Nat → Int32) (J3 : Nat → Nat → Int64), cal 163 [.ref 14, .int (8 : Int32), .int (0 : Int32)] (I2, J2, mj_R1) (.null, (I3, J3, mj_R1)) ∧ (K 6 [(0, .ref 11), (1, .int (x1 + (1 : Int32)))] [] (I3, J3, mj_R1)))))))
      else
        Q (.null, (I0, J0, mj_R1))))) :
    mj_go mj_S1 mt_157 cal Q K 6 [(0, .ref 11), (1, .int x1)] [] (I0, J0, mj_R1) := h
-- UnbeatenHouse$Reader.readBoth()V (('c', 11),)
set_option maxRecDepth 100000 in
set_option maxHeartbeats 8000000 in
theorem e158 {cal : Nat → List Value → mj_H → mj_R → Prop} {Q : mj_R → Prop} {K : Nat → mj_K} {I0 : Nat → Nat → Int32} {J0 : Nat → Nat → Int64}
    (h : (True ∧ ∃ (I1 : Nat → Nat → Int32) (J1 : Nat → Nat → Int64), cal 159 [.ref 11] (I0, J0, mj_R1) (.null, (I1, J1, mj_R1)) ∧ (K 6 [(0, .ref 11), (1, .int (0 : Int32))] [] (I1, J1, mj_R1)))) :
    mj_if (Nat.ble (mj_sz [.ref 11]) mt_158.2.2) (mj_sg mj_S1 mt_158 cal Q K 100 0 (mj_a0 0 [.ref 11]) [] (I0, J0, mj_R1)) := h
set_option maxRecDepth 100000 in
set_option maxHeartbeats 8000000 in
theorem s158_6 {cal : Nat → List Value → mj_H → mj_R → Prop} {Q : mj_R → Prop} {K : Nat → mj_K} {I0 : Nat → Nat → Int32} {J0 : Nat → Nat → Int64} (x1 : Int32)
    (h : (if (900 : Int32) ≤ x1 then
      Q (.null, (I0, J0, mj_R1))
    else
      (if (I0 11 7) = (9 : Int32) then
        (True ∧ ∃ (I1 : Nat → Nat → Int32) (J1 : Nat → Nat → Int64), cal 139 [.ref 11] (I0, J0, mj_R1) (.null, (I1, J1, mj_R1)) ∧ ((True ∧ ∃ (I2 : Nat → Nat → Int32) (J2 : Nat → Nat → Int64), cal 159 [.ref 11] (I1, J1, mj_R1) (.null, (I2, J2, mj_R1)) ∧ ((True ∧ ∃ (I3 : Nat → Nat → Int32) (J3 : Nat → Nat → Int64), cal 163 [.ref 14, .int (9 : Int32), .int (0 : Int32)] (I2, J2, mj_R1) (.null, (I3, J3, mj_R1)) ∧ (K 6 [(0, .ref 11), (1, .int (x1 + (1 : Int32)))] [] (I3, J3, mj_R1)))))))
      else
        Q (.null, (I0, J0, mj_R1))))) :
    mj_go mj_S1 mt_158 cal Q K 6 [(0, .ref 11), (1, .int x1)] [] (I0, J0, mj_R1) := h
-- UnbeatenHouse$Reader.readFact()V (('c', 11),)
set_option maxRecDepth 100000 in
set_option maxHeartbeats 8000000 in
theorem e159 {cal : Nat → List Value → mj_H → mj_R → Prop} {Q : mj_R → Prop} {K : Nat → mj_K} {I0 : Nat → Nat → Int32} {J0 : Nat → Nat → Int64}
    (h : K 4 [(0, .ref 11), (1, .int (0 : Int32)), (2, .int (0 : Int32))] [] (I0, J0, mj_R1)) :
    mj_if (Nat.ble (mj_sz [.ref 11]) mt_159.2.2) (mj_sg mj_S1 mt_159 cal Q K 100 0 (mj_a0 0 [.ref 11]) [] (I0, J0, mj_R1)) := h
set_option maxRecDepth 100000 in
set_option maxHeartbeats 8000000 in
theorem s159_4 {cal : Nat → List Value → mj_H → mj_R → Prop} {Q : mj_R → Prop} {K : Nat → mj_K} {I0 : Nat → Nat → Int32} {J0 : Nat → Nat → Int64} (x1 : Int32) (x2 : Int32)
    (h : (if (900 : Int32) ≤ x2 then
      K 40 [(0, .ref 11), (1, .int x1)] [] (I0, J0, mj_R1)
    else
      (if (I0 11 7) = (10 : Int32) then
        (if x1 = 0 then
          K 30 [(0, .ref 11), (1, .int (1 : Int32)), (2, .int x2)] [] (I0, J0, mj_R1)
        else
          K 30 [(0, .ref 11), (1, .int (0 : Int32)), (2, .int x2)] [] (I0, J0, mj_R1))
      else
        K 40 [(0, .ref 11), (1, .int x1)] [] (I0, J0, mj_R1)))) :
    mj_go mj_S1 mt_159 cal Q K 4 [(0, .ref 11), (1, .int x1), (2, .int x2)] [] (I0, J0, mj_R1) := h
set_option maxRecDepth 100000 in
set_option maxHeartbeats 8000000 in
theorem s159_30 {cal : Nat → List Value → mj_H → mj_R → Prop} {Q : mj_R → Prop} {K : Nat → mj_K} {I0 : Nat → Nat → Int32} {J0 : Nat → Nat → Int64} (x1 : Int32) (x2 : Int32)
    (h : (True ∧ ∃ (I1 : Nat → Nat → Int32) (J1 : Nat → Nat → Int64), cal 139 [.ref 11] (I0, J0, mj_R1) (.null, (I1, J1, mj_R1)) ∧ (K 4 [(0, .ref 11), (1, .int x1), (2, .int (x2 + (1 : Int32)))] [] (I1, J1, mj_R1)))) :
    mj_go mj_S1 mt_159 cal Q K 30 [(0, .ref 11), (1, .int x1), (2, .int x2)] [] (I0, J0, mj_R1) := h
set_option maxRecDepth 100000 in
set_option maxHeartbeats 8000000 in
theorem s159_40 {cal : Nat → List Value → mj_H → mj_R → Prop} {Q : mj_R → Prop} {K : Nat → mj_K} {I0 : Nat → Nat → Int32} {J0 : Nat → Nat → Int64} (x1 : Int32)
    (h : (True ∧ ∃ (r1 : Int32) (I1 : Nat → Nat → Int32) (J1 : Nat → Nat → Int64), cal 160 [.ref 11, .int (91 : Int32)] (I0, J0, mj_R1) (.int r1, (I1, J1, mj_R1)) ∧ ((if r1 = 0 then
      (if (I1 11 7) = (11 : Int32) then
        (True ∧ ∃ (I2 : Nat → Nat → Int32) (J2 : Nat → Nat → Int64), cal 163 [.ref 14, .int (11 : Int32), .int (0 : Int32)] (I1, J1, mj_R1) (.null, (I2, J2, mj_R1)) ∧ ((True ∧ ∃ (I3 : Nat → Nat → Int32) (J3 : Nat → Nat → Int64), cal 139 [.ref 11] (I2, J2, mj_R1) (.null, (I3, J3, mj_R1)) ∧ (K 160 [(0, .ref 11), (1, .int x1)] [] (I3, J3, mj_R1)))))
      else
        (if (I1 11 7) = (12 : Int32) then
          (True ∧ ∃ (I4 : Nat → Nat → Int32) (J4 : Nat → Nat → Int64), cal 139 [.ref 11] (I1, J1, mj_R1) (.null, (I4, J4, mj_R1)) ∧ ((True ∧ ∃ (r5 : Int32) (I5 : Nat → Nat → Int32) (J5 : Nat → Nat → Int64), cal 153 [.ref 11, .int (4 : Int32), .int (-1 : Int32)] (I4, J4, mj_R1) (.int r5, (I5, J5, mj_R1)) ∧ ((True ∧ ∃ (I6 : Nat → Nat → Int32) (J6 : Nat → Nat → Int64), cal 163 [.ref 14, .int (12 : Int32), .int r5] (I5, J5, mj_R1) (.null, (I6, J6, mj_R1)) ∧ (K 160 [(0, .ref 11), (1, .int x1)] [] (I6, J6, mj_R1)))))))
        else
          (True ∧ ∃ (I7 : Nat → Nat → Int32) (J7 : Nat → Nat → Int64), cal 164 [.ref 11] (I1, J1, mj_R1) (.null, (I7, J7, mj_R1)) ∧ ((True ∧ ∃ (r8 : Int32) (I8 : Nat → Nat → Int32) (J8 : Nat → Nat → Int64), cal 168 [.ref 11] (I7, J7, mj_R1) (.int r8, (I8, J8, mj_R1)) ∧ ((True ∧ ∃ (I9 : Nat → Nat → Int32) (J9 : Nat → Nat → Int64), cal 164 [.ref 11] (I8, J8, mj_R1) (.null, (I9, J9, mj_R1)) ∧ ((True ∧ ∃ (I10 : Nat → Nat → Int32) (J10 : Nat → Nat → Int64), cal 163 [.ref 14, .int r8, .int (0 : Int32)] (I9, J9, mj_R1) (.null, (I10, J10, mj_R1)) ∧ (K 160 [(0, .ref 11), (1, .int x1)] [] (I10, J10, mj_R1)))))))))))
    else
      (True ∧ ∃ (r11 : Int32) (I11 : Nat → Nat → Int32) (J11 : Nat → Nat → Int64), cal 161 [.ref 11, .int (91 : Int32)] (I1, J1, mj_R1) (.int r11, (I11, J11, mj_R1)) ∧ ((if r11 = 0 then
        K 160 [(0, .ref 11), (1, .int x1)] [] (I11, J11, mj_R1)
      else
        (True ∧ ∃ (I12 : Nat → Nat → Int32) (J12 : Nat → Nat → Int64), cal 157 [.ref 11] (I11, J11, mj_R1) (.null, (I12, J12, mj_R1)) ∧ ((True ∧ ∃ (I13 : Nat → Nat → Int32) (J13 : Nat → Nat → Int64), cal 162 [.ref 11, .int (93 : Int32)] (I12, J12, mj_R1) (.null, (I13, J13, mj_R1)) ∧ (K 160 [(0, .ref 11), (1, .int x1)] [] ((mj_up I13 11 9 ((I13 11 9) - (1 : Int32))), J13, mj_R1)))))))))))) :
    mj_go mj_S1 mt_159 cal Q K 40 [(0, .ref 11), (1, .int x1)] [] (I0, J0, mj_R1) := h
set_option maxRecDepth 100000 in
set_option maxHeartbeats 8000000 in
theorem s159_160 {cal : Nat → List Value → mj_H → mj_R → Prop} {Q : mj_R → Prop} {K : Nat → mj_K} {I0 : Nat → Nat → Int32} {J0 : Nat → Nat → Int64} (x1 : Int32)
    (h : (if x1 = 0 then
      Q (.null, (I0, J0, mj_R1))
    else
      (True ∧ ∃ (I1 : Nat → Nat → Int32) (J1 : Nat → Nat → Int64), cal 163 [.ref 14, .int (10 : Int32), .int (0 : Int32)] (I0, J0, mj_R1) (.null, (I1, J1, mj_R1)) ∧ (Q (.null, (I1, J1, mj_R1)))))) :
    mj_go mj_S1 mt_159 cal Q K 160 [(0, .ref 11), (1, .int x1)] [] (I0, J0, mj_R1) := h
-- UnbeatenHouse$Reader.isSign(I)Z (('c', 11), 'I')
set_option maxRecDepth 100000 in
set_option maxHeartbeats 8000000 in
theorem e160 {cal : Nat → List Value → mj_H → mj_R → Prop} {Q : mj_R → Prop} {K : Nat → mj_K} {I0 : Nat → Nat → Int32} {J0 : Nat → Nat → Int64} (x1 : Int32)
    (h : (if (I0 11 5) = (1 : Int32) then
      (if (I0 11 6) = x1 then
        (((1 : Int32) = 0 ∨ (1 : Int32) = 1) ∧ Q (.int (1 : Int32), (I0, J0, mj_R1)))
      else
        (((0 : Int32) = 0 ∨ (0 : Int32) = 1) ∧ Q (.int (0 : Int32), (I0, J0, mj_R1))))
    else
      (((0 : Int32) = 0 ∨ (0 : Int32) = 1) ∧ Q (.int (0 : Int32), (I0, J0, mj_R1))))) :
    mj_if (Nat.ble (mj_sz [.ref 11, .int x1]) mt_160.2.2) (mj_sg mj_S1 mt_160 cal Q K 100 0 (mj_a0 0 [.ref 11, .int x1]) [] (I0, J0, mj_R1)) := h
-- UnbeatenHouse$Reader.opensOne(I)Z (('c', 11), 'I')
set_option maxRecDepth 100000 in
set_option maxHeartbeats 8000000 in
theorem e161 {cal : Nat → List Value → mj_H → mj_R → Prop} {Q : mj_R → Prop} {K : Nat → mj_K} {I0 : Nat → Nat → Int32} {J0 : Nat → Nat → Int64} (x1 : Int32)
    (h : (True ∧ ∃ (r1 : Int32) (I1 : Nat → Nat → Int32) (J1 : Nat → Nat → Int64), cal 160 [.ref 11, .int x1] (I0, J0, mj_R1) (.int r1, (I1, J1, mj_R1)) ∧ ((if r1 = 0 then
      (True ∧ ∃ (I2 : Nat → Nat → Int32) (J2 : Nat → Nat → Int64), cal 144 [.ref 11, .int (1 : Int32)] (I1, J1, mj_R1) (.null, (I2, J2, mj_R1)) ∧ ((((0 : Int32) = 0 ∨ (0 : Int32) = 1) ∧ Q (.int (0 : Int32), (I2, J2, mj_R1)))))
    else
      (if (I1 11 9) < (8 : Int32) then
        (True ∧ ∃ (I3 : Nat → Nat → Int32) (J3 : Nat → Nat → Int64), cal 139 [.ref 11] ((mj_up I1 11 9 ((I1 11 9) + (1 : Int32))), J1, mj_R1) (.null, (I3, J3, mj_R1)) ∧ ((((1 : Int32) = 0 ∨ (1 : Int32) = 1) ∧ Q (.int (1 : Int32), (I3, J3, mj_R1)))))
      else
        (True ∧ ∃ (I4 : Nat → Nat → Int32) (J4 : Nat → Nat → Int64), cal 144 [.ref 11, .int (5 : Int32)] (I1, J1, mj_R1) (.null, (I4, J4, mj_R1)) ∧ ((((0 : Int32) = 0 ∨ (0 : Int32) = 1) ∧ Q (.int (0 : Int32), (I4, J4, mj_R1)))))))))) :
    mj_if (Nat.ble (mj_sz [.ref 11, .int x1]) mt_161.2.2) (mj_sg mj_S1 mt_161 cal Q K 100 0 (mj_a0 0 [.ref 11, .int x1]) [] (I0, J0, mj_R1)) := h
-- UnbeatenHouse$Reader.take(I)V (('c', 11), 'I')
set_option maxRecDepth 100000 in
set_option maxHeartbeats 8000000 in
theorem e162 {cal : Nat → List Value → mj_H → mj_R → Prop} {Q : mj_R → Prop} {K : Nat → mj_K} {I0 : Nat → Nat → Int32} {J0 : Nat → Nat → Int64} (x1 : Int32)
    (h : (True ∧ ∃ (r1 : Int32) (I1 : Nat → Nat → Int32) (J1 : Nat → Nat → Int64), cal 160 [.ref 11, .int x1] (I0, J0, mj_R1) (.int r1, (I1, J1, mj_R1)) ∧ ((if r1 = 0 then
      (True ∧ ∃ (I2 : Nat → Nat → Int32) (J2 : Nat → Nat → Int64), cal 144 [.ref 11, .int (1 : Int32)] (I1, J1, mj_R1) (.null, (I2, J2, mj_R1)) ∧ (Q (.null, (I2, J2, mj_R1))))
    else
      (True ∧ ∃ (I3 : Nat → Nat → Int32) (J3 : Nat → Nat → Int64), cal 139 [.ref 11] (I1, J1, mj_R1) (.null, (I3, J3, mj_R1)) ∧ (Q (.null, (I3, J3, mj_R1)))))))) :
    mj_if (Nat.ble (mj_sz [.ref 11, .int x1]) mt_162.2.2) (mj_sg mj_S1 mt_162 cal Q K 100 0 (mj_a0 0 [.ref 11, .int x1]) [] (I0, J0, mj_R1)) := h
-- UnbeatenHouse$Tale.addStep(II)V (('c', 14), 'I', 'I')
set_option maxRecDepth 100000 in
set_option maxHeartbeats 8000000 in
theorem e163 {cal : Nat → List Value → mj_H → mj_R → Prop} {Q : mj_R → Prop} {K : Nat → mj_K} {I0 : Nat → Nat → Int32} {J0 : Nat → Nat → Int64} (x1 : Int32) (x2 : Int32)
    (h : (if (900 : Int32) ≤ (I0 14 9) then
      Q (.null, (I0, J0, mj_R1))
    else
      (True ∧ ∃ (r1 : Int32) (I1 : Nat → Nat → Int32) (J1 : Nat → Nat → Int64), cal 1 [.int (0 : Int32), .int x2] (I0, J0, mj_R1) (.int r1, (I1, J1, mj_R1)) ∧ ((vp_in (I0 14 9) 900 ∧ (Q (.null, ((mj_up (mj_up I1 22 (I0 14 9).toNatClampNeg ((x1 * (16384 : Int32)) + r1)) 14 9 ((I1 14 9) + (1 : Int32))), J1, mj_R1)))))))) :
    mj_if (Nat.ble (mj_sz [.ref 14, .int x1, .int x2]) mt_163.2.2) (mj_sg mj_S1 mt_163 cal Q K 100 0 (mj_a0 0 [.ref 14, .int x1, .int x2]) [] (I0, J0, mj_R1)) := h
-- UnbeatenHouse$Reader.readSum()V (('c', 11),)
set_option maxRecDepth 100000 in
set_option maxHeartbeats 8000000 in
theorem e164 {cal : Nat → List Value → mj_H → mj_R → Prop} {Q : mj_R → Prop} {K : Nat → mj_K} {I0 : Nat → Nat → Int32} {J0 : Nat → Nat → Int64}
    (h : (True ∧ ∃ (I1 : Nat → Nat → Int32) (J1 : Nat → Nat → Int64), cal 165 [.ref 11] (I0, J0, mj_R1) (.null, (I1, J1, mj_R1)) ∧ (K 6 [(0, .ref 11), (1, .int (0 : Int32))] [] (I1, J1, mj_R1)))) :
    mj_if (Nat.ble (mj_sz [.ref 11]) mt_164.2.2) (mj_sg mj_S1 mt_164 cal Q K 100 0 (mj_a0 0 [.ref 11]) [] (I0, J0, mj_R1)) := h
set_option maxRecDepth 100000 in
set_option maxHeartbeats 8000000 in
theorem s164_6 {cal : Nat → List Value → mj_H → mj_R → Prop} {Q : mj_R → Prop} {K : Nat → mj_K} {I0 : Nat → Nat → Int32} {J0 : Nat → Nat → Int64} (x1 : Int32)
    (h : (if (900 : Int32) ≤ x1 then
      Q (.null, (I0, J0, mj_R1))
    else
      (True ∧ ∃ (r1 : Int32) (I1 : Nat → Nat → Int32) (J1 : Nat → Nat → Int64), cal 160 [.ref 11, .int (43 : Int32)] (I0, J0, mj_R1) (.int r1, (I1, J1, mj_R1)) ∧ ((if r1 = 0 then
        (True ∧ ∃ (r2 : Int32) (I2 : Nat → Nat → Int32) (J2 : Nat → Nat → Int64), cal 160 [.ref 11, .int (45 : Int32)] (I1, J1, mj_R1) (.int r2, (I2, J2, mj_R1)) ∧ ((if r2 = 0 then
          Q (.null, (I2, J2, mj_R1))
        else
          K 31 [(0, .ref 11), (1, .int x1)] [] (I2, J2, mj_R1))))
      else
        K 31 [(0, .ref 11), (1, .int x1)] [] (I1, J1, mj_R1)))))) :
    mj_go mj_S1 mt_164 cal Q K 6 [(0, .ref 11), (1, .int x1)] [] (I0, J0, mj_R1) := h
set_option maxRecDepth 100000 in
set_option maxHeartbeats 8000000 in
theorem s164_31 {cal : Nat → List Value → mj_H → mj_R → Prop} {Q : mj_R → Prop} {K : Nat → mj_K} {I0 : Nat → Nat → Int32} {J0 : Nat → Nat → Int64} (x1 : Int32)
    (h : (True ∧ ∃ (I1 : Nat → Nat → Int32) (J1 : Nat → Nat → Int64), cal 139 [.ref 11] (I0, J0, mj_R1) (.null, (I1, J1, mj_R1)) ∧ ((True ∧ ∃ (I2 : Nat → Nat → Int32) (J2 : Nat → Nat → Int64), cal 165 [.ref 11] (I1, J1, mj_R1) (.null, (I2, J2, mj_R1)) ∧ ((True ∧ ∃ (I3 : Nat → Nat → Int32) (J3 : Nat → Nat → Int64), cal 163 [.ref 14, .int (I0 11 6), .int (0 : Int32)] (I2, J2, mj_R1) (.null, (I3, J3, mj_R1)) ∧ (K 6 [(0, .ref 11), (1, .int (x1 + (1 : Int32)))] [] (I3, J3, mj_R1)))))))) :
    mj_go mj_S1 mt_164 cal Q K 31 [(0, .ref 11), (1, .int x1)] [] (I0, J0, mj_R1) := h
-- UnbeatenHouse$Reader.readProduct()V (('c', 11),)
set_option maxRecDepth 100000 in
set_option maxHeartbeats 8000000 in
theorem e165 {cal : Nat → List Value → mj_H → mj_R → Prop} {Q : mj_R → Prop} {K : Nat → mj_K} {I0 : Nat → Nat → Int32} {J0 : Nat → Nat → Int64}
    (h : (True ∧ ∃ (I1 : Nat → Nat → Int32) (J1 : Nat → Nat → Int64), cal 166 [.ref 11] (I0, J0, mj_R1) (.null, (I1, J1, mj_R1)) ∧ (K 6 [(0, .ref 11), (1, .int (0 : Int32))] [] (I1, J1, mj_R1)))) :
    mj_if (Nat.ble (mj_sz [.ref 11]) mt_165.2.2) (mj_sg mj_S1 mt_165 cal Q K 100 0 (mj_a0 0 [.ref 11]) [] (I0, J0, mj_R1)) := h
set_option maxRecDepth 100000 in
set_option maxHeartbeats 8000000 in
theorem s165_6 {cal : Nat → List Value → mj_H → mj_R → Prop} {Q : mj_R → Prop} {K : Nat → mj_K} {I0 : Nat → Nat → Int32} {J0 : Nat → Nat → Int64} (x1 : Int32)
    (h : (if (900 : Int32) ≤ x1 then
      Q (.null, (I0, J0, mj_R1))
    else
      (True ∧ ∃ (r1 : Int32) (I1 : Nat → Nat → Int32) (J1 : Nat → Nat → Int64), cal 160 [.ref 11, .int (42 : Int32)] (I0, J0, mj_R1) (.int r1, (I1, J1, mj_R1)) ∧ ((if r1 = 0 then
        (True ∧ ∃ (r2 : Int32) (I2 : Nat → Nat → Int32) (J2 : Nat → Nat → Int64), cal 160 [.ref 11, .int (47 : Int32)] (I1, J1, mj_R1) (.int r2, (I2, J2, mj_R1)) ∧ ((if r2 = 0 then
          Q (.null, (I2, J2, mj_R1))
        else
          K 31 [(0, .ref 11), (1, .int x1)] [] (I2, J2, mj_R1))))
      else
        K 31 [(0, .ref 11), (1, .int x1)] [] (I1, J1, mj_R1)))))) :
    mj_go mj_S1 mt_165 cal Q K 6 [(0, .ref 11), (1, .int x1)] [] (I0, J0, mj_R1) := h
set_option maxRecDepth 100000 in
set_option maxHeartbeats 8000000 in
theorem s165_31 {cal : Nat → List Value → mj_H → mj_R → Prop} {Q : mj_R → Prop} {K : Nat → mj_K} {I0 : Nat → Nat → Int32} {J0 : Nat → Nat → Int64} (x1 : Int32)
    (h : (True ∧ ∃ (I1 : Nat → Nat → Int32) (J1 : Nat → Nat → Int64), cal 139 [.ref 11] (I0, J0, mj_R1) (.null, (I1, J1, mj_R1)) ∧ ((True ∧ ∃ (I2 : Nat → Nat → Int32) (J2 : Nat → Nat → Int64), cal 166 [.ref 11] (I1, J1, mj_R1) (.null, (I2, J2, mj_R1)) ∧ ((True ∧ ∃ (I3 : Nat → Nat → Int32) (J3 : Nat → Nat → Int64), cal 163 [.ref 14, .int (I0 11 6), .int (0 : Int32)] (I2, J2, mj_R1) (.null, (I3, J3, mj_R1)) ∧ (K 6 [(0, .ref 11), (1, .int (x1 + (1 : Int32)))] [] (I3, J3, mj_R1)))))))) :
    mj_go mj_S1 mt_165 cal Q K 31 [(0, .ref 11), (1, .int x1)] [] (I0, J0, mj_R1) := h
-- UnbeatenHouse$Reader.readPart()V (('c', 11),)
set_option maxRecDepth 100000 in
set_option maxHeartbeats 8000000 in
theorem e166 {cal : Nat → List Value → mj_H → mj_R → Prop} {Q : mj_R → Prop} {K : Nat → mj_K} {I0 : Nat → Nat → Int32} {J0 : Nat → Nat → Int64}
    (h : (if (I0 11 5) = (2 : Int32) then
      (True ∧ ∃ (r1 : Int32) (I1 : Nat → Nat → Int32) (J1 : Nat → Nat → Int64), cal 156 [.ref 11] (I0, J0, mj_R1) (.int r1, (I1, J1, mj_R1)) ∧ ((True ∧ ∃ (I2 : Nat → Nat → Int32) (J2 : Nat → Nat → Int64), cal 163 [.ref 14, .int (17 : Int32), .int r1] (I1, J1, mj_R1) (.null, (I2, J2, mj_R1)) ∧ (Q (.null, (I2, J2, mj_R1))))))
    else
      (if (I0 11 7) = (13 : Int32) then
        (True ∧ ∃ (I3 : Nat → Nat → Int32) (J3 : Nat → Nat → Int64), cal 163 [.ref 14, .int (13 : Int32), .int (0 : Int32)] (I0, J0, mj_R1) (.null, (I3, J3, mj_R1)) ∧ ((True ∧ ∃ (I4 : Nat → Nat → Int32) (J4 : Nat → Nat → Int64), cal 139 [.ref 11] (I3, J3, mj_R1) (.null, (I4, J4, mj_R1)) ∧ (Q (.null, (I4, J4, mj_R1))))))
      else
        (if (I0 11 7) = (14 : Int32) then
          (True ∧ ∃ (I5 : Nat → Nat → Int32) (J5 : Nat → Nat → Int64), cal 139 [.ref 11] (I0, J0, mj_R1) (.null, (I5, J5, mj_R1)) ∧ ((True ∧ ∃ (r6 : Int32) (I6 : Nat → Nat → Int32) (J6 : Nat → Nat → Int64), cal 153 [.ref 11, .int (0 : Int32), .int (-1 : Int32)] (I5, J5, mj_R1) (.int r6, (I6, J6, mj_R1)) ∧ ((True ∧ ∃ (I7 : Nat → Nat → Int32) (J7 : Nat → Nat → Int64), cal 163 [.ref 14, .int (14 : Int32), .int r6] (I6, J6, mj_R1) (.null, (I7, J7, mj_R1)) ∧ (Q (.null, (I7, J7, mj_R1))))))))
        else
          (if (I0 11 7) = (15 : Int32) then
            K 92 [(0, .ref 11), (1, .int (I0 11 7))] [] (I0, J0, mj_R1)
          else
            (if (I0 11 7) = (16 : Int32) then
              K 92 [(0, .ref 11), (1, .int (I0 11 7))] [] (I0, J0, mj_R1)
            else
              (True ∧ ∃ (r8 : Int32) (I8 : Nat → Nat → Int32) (J8 : Nat → Nat → Int64), cal 161 [.ref 11, .int (40 : Int32)] (I0, J0, mj_R1) (.int r8, (I8, J8, mj_R1)) ∧ ((if r8 = 0 then
                Q (.null, (I8, J8, mj_R1))
              else
                (True ∧ ∃ (I9 : Nat → Nat → Int32) (J9 : Nat → Nat → Int64), cal 164 [.ref 11] (I8, J8, mj_R1) (.null, (I9, J9, mj_R1)) ∧ ((True ∧ ∃ (I10 : Nat → Nat → Int32) (J10 : Nat → Nat → Int64), cal 162 [.ref 11, .int (41 : Int32)] (I9, J9, mj_R1) (.null, (I10, J10, mj_R1)) ∧ (Q (.null, ((mj_up I10 11 9 ((I10 11 9) - (1 : Int32))), J10, mj_R1))))))))))))))) :
    mj_if (Nat.ble (mj_sz [.ref 11]) mt_166.2.2) (mj_sg mj_S1 mt_166 cal Q K 100 0 (mj_a0 0 [.ref 11]) [] (I0, J0, mj_R1)) := h
set_option maxRecDepth 100000 in
set_option maxHeartbeats 8000000 in
theorem s166_92 {cal : Nat → List Value → mj_H → mj_R → Prop} {Q : mj_R → Prop} {K : Nat → mj_K} {I0 : Nat → Nat → Int32} {J0 : Nat → Nat → Int64} (x1 : Int32)
    (h : (True ∧ ∃ (I1 : Nat → Nat → Int32) (J1 : Nat → Nat → Int64), cal 139 [.ref 11] (I0, J0, mj_R1) (.null, (I1, J1, mj_R1)) ∧ ((True ∧ ∃ (I2 : Nat → Nat → Int32) (J2 : Nat → Nat → Int64), cal 167 [.ref 11, .int x1] (I1, J1, mj_R1) (.null, (I2, J2, mj_R1)) ∧ (Q (.null, (I2, J2, mj_R1))))))) :
    mj_go mj_S1 mt_166 cal Q K 92 [(0, .ref 11), (1, .int x1)] [] (I0, J0, mj_R1) := h
-- UnbeatenHouse$Reader.readPair(I)V (('c', 11), 'I')
set_option maxRecDepth 100000 in
set_option maxHeartbeats 8000000 in
theorem e167 {cal : Nat → List Value → mj_H → mj_R → Prop} {Q : mj_R → Prop} {K : Nat → mj_K} {I0 : Nat → Nat → Int32} {J0 : Nat → Nat → Int64} (x1 : Int32)
    (h : (True ∧ ∃ (r1 : Int32) (I1 : Nat → Nat → Int32) (J1 : Nat → Nat → Int64), cal 161 [.ref 11, .int (40 : Int32)] (I0, J0, mj_R1) (.int r1, (I1, J1, mj_R1)) ∧ ((if r1 = 0 then
      Q (.null, (I1, J1, mj_R1))
    else
      (True ∧ ∃ (I2 : Nat → Nat → Int32) (J2 : Nat → Nat → Int64), cal 164 [.ref 11] (I1, J1, mj_R1) (.null, (I2, J2, mj_R1)) ∧ ((True ∧ ∃ (I3 : Nat → Nat → Int32) (J3 : Nat → Nat → Int64), cal 162 [.ref 11, .int (44 : Int32)] (I2, J2, mj_R1) (.null, (I3, J3, mj_R1)) ∧ ((True ∧ ∃ (I4 : Nat → Nat → Int32) (J4 : Nat → Nat → Int64), cal 164 [.ref 11] (I3, J3, mj_R1) (.null, (I4, J4, mj_R1)) ∧ ((True ∧ ∃ (I5 : Nat → Nat → Int32) (J5 : Nat → Nat → Int64), cal 162 [.ref 11, .int (41 : Int32)] (I4, J4, mj_R1) (.null, (I5, J5, mj_R1)) ∧ ((True ∧ ∃ (I6 : Nat → Nat → Int32) (J6 : Nat → Nat → Int64), cal 163 [.ref 14, .int x1, .int (0 : Int32)] ((mj_up I5 11 9 ((I5 11 9) - (1 : Int32))), J5, mj_R1) (.null, (I6, J6, mj_R1)) ∧ (Q (.null, (I6, J6, mj_R1)))))))))))))))) :
    mj_if (Nat.ble (mj_sz [.ref 11, .int x1]) mt_167.2.2) (mj_sg mj_S1 mt_167 cal Q K 100 0 (mj_a0 0 [.ref 11, .int x1]) [] (I0, J0, mj_R1)) := h
-- UnbeatenHouse$Reader.takeComparison()I (('c', 11),)
set_option maxRecDepth 100000 in
set_option maxHeartbeats 8000000 in
theorem e168 {cal : Nat → List Value → mj_H → mj_R → Prop} {Q : mj_R → Prop} {K : Nat → mj_K} {I0 : Nat → Nat → Int32} {J0 : Nat → Nat → Int64}
    (h : (True ∧ ∃ (r1 : Int32) (I1 : Nat → Nat → Int32) (J1 : Nat → Nat → Int64), cal 160 [.ref 11, .int (60 : Int32)] (I0, J0, mj_R1) (.int r1, (I1, J1, mj_R1)) ∧ ((if r1 = 0 then
      (True ∧ ∃ (r2 : Int32) (I2 : Nat → Nat → Int32) (J2 : Nat → Nat → Int64), cal 160 [.ref 11, .int (62 : Int32)] (I1, J1, mj_R1) (.int r2, (I2, J2, mj_R1)) ∧ ((if r2 = 0 then
        (True ∧ ∃ (r3 : Int32) (I3 : Nat → Nat → Int32) (J3 : Nat → Nat → Int64), cal 160 [.ref 11, .int (61 : Int32)] (I2, J2, mj_R1) (.int r3, (I3, J3, mj_R1)) ∧ ((if r3 = 0 then
          (True ∧ ∃ (I4 : Nat → Nat → Int32) (J4 : Nat → Nat → Int64), cal 144 [.ref 11, .int (1 : Int32)] (I3, J3, mj_R1) (.null, (I4, J4, mj_R1)) ∧ (Q (.int (-1 : Int32), (I4, J4, mj_R1))))
        else
          (True ∧ ∃ (I5 : Nat → Nat → Int32) (J5 : Nat → Nat → Int64), cal 139 [.ref 11] (I3, J3, mj_R1) (.null, (I5, J5, mj_R1)) ∧ (Q (.int (I0 11 6), (I5, J5, mj_R1)))))))
      else
        (True ∧ ∃ (I6 : Nat → Nat → Int32) (J6 : Nat → Nat → Int64), cal 139 [.ref 11] (I2, J2, mj_R1) (.null, (I6, J6, mj_R1)) ∧ (Q (.int (I0 11 6), (I6, J6, mj_R1)))))))
    else
      (True ∧ ∃ (I7 : Nat → Nat → Int32) (J7 : Nat → Nat → Int64), cal 139 [.ref 11] (I1, J1, mj_R1) (.null, (I7, J7, mj_R1)) ∧ (Q (.int (I0 11 6), (I7, J7, mj_R1)))))))) :
    mj_if (Nat.ble (mj_sz [.ref 11]) mt_168.2.2) (mj_sg mj_S1 mt_168 cal Q K 100 0 (mj_a0 0 [.ref 11]) [] (I0, J0, mj_R1)) := h
-- UnbeatenHouse$Tale.endRule()V (('c', 14),)
set_option maxRecDepth 100000 in
set_option maxHeartbeats 8000000 in
theorem e169 {cal : Nat → List Value → mj_H → mj_R → Prop} {Q : mj_R → Prop} {K : Nat → mj_K} {I0 : Nat → Nat → Int32} {J0 : Nat → Nat → Int64}
    (h : (vp_in (5 : Int32) 6 ∧ ((if (12 : Int32) ≤ (I0 15 (5 : Int32).toNatClampNeg) then
      Q (.null, (I0, J0, mj_R1))
    else
      (vp_in (5 : Int32) 6 ∧ ((vp_in (I0 15 (5 : Int32).toNatClampNeg) 12 ∧ ((vp_in (5 : Int32) 6 ∧ ((vp_in (5 : Int32) 6 ∧ (Q (.null, ((mj_up (mj_up I0 23 (I0 15 (5 : Int32).toNatClampNeg).toNatClampNeg (I0 14 9)) 15 (5 : Int32).toNatClampNeg ((I0 15 (5 : Int32).toNatClampNeg) + (1 : Int32))), J0, mj_R1)))))))))))))) :
    mj_if (Nat.ble (mj_sz [.ref 14]) mt_169.2.2) (mj_sg mj_S1 mt_169 cal Q K 100 0 (mj_a0 0 [.ref 14]) [] (I0, J0, mj_R1)) := h
-- UnbeatenHouse$Reader.readRow()V (('c', 11),)
set_option maxRecDepth 100000 in
set_option maxHeartbeats 8000000 in
theorem e170 {cal : Nat → List Value → mj_H → mj_R → Prop} {Q : mj_R → Prop} {K : Nat → mj_K} {I0 : Nat → Nat → Int32} {J0 : Nat → Nat → Int64}
    (h : (vp_in (1 : Int32) 6 ∧ ((True ∧ ∃ (I1 : Nat → Nat → Int32) (J1 : Nat → Nat → Int64), cal 147 [.ref 11, .int (1 : Int32)] (I0, J0, mj_R1) (.null, (I1, J1, mj_R1)) ∧ (K 17 [(0, .ref 11), (1, .int (I0 15 (1 : Int32).toNatClampNeg)), (2, .int (0 : Int32))] [] (I1, J1, mj_R1)))))) :
    mj_if (Nat.ble (mj_sz [.ref 11]) mt_170.2.2) (mj_sg mj_S1 mt_170 cal Q K 100 0 (mj_a0 0 [.ref 11]) [] (I0, J0, mj_R1)) := h
set_option maxRecDepth 100000 in
set_option maxHeartbeats 8000000 in
theorem s170_17 {cal : Nat → List Value → mj_H → mj_R → Prop} {Q : mj_R → Prop} {K : Nat → mj_K} {I0 : Nat → Nat → Int32} {J0 : Nat → Nat → Int64} (x1 : Int32) (x2 : Int32)
    (h : (vp_in (0 : Int32) 6 ∧ ((if (I0 15 (0 : Int32).toNatClampNeg) ≤ x2 then
      Q (.null, (I0, J0, mj_R1))
    else
      (True ∧ ∃ (r1 : Int32) (I1 : Nat → Nat → Int32) (J1 : Nat → Nat → Int64), cal 160 [.ref 11, .int (63 : Int32)] (I0, J0, mj_R1) (.int r1, (I1, J1, mj_R1)) ∧ ((if r1 = 0 then
        (True ∧ ∃ (r2 : Int32) (I2 : Nat → Nat → Int32) (J2 : Nat → Nat → Int64), cal 156 [.ref 11] (I1, J1, mj_R1) (.int r2, (I2, J2, mj_R1)) ∧ ((True ∧ ∃ (r3 : Int32) (I3 : Nat → Nat → Int32) (J3 : Nat → Nat → Int64), cal 160 [.ref 11, .int (126 : Int32)] (I2, J2, mj_R1) (.int r3, (I3, J3, mj_R1)) ∧ ((if r3 = 0 then
          K 75 [(0, .ref 11), (1, .int x1), (2, .int x2), (3, .int r2), (4, .int (0 : Int32))] [] (I3, J3, mj_R1)
        else
          (True ∧ ∃ (I4 : Nat → Nat → Int32) (J4 : Nat → Nat → Int64), cal 139 [.ref 11] (I3, J3, mj_R1) (.null, (I4, J4, mj_R1)) ∧ ((True ∧ ∃ (r5 : Int32) (I5 : Nat → Nat → Int32) (J5 : Nat → Nat → Int64), cal 156 [.ref 11] (I4, J4, mj_R1) (.int r5, (I5, J5, mj_R1)) ∧ (K 75 [(0, .ref 11), (1, .int x1), (2, .int x2), (3, .int r2), (4, .int r5)] [] (I5, J5, mj_R1))))))))))
      else
        (True ∧ ∃ (I6 : Nat → Nat → Int32) (J6 : Nat → Nat → Int64), cal 139 [.ref 11] (I1, J1, mj_R1) (.null, (I6, J6, mj_R1)) ∧ (K 75 [(0, .ref 11), (1, .int x1), (2, .int x2), (3, .int (-1 : Int32)), (4, .int (0 : Int32))] [] (I6, J6, mj_R1)))))))))) :
    mj_go mj_S1 mt_170 cal Q K 17 [(0, .ref 11), (1, .int x1), (2, .int x2)] [] (I0, J0, mj_R1) := h
set_option maxRecDepth 100000 in
set_option maxHeartbeats 8000000 in
theorem s170_75 {cal : Nat → List Value → mj_H → mj_R → Prop} {Q : mj_R → Prop} {K : Nat → mj_K} {I0 : Nat → Nat → Int32} {J0 : Nat → Nat → Int64} (x1 : Int32) (x2 : Int32) (x3 : Int32) (x4 : Int32)
    (h : (True ∧ ∃ (r1 : Int32) (I1 : Nat → Nat → Int32) (J1 : Nat → Nat → Int64), cal 155 [.int (1 : Int32), .int x1, .int x2] (I0, J0, mj_R1) (.int r1, (I1, J1, mj_R1)) ∧ ((vp_in r1 960 ∧ ((vp_in ((x1 * (4 : Int32)) + x2) 160 ∧ (K 17 [(0, .ref 11), (1, .int x1), (2, .int (x2 + (1 : Int32)))] [] ((mj_up (mj_up I1 18 r1.toNatClampNeg x3) 19 ((x1 * (4 : Int32)) + x2).toNatClampNeg x4), J1, mj_R1)))))))) :
    mj_go mj_S1 mt_170 cal Q K 75 [(0, .ref 11), (1, .int x1), (2, .int x2), (3, .int x3), (4, .int x4)] [] (I0, J0, mj_R1) := h
-- UnbeatenHouse$Reader.readThing()V (('c', 11),)
set_option maxRecDepth 100000 in
set_option maxHeartbeats 8000000 in
theorem e171 {cal : Nat → List Value → mj_H → mj_R → Prop} {Q : mj_R → Prop} {K : Nat → mj_K} {I0 : Nat → Nat → Int32} {J0 : Nat → Nat → Int64}
    (h : (vp_in (4 : Int32) 6 ∧ ((True ∧ ∃ (I1 : Nat → Nat → Int32) (J1 : Nat → Nat → Int64), cal 147 [.ref 11, .int (4 : Int32)] (I0, J0, mj_R1) (.null, (I1, J1, mj_R1)) ∧ ((True ∧ ∃ (I2 : Nat → Nat → Int32) (J2 : Nat → Nat → Int64), cal 154 [.ref 11, .int (4 : Int32), .int (I0 15 (4 : Int32).toNatClampNeg)] (I1, J1, mj_R1) (.null, (I2, J2, mj_R1)) ∧ (Q (.null, (I2, J2, mj_R1))))))))) :
    mj_if (Nat.ble (mj_sz [.ref 11]) mt_171.2.2) (mj_sg mj_S1 mt_171 cal Q K 100 0 (mj_a0 0 [.ref 11]) [] (I0, J0, mj_R1)) := h
-- UnbeatenHouse$Reader.swap(LUnbeatenHouse$Tale;)LUnbeatenHouse$Tale; (('c', 11), ('c', 1))
set_option maxRecDepth 100000 in
set_option maxHeartbeats 8000000 in
theorem e172 {cal : Nat → List Value → mj_H → mj_R → Prop} {Q : mj_R → Prop} {K : Nat → mj_K} {I0 : Nat → Nat → Int32} {J0 : Nat → Nat → Int64}
    (h : Q (.ref 14, (I0, J0, (mj_up mj_R1 11 3 1)))) :
    mj_if (Nat.ble (mj_sz [.ref 11, .ref 1]) mt_172.2.2) (mj_sg mj_S1 mt_172 cal Q K 100 0 (mj_a0 0 [.ref 11, .ref 1]) [] (I0, J0, mj_R1)) := h
-- UnbeatenHouse$Rows.take(LUnbeatenHouse$Tale;)V (('c', 24), ('c', 1))
set_option maxRecDepth 100000 in
set_option maxHeartbeats 8000000 in
theorem e173 {cal : Nat → List Value → mj_H → mj_R → Prop} {Q : mj_R → Prop} {K : Nat → mj_K} {I0 : Nat → Nat → Int32} {J0 : Nat → Nat → Int64}
    (h : (vp_in (1 : Int32) 6 ∧ ((vp_in (0 : Int32) 6 ∧ (K 27 [(0, .ref 24), (1, .ref 1), (2, .int (0 : Int32))] [] ((mj_up (mj_up I0 24 0 (I0 2 (1 : Int32).toNatClampNeg)) 24 1 (I0 2 (0 : Int32).toNatClampNeg)), (mj_up J0 24 5 (0 : Int64)), mj_R1)))))) :
    mj_if (Nat.ble (mj_sz [.ref 24, .ref 1]) mt_173.2.2) (mj_sg mj_S1 mt_173 cal Q K 100 0 (mj_a0 0 [.ref 24, .ref 1]) [] (I0, J0, mj_R1)) := h
set_option maxRecDepth 100000 in
set_option maxHeartbeats 8000000 in
theorem s173_27 {cal : Nat → List Value → mj_H → mj_R → Prop} {Q : mj_R → Prop} {K : Nat → mj_K} {I0 : Nat → Nat → Int32} {J0 : Nat → Nat → Int64} (x2 : Int32)
    (h : (if (I0 24 0) ≤ x2 then
      (True ∧ ∃ (r1 : Int64) (I1 : Nat → Nat → Int32) (J1 : Nat → Nat → Int64), cal 176 [.ref 24, .ref 25, .ref 25] (I0, J0, mj_R1) (.long r1, (I1, J1, mj_R1)) ∧ (Q (.null, (I1, (mj_up J1 24 6 r1), mj_R1))))
    else
      K 37 [(0, .ref 24), (1, .ref 1), (2, .int x2), (3, .int (0 : Int32))] [] (I0, J0, mj_R1))) :
    mj_go mj_S1 mt_173 cal Q K 27 [(0, .ref 24), (1, .ref 1), (2, .int x2)] [] (I0, J0, mj_R1) := h
set_option maxRecDepth 100000 in
set_option maxHeartbeats 8000000 in
theorem s173_37 {cal : Nat → List Value → mj_H → mj_R → Prop} {Q : mj_R → Prop} {K : Nat → mj_K} {I0 : Nat → Nat → Int32} {J0 : Nat → Nat → Int64} (x2 : Int32) (x3 : Int32)
    (h : (if (I0 24 1) ≤ x3 then
      K 27 [(0, .ref 24), (1, .ref 1), (2, .int (x2 + (1 : Int32)))] [] (I0, J0, mj_R1)
    else
      (True ∧ ∃ (I1 : Nat → Nat → Int32) (J1 : Nat → Nat → Int64), cal 174 [.ref 24, .ref 1, .int x2, .int x3] (I0, J0, mj_R1) (.null, (I1, J1, mj_R1)) ∧ (K 37 [(0, .ref 24), (1, .ref 1), (2, .int x2), (3, .int (x3 + (1 : Int32)))] [] (I1, J1, mj_R1))))) :
    mj_go mj_S1 mt_173 cal Q K 37 [(0, .ref 24), (1, .ref 1), (2, .int x2), (3, .int x3)] [] (I0, J0, mj_R1) := h
-- UnbeatenHouse$Rows.takeLoss(LUnbeatenHouse$Tale;II)V (('c', 24), ('c', 1), 'I', 'I')
set_option maxRecDepth 100000 in
set_option maxHeartbeats 8000000 in
theorem e174 {cal : Nat → List Value → mj_H → mj_R → Prop} {Q : mj_R → Prop} {K : Nat → mj_K} {I0 : Nat → Nat → Int32} {J0 : Nat → Nat → Int64} (x2 : Int32) (x3 : Int32)
    (h : (True ∧ ∃ (r1 : Int32) (I1 : Nat → Nat → Int32) (J1 : Nat → Nat → Int64), cal 155 [.int (1 : Int32), .int x2, .int x3] (I0, J0, mj_R1) (.int r1, (I1, J1, mj_R1)) ∧ ((vp_in r1 960 ∧ ((if (I1 5 r1.toNatClampNeg) = (-1 : Int32) then
      K 38 [(0, .ref 24), (1, .ref 1), (3, .int x3), (4, .int (I1 5 r1.toNatClampNeg)), (5, .int ((x2 * (4 : Int32)) + x3))] [] (I1, (mj_up J1 24 5 ((J1 24 5) ||| ((1 : Int64) <<< (x2.toInt64 &&& 63)))), mj_R1)
    else
      K 38 [(0, .ref 24), (1, .ref 1), (3, .int x3), (4, .int (I1 5 r1.toNatClampNeg)), (5, .int ((x2 * (4 : Int32)) + x3))] [] (I1, J1, mj_R1))))))) :
    mj_if (Nat.ble (mj_sz [.ref 24, .ref 1, .int x2, .int x3]) mt_174.2.2) (mj_sg mj_S1 mt_174 cal Q K 100 0 (mj_a0 0 [.ref 24, .ref 1, .int x2, .int x3]) [] (I0, J0, mj_R1)) := h
set_option maxRecDepth 100000 in
set_option maxHeartbeats 8000000 in
theorem s174_38 {cal : Nat → List Value → mj_H → mj_R → Prop} {Q : mj_R → Prop} {K : Nat → mj_K} {I0 : Nat → Nat → Int32} {J0 : Nat → Nat → Int64} (x3 : Int32) (x4 : Int32) (x5 : Int32)
    (h : (True ∧ ∃ (r1 : Int32) (I1 : Nat → Nat → Int32) (J1 : Nat → Nat → Int64), cal 175 [.ref 1, .int x3, .int x4] (I0, J0, mj_R1) (.int r1, (I1, J1, mj_R1)) ∧ ((vp_in x5 160 ∧ ((vp_in x5 160 ∧ ((vp_in x5 160 ∧ ((vp_in x5 160 ∧ ((vp_in x5 160 ∧ ((vp_in x5 160 ∧ ((vp_in x5 160 ∧ (Q (.null, ((mj_up (mj_up (mj_up I1 25 x5.toNatClampNeg r1) 26 x5.toNatClampNeg (((mj_up I1 25 x5.toNatClampNeg r1) 25 x5.toNatClampNeg) - (I1 6 x5.toNatClampNeg))) 27 x5.toNatClampNeg (((mj_up I1 25 x5.toNatClampNeg r1) 25 x5.toNatClampNeg) + (I1 6 x5.toNatClampNeg))), J1, mj_R1))))))))))))))))))) :
    mj_go mj_S1 mt_174 cal Q K 38 [(0, .ref 24), (1, .ref 1), (3, .int x3), (4, .int x4), (5, .int x5)] [] (I0, J0, mj_R1) := h
-- UnbeatenHouse$Tale.lossFor(II)I (('c', 1), 'I', 'I')
set_option maxRecDepth 100000 in
set_option maxHeartbeats 8000000 in
theorem e175 {cal : Nat → List Value → mj_H → mj_R → Prop} {Q : mj_R → Prop} {K : Nat → mj_K} {I0 : Nat → Nat → Int32} {J0 : Nat → Nat → Int64} (x1 : Int32) (x2 : Int32)
    (h : (vp_in x1 4 ∧ ((if (I0 4 x1.toNatClampNeg) = 0 then
      Q (.int x2, (I0, J0, mj_R1))
    else
      Q (.int (-x2), (I0, J0, mj_R1)))))) :
    mj_if (Nat.ble (mj_sz [.ref 1, .int x1, .int x2]) mt_175.2.2) (mj_sg mj_S1 mt_175 cal Q K 100 0 (mj_a0 0 [.ref 1, .int x1, .int x2]) [] (I0, J0, mj_R1)) := h
-- UnbeatenHouse$Rows.unbeaten([I[I)J (('c', 24), ('c', 27), ('c', 26))
set_option maxRecDepth 100000 in
set_option maxHeartbeats 8000000 in
theorem e176_a {cal : Nat → List Value → mj_H → mj_R → Prop} {Q : mj_R → Prop} {K : Nat → mj_K} {I0 : Nat → Nat → Int32} {J0 : Nat → Nat → Int64}
    (h : K 5 [(0, .ref 24), (1, .ref 27), (2, .ref 26), (3, .long (0 : Int64)), (5, .int (0 : Int32))] [] (I0, J0, mj_R1)) :
    mj_if (Nat.ble (mj_sz [.ref 24, .ref 27, .ref 26]) mt_176.2.2) (mj_sg mj_S1 mt_176 cal Q K 100 0 (mj_a0 0 [.ref 24, .ref 27, .ref 26]) [] (I0, J0, mj_R1)) := h
set_option maxRecDepth 100000 in
set_option maxHeartbeats 8000000 in
theorem s176_5_a {cal : Nat → List Value → mj_H → mj_R → Prop} {Q : mj_R → Prop} {K : Nat → mj_K} {I0 : Nat → Nat → Int32} {J0 : Nat → Nat → Int64} (x3 : Int64) (x5 : Int32)
    (h : (if (I0 24 0) ≤ x5 then
      Q (.long x3, (I0, J0, mj_R1))
    else
      (True ∧ ∃ (r1 : Int32) (I1 : Nat → Nat → Int32) (J1 : Nat → Nat → Int64), cal 177 [.ref 24, .int x5] (I0, J0, mj_R1) (.int r1, (I1, J1, mj_R1)) ∧ (K 25 [(0, .ref 24), (1, .ref 27), (2, .ref 26), (3, .long x3), (5, .int x5), (6, .int r1), (7, .int (0 : Int32))] [] (I1, J1, mj_R1))))) :
    mj_go mj_S1 mt_176 cal Q K 5 [(0, .ref 24), (1, .ref 27), (2, .ref 26), (3, .long x3), (5, .int x5)] [] (I0, J0, mj_R1) := h
set_option maxRecDepth 100000 in
set_option maxHeartbeats 8000000 in
theorem s176_25_a {cal : Nat → List Value → mj_H → mj_R → Prop} {Q : mj_R → Prop} {K : Nat → mj_K} {I0 : Nat → Nat → Int32} {J0 : Nat → Nat → Int64} (x3 : Int64) (x5 : Int32) (x6 : Int32) (x7 : Int32)
    (h : (if (I0 24 0) ≤ x7 then
      K 81 [(0, .ref 24), (1, .ref 27), (2, .ref 26), (3, .long x3), (5, .int x5), (6, .int x6)] [] (I0, J0, mj_R1)
    else
      (if x6 = 0 then
        K 81 [(0, .ref 24), (1, .ref 27), (2, .ref 26), (3, .long x3), (5, .int x5), (6, .int x6)] [] (I0, J0, mj_R1)
      else
        (if x7 = x5 then
          K 25 [(0, .ref 24), (1, .ref 27), (2, .ref 26), (3, .long x3), (5, .int x5), (6, .int (1 : Int32)), (7, .int (x7 + (1 : Int32)))] [] (I0, J0, mj_R1)
        else
          (True ∧ ∃ (r1 : Int32) (I1 : Nat → Nat → Int32) (J1 : Nat → Nat → Int64), cal 177 [.ref 24, .int x7] (I0, J0, mj_R1) (.int r1, (I1, J1, mj_R1)) ∧ ((if r1 = 0 then
            K 25 [(0, .ref 24), (1, .ref 27), (2, .ref 26), (3, .long x3), (5, .int x5), (6, .int (1 : Int32)), (7, .int (x7 + (1 : Int32)))] [] (I1, J1, mj_R1)
          else
            (True ∧ ∃ (r2 : Int32) (I2 : Nat → Nat → Int32) (J2 : Nat → Nat → Int64), cal 179 [.ref 24, .int x7, .ref 27, .int x5, .ref 26] (I1, J1, mj_R1) (.int r2, (I2, J2, mj_R1)) ∧ ((if r2 = 0 then
              K 25 [(0, .ref 24), (1, .ref 27), (2, .ref 26), (3, .long x3), (5, .int x5), (6, .int (1 : Int32)), (7, .int (x7 + (1 : Int32)))] [] (I2, J2, mj_R1)
            else
              K 25 [(0, .ref 24), (1, .ref 27), (2, .ref 26), (3, .long x3), (5, .int x5), (6, .int (0 : Int32)), (7, .int (x7 + (1 : Int32)))] [] (I2, J2, mj_R1))))))))))) :
    mj_go mj_S1 mt_176 cal Q K 25 [(0, .ref 24), (1, .ref 27), (2, .ref 26), (3, .long x3), (5, .int x5), (6, .int x6), (7, .int x7)] [] (I0, J0, mj_R1) := h
set_option maxRecDepth 100000 in
set_option maxHeartbeats 8000000 in
theorem s176_81_a {cal : Nat → List Value → mj_H → mj_R → Prop} {Q : mj_R → Prop} {K : Nat → mj_K} {I0 : Nat → Nat → Int32} {J0 : Nat → Nat → Int64} (x3 : Int64) (x5 : Int32) (x6 : Int32)
    (h : (if x6 = 0 then
      K 5 [(0, .ref 24), (1, .ref 27), (2, .ref 26), (3, .long x3), (5, .int (x5 + (1 : Int32)))] [] (I0, J0, mj_R1)
    else
      K 5 [(0, .ref 24), (1, .ref 27), (2, .ref 26), (3, .long (x3 ||| ((1 : Int64) <<< (x5.toInt64 &&& 63)))), (5, .int (x5 + (1 : Int32)))] [] (I0, J0, mj_R1))) :
    mj_go mj_S1 mt_176 cal Q K 81 [(0, .ref 24), (1, .ref 27), (2, .ref 26), (3, .long x3), (5, .int x5), (6, .int x6)] [] (I0, J0, mj_R1) := h
-- UnbeatenHouse$Rows.unbeaten([I[I)J (('c', 24), ('c', 26), ('c', 27))
set_option maxRecDepth 100000 in
set_option maxHeartbeats 8000000 in
theorem e176_b {cal : Nat → List Value → mj_H → mj_R → Prop} {Q : mj_R → Prop} {K : Nat → mj_K} {I0 : Nat → Nat → Int32} {J0 : Nat → Nat → Int64}
    (h : K 5 [(0, .ref 24), (1, .ref 26), (2, .ref 27), (3, .long (0 : Int64)), (5, .int (0 : Int32))] [] (I0, J0, mj_R1)) :
    mj_if (Nat.ble (mj_sz [.ref 24, .ref 26, .ref 27]) mt_176.2.2) (mj_sg mj_S1 mt_176 cal Q K 100 0 (mj_a0 0 [.ref 24, .ref 26, .ref 27]) [] (I0, J0, mj_R1)) := h
set_option maxRecDepth 100000 in
set_option maxHeartbeats 8000000 in
theorem s176_5_b {cal : Nat → List Value → mj_H → mj_R → Prop} {Q : mj_R → Prop} {K : Nat → mj_K} {I0 : Nat → Nat → Int32} {J0 : Nat → Nat → Int64} (x3 : Int64) (x5 : Int32)
    (h : (if (I0 24 0) ≤ x5 then
      Q (.long x3, (I0, J0, mj_R1))
    else
      (True ∧ ∃ (r1 : Int32) (I1 : Nat → Nat → Int32) (J1 : Nat → Nat → Int64), cal 177 [.ref 24, .int x5] (I0, J0, mj_R1) (.int r1, (I1, J1, mj_R1)) ∧ (K 25 [(0, .ref 24), (1, .ref 26), (2, .ref 27), (3, .long x3), (5, .int x5), (6, .int r1), (7, .int (0 : Int32))] [] (I1, J1, mj_R1))))) :
    mj_go mj_S1 mt_176 cal Q K 5 [(0, .ref 24), (1, .ref 26), (2, .ref 27), (3, .long x3), (5, .int x5)] [] (I0, J0, mj_R1) := h
set_option maxRecDepth 100000 in
set_option maxHeartbeats 8000000 in
theorem s176_25_b {cal : Nat → List Value → mj_H → mj_R → Prop} {Q : mj_R → Prop} {K : Nat → mj_K} {I0 : Nat → Nat → Int32} {J0 : Nat → Nat → Int64} (x3 : Int64) (x5 : Int32) (x6 : Int32) (x7 : Int32)
    (h : (if (I0 24 0) ≤ x7 then
      K 81 [(0, .ref 24), (1, .ref 26), (2, .ref 27), (3, .long x3), (5, .int x5), (6, .int x6)] [] (I0, J0, mj_R1)
    else
      (if x6 = 0 then
        K 81 [(0, .ref 24), (1, .ref 26), (2, .ref 27), (3, .long x3), (5, .int x5), (6, .int x6)] [] (I0, J0, mj_R1)
      else
        (if x7 = x5 then
          K 25 [(0, .ref 24), (1, .ref 26), (2, .ref 27), (3, .long x3), (5, .int x5), (6, .int (1 : Int32)), (7, .int (x7 + (1 : Int32)))] [] (I0, J0, mj_R1)
        else
          (True ∧ ∃ (r1 : Int32) (I1 : Nat → Nat → Int32) (J1 : Nat → Nat → Int64), cal 177 [.ref 24, .int x7] (I0, J0, mj_R1) (.int r1, (I1, J1, mj_R1)) ∧ ((if r1 = 0 then
            K 25 [(0, .ref 24), (1, .ref 26), (2, .ref 27), (3, .long x3), (5, .int x5), (6, .int (1 : Int32)), (7, .int (x7 + (1 : Int32)))] [] (I1, J1, mj_R1)
          else
            (True ∧ ∃ (r2 : Int32) (I2 : Nat → Nat → Int32) (J2 : Nat → Nat → Int64), cal 179 [.ref 24, .int x7, .ref 26, .int x5, .ref 27] (I1, J1, mj_R1) (.int r2, (I2, J2, mj_R1)) ∧ ((if r2 = 0 then
              K 25 [(0, .ref 24), (1, .ref 26), (2, .ref 27), (3, .long x3), (5, .int x5), (6, .int (1 : Int32)), (7, .int (x7 + (1 : Int32)))] [] (I2, J2, mj_R1)
            else
              K 25 [(0, .ref 24), (1, .ref 26), (2, .ref 27), (3, .long x3), (5, .int x5), (6, .int (0 : Int32)), (7, .int (x7 + (1 : Int32)))] [] (I2, J2, mj_R1))))))))))) :
    mj_go mj_S1 mt_176 cal Q K 25 [(0, .ref 24), (1, .ref 26), (2, .ref 27), (3, .long x3), (5, .int x5), (6, .int x6), (7, .int x7)] [] (I0, J0, mj_R1) := h
set_option maxRecDepth 100000 in
set_option maxHeartbeats 8000000 in
theorem s176_81_b {cal : Nat → List Value → mj_H → mj_R → Prop} {Q : mj_R → Prop} {K : Nat → mj_K} {I0 : Nat → Nat → Int32} {J0 : Nat → Nat → Int64} (x3 : Int64) (x5 : Int32) (x6 : Int32)
    (h : (if x6 = 0 then
      K 5 [(0, .ref 24), (1, .ref 26), (2, .ref 27), (3, .long x3), (5, .int (x5 + (1 : Int32)))] [] (I0, J0, mj_R1)
    else
      K 5 [(0, .ref 24), (1, .ref 26), (2, .ref 27), (3, .long (x3 ||| ((1 : Int64) <<< (x5.toInt64 &&& 63)))), (5, .int (x5 + (1 : Int32)))] [] (I0, J0, mj_R1))) :
    mj_go mj_S1 mt_176 cal Q K 81 [(0, .ref 24), (1, .ref 26), (2, .ref 27), (3, .long x3), (5, .int x5), (6, .int x6)] [] (I0, J0, mj_R1) := h
-- UnbeatenHouse$Rows.unbeaten([I[I)J (('c', 24), ('c', 25), ('c', 25))
set_option maxRecDepth 100000 in
set_option maxHeartbeats 8000000 in
theorem e176_c {cal : Nat → List Value → mj_H → mj_R → Prop} {Q : mj_R → Prop} {K : Nat → mj_K} {I0 : Nat → Nat → Int32} {J0 : Nat → Nat → Int64}
    (h : K 5 [(0, .ref 24), (1, .ref 25), (2, .ref 25), (3, .long (0 : Int64)), (5, .int (0 : Int32))] [] (I0, J0, mj_R1)) :
    mj_if (Nat.ble (mj_sz [.ref 24, .ref 25, .ref 25]) mt_176.2.2) (mj_sg mj_S1 mt_176 cal Q K 100 0 (mj_a0 0 [.ref 24, .ref 25, .ref 25]) [] (I0, J0, mj_R1)) := h
set_option maxRecDepth 100000 in
set_option maxHeartbeats 8000000 in
theorem s176_5_c {cal : Nat → List Value → mj_H → mj_R → Prop} {Q : mj_R → Prop} {K : Nat → mj_K} {I0 : Nat → Nat → Int32} {J0 : Nat → Nat → Int64} (x3 : Int64) (x5 : Int32)
    (h : (if (I0 24 0) ≤ x5 then
      Q (.long x3, (I0, J0, mj_R1))
    else
      (True ∧ ∃ (r1 : Int32) (I1 : Nat → Nat → Int32) (J1 : Nat → Nat → Int64), cal 177 [.ref 24, .int x5] (I0, J0, mj_R1) (.int r1, (I1, J1, mj_R1)) ∧ (K 25 [(0, .ref 24), (1, .ref 25), (2, .ref 25), (3, .long x3), (5, .int x5), (6, .int r1), (7, .int (0 : Int32))] [] (I1, J1, mj_R1))))) :
    mj_go mj_S1 mt_176 cal Q K 5 [(0, .ref 24), (1, .ref 25), (2, .ref 25), (3, .long x3), (5, .int x5)] [] (I0, J0, mj_R1) := h
set_option maxRecDepth 100000 in
set_option maxHeartbeats 8000000 in
theorem s176_25_c {cal : Nat → List Value → mj_H → mj_R → Prop} {Q : mj_R → Prop} {K : Nat → mj_K} {I0 : Nat → Nat → Int32} {J0 : Nat → Nat → Int64} (x3 : Int64) (x5 : Int32) (x6 : Int32) (x7 : Int32)
    (h : (if (I0 24 0) ≤ x7 then
      K 81 [(0, .ref 24), (1, .ref 25), (2, .ref 25), (3, .long x3), (5, .int x5), (6, .int x6)] [] (I0, J0, mj_R1)
    else
      (if x6 = 0 then
        K 81 [(0, .ref 24), (1, .ref 25), (2, .ref 25), (3, .long x3), (5, .int x5), (6, .int x6)] [] (I0, J0, mj_R1)
      else
        (if x7 = x5 then
          K 25 [(0, .ref 24), (1, .ref 25), (2, .ref 25), (3, .long x3), (5, .int x5), (6, .int (1 : Int32)), (7, .int (x7 + (1 : Int32)))] [] (I0, J0, mj_R1)
        else
          (True ∧ ∃ (r1 : Int32) (I1 : Nat → Nat → Int32) (J1 : Nat → Nat → Int64), cal 177 [.ref 24, .int x7] (I0, J0, mj_R1) (.int r1, (I1, J1, mj_R1)) ∧ ((if r1 = 0 then
            K 25 [(0, .ref 24), (1, .ref 25), (2, .ref 25), (3, .long x3), (5, .int x5), (6, .int (1 : Int32)), (7, .int (x7 + (1 : Int32)))] [] (I1, J1, mj_R1)
          else
            (True ∧ ∃ (r2 : Int32) (I2 : Nat → Nat → Int32) (J2 : Nat → Nat → Int64), cal 179 [.ref 24, .int x7, .ref 25, .int x5, .ref 25] (I1, J1, mj_R1) (.int r2, (I2, J2, mj_R1)) ∧ ((if r2 = 0 then
              K 25 [(0, .ref 24), (1, .ref 25), (2, .ref 25), (3, .long x3), (5, .int x5), (6, .int (1 : Int32)), (7, .int (x7 + (1 : Int32)))] [] (I2, J2, mj_R1)
            else
              K 25 [(0, .ref 24), (1, .ref 25), (2, .ref 25), (3, .long x3), (5, .int x5), (6, .int (0 : Int32)), (7, .int (x7 + (1 : Int32)))] [] (I2, J2, mj_R1))))))))))) :
    mj_go mj_S1 mt_176 cal Q K 25 [(0, .ref 24), (1, .ref 25), (2, .ref 25), (3, .long x3), (5, .int x5), (6, .int x6), (7, .int x7)] [] (I0, J0, mj_R1) := h
set_option maxRecDepth 100000 in
set_option maxHeartbeats 8000000 in
theorem s176_81_c {cal : Nat → List Value → mj_H → mj_R → Prop} {Q : mj_R → Prop} {K : Nat → mj_K} {I0 : Nat → Nat → Int32} {J0 : Nat → Nat → Int64} (x3 : Int64) (x5 : Int32) (x6 : Int32)
    (h : (if x6 = 0 then
      K 5 [(0, .ref 24), (1, .ref 25), (2, .ref 25), (3, .long x3), (5, .int (x5 + (1 : Int32)))] [] (I0, J0, mj_R1)
    else
      K 5 [(0, .ref 24), (1, .ref 25), (2, .ref 25), (3, .long (x3 ||| ((1 : Int64) <<< (x5.toInt64 &&& 63)))), (5, .int (x5 + (1 : Int32)))] [] (I0, J0, mj_R1))) :
    mj_go mj_S1 mt_176 cal Q K 81 [(0, .ref 24), (1, .ref 25), (2, .ref 25), (3, .long x3), (5, .int x5), (6, .int x6)] [] (I0, J0, mj_R1) := h
-- UnbeatenHouse$Rows.isJudged(I)Z (('c', 24), 'I')
set_option maxRecDepth 100000 in
set_option maxHeartbeats 8000000 in
theorem e177 {cal : Nat → List Value → mj_H → mj_R → Prop} {Q : mj_R → Prop} {K : Nat → mj_K} {I0 : Nat → Nat → Int32} {J0 : Nat → Nat → Int64} (x1 : Int32)
    (h : (if x1 < 0 then
      (((0 : Int32) = 0 ∨ (0 : Int32) = 1) ∧ Q (.int (0 : Int32), (I0, J0, mj_R1)))
    else
      (if (I0 24 0) ≤ x1 then
        (((0 : Int32) = 0 ∨ (0 : Int32) = 1) ∧ Q (.int (0 : Int32), (I0, J0, mj_R1)))
      else
        (True ∧ ∃ (r1 : Int32) (I1 : Nat → Nat → Int32) (J1 : Nat → Nat → Int64), cal 178 [.long (J0 24 5), .int x1] (I0, J0, mj_R1) (.int r1, (I1, J1, mj_R1)) ∧ ((if r1 = 0 then
          (((1 : Int32) = 0 ∨ (1 : Int32) = 1) ∧ Q (.int (1 : Int32), (I1, J1, mj_R1)))
        else
          (((0 : Int32) = 0 ∨ (0 : Int32) = 1) ∧ Q (.int (0 : Int32), (I1, J1, mj_R1))))))))) :
    mj_if (Nat.ble (mj_sz [.ref 24, .int x1]) mt_177.2.2) (mj_sg mj_S1 mt_177 cal Q K 100 0 (mj_a0 0 [.ref 24, .int x1]) [] (I0, J0, mj_R1)) := h
-- UnbeatenHouse.isIn(JI)Z ('J', 'I')
set_option maxRecDepth 100000 in
set_option maxHeartbeats 8000000 in
theorem e178 {cal : Nat → List Value → mj_H → mj_R → Prop} {Q : mj_R → Prop} {K : Nat → mj_K} {I0 : Nat → Nat → Int32} {J0 : Nat → Nat → Int64} (x0 : Int64) (x2 : Int32)
    (h : (if (lg_cmp ((x0.toUInt64 >>> (x2.toInt64.toUInt64 &&& Int64.toUInt64 63)).toInt64 &&& (1 : Int64)) (0 : Int64)) = 0 then
      (((0 : Int32) = 0 ∨ (0 : Int32) = 1) ∧ Q (.int (0 : Int32), (I0, J0, mj_R1)))
    else
      (((1 : Int32) = 0 ∨ (1 : Int32) = 1) ∧ Q (.int (1 : Int32), (I0, J0, mj_R1))))) :
    mj_if (Nat.ble (mj_sz [.long x0, .int x2]) mt_178.2.2) (mj_sg mj_S1 mt_178 cal Q K 100 0 (mj_a0 0 [.long x0, .int x2]) [] (I0, J0, mj_R1)) := h
-- UnbeatenHouse$Rows.outdoes(I[II[I)Z (('c', 24), 'I', ('c', 26), 'I', ('c', 27))
set_option maxRecDepth 100000 in
set_option maxHeartbeats 8000000 in
theorem e179_a {cal : Nat → List Value → mj_H → mj_R → Prop} {Q : mj_R → Prop} {K : Nat → mj_K} {I0 : Nat → Nat → Int32} {J0 : Nat → Nat → Int64} (x1 : Int32) (x3 : Int32)
    (h : (True ∧ ∃ (r1 : Int32) (I1 : Nat → Nat → Int32) (J1 : Nat → Nat → Int64), cal 180 [.ref 26, .int (x1 * (4 : Int32)), .ref 27, .int (x3 * (4 : Int32)), .int (I0 24 1)] (I0, J0, mj_R1) (.int r1, (I1, J1, mj_R1)) ∧ ((if r1 = 0 then
      (((0 : Int32) = 0 ∨ (0 : Int32) = 1) ∧ Q (.int (0 : Int32), (I1, J1, mj_R1)))
    else
      (True ∧ ∃ (r2 : Int32) (I2 : Nat → Nat → Int32) (J2 : Nat → Nat → Int64), cal 180 [.ref 27, .int (x3 * (4 : Int32)), .ref 26, .int (x1 * (4 : Int32)), .int (I1 24 1)] (I1, J1, mj_R1) (.int r2, (I2, J2, mj_R1)) ∧ ((if r2 = 0 then
        (((1 : Int32) = 0 ∨ (1 : Int32) = 1) ∧ Q (.int (1 : Int32), (I2, J2, mj_R1)))
      else
        (((0 : Int32) = 0 ∨ (0 : Int32) = 1) ∧ Q (.int (0 : Int32), (I2, J2, mj_R1)))))))))) :
    mj_if (Nat.ble (mj_sz [.ref 24, .int x1, .ref 26, .int x3, .ref 27]) mt_179.2.2) (mj_sg mj_S1 mt_179 cal Q K 100 0 (mj_a0 0 [.ref 24, .int x1, .ref 26, .int x3, .ref 27]) [] (I0, J0, mj_R1)) := h
-- UnbeatenHouse$Rows.outdoes(I[II[I)Z (('c', 24), 'I', ('c', 27), 'I', ('c', 26))
set_option maxRecDepth 100000 in
set_option maxHeartbeats 8000000 in
theorem e179_b {cal : Nat → List Value → mj_H → mj_R → Prop} {Q : mj_R → Prop} {K : Nat → mj_K} {I0 : Nat → Nat → Int32} {J0 : Nat → Nat → Int64} (x1 : Int32) (x3 : Int32)
    (h : (True ∧ ∃ (r1 : Int32) (I1 : Nat → Nat → Int32) (J1 : Nat → Nat → Int64), cal 180 [.ref 27, .int (x1 * (4 : Int32)), .ref 26, .int (x3 * (4 : Int32)), .int (I0 24 1)] (I0, J0, mj_R1) (.int r1, (I1, J1, mj_R1)) ∧ ((if r1 = 0 then
      (((0 : Int32) = 0 ∨ (0 : Int32) = 1) ∧ Q (.int (0 : Int32), (I1, J1, mj_R1)))
    else
      (True ∧ ∃ (r2 : Int32) (I2 : Nat → Nat → Int32) (J2 : Nat → Nat → Int64), cal 180 [.ref 26, .int (x3 * (4 : Int32)), .ref 27, .int (x1 * (4 : Int32)), .int (I1 24 1)] (I1, J1, mj_R1) (.int r2, (I2, J2, mj_R1)) ∧ ((if r2 = 0 then
        (((1 : Int32) = 0 ∨ (1 : Int32) = 1) ∧ Q (.int (1 : Int32), (I2, J2, mj_R1)))
      else
        (((0 : Int32) = 0 ∨ (0 : Int32) = 1) ∧ Q (.int (0 : Int32), (I2, J2, mj_R1)))))))))) :
    mj_if (Nat.ble (mj_sz [.ref 24, .int x1, .ref 27, .int x3, .ref 26]) mt_179.2.2) (mj_sg mj_S1 mt_179 cal Q K 100 0 (mj_a0 0 [.ref 24, .int x1, .ref 27, .int x3, .ref 26]) [] (I0, J0, mj_R1)) := h
-- UnbeatenHouse$Rows.outdoes(I[II[I)Z (('c', 24), 'I', ('c', 25), 'I', ('c', 25))
set_option maxRecDepth 100000 in
set_option maxHeartbeats 8000000 in
theorem e179_c {cal : Nat → List Value → mj_H → mj_R → Prop} {Q : mj_R → Prop} {K : Nat → mj_K} {I0 : Nat → Nat → Int32} {J0 : Nat → Nat → Int64} (x1 : Int32) (x3 : Int32)
    (h : (True ∧ ∃ (r1 : Int32) (I1 : Nat → Nat → Int32) (J1 : Nat → Nat → Int64), cal 180 [.ref 25, .int (x1 * (4 : Int32)), .ref 25, .int (x3 * (4 : Int32)), .int (I0 24 1)] (I0, J0, mj_R1) (.int r1, (I1, J1, mj_R1)) ∧ ((if r1 = 0 then
      (((0 : Int32) = 0 ∨ (0 : Int32) = 1) ∧ Q (.int (0 : Int32), (I1, J1, mj_R1)))
    else
      (True ∧ ∃ (r2 : Int32) (I2 : Nat → Nat → Int32) (J2 : Nat → Nat → Int64), cal 180 [.ref 25, .int (x3 * (4 : Int32)), .ref 25, .int (x1 * (4 : Int32)), .int (I1 24 1)] (I1, J1, mj_R1) (.int r2, (I2, J2, mj_R1)) ∧ ((if r2 = 0 then
        (((1 : Int32) = 0 ∨ (1 : Int32) = 1) ∧ Q (.int (1 : Int32), (I2, J2, mj_R1)))
      else
        (((0 : Int32) = 0 ∨ (0 : Int32) = 1) ∧ Q (.int (0 : Int32), (I2, J2, mj_R1)))))))))) :
    mj_if (Nat.ble (mj_sz [.ref 24, .int x1, .ref 25, .int x3, .ref 25]) mt_179.2.2) (mj_sg mj_S1 mt_179 cal Q K 100 0 (mj_a0 0 [.ref 24, .int x1, .ref 25, .int x3, .ref 25]) [] (I0, J0, mj_R1)) := h
-- UnbeatenHouse.isNowhereMore([II[III)Z (('c', 45), 'I', ('c', 30), 'I', 'I')
set_option maxRecDepth 100000 in
set_option maxHeartbeats 8000000 in
theorem e180_a {cal : Nat → List Value → mj_H → mj_R → Prop} {Q : mj_R → Prop} {K : Nat → mj_K} {I0 : Nat → Nat → Int32} {J0 : Nat → Nat → Int64} (x1 : Int32) (x3 : Int32) (x4 : Int32)
    (h : K 3 [(0, .ref 45), (1, .int x1), (2, .ref 30), (3, .int x3), (4, .int x4), (5, .int (0 : Int32))] [] (I0, J0, mj_R1)) :
    mj_if (Nat.ble (mj_sz [.ref 45, .int x1, .ref 30, .int x3, .int x4]) mt_180.2.2) (mj_sg mj_S1 mt_180 cal Q K 100 0 (mj_a0 0 [.ref 45, .int x1, .ref 30, .int x3, .int x4]) [] (I0, J0, mj_R1)) := h
set_option maxRecDepth 100000 in
set_option maxHeartbeats 8000000 in
theorem s180_3_a {cal : Nat → List Value → mj_H → mj_R → Prop} {Q : mj_R → Prop} {K : Nat → mj_K} {I0 : Nat → Nat → Int32} {J0 : Nat → Nat → Int64} (x1 : Int32) (x3 : Int32) (x4 : Int32) (x5 : Int32)
    (h : (if x4 ≤ x5 then
      (((1 : Int32) = 0 ∨ (1 : Int32) = 1) ∧ Q (.int (1 : Int32), (I0, J0, mj_R1)))
    else
      (vp_in (x1 + x5) 400 ∧ ((vp_in (x3 + x5) 26244 ∧ ((if (I0 45 (x1 + x5).toNatClampNeg) ≤ (I0 30 (x3 + x5).toNatClampNeg) then
        K 3 [(0, .ref 45), (1, .int x1), (2, .ref 30), (3, .int x3), (4, .int x4), (5, .int (x5 + (1 : Int32)))] [] (I0, J0, mj_R1)
      else
        (((0 : Int32) = 0 ∨ (0 : Int32) = 1) ∧ Q (.int (0 : Int32), (I0, J0, mj_R1)))))))))) :
    mj_go mj_S1 mt_180 cal Q K 3 [(0, .ref 45), (1, .int x1), (2, .ref 30), (3, .int x3), (4, .int x4), (5, .int x5)] [] (I0, J0, mj_R1) := h
-- UnbeatenHouse.isNowhereMore([II[III)Z (('c', 42), 'I', ('c', 30), 'I', 'I')
set_option maxRecDepth 100000 in
set_option maxHeartbeats 8000000 in
theorem e180_b {cal : Nat → List Value → mj_H → mj_R → Prop} {Q : mj_R → Prop} {K : Nat → mj_K} {I0 : Nat → Nat → Int32} {J0 : Nat → Nat → Int64} (x1 : Int32) (x3 : Int32) (x4 : Int32)
    (h : K 3 [(0, .ref 42), (1, .int x1), (2, .ref 30), (3, .int x3), (4, .int x4), (5, .int (0 : Int32))] [] (I0, J0, mj_R1)) :
    mj_if (Nat.ble (mj_sz [.ref 42, .int x1, .ref 30, .int x3, .int x4]) mt_180.2.2) (mj_sg mj_S1 mt_180 cal Q K 100 0 (mj_a0 0 [.ref 42, .int x1, .ref 30, .int x3, .int x4]) [] (I0, J0, mj_R1)) := h
set_option maxRecDepth 100000 in
set_option maxHeartbeats 8000000 in
theorem s180_3_b {cal : Nat → List Value → mj_H → mj_R → Prop} {Q : mj_R → Prop} {K : Nat → mj_K} {I0 : Nat → Nat → Int32} {J0 : Nat → Nat → Int64} (x1 : Int32) (x3 : Int32) (x4 : Int32) (x5 : Int32)
    (h : (if x4 ≤ x5 then
      (((1 : Int32) = 0 ∨ (1 : Int32) = 1) ∧ Q (.int (1 : Int32), (I0, J0, mj_R1)))
    else
      (vp_in (x1 + x5) 400 ∧ ((vp_in (x3 + x5) 26244 ∧ ((if (I0 42 (x1 + x5).toNatClampNeg) ≤ (I0 30 (x3 + x5).toNatClampNeg) then
        K 3 [(0, .ref 42), (1, .int x1), (2, .ref 30), (3, .int x3), (4, .int x4), (5, .int (x5 + (1 : Int32)))] [] (I0, J0, mj_R1)
      else
        (((0 : Int32) = 0 ∨ (0 : Int32) = 1) ∧ Q (.int (0 : Int32), (I0, J0, mj_R1)))))))))) :
    mj_go mj_S1 mt_180 cal Q K 3 [(0, .ref 42), (1, .int x1), (2, .ref 30), (3, .int x3), (4, .int x4), (5, .int x5)] [] (I0, J0, mj_R1) := h
-- UnbeatenHouse.isNowhereMore([II[III)Z (('c', 26), 'I', ('c', 27), 'I', 'I')
set_option maxRecDepth 100000 in
set_option maxHeartbeats 8000000 in
theorem e180_c {cal : Nat → List Value → mj_H → mj_R → Prop} {Q : mj_R → Prop} {K : Nat → mj_K} {I0 : Nat → Nat → Int32} {J0 : Nat → Nat → Int64} (x1 : Int32) (x3 : Int32) (x4 : Int32)
    (h : K 3 [(0, .ref 26), (1, .int x1), (2, .ref 27), (3, .int x3), (4, .int x4), (5, .int (0 : Int32))] [] (I0, J0, mj_R1)) :
    mj_if (Nat.ble (mj_sz [.ref 26, .int x1, .ref 27, .int x3, .int x4]) mt_180.2.2) (mj_sg mj_S1 mt_180 cal Q K 100 0 (mj_a0 0 [.ref 26, .int x1, .ref 27, .int x3, .int x4]) [] (I0, J0, mj_R1)) := h
set_option maxRecDepth 100000 in
set_option maxHeartbeats 8000000 in
theorem s180_3_c {cal : Nat → List Value → mj_H → mj_R → Prop} {Q : mj_R → Prop} {K : Nat → mj_K} {I0 : Nat → Nat → Int32} {J0 : Nat → Nat → Int64} (x1 : Int32) (x3 : Int32) (x4 : Int32) (x5 : Int32)
    (h : (if x4 ≤ x5 then
      (((1 : Int32) = 0 ∨ (1 : Int32) = 1) ∧ Q (.int (1 : Int32), (I0, J0, mj_R1)))
    else
      (vp_in (x1 + x5) 160 ∧ ((vp_in (x3 + x5) 160 ∧ ((if (I0 26 (x1 + x5).toNatClampNeg) ≤ (I0 27 (x3 + x5).toNatClampNeg) then
        K 3 [(0, .ref 26), (1, .int x1), (2, .ref 27), (3, .int x3), (4, .int x4), (5, .int (x5 + (1 : Int32)))] [] (I0, J0, mj_R1)
      else
        (((0 : Int32) = 0 ∨ (0 : Int32) = 1) ∧ Q (.int (0 : Int32), (I0, J0, mj_R1)))))))))) :
    mj_go mj_S1 mt_180 cal Q K 3 [(0, .ref 26), (1, .int x1), (2, .ref 27), (3, .int x3), (4, .int x4), (5, .int x5)] [] (I0, J0, mj_R1) := h
-- UnbeatenHouse.isNowhereMore([II[III)Z (('c', 27), 'I', ('c', 26), 'I', 'I')
set_option maxRecDepth 100000 in
set_option maxHeartbeats 8000000 in
theorem e180_d {cal : Nat → List Value → mj_H → mj_R → Prop} {Q : mj_R → Prop} {K : Nat → mj_K} {I0 : Nat → Nat → Int32} {J0 : Nat → Nat → Int64} (x1 : Int32) (x3 : Int32) (x4 : Int32)
    (h : K 3 [(0, .ref 27), (1, .int x1), (2, .ref 26), (3, .int x3), (4, .int x4), (5, .int (0 : Int32))] [] (I0, J0, mj_R1)) :
    mj_if (Nat.ble (mj_sz [.ref 27, .int x1, .ref 26, .int x3, .int x4]) mt_180.2.2) (mj_sg mj_S1 mt_180 cal Q K 100 0 (mj_a0 0 [.ref 27, .int x1, .ref 26, .int x3, .int x4]) [] (I0, J0, mj_R1)) := h
set_option maxRecDepth 100000 in
set_option maxHeartbeats 8000000 in
theorem s180_3_d {cal : Nat → List Value → mj_H → mj_R → Prop} {Q : mj_R → Prop} {K : Nat → mj_K} {I0 : Nat → Nat → Int32} {J0 : Nat → Nat → Int64} (x1 : Int32) (x3 : Int32) (x4 : Int32) (x5 : Int32)
    (h : (if x4 ≤ x5 then
      (((1 : Int32) = 0 ∨ (1 : Int32) = 1) ∧ Q (.int (1 : Int32), (I0, J0, mj_R1)))
    else
      (vp_in (x1 + x5) 160 ∧ ((vp_in (x3 + x5) 160 ∧ ((if (I0 27 (x1 + x5).toNatClampNeg) ≤ (I0 26 (x3 + x5).toNatClampNeg) then
        K 3 [(0, .ref 27), (1, .int x1), (2, .ref 26), (3, .int x3), (4, .int x4), (5, .int (x5 + (1 : Int32)))] [] (I0, J0, mj_R1)
      else
        (((0 : Int32) = 0 ∨ (0 : Int32) = 1) ∧ Q (.int (0 : Int32), (I0, J0, mj_R1)))))))))) :
    mj_go mj_S1 mt_180 cal Q K 3 [(0, .ref 27), (1, .int x1), (2, .ref 26), (3, .int x3), (4, .int x4), (5, .int x5)] [] (I0, J0, mj_R1) := h
-- UnbeatenHouse.isNowhereMore([II[III)Z (('c', 25), 'I', ('c', 25), 'I', 'I')
set_option maxRecDepth 100000 in
set_option maxHeartbeats 8000000 in
theorem e180_e {cal : Nat → List Value → mj_H → mj_R → Prop} {Q : mj_R → Prop} {K : Nat → mj_K} {I0 : Nat → Nat → Int32} {J0 : Nat → Nat → Int64} (x1 : Int32) (x3 : Int32) (x4 : Int32)
    (h : K 3 [(0, .ref 25), (1, .int x1), (2, .ref 25), (3, .int x3), (4, .int x4), (5, .int (0 : Int32))] [] (I0, J0, mj_R1)) :
    mj_if (Nat.ble (mj_sz [.ref 25, .int x1, .ref 25, .int x3, .int x4]) mt_180.2.2) (mj_sg mj_S1 mt_180 cal Q K 100 0 (mj_a0 0 [.ref 25, .int x1, .ref 25, .int x3, .int x4]) [] (I0, J0, mj_R1)) := h
set_option maxRecDepth 100000 in
set_option maxHeartbeats 8000000 in
theorem s180_3_e {cal : Nat → List Value → mj_H → mj_R → Prop} {Q : mj_R → Prop} {K : Nat → mj_K} {I0 : Nat → Nat → Int32} {J0 : Nat → Nat → Int64} (x1 : Int32) (x3 : Int32) (x4 : Int32) (x5 : Int32)
    (h : (if x4 ≤ x5 then
      (((1 : Int32) = 0 ∨ (1 : Int32) = 1) ∧ Q (.int (1 : Int32), (I0, J0, mj_R1)))
    else
      (vp_in (x1 + x5) 160 ∧ ((vp_in (x3 + x5) 160 ∧ ((if (I0 25 (x1 + x5).toNatClampNeg) ≤ (I0 25 (x3 + x5).toNatClampNeg) then
        K 3 [(0, .ref 25), (1, .int x1), (2, .ref 25), (3, .int x3), (4, .int x4), (5, .int (x5 + (1 : Int32)))] [] (I0, J0, mj_R1)
      else
        (((0 : Int32) = 0 ∨ (0 : Int32) = 1) ∧ Q (.int (0 : Int32), (I0, J0, mj_R1)))))))))) :
    mj_go mj_S1 mt_180 cal Q K 3 [(0, .ref 25), (1, .int x1), (2, .ref 25), (3, .int x3), (4, .int x4), (5, .int x5)] [] (I0, J0, mj_R1) := h
-- UnbeatenHouse$Front.drop()V (('c', 38),)
set_option maxRecDepth 100000 in
set_option maxHeartbeats 8000000 in
theorem e181 {cal : Nat → List Value → mj_H → mj_R → Prop} {Q : mj_R → Prop} {K : Nat → mj_K} {I0 : Nat → Nat → Int32} {J0 : Nat → Nat → Int64}
    (h : (True ∧ ∃ (I1 : Nat → Nat → Int32) (J1 : Nat → Nat → Int64), cal 182 [.ref 38, .int (-1 : Int32)] (I0, J0, mj_R1) (.null, (I1, J1, mj_R1)) ∧ (Q (.null, (I1, J1, mj_R1))))) :
    mj_if (Nat.ble (mj_sz [.ref 38]) mt_181.2.2) (mj_sg mj_S1 mt_181 cal Q K 100 0 (mj_a0 0 [.ref 38]) [] (I0, J0, mj_R1)) := h
-- UnbeatenHouse$Front.start(I)V (('c', 44), 'I')
set_option maxRecDepth 100000 in
set_option maxHeartbeats 8000000 in
theorem e182_a {cal : Nat → List Value → mj_H → mj_R → Prop} {Q : mj_R → Prop} {K : Nat → mj_K} {I0 : Nat → Nat → Int32} {J0 : Nat → Nat → Int64} (x1 : Int32)
    (h : Q (.null, ((mj_up (mj_up I0 44 0 x1) 44 1 (0 : Int32)), J0, mj_R1))) :
    mj_if (Nat.ble (mj_sz [.ref 44, .int x1]) mt_182.2.2) (mj_sg mj_S1 mt_182 cal Q K 100 0 (mj_a0 0 [.ref 44, .int x1]) [] (I0, J0, mj_R1)) := h
-- UnbeatenHouse$Front.start(I)V (('c', 38), 'I')
set_option maxRecDepth 100000 in
set_option maxHeartbeats 8000000 in
theorem e182_b {cal : Nat → List Value → mj_H → mj_R → Prop} {Q : mj_R → Prop} {K : Nat → mj_K} {I0 : Nat → Nat → Int32} {J0 : Nat → Nat → Int64} (x1 : Int32)
    (h : Q (.null, ((mj_up (mj_up I0 38 0 x1) 38 1 (0 : Int32)), J0, mj_R1))) :
    mj_if (Nat.ble (mj_sz [.ref 38, .int x1]) mt_182.2.2) (mj_sg mj_S1 mt_182 cal Q K 100 0 (mj_a0 0 [.ref 38, .int x1]) [] (I0, J0, mj_R1)) := h
-- UnbeatenHouse$Front.start(I)V (('c', 41), 'I')
set_option maxRecDepth 100000 in
set_option maxHeartbeats 8000000 in
theorem e182_c {cal : Nat → List Value → mj_H → mj_R → Prop} {Q : mj_R → Prop} {K : Nat → mj_K} {I0 : Nat → Nat → Int32} {J0 : Nat → Nat → Int64} (x1 : Int32)
    (h : Q (.null, ((mj_up (mj_up I0 41 0 x1) 41 1 (0 : Int32)), J0, mj_R1))) :
    mj_if (Nat.ble (mj_sz [.ref 41, .int x1]) mt_182.2.2) (mj_sg mj_S1 mt_182 cal Q K 100 0 (mj_a0 0 [.ref 41, .int x1]) [] (I0, J0, mj_R1)) := h
-- UnbeatenHouse$Picker.forget()V (('c', 47),)
set_option maxRecDepth 100000 in
set_option maxHeartbeats 8000000 in
theorem e183 {cal : Nat → List Value → mj_H → mj_R → Prop} {Q : mj_R → Prop} {K : Nat → mj_K} {I0 : Nat → Nat → Int32} {J0 : Nat → Nat → Int64}
    (h : Q (.null, ((mj_up I0 47 4 (0 : Int32)), J0, mj_R1))) :
    mj_if (Nat.ble (mj_sz [.ref 47]) mt_183.2.2) (mj_sg mj_S1 mt_183 cal Q K 100 0 (mj_a0 0 [.ref 47]) [] (I0, J0, mj_R1)) := h
-- UnbeatenHouse$Sayings.forget()V (('c', 53),)
set_option maxRecDepth 100000 in
set_option maxHeartbeats 8000000 in
theorem e184 {cal : Nat → List Value → mj_H → mj_R → Prop} {Q : mj_R → Prop} {K : Nat → mj_K} {I0 : Nat → Nat → Int32} {J0 : Nat → Nat → Int64}
    (h : Q (.null, ((mj_up I0 53 0 (0 : Int32)), J0, mj_R1))) :
    mj_if (Nat.ble (mj_sz [.ref 53]) mt_184.2.2) (mj_sg mj_S1 mt_184 cal Q K 100 0 (mj_a0 0 [.ref 53]) [] (I0, J0, mj_R1)) := h
-- UnbeatenHouse$People.forget()V (('c', 58),)
set_option maxRecDepth 100000 in
set_option maxHeartbeats 8000000 in
theorem e185 {cal : Nat → List Value → mj_H → mj_R → Prop} {Q : mj_R → Prop} {K : Nat → mj_K} {I0 : Nat → Nat → Int32} {J0 : Nat → Nat → Int64}
    (h : K 2 [(0, .ref 58), (1, .int (0 : Int32))] [] (I0, J0, mj_R1)) :
    mj_if (Nat.ble (mj_sz [.ref 58]) mt_185.2.2) (mj_sg mj_S1 mt_185 cal Q K 100 0 (mj_a0 0 [.ref 58]) [] (I0, J0, mj_R1)) := h
set_option maxRecDepth 100000 in
set_option maxHeartbeats 8000000 in
theorem s185_2 {cal : Nat → List Value → mj_H → mj_R → Prop} {Q : mj_R → Prop} {K : Nat → mj_K} {I0 : Nat → Nat → Int32} {J0 : Nat → Nat → Int64} (x1 : Int32)
    (h : (if (6 : Int32) ≤ x1 then
      Q (.null, (I0, J0, mj_R1))
    else
      (vp_in x1 6 ∧ ((vp_in x1 6 ∧ (K 2 [(0, .ref 58), (1, .int (x1 + (1 : Int32)))] [] ((mj_up I0 60 x1.toNatClampNeg (vp_nar .boolean (0 : Int32))), (mj_up J0 61 x1.toNatClampNeg (0 : Int64)), mj_R1))))))) :
    mj_go mj_S1 mt_185 cal Q K 2 [(0, .ref 58), (1, .int x1)] [] (I0, J0, mj_R1) := h
-- UnbeatenHouse$Weighings.make(II)V (('c', 51), 'I', 'I')
set_option maxRecDepth 100000 in
set_option maxHeartbeats 8000000 in
theorem e186 {cal : Nat → List Value → mj_H → mj_R → Prop} {Q : mj_R → Prop} {K : Nat → mj_K} {I0 : Nat → Nat → Int32} {J0 : Nat → Nat → Int64} (x1 : Int32) (x2 : Int32)
    (h : (if x2 ≤ (3 : Int32) then
      K 32 [(0, .ref 51), (3, .int (0 : Int32))] [] ((mj_up (mj_up (mj_up I0 51 0 x1) 51 1 x2) 51 2 (0 : Int32)), J0, mj_R1)
    else
      K 32 [(0, .ref 51), (3, .int x1)] [] ((mj_up (mj_up (mj_up I0 51 0 x1) 51 1 x2) 51 2 (0 : Int32)), J0, mj_R1))) :
    mj_if (Nat.ble (mj_sz [.ref 51, .int x1, .int x2]) mt_186.2.2) (mj_sg mj_S1 mt_186 cal Q K 100 0 (mj_a0 0 [.ref 51, .int x1, .int x2]) [] (I0, J0, mj_R1)) := h
set_option maxRecDepth 100000 in
set_option maxHeartbeats 8000000 in
theorem s186_32 {cal : Nat → List Value → mj_H → mj_R → Prop} {Q : mj_R → Prop} {K : Nat → mj_K} {I0 : Nat → Nat → Int32} {J0 : Nat → Nat → Int64} (x3 : Int32)
    (h : K 35 [(0, .ref 51), (3, .int x3), (4, .int (0 : Int32))] [] (I0, J0, mj_R1)) :
    mj_go mj_S1 mt_186 cal Q K 32 [(0, .ref 51), (3, .int x3)] [] (I0, J0, mj_R1) := h
set_option maxRecDepth 100000 in
set_option maxHeartbeats 8000000 in
theorem s186_35 {cal : Nat → List Value → mj_H → mj_R → Prop} {Q : mj_R → Prop} {K : Nat → mj_K} {I0 : Nat → Nat → Int32} {J0 : Nat → Nat → Int64} (x3 : Int32) (x4 : Int32)
    (h : (if x3 < x4 then
      Q (.null, (I0, J0, mj_R1))
    else
      (if (I0 51 1) ≤ (2 : Int32) then
        K 62 [(0, .ref 51), (3, .int x3), (4, .int x4), (5, .int (0 : Int32))] [] (I0, J0, mj_R1)
      else
        K 62 [(0, .ref 51), (3, .int x3), (4, .int x4), (5, .int ((I0 51 0) - x4))] [] (I0, J0, mj_R1)))) :
    mj_go mj_S1 mt_186 cal Q K 35 [(0, .ref 51), (3, .int x3), (4, .int x4)] [] (I0, J0, mj_R1) := h
set_option maxRecDepth 100000 in
set_option maxHeartbeats 8000000 in
theorem s186_62 {cal : Nat → List Value → mj_H → mj_R → Prop} {Q : mj_R → Prop} {K : Nat → mj_K} {I0 : Nat → Nat → Int32} {J0 : Nat → Nat → Int64} (x3 : Int32) (x4 : Int32) (x5 : Int32)
    (h : K 65 [(0, .ref 51), (3, .int x3), (4, .int x4), (5, .int x5), (6, .int (0 : Int32))] [] (I0, J0, mj_R1)) :
    mj_go mj_S1 mt_186 cal Q K 62 [(0, .ref 51), (3, .int x3), (4, .int x4), (5, .int x5)] [] (I0, J0, mj_R1) := h
set_option maxRecDepth 100000 in
set_option maxHeartbeats 8000000 in
theorem s186_65 {cal : Nat → List Value → mj_H → mj_R → Prop} {Q : mj_R → Prop} {K : Nat → mj_K} {I0 : Nat → Nat → Int32} {J0 : Nat → Nat → Int64} (x3 : Int32) (x4 : Int32) (x5 : Int32) (x6 : Int32)
    (h : (if x5 < x6 then
      K 35 [(0, .ref 51), (3, .int x3), (4, .int (x4 + (1 : Int32)))] [] (I0, J0, mj_R1)
    else
      (if (I0 51 1) ≤ (1 : Int32) then
        K 96 [(0, .ref 51), (3, .int x3), (4, .int x4), (5, .int x5), (6, .int x6), (7, .int (0 : Int32))] [] (I0, J0, mj_R1)
      else
        K 96 [(0, .ref 51), (3, .int x3), (4, .int x4), (5, .int x5), (6, .int x6), (7, .int (((I0 51 0) - x4) - x6))] [] (I0, J0, mj_R1)))) :
    mj_go mj_S1 mt_186 cal Q K 65 [(0, .ref 51), (3, .int x3), (4, .int x4), (5, .int x5), (6, .int x6)] [] (I0, J0, mj_R1) := h
set_option maxRecDepth 100000 in
set_option maxHeartbeats 8000000 in
theorem s186_96 {cal : Nat → List Value → mj_H → mj_R → Prop} {Q : mj_R → Prop} {K : Nat → mj_K} {I0 : Nat → Nat → Int32} {J0 : Nat → Nat → Int64} (x3 : Int32) (x4 : Int32) (x5 : Int32) (x6 : Int32) (x7 : Int32)
    (h : K 99 [(0, .ref 51), (3, .int x3), (4, .int x4), (5, .int x5), (6, .int x6), (7, .int x7), (8, .int (0 : Int32))] [] (I0, J0, mj_R1)) :
    mj_go mj_S1 mt_186 cal Q K 96 [(0, .ref 51), (3, .int x3), (4, .int x4), (5, .int x5), (6, .int x6), (7, .int x7)] [] (I0, J0, mj_R1) := h
set_option maxRecDepth 100000 in
set_option maxHeartbeats 8000000 in
theorem s186_99 {cal : Nat → List Value → mj_H → mj_R → Prop} {Q : mj_R → Prop} {K : Nat → mj_K} {I0 : Nat → Nat → Int32} {J0 : Nat → Nat → Int64} (x3 : Int32) (x4 : Int32) (x5 : Int32) (x6 : Int32) (x7 : Int32) (x8 : Int32)
    (h : (if x7 < x8 then
      K 65 [(0, .ref 51), (3, .int x3), (4, .int x4), (5, .int x5), (6, .int (x6 + (1 : Int32)))] [] (I0, J0, mj_R1)
    else
      (True ∧ ∃ (I1 : Nat → Nat → Int32) (J1 : Nat → Nat → Int64), cal 187 [.ref 51, .int x4, .int x6, .int x8, .int ((((I0 51 0) - x4) - x6) - x8)] (I0, J0, mj_R1) (.null, (I1, J1, mj_R1)) ∧ (K 99 [(0, .ref 51), (3, .int x3), (4, .int x4), (5, .int x5), (6, .int x6), (7, .int x7), (8, .int (x8 + (1 : Int32)))] [] (I1, J1, mj_R1))))) :
    mj_go mj_S1 mt_186 cal Q K 99 [(0, .ref 51), (3, .int x3), (4, .int x4), (5, .int x5), (6, .int x6), (7, .int x7), (8, .int x8)] [] (I0, J0, mj_R1) := h
-- UnbeatenHouse$Weighings.add(IIII)V (('c', 51), 'I', 'I', 'I', 'I')
set_option maxRecDepth 100000 in
set_option maxHeartbeats 8000000 in
theorem e187 {cal : Nat → List Value → mj_H → mj_R → Prop} {Q : mj_R → Prop} {K : Nat → mj_K} {I0 : Nat → Nat → Int32} {J0 : Nat → Nat → Int64} (x1 : Int32) (x2 : Int32) (x3 : Int32) (x4 : Int32)
    (h : (if (I0 51 1) = 0 then
      Q (.null, (I0, J0, mj_R1))
    else
      (if (I0 51 2) < (455 : Int32) then
        (True ∧ ∃ (I1 : Nat → Nat → Int32) (J1 : Nat → Nat → Int64), cal 188 [.ref 51, .int (((((I0 51 2) * (4 : Int32)) + (I0 51 1)) - (1 : Int32)) - (3 : Int32)), .int x1] (I0, J0, mj_R1) (.null, (I1, J1, mj_R1)) ∧ ((True ∧ ∃ (I2 : Nat → Nat → Int32) (J2 : Nat → Nat → Int64), cal 188 [.ref 51, .int (((((I0 51 2) * (4 : Int32)) + (I0 51 1)) - (1 : Int32)) - (2 : Int32)), .int x2] (I1, J1, mj_R1) (.null, (I2, J2, mj_R1)) ∧ ((True ∧ ∃ (I3 : Nat → Nat → Int32) (J3 : Nat → Nat → Int64), cal 188 [.ref 51, .int (((((I0 51 2) * (4 : Int32)) + (I0 51 1)) - (1 : Int32)) - (1 : Int32)), .int x3] (I2, J2, mj_R1) (.null, (I3, J3, mj_R1)) ∧ ((True ∧ ∃ (I4 : Nat → Nat → Int32) (J4 : Nat → Nat → Int64), cal 188 [.ref 51, .int ((((I0 51 2) * (4 : Int32)) + (I0 51 1)) - (1 : Int32)), .int x4] (I3, J3, mj_R1) (.null, (I4, J4, mj_R1)) ∧ (Q (.null, ((mj_up I4 51 2 ((I4 51 2) + (1 : Int32))), J4, mj_R1))))))))))
      else
        Q (.null, (I0, J0, mj_R1))))) :
    mj_if (Nat.ble (mj_sz [.ref 51, .int x1, .int x2, .int x3, .int x4]) mt_187.2.2) (mj_sg mj_S1 mt_187 cal Q K 100 0 (mj_a0 0 [.ref 51, .int x1, .int x2, .int x3, .int x4]) [] (I0, J0, mj_R1)) := h
-- UnbeatenHouse$Weighings.put(II)V (('c', 51), 'I', 'I')
set_option maxRecDepth 100000 in
set_option maxHeartbeats 8000000 in
theorem e188 {cal : Nat → List Value → mj_H → mj_R → Prop} {Q : mj_R → Prop} {K : Nat → mj_K} {I0 : Nat → Nat → Int32} {J0 : Nat → Nat → Int64} (x1 : Int32) (x2 : Int32)
    (h : (if x1 < ((I0 51 2) * (4 : Int32)) then
      Q (.null, (I0, J0, mj_R1))
    else
      (vp_in x1 1820 ∧ (Q (.null, ((mj_up I0 52 x1.toNatClampNeg x2), J0, mj_R1)))))) :
    mj_if (Nat.ble (mj_sz [.ref 51, .int x1, .int x2]) mt_188.2.2) (mj_sg mj_S1 mt_188 cal Q K 100 0 (mj_a0 0 [.ref 51, .int x1, .int x2]) [] (I0, J0, mj_R1)) := h
-- UnbeatenHouse.fault(I)I (('c', 0), 'I')
set_option maxRecDepth 100000 in
set_option maxHeartbeats 8000000 in
theorem e189 {cal : Nat → List Value → mj_H → mj_R → Prop} {Q : mj_R → Prop} {K : Nat → mj_K} {I0 : Nat → Nat → Int32} {J0 : Nat → Nat → Int64} (x1 : Int32)
    (h : (if x1 = 0 then
      Q (.int (I0 11 10), (I0, J0, mj_R1))
    else
      (if x1 = (1 : Int32) then
        Q (.int (I0 11 11), (I0, J0, mj_R1))
      else
        Q (.int (-1 : Int32), (I0, J0, mj_R1))))) :
    mj_if (Nat.ble (mj_sz [.ref 0, .int x1]) mt_189.2.2) (mj_sg mj_S1 mt_189 cal Q K 100 0 (mj_a0 0 [.ref 0, .int x1]) [] (I0, J0, mj_R1)) := h
-- UnbeatenHouse.has(I)I (('c', 0), 'I')
set_option maxRecDepth 100000 in
set_option maxHeartbeats 8000000 in
theorem e190 {cal : Nat → List Value → mj_H → mj_R → Prop} {Q : mj_R → Prop} {K : Nat → mj_K} {I0 : Nat → Nat → Int32} {J0 : Nat → Nat → Int64} (x1 : Int32)
    (h : (if x1 < 0 then
      K 20 [(0, .ref 0), (1, .int x1)] [] (I0, J0, mj_R1)
    else
      (if (6 : Int32) ≤ x1 then
        K 20 [(0, .ref 0), (1, .int x1)] [] (I0, J0, mj_R1)
      else
        (vp_in x1 6 ∧ (Q (.int (I0 2 x1.toNatClampNeg), (I0, J0, mj_R1))))))) :
    mj_if (Nat.ble (mj_sz [.ref 0, .int x1]) mt_190.2.2) (mj_sg mj_S1 mt_190 cal Q K 100 0 (mj_a0 0 [.ref 0, .int x1]) [] (I0, J0, mj_R1)) := h
set_option maxRecDepth 100000 in
set_option maxHeartbeats 8000000 in
theorem s190_20 {cal : Nat → List Value → mj_H → mj_R → Prop} {Q : mj_R → Prop} {K : Nat → mj_K} {I0 : Nat → Nat → Int32} {J0 : Nat → Nat → Int64} (x1 : Int32)
    (h : (if x1 = (6 : Int32) then
      Q (.int (I0 53 0), (I0, J0, mj_R1))
    else
      (if x1 = (7 : Int32) then
        Q (.int (I0 51 0), (I0, J0, mj_R1))
      else
        Q (.int (-1 : Int32), (I0, J0, mj_R1))))) :
    mj_go mj_S1 mt_190 cal Q K 20 [(0, .ref 0), (1, .int x1)] [] (I0, J0, mj_R1) := h
-- UnbeatenHouse.letter(III)I (('c', 0), 'I', 'I', 'I')
set_option maxRecDepth 100000 in
set_option maxHeartbeats 8000000 in
theorem e191 {cal : Nat → List Value → mj_H → mj_R → Prop} {Q : mj_R → Prop} {K : Nat → mj_K} {I0 : Nat → Nat → Int32} {J0 : Nat → Nat → Int64} (x1 : Int32) (x2 : Int32) (x3 : Int32)
    (h : (if x1 < 0 then
      Q (.int (-1 : Int32), (I0, J0, mj_R1))
    else
      (if x1 ≤ (3 : Int32) then
        (if x1 = (3 : Int32) then
          K 23 [(0, .ref 0), (2, .int x2), (3, .int x3), (4, .int (4 : Int32))] [] (I0, J0, mj_R1)
        else
          K 23 [(0, .ref 0), (2, .int x2), (3, .int x3), (4, .int x1)] [] (I0, J0, mj_R1))
      else
        Q (.int (-1 : Int32), (I0, J0, mj_R1))))) :
    mj_if (Nat.ble (mj_sz [.ref 0, .int x1, .int x2, .int x3]) mt_191.2.2) (mj_sg mj_S1 mt_191 cal Q K 100 0 (mj_a0 0 [.ref 0, .int x1, .int x2, .int x3]) [] (I0, J0, mj_R1)) := h
set_option maxRecDepth 100000 in
set_option maxHeartbeats 8000000 in
theorem s191_23 {cal : Nat → List Value → mj_H → mj_R → Prop} {Q : mj_R → Prop} {K : Nat → mj_K} {I0 : Nat → Nat → Int32} {J0 : Nat → Nat → Int64} (x2 : Int32) (x3 : Int32) (x4 : Int32)
    (h : (True ∧ ∃ (r1 : Int32) (I1 : Nat → Nat → Int32) (J1 : Nat → Nat → Int64), cal 192 [.ref 1, .int x4, .int x2] (I0, J0, mj_R1) (.int r1, (I1, J1, mj_R1)) ∧ ((if r1 = 0 then
      Q (.int (-1 : Int32), (I1, J1, mj_R1))
    else
      (vp_in ((x4 * (40 : Int32)) + x2) 240 ∧ ((True ∧ ∃ (r2 : Int32) (I2 : Nat → Nat → Int32) (J2 : Nat → Nat → Int64), cal 193 [.int (I1 3 ((x4 * (40 : Int32)) + x2).toNatClampNeg), .int x3] (I1, J1, mj_R1) (.int r2, (I2, J2, mj_R1)) ∧ (Q (.int r2, (I2, J2, mj_R1)))))))))) :
    mj_go mj_S1 mt_191 cal Q K 23 [(0, .ref 0), (2, .int x2), (3, .int x3), (4, .int x4)] [] (I0, J0, mj_R1) := h
-- UnbeatenHouse$Tale.isThere(II)Z (('c', 1), 'I', 'I')
set_option maxRecDepth 100000 in
set_option maxHeartbeats 8000000 in
theorem e192 {cal : Nat → List Value → mj_H → mj_R → Prop} {Q : mj_R → Prop} {K : Nat → mj_K} {I0 : Nat → Nat → Int32} {J0 : Nat → Nat → Int64} (x1 : Int32) (x2 : Int32)
    (h : (if x2 < 0 then
      (((0 : Int32) = 0 ∨ (0 : Int32) = 1) ∧ Q (.int (0 : Int32), (I0, J0, mj_R1)))
    else
      (vp_in x1 6 ∧ ((if (I0 2 x1.toNatClampNeg) ≤ x2 then
        (((0 : Int32) = 0 ∨ (0 : Int32) = 1) ∧ Q (.int (0 : Int32), (I0, J0, mj_R1)))
      else
        (((1 : Int32) = 0 ∨ (1 : Int32) = 1) ∧ Q (.int (1 : Int32), (I0, J0, mj_R1)))))))) :
    mj_if (Nat.ble (mj_sz [.ref 1, .int x1, .int x2]) mt_192.2.2) (mj_sg mj_S1 mt_192 cal Q K 100 0 (mj_a0 0 [.ref 1, .int x1, .int x2]) [] (I0, J0, mj_R1)) := h
-- UnbeatenHouse.letterOf(II)I ('I', 'I')
set_option maxRecDepth 100000 in
set_option maxHeartbeats 8000000 in
theorem e193 {cal : Nat → List Value → mj_H → mj_R → Prop} {Q : mj_R → Prop} {K : Nat → mj_K} {I0 : Nat → Nat → Int32} {J0 : Nat → Nat → Int64} (x0 : Int32) (x1 : Int32)
    (h : K 4 [(0, .int x0), (1, .int x1), (2, .int (0 : Int32)), (3, .int x0)] [] (I0, J0, mj_R1)) :
    mj_if (Nat.ble (mj_sz [.int x0, .int x1]) mt_193.2.2) (mj_sg mj_S1 mt_193 cal Q K 100 0 (mj_a0 0 [.int x0, .int x1]) [] (I0, J0, mj_R1)) := h
set_option maxRecDepth 100000 in
set_option maxHeartbeats 8000000 in
theorem s193_4 {cal : Nat → List Value → mj_H → mj_R → Prop} {Q : mj_R → Prop} {K : Nat → mj_K} {I0 : Nat → Nat → Int32} {J0 : Nat → Nat → Int64} (x0 : Int32) (x1 : Int32) (x2 : Int32) (x3 : Int32)
    (h : (if x3 ≤ 0 then
      (if x1 < 0 then
        Q (.int (-1 : Int32), (I0, J0, mj_R1))
      else
        (if x1 < x2 then
          Q (.int ((96 : Int32) + ((x0 >>> (((5 : Int32) * ((x2 - (1 : Int32)) - x1)) &&& 31)) &&& (31 : Int32))), (I0, J0, mj_R1))
        else
          Q (.int (-1 : Int32), (I0, J0, mj_R1))))
    else
      K 4 [(0, .int x0), (1, .int x1), (2, .int (x2 + (1 : Int32))), (3, .int (x3 >>> ((5 : Int32) &&& 31)))] [] (I0, J0, mj_R1))) :
    mj_go mj_S1 mt_193 cal Q K 4 [(0, .int x0), (1, .int x1), (2, .int x2), (3, .int x3)] [] (I0, J0, mj_R1) := h
-- UnbeatenHouse.price(IIZ)I (('c', 0), 'I', 'I', 'I')
set_option maxRecDepth 100000 in
set_option maxHeartbeats 8000000 in
theorem e194 {cal : Nat → List Value → mj_H → mj_R → Prop} {Q : mj_R → Prop} {K : Nat → mj_K} {I0 : Nat → Nat → Int32} {J0 : Nat → Nat → Int64} (x1 : Int32) (x2 : Int32) (x3 : Int32)
    (h : (True ∧ ∃ (r1 : Int32) (I1 : Nat → Nat → Int32) (J1 : Nat → Nat → Int64), cal 192 [.ref 1, .int (1 : Int32), .int x1] (I0, J0, mj_R1) (.int r1, (I1, J1, mj_R1)) ∧ ((if r1 = 0 then
      Q (.int (-1 : Int32), (I1, J1, mj_R1))
    else
      (True ∧ ∃ (r2 : Int32) (I2 : Nat → Nat → Int32) (J2 : Nat → Nat → Int64), cal 192 [.ref 1, .int (0 : Int32), .int x2] (I1, J1, mj_R1) (.int r2, (I2, J2, mj_R1)) ∧ ((if r2 = 0 then
        Q (.int (-1 : Int32), (I2, J2, mj_R1))
      else
        (True ∧ ∃ (r3 : Int32) (I3 : Nat → Nat → Int32) (J3 : Nat → Nat → Int64), cal 155 [.int (1 : Int32), .int x1, .int x2] (I2, J2, mj_R1) (.int r3, (I3, J3, mj_R1)) ∧ ((vp_in r3 960 ∧ ((if x3 = 0 then
          Q (.int (I3 5 r3.toNatClampNeg), (I3, J3, mj_R1))
        else
          (if (I3 5 r3.toNatClampNeg) = (-1 : Int32) then
            Q (.int (I3 5 r3.toNatClampNeg), (I3, J3, mj_R1))
          else
            (vp_in ((x1 * (4 : Int32)) + x2) 160 ∧ (Q (.int (I3 6 ((x1 * (4 : Int32)) + x2).toNatClampNeg), (I3, J3, mj_R1))))))))))))))))) :
    mj_if (Nat.ble (mj_sz [.ref 0, .int x1, .int x2, .int x3]) mt_194.2.2) (mj_sg mj_S1 mt_194 cal Q K 100 0 (mj_a0 0 [.ref 0, .int x1, .int x2, .int x3]) [] (I0, J0, mj_R1)) := h
-- UnbeatenHouse.beats(II)I (('c', 0), 'I', 'I')
set_option maxRecDepth 100000 in
set_option maxHeartbeats 8000000 in
theorem e195 {cal : Nat → List Value → mj_H → mj_R → Prop} {Q : mj_R → Prop} {K : Nat → mj_K} {I0 : Nat → Nat → Int32} {J0 : Nat → Nat → Int64} (x1 : Int32) (x2 : Int32)
    (h : (True ∧ ∃ (r1 : Int32) (I1 : Nat → Nat → Int32) (J1 : Nat → Nat → Int64), cal 192 [.ref 1, .int (1 : Int32), .int x1] (I0, J0, mj_R1) (.int r1, (I1, J1, mj_R1)) ∧ ((if r1 = 0 then
      Q (.int (-1 : Int32), (I1, J1, mj_R1))
    else
      (True ∧ ∃ (r2 : Int32) (I2 : Nat → Nat → Int32) (J2 : Nat → Nat → Int64), cal 192 [.ref 1, .int (1 : Int32), .int x2] (I1, J1, mj_R1) (.int r2, (I2, J2, mj_R1)) ∧ ((if r2 = 0 then
        Q (.int (-1 : Int32), (I2, J2, mj_R1))
      else
        (True ∧ ∃ (r3 : Int32) (I3 : Nat → Nat → Int32) (J3 : Nat → Nat → Int64), cal 196 [.ref 24, .int x1, .int x2] (I2, J2, mj_R1) (.int r3, (I3, J3, mj_R1)) ∧ ((if r3 = 0 then
          Q (.int (0 : Int32), (I3, J3, mj_R1))
        else
          Q (.int (1 : Int32), (I3, J3, mj_R1)))))))))))) :
    mj_if (Nat.ble (mj_sz [.ref 0, .int x1, .int x2]) mt_195.2.2) (mj_sg mj_S1 mt_195 cal Q K 100 0 (mj_a0 0 [.ref 0, .int x1, .int x2]) [] (I0, J0, mj_R1)) := h
-- UnbeatenHouse$Rows.isBetter(II)Z (('c', 24), 'I', 'I')
set_option maxRecDepth 100000 in
set_option maxHeartbeats 8000000 in
theorem e196 {cal : Nat → List Value → mj_H → mj_R → Prop} {Q : mj_R → Prop} {K : Nat → mj_K} {I0 : Nat → Nat → Int32} {J0 : Nat → Nat → Int64} (x1 : Int32) (x2 : Int32)
    (h : (True ∧ ∃ (r1 : Int32) (I1 : Nat → Nat → Int32) (J1 : Nat → Nat → Int64), cal 177 [.ref 24, .int x1] (I0, J0, mj_R1) (.int r1, (I1, J1, mj_R1)) ∧ ((if r1 = 0 then
      (((0 : Int32) = 0 ∨ (0 : Int32) = 1) ∧ Q (.int (0 : Int32), (I1, J1, mj_R1)))
    else
      (True ∧ ∃ (r2 : Int32) (I2 : Nat → Nat → Int32) (J2 : Nat → Nat → Int64), cal 177 [.ref 24, .int x2] (I1, J1, mj_R1) (.int r2, (I2, J2, mj_R1)) ∧ ((if r2 = 0 then
        (((0 : Int32) = 0 ∨ (0 : Int32) = 1) ∧ Q (.int (0 : Int32), (I2, J2, mj_R1)))
      else
        (True ∧ ∃ (r3 : Int32) (I3 : Nat → Nat → Int32) (J3 : Nat → Nat → Int64), cal 179 [.ref 24, .int x1, .ref 25, .int x2, .ref 25] (I2, J2, mj_R1) (.int r3, (I3, J3, mj_R1)) ∧ ((if r3 = 0 then
          (((0 : Int32) = 0 ∨ (0 : Int32) = 1) ∧ Q (.int (0 : Int32), (I3, J3, mj_R1)))
        else
          (((1 : Int32) = 0 ∨ (1 : Int32) = 1) ∧ Q (.int (1 : Int32), (I3, J3, mj_R1))))))))))))) :
    mj_if (Nat.ble (mj_sz [.ref 24, .int x1, .int x2]) mt_196.2.2) (mj_sg mj_S1 mt_196 cal Q K 100 0 (mj_a0 0 [.ref 24, .int x1, .int x2]) [] (I0, J0, mj_R1)) := h
-- UnbeatenHouse.leads(I)I (('c', 0), 'I')
set_option maxRecDepth 100000 in
set_option maxHeartbeats 8000000 in
theorem e197 {cal : Nat → List Value → mj_H → mj_R → Prop} {Q : mj_R → Prop} {K : Nat → mj_K} {I0 : Nat → Nat → Int32} {J0 : Nat → Nat → Int64} (x1 : Int32)
    (h : (True ∧ ∃ (r1 : Int32) (I1 : Nat → Nat → Int32) (J1 : Nat → Nat → Int64), cal 192 [.ref 1, .int (1 : Int32), .int x1] (I0, J0, mj_R1) (.int r1, (I1, J1, mj_R1)) ∧ ((if r1 = 0 then
      Q (.int (-1 : Int32), (I1, J1, mj_R1))
    else
      K 16 [(0, .ref 0), (1, .int x1), (2, .int (0 : Int32))] [] (I1, J1, mj_R1))))) :
    mj_if (Nat.ble (mj_sz [.ref 0, .int x1]) mt_197.2.2) (mj_sg mj_S1 mt_197 cal Q K 100 0 (mj_a0 0 [.ref 0, .int x1]) [] (I0, J0, mj_R1)) := h
set_option maxRecDepth 100000 in
set_option maxHeartbeats 8000000 in
theorem s197_16 {cal : Nat → List Value → mj_H → mj_R → Prop} {Q : mj_R → Prop} {K : Nat → mj_K} {I0 : Nat → Nat → Int32} {J0 : Nat → Nat → Int64} (x1 : Int32) (x2 : Int32)
    (h : (vp_in (1 : Int32) 6 ∧ ((if (I0 2 (1 : Int32).toNatClampNeg) ≤ x2 then
      Q (.int (-1 : Int32), (I0, J0, mj_R1))
    else
      (True ∧ ∃ (r1 : Int32) (I1 : Nat → Nat → Int32) (J1 : Nat → Nat → Int64), cal 178 [.long (J0 24 6), .int x2] (I0, J0, mj_R1) (.int r1, (I1, J1, mj_R1)) ∧ ((if r1 = 0 then
        K 16 [(0, .ref 0), (1, .int x1), (2, .int (x2 + (1 : Int32)))] [] (I1, J1, mj_R1)
      else
        (True ∧ ∃ (r2 : Int32) (I2 : Nat → Nat → Int32) (J2 : Nat → Nat → Int64), cal 196 [.ref 24, .int x2, .int x1] (I1, J1, mj_R1) (.int r2, (I2, J2, mj_R1)) ∧ ((if r2 = 0 then
          K 16 [(0, .ref 0), (1, .int x1), (2, .int (x2 + (1 : Int32)))] [] (I2, J2, mj_R1)
        else
          Q (.int x2, (I2, J2, mj_R1)))))))))))) :
    mj_go mj_S1 mt_197 cal Q K 16 [(0, .ref 0), (1, .int x1), (2, .int x2)] [] (I0, J0, mj_R1) := h
-- UnbeatenHouse.change(III)I (('c', 0), 'I', 'I', 'I')
set_option maxRecDepth 100000 in
set_option maxHeartbeats 8000000 in
theorem e198 {cal : Nat → List Value → mj_H → mj_R → Prop} {Q : mj_R → Prop} {K : Nat → mj_K} {I0 : Nat → Nat → Int32} {J0 : Nat → Nat → Int64} (x1 : Int32) (x2 : Int32) (x3 : Int32)
    (h : (True ∧ ∃ (r1 : Int32) (I1 : Nat → Nat → Int32) (J1 : Nat → Nat → Int64), cal 192 [.ref 1, .int (1 : Int32), .int x1] (I0, J0, mj_R1) (.int r1, (I1, J1, mj_R1)) ∧ ((if r1 = 0 then
      Q (.int (-1 : Int32), (I1, J1, mj_R1))
    else
      (True ∧ ∃ (r2 : Int32) (I2 : Nat → Nat → Int32) (J2 : Nat → Nat → Int64), cal 192 [.ref 1, .int (0 : Int32), .int x2] (I1, J1, mj_R1) (.int r2, (I2, J2, mj_R1)) ∧ ((if r2 = 0 then
        Q (.int (-1 : Int32), (I2, J2, mj_R1))
      else
        (if x3 < (-1 : Int32) then
          Q (.int (-1 : Int32), (I2, J2, mj_R1))
        else
          (if x3 ≤ (9999 : Int32) then
            (True ∧ ∃ (r3 : Int32) (I3 : Nat → Nat → Int32) (J3 : Nat → Nat → Int64), cal 155 [.int (1 : Int32), .int x1, .int x2] (I2, J2, mj_R1) (.int r3, (I3, J3, mj_R1)) ∧ ((vp_in r3 960 ∧ ((if x3 = (-1 : Int32) then
              (vp_in ((x1 * (4 : Int32)) + x2) 160 ∧ (K 81 [(0, .ref 0), (4, .long (J2 24 6))] [] ((mj_up (mj_up I3 5 r3.toNatClampNeg x3) 6 ((x1 * (4 : Int32)) + x2).toNatClampNeg (0 : Int32)), J3, mj_R1)))
            else
              K 81 [(0, .ref 0), (4, .long (J2 24 6))] [] ((mj_up I3 5 r3.toNatClampNeg x3), J3, mj_R1))))))
          else
            Q (.int (-1 : Int32), (I2, J2, mj_R1))))))))))) :
    mj_if (Nat.ble (mj_sz [.ref 0, .int x1, .int x2, .int x3]) mt_198.2.2) (mj_sg mj_S1 mt_198 cal Q K 100 0 (mj_a0 0 [.ref 0, .int x1, .int x2, .int x3]) [] (I0, J0, mj_R1)) := h
set_option maxRecDepth 100000 in
set_option maxHeartbeats 8000000 in
theorem s198_81 {cal : Nat → List Value → mj_H → mj_R → Prop} {Q : mj_R → Prop} {K : Nat → mj_K} {I0 : Nat → Nat → Int32} {J0 : Nat → Nat → Int64} (x4 : Int64)
    (h : (True ∧ ∃ (I1 : Nat → Nat → Int32) (J1 : Nat → Nat → Int64), cal 173 [.ref 24, .ref 1] (I0, J0, mj_R1) (.null, (I1, J1, mj_R1)) ∧ ((True ∧ ∃ (r2 : Int32) (I2 : Nat → Nat → Int32) (J2 : Nat → Nat → Int64), cal 2 [.long (x4 &&& ((J1 24 6) ^^^ (-1 : Int64)))] (I1, (mj_up (mj_up J1 0 14 (x4 &&& ((J1 24 6) ^^^ (-1 : Int64)))) 0 15 ((J1 24 6) &&& (x4 ^^^ (-1 : Int64)))), mj_R1) (.int r2, (I2, J2, mj_R1)) ∧ ((True ∧ ∃ (r3 : Int32) (I3 : Nat → Nat → Int32) (J3 : Nat → Nat → Int64), cal 2 [.long (J2 0 15)] (I2, J2, mj_R1) (.int r3, (I3, J3, mj_R1)) ∧ (Q (.int (r2 + r3), (I3, J3, mj_R1))))))))) :
    mj_go mj_S1 mt_198 cal Q K 81 [(0, .ref 0), (4, .long x4)] [] (I0, J0, mj_R1) := h
-- UnbeatenHouse.changed(Z)J (('c', 0), 'I')
set_option maxRecDepth 100000 in
set_option maxHeartbeats 8000000 in
theorem e199 {cal : Nat → List Value → mj_H → mj_R → Prop} {Q : mj_R → Prop} {K : Nat → mj_K} {I0 : Nat → Nat → Int32} {J0 : Nat → Nat → Int64} (x1 : Int32)
    (h : (if x1 = 0 then
      Q (.long (J0 0 14), (I0, J0, mj_R1))
    else
      Q (.long (J0 0 15), (I0, J0, mj_R1)))) :
    mj_if (Nat.ble (mj_sz [.ref 0, .int x1]) mt_199.2.2) (mj_sg mj_S1 mt_199 cal Q K 100 0 (mj_a0 0 [.ref 0, .int x1]) [] (I0, J0, mj_R1)) := h
-- UnbeatenHouse.rows()J (('c', 0),)
set_option maxRecDepth 100000 in
set_option maxHeartbeats 8000000 in
theorem e200 {cal : Nat → List Value → mj_H → mj_R → Prop} {Q : mj_R → Prop} {K : Nat → mj_K} {I0 : Nat → Nat → Int32} {J0 : Nat → Nat → Int64}
    (h : Q (.long (J0 24 6), (I0, J0, mj_R1))) :
    mj_if (Nat.ble (mj_sz [.ref 0]) mt_200.2.2) (mj_sg mj_S1 mt_200 cal Q K 100 0 (mj_a0 0 [.ref 0]) [] (I0, J0, mj_R1)) := h
-- UnbeatenHouse.unsure(Z)J (('c', 0), 'I')
set_option maxRecDepth 100000 in
set_option maxHeartbeats 8000000 in
theorem e201 {cal : Nat → List Value → mj_H → mj_R → Prop} {Q : mj_R → Prop} {K : Nat → mj_K} {I0 : Nat → Nat → Int32} {J0 : Nat → Nat → Int64} (x1 : Int32)
    (h : (if x1 = 0 then
      (True ∧ ∃ (r1 : Int64) (I1 : Nat → Nat → Int32) (J1 : Nat → Nat → Int64), cal 176 [.ref 24, .ref 27, .ref 26] (I0, J0, mj_R1) (.long r1, (I1, J1, mj_R1)) ∧ (Q (.long r1, (I1, J1, mj_R1))))
    else
      (True ∧ ∃ (r2 : Int64) (I2 : Nat → Nat → Int32) (J2 : Nat → Nat → Int64), cal 176 [.ref 24, .ref 26, .ref 27] (I0, J0, mj_R1) (.long r2, (I2, J2, mj_R1)) ∧ (Q (.long r2, (I2, J2, mj_R1)))))) :
    mj_if (Nat.ble (mj_sz [.ref 0, .int x1]) mt_201.2.2) (mj_sg mj_S1 mt_201 cal Q K 100 0 (mj_a0 0 [.ref 0, .int x1]) [] (I0, J0, mj_R1)) := h
-- UnbeatenHouse.maybe(II)I (('c', 0), 'I', 'I')
set_option maxRecDepth 100000 in
set_option maxHeartbeats 8000000 in
theorem e202 {cal : Nat → List Value → mj_H → mj_R → Prop} {Q : mj_R → Prop} {K : Nat → mj_K} {I0 : Nat → Nat → Int32} {J0 : Nat → Nat → Int64} (x1 : Int32) (x2 : Int32)
    (h : (True ∧ ∃ (r1 : Int32) (I1 : Nat → Nat → Int32) (J1 : Nat → Nat → Int64), cal 177 [.ref 24, .int x1] (I0, J0, mj_R1) (.int r1, (I1, J1, mj_R1)) ∧ ((if r1 = 0 then
      Q (.int (-1 : Int32), (I1, J1, mj_R1))
    else
      (True ∧ ∃ (r2 : Int32) (I2 : Nat → Nat → Int32) (J2 : Nat → Nat → Int64), cal 177 [.ref 24, .int x2] (I1, J1, mj_R1) (.int r2, (I2, J2, mj_R1)) ∧ ((if r2 = 0 then
        Q (.int (-1 : Int32), (I2, J2, mj_R1))
      else
        (if x1 = x2 then
          Q (.int (-1 : Int32), (I2, J2, mj_R1))
        else
          (True ∧ ∃ (r3 : Int32) (I3 : Nat → Nat → Int32) (J3 : Nat → Nat → Int64), cal 179 [.ref 24, .int x1, .ref 27, .int x2, .ref 26] (I2, J2, mj_R1) (.int r3, (I3, J3, mj_R1)) ∧ ((if r3 = 0 then
            (True ∧ ∃ (r4 : Int32) (I4 : Nat → Nat → Int32) (J4 : Nat → Nat → Int64), cal 179 [.ref 24, .int x1, .ref 26, .int x2, .ref 27] (I3, J3, mj_R1) (.int r4, (I4, J4, mj_R1)) ∧ ((if r4 = 0 then
              Q (.int (0 : Int32), (I4, J4, mj_R1))
            else
              Q (.int (1 : Int32), (I4, J4, mj_R1)))))
          else
            Q (.int (2 : Int32), (I3, J3, mj_R1))))))))))))) :
    mj_if (Nat.ble (mj_sz [.ref 0, .int x1, .int x2]) mt_202.2.2) (mj_sg mj_S1 mt_202 cal Q K 100 0 (mj_a0 0 [.ref 0, .int x1, .int x2]) [] (I0, J0, mj_R1)) := h
-- UnbeatenHouse.front(III)I (('c', 0), 'I', 'I', 'I')
set_option maxRecDepth 100000 in
set_option maxHeartbeats 8000000 in
theorem e203 {cal : Nat → List Value → mj_H → mj_R → Prop} {Q : mj_R → Prop} {K : Nat → mj_K} {I0 : Nat → Nat → Int32} {J0 : Nat → Nat → Int64} (x1 : Int32) (x2 : Int32) (x3 : Int32)
    (h : (if x1 < 0 then
      Q (.int (-1 : Int32), (I0, J0, mj_R1))
    else
      (if (2 : Int32) < x1 then
        Q (.int (-1 : Int32), (I0, J0, mj_R1))
      else
        (vp_in (0 : Int32) 6 ∧ ((if (I0 2 (0 : Int32).toNatClampNeg) = 0 then
          Q (.int (-1 : Int32), (I0, J0, mj_R1))
        else
          (if x1 = 0 then
            (True ∧ ∃ (I1 : Nat → Nat → Int32) (J1 : Nat → Nat → Int64), cal 204 [.ref 24, .ref 38] (I0, J0, mj_R1) (.null, (I1, J1, mj_R1)) ∧ (Q (.int (I1 38 1), (I1, J1, mj_R1))))
          else
            (if x1 = (1 : Int32) then
              (True ∧ ∃ (r2 : Int32) (I2 : Nat → Nat → Int32) (J2 : Nat → Nat → Int64), cal 206 [.ref 0, .int x2, .int x3] (I0, J0, mj_R1) (.int r2, (I2, J2, mj_R1)) ∧ (Q (.int r2, (I2, J2, mj_R1))))
            else
              (True ∧ ∃ (r3 : Int32) (I3 : Nat → Nat → Int32) (J3 : Nat → Nat → Int64), cal 220 [.ref 0] (I0, J0, mj_R1) (.int r3, (I3, J3, mj_R1)) ∧ (Q (.int r3, (I3, J3, mj_R1)))))))))))) :
    mj_if (Nat.ble (mj_sz [.ref 0, .int x1, .int x2, .int x3]) mt_203.2.2) (mj_sg mj_S1 mt_203 cal Q K 100 0 (mj_a0 0 [.ref 0, .int x1, .int x2, .int x3]) [] (I0, J0, mj_R1)) := h
-- UnbeatenHouse$Rows.putFront(LUnbeatenHouse$Front;)V (('c', 24), ('c', 38))
set_option maxRecDepth 100000 in
set_option maxHeartbeats 8000000 in
theorem e204 {cal : Nat → List Value → mj_H → mj_R → Prop} {Q : mj_R → Prop} {K : Nat → mj_K} {I0 : Nat → Nat → Int32} {J0 : Nat → Nat → Int64}
    (h : (True ∧ ∃ (I1 : Nat → Nat → Int32) (J1 : Nat → Nat → Int64), cal 182 [.ref 38, .int (0 : Int32)] (I0, J0, mj_R1) (.null, (I1, J1, mj_R1)) ∧ (K 7 [(0, .ref 24), (1, .ref 38), (2, .int (0 : Int32))] [] (I1, J1, mj_R1)))) :
    mj_if (Nat.ble (mj_sz [.ref 24, .ref 38]) mt_204.2.2) (mj_sg mj_S1 mt_204 cal Q K 100 0 (mj_a0 0 [.ref 24, .ref 38]) [] (I0, J0, mj_R1)) := h
set_option maxRecDepth 100000 in
set_option maxHeartbeats 8000000 in
theorem s204_7 {cal : Nat → List Value → mj_H → mj_R → Prop} {Q : mj_R → Prop} {K : Nat → mj_K} {I0 : Nat → Nat → Int32} {J0 : Nat → Nat → Int64} (x2 : Int32)
    (h : (if (I0 24 0) ≤ x2 then
      Q (.null, (I0, J0, mj_R1))
    else
      (True ∧ ∃ (r1 : Int32) (I1 : Nat → Nat → Int32) (J1 : Nat → Nat → Int64), cal 178 [.long (J0 24 6), .int x2] (I0, J0, mj_R1) (.int r1, (I1, J1, mj_R1)) ∧ ((if r1 = 0 then
        K 7 [(0, .ref 24), (1, .ref 38), (2, .int (x2 + (1 : Int32)))] [] (I1, J1, mj_R1)
      else
        (True ∧ ∃ (I2 : Nat → Nat → Int32) (J2 : Nat → Nat → Int64), cal 205 [.ref 38, .ref 25, .int (x2 * (4 : Int32)), .long x2.toInt64] (I1, J1, mj_R1) (.null, (I2, J2, mj_R1)) ∧ (K 7 [(0, .ref 24), (1, .ref 38), (2, .int (x2 + (1 : Int32)))] [] (I2, J2, mj_R1)))))))) :
    mj_go mj_S1 mt_204 cal Q K 7 [(0, .ref 24), (1, .ref 38), (2, .int x2)] [] (I0, J0, mj_R1) := h
-- UnbeatenHouse$Front.add([IIJ)V (('c', 44), ('c', 30), 'I', 'J')
set_option maxRecDepth 100000 in
set_option maxHeartbeats 8000000 in
theorem e205_a {cal : Nat → List Value → mj_H → mj_R → Prop} {Q : mj_R → Prop} {K : Nat → mj_K} {I0 : Nat → Nat → Int32} {J0 : Nat → Nat → Int64} (x2 : Int32) (x3 : Int64)
    (h : (if (100 : Int32) ≤ (I0 44 1) then
      Q (.null, (I0, J0, mj_R1))
    else
      ((¬ x2 < 0 ∧ ¬ ((I0 44 1) * (4 : Int32)) < 0 ∧ ¬ (4 : Int32) < 0 ∧ x2.toNatClampNeg + (4 : Int32).toNatClampNeg ≤ 26244 ∧ ((I0 44 1) * (4 : Int32)).toNatClampNeg + (4 : Int32).toNatClampNeg ≤ 400) ∧ ((vp_in (I0 44 1) 100 ∧ (Q (.null, ((mj_up (mj_cp I0 30 x2.toNatClampNeg 45 ((I0 44 1) * (4 : Int32)).toNatClampNeg (4 : Int32).toNatClampNeg) 44 1 ((I0 44 1) + (1 : Int32))), (mj_up J0 46 (I0 44 1).toNatClampNeg x3), mj_R1)))))))) :
    mj_if (Nat.ble (mj_sz [.ref 44, .ref 30, .int x2, .long x3]) mt_205.2.2) (mj_sg mj_S1 mt_205 cal Q K 100 0 (mj_a0 0 [.ref 44, .ref 30, .int x2, .long x3]) [] (I0, J0, mj_R1)) := h
-- UnbeatenHouse$Front.add([IIJ)V (('c', 38), ('c', 45), 'I', 'J')
set_option maxRecDepth 100000 in
set_option maxHeartbeats 8000000 in
theorem e205_b {cal : Nat → List Value → mj_H → mj_R → Prop} {Q : mj_R → Prop} {K : Nat → mj_K} {I0 : Nat → Nat → Int32} {J0 : Nat → Nat → Int64} (x2 : Int32) (x3 : Int64)
    (h : (if (100 : Int32) ≤ (I0 38 1) then
      Q (.null, (I0, J0, mj_R1))
    else
      ((¬ x2 < 0 ∧ ¬ ((I0 38 1) * (4 : Int32)) < 0 ∧ ¬ (4 : Int32) < 0 ∧ x2.toNatClampNeg + (4 : Int32).toNatClampNeg ≤ 400 ∧ ((I0 38 1) * (4 : Int32)).toNatClampNeg + (4 : Int32).toNatClampNeg ≤ 400) ∧ ((vp_in (I0 38 1) 100 ∧ (Q (.null, ((mj_up (mj_cp I0 45 x2.toNatClampNeg 39 ((I0 38 1) * (4 : Int32)).toNatClampNeg (4 : Int32).toNatClampNeg) 38 1 ((I0 38 1) + (1 : Int32))), (mj_up J0 40 (I0 38 1).toNatClampNeg x3), mj_R1)))))))) :
    mj_if (Nat.ble (mj_sz [.ref 38, .ref 45, .int x2, .long x3]) mt_205.2.2) (mj_sg mj_S1 mt_205 cal Q K 100 0 (mj_a0 0 [.ref 38, .ref 45, .int x2, .long x3]) [] (I0, J0, mj_R1)) := h
