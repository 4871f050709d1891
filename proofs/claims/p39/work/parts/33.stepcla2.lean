/-! step lemmas, by program -/
-- UnbeatenHouse$Front.add([IIJ)V (('c', 38), ('c', 42), 'I', 'J')
set_option maxRecDepth 100000 in
set_option maxHeartbeats 8000000 in
theorem e205_c {cal : Nat → List Value → mj_H → mj_R → Prop} {Q : mj_R → Prop} {K : Nat → mj_K} {I0 : Nat → Nat → Int32} {J0 : Nat → Nat → Int64} (x2 : Int32) (x3 : Int64)
    (h : (if (100 : Int32) ≤ (I0 38 1) then
      Q (.null, (I0, J0, mj_R1))
    else
      ((¬ x2 < 0 ∧ ¬ ((I0 38 1) * (4 : Int32)) < 0 ∧ ¬ (4 : Int32) < 0 ∧ x2.toNatClampNeg + (4 : Int32).toNatClampNeg ≤ 400 ∧ ((I0 38 1) * (4 : Int32)).toNatClampNeg + (4 : Int32).toNatClampNeg ≤ 400) ∧ ((vp_in (I0 38 1) 100 ∧ (Q (.null, ((mj_up (mj_cp I0 42 x2.toNatClampNeg 39 ((I0 38 1) * (4 : Int32)).toNatClampNeg (4 : Int32).toNatClampNeg) 38 1 ((I0 38 1) + (1 : Int32))), (mj_up J0 40 (I0 38 1).toNatClampNeg x3), mj_R1)))))))) :
    mj_if (Nat.ble (mj_sz [.ref 38, .ref 42, .int x2, .long x3]) mt_205.2.2) (mj_sg mj_S1 mt_205 cal Q K 100 0 (mj_a0 0 [.ref 38, .ref 42, .int x2, .long x3]) [] (I0, J0, mj_R1)) := h
-- UnbeatenHouse$Front.add([IIJ)V (('c', 41), ('c', 30), 'I', 'J')
set_option maxRecDepth 100000 in
set_option maxHeartbeats 8000000 in
theorem e205_d {cal : Nat → List Value → mj_H → mj_R → Prop} {Q : mj_R → Prop} {K : Nat → mj_K} {I0 : Nat → Nat → Int32} {J0 : Nat → Nat → Int64} (x2 : Int32) (x3 : Int64)
    (h : (if (100 : Int32) ≤ (I0 41 1) then
      Q (.null, (I0, J0, mj_R1))
    else
      ((¬ x2 < 0 ∧ ¬ ((I0 41 1) * (4 : Int32)) < 0 ∧ ¬ (4 : Int32) < 0 ∧ x2.toNatClampNeg + (4 : Int32).toNatClampNeg ≤ 26244 ∧ ((I0 41 1) * (4 : Int32)).toNatClampNeg + (4 : Int32).toNatClampNeg ≤ 400) ∧ ((vp_in (I0 41 1) 100 ∧ (Q (.null, ((mj_up (mj_cp I0 30 x2.toNatClampNeg 42 ((I0 41 1) * (4 : Int32)).toNatClampNeg (4 : Int32).toNatClampNeg) 41 1 ((I0 41 1) + (1 : Int32))), (mj_up J0 43 (I0 41 1).toNatClampNeg x3), mj_R1)))))))) :
    mj_if (Nat.ble (mj_sz [.ref 41, .ref 30, .int x2, .long x3]) mt_205.2.2) (mj_sg mj_S1 mt_205 cal Q K 100 0 (mj_a0 0 [.ref 41, .ref 30, .int x2, .long x3]) [] (I0, J0, mj_R1)) := h
-- UnbeatenHouse$Front.add([IIJ)V (('c', 38), ('c', 25), 'I', 'J')
set_option maxRecDepth 100000 in
set_option maxHeartbeats 8000000 in
theorem e205_e {cal : Nat → List Value → mj_H → mj_R → Prop} {Q : mj_R → Prop} {K : Nat → mj_K} {I0 : Nat → Nat → Int32} {J0 : Nat → Nat → Int64} (x2 : Int32) (x3 : Int64)
    (h : (if (100 : Int32) ≤ (I0 38 1) then
      Q (.null, (I0, J0, mj_R1))
    else
      ((¬ x2 < 0 ∧ ¬ ((I0 38 1) * (4 : Int32)) < 0 ∧ ¬ (4 : Int32) < 0 ∧ x2.toNatClampNeg + (4 : Int32).toNatClampNeg ≤ 160 ∧ ((I0 38 1) * (4 : Int32)).toNatClampNeg + (4 : Int32).toNatClampNeg ≤ 400) ∧ ((vp_in (I0 38 1) 100 ∧ (Q (.null, ((mj_up (mj_cp I0 25 x2.toNatClampNeg 39 ((I0 38 1) * (4 : Int32)).toNatClampNeg (4 : Int32).toNatClampNeg) 38 1 ((I0 38 1) + (1 : Int32))), (mj_up J0 40 (I0 38 1).toNatClampNeg x3), mj_R1)))))))) :
    mj_if (Nat.ble (mj_sz [.ref 38, .ref 25, .int x2, .long x3]) mt_205.2.2) (mj_sg mj_S1 mt_205 cal Q K 100 0 (mj_a0 0 [.ref 38, .ref 25, .int x2, .long x3]) [] (I0, J0, mj_R1)) := h
-- UnbeatenHouse.takeWays(II)I (('c', 0), 'I', 'I')
set_option maxRecDepth 100000 in
set_option maxHeartbeats 8000000 in
theorem e206 {cal : Nat → List Value → mj_H → mj_R → Prop} {Q : mj_R → Prop} {K : Nat → mj_K} {I0 : Nat → Nat → Int32} {J0 : Nat → Nat → Int64} (x1 : Int32) (x2 : Int32)
    (h : (True ∧ ∃ (r1 : Int32) (I1 : Nat → Nat → Int32) (J1 : Nat → Nat → Int64), cal 192 [.ref 1, .int (2 : Int32), .int x1] (I0, J0, mj_R1) (.int r1, (I1, J1, mj_R1)) ∧ ((if r1 = 0 then
      Q (.int (-1 : Int32), (I1, J1, mj_R1))
    else
      (True ∧ ∃ (r2 : Int32) (I2 : Nat → Nat → Int32) (J2 : Nat → Nat → Int64), cal 192 [.ref 1, .int (2 : Int32), .int x2] (I1, J1, mj_R1) (.int r2, (I2, J2, mj_R1)) ∧ ((if r2 = 0 then
        Q (.int (-1 : Int32), (I2, J2, mj_R1))
      else
        (if x1 = x2 then
          Q (.int (-1 : Int32), (I2, J2, mj_R1))
        else
          (True ∧ ∃ (I3 : Nat → Nat → Int32) (J3 : Nat → Nat → Int64), cal 207 [.ref 33, .ref 1, .int x1, .int x2, .ref 29] (I2, J2, mj_R1) (.null, (I3, J3, mj_R1)) ∧ ((True ∧ ∃ (r4 : Int32) (I4 : Nat → Nat → Int32) (J4 : Nat → Nat → Int64), cal 213 [.ref 29, .ref 41, .int (1 : Int32)] (I3, J3, mj_R1) (.int r4, (I4, J4, mj_R1)) ∧ ((if r4 = (-2 : Int32) then
            Q (.int r4, (I4, J4, mj_R1))
          else
            (True ∧ ∃ (I5 : Nat → Nat → Int32) (J5 : Nat → Nat → Int64), cal 219 [.ref 38, .ref 41] (I4, J4, mj_R1) (.null, (I5, J5, mj_R1)) ∧ (Q (.int r4, (I5, J5, mj_R1))))))))))))))))) :
    mj_if (Nat.ble (mj_sz [.ref 0, .int x1, .int x2]) mt_206.2.2) (mj_sg mj_S1 mt_206 cal Q K 100 0 (mj_a0 0 [.ref 0, .int x1, .int x2]) [] (I0, J0, mj_R1)) := h
-- UnbeatenHouse$Gatherer.gatherWays(LUnbeatenHouse$Tale;IILUnbeatenHouse$Pool;)V (('c', 33), ('c', 1), 'I', 'I', ('c', 29))
set_option maxRecDepth 100000 in
set_option maxHeartbeats 8000000 in
theorem e207 {cal : Nat → List Value → mj_H → mj_R → Prop} {Q : mj_R → Prop} {K : Nat → mj_K} {I0 : Nat → Nat → Int32} {J0 : Nat → Nat → Int64} (x2 : Int32) (x3 : Int32)
    (h : (vp_in (0 : Int32) 6 ∧ ((True ∧ ∃ (I1 : Nat → Nat → Int32) (J1 : Nat → Nat → Int64), cal 208 [.ref 29, .int (I0 2 (0 : Int32).toNatClampNeg)] (I0, J0, mj_R1) (.null, (I1, J1, mj_R1)) ∧ (K 14 [(0, .ref 33), (1, .ref 1), (2, .int x2), (3, .int x3), (4, .ref 29), (5, .int (0 : Int32))] [] (I1, J1, mj_R1)))))) :
    mj_if (Nat.ble (mj_sz [.ref 33, .ref 1, .int x2, .int x3, .ref 29]) mt_207.2.2) (mj_sg mj_S1 mt_207 cal Q K 100 0 (mj_a0 0 [.ref 33, .ref 1, .int x2, .int x3, .ref 29]) [] (I0, J0, mj_R1)) := h
set_option maxRecDepth 100000 in
set_option maxHeartbeats 8000000 in
theorem s207_14 {cal : Nat → List Value → mj_H → mj_R → Prop} {Q : mj_R → Prop} {K : Nat → mj_K} {I0 : Nat → Nat → Int32} {J0 : Nat → Nat → Int64} (x2 : Int32) (x3 : Int32) (x5 : Int32)
    (h : (if (4 : Int32) ≤ x5 then
      (True ∧ ∃ (I1 : Nat → Nat → Int32) (J1 : Nat → Nat → Int64), cal 209 [.ref 33, .ref 1, .ref 29, .int x3, .int x2, .int (0 : Int32), .int ((1 : Int32) <<< (x2 &&& 31)), .long (x2.toInt64 <<< ((40 : Int32).toInt64 &&& 63))] (I0, J0, mj_R1) (.null, (I1, J1, mj_R1)) ∧ (Q (.null, (I1, J1, mj_R1))))
    else
      (vp_in x5 40 ∧ (K 14 [(0, .ref 33), (1, .ref 1), (2, .int x2), (3, .int x3), (4, .ref 29), (5, .int (x5 + (1 : Int32)))] [] ((mj_up I0 36 x5.toNatClampNeg (0 : Int32)), J0, mj_R1))))) :
    mj_go mj_S1 mt_207 cal Q K 14 [(0, .ref 33), (1, .ref 1), (2, .int x2), (3, .int x3), (4, .ref 29), (5, .int x5)] [] (I0, J0, mj_R1) := h
-- UnbeatenHouse$Pool.clear(I)V (('c', 29), 'I')
set_option maxRecDepth 100000 in
set_option maxHeartbeats 8000000 in
theorem e208 {cal : Nat → List Value → mj_H → mj_R → Prop} {Q : mj_R → Prop} {K : Nat → mj_K} {I0 : Nat → Nat → Int32} {J0 : Nat → Nat → Int64} (x1 : Int32)
    (h : Q (.null, ((mj_up (mj_up I0 29 3 (0 : Int32)) 29 4 x1), J0, mj_R1))) :
    mj_if (Nat.ble (mj_sz [.ref 29, .int x1]) mt_208.2.2) (mj_sg mj_S1 mt_208 cal Q K 100 0 (mj_a0 0 [.ref 29, .int x1]) [] (I0, J0, mj_R1)) := h
-- UnbeatenHouse$Gatherer.walk(LUnbeatenHouse$Tale;LUnbeatenHouse$Pool;IIIIJ)V (('c', 33), ('c', 1), ('c', 29), 'I', 'I', 'I', 'I', 'J')
set_option maxRecDepth 100000 in
set_option maxHeartbeats 8000000 in
theorem e209 {cal : Nat → List Value → mj_H → mj_R → Prop} {Q : mj_R → Prop} {K : Nat → mj_K} {I0 : Nat → Nat → Int32} {J0 : Nat → Nat → Int64} (x3 : Int32) (x4 : Int32) (x5 : Int32) (x6 : Int32) (x7 : Int64)
    (h : (if x4 = x3 then
      (True ∧ ∃ (I1 : Nat → Nat → Int32) (J1 : Nat → Nat → Int64), cal 210 [.ref 33, .ref 1, .int (x5 * (4 : Int32))] (I0, J0, mj_R1) (.null, (I1, J1, mj_R1)) ∧ ((True ∧ ∃ (I2 : Nat → Nat → Int32) (J2 : Nat → Nat → Int64), cal 211 [.ref 29, .ref 37, .long (x7 ||| (x5 + (1 : Int32)).toInt64)] (I1, J1, mj_R1) (.null, (I2, J2, mj_R1)) ∧ (Q (.null, (I2, J2, mj_R1))))))
    else
      (if (x5 + (1 : Int32)) < (10 : Int32) then
        K 45 [(0, .ref 33), (1, .ref 1), (2, .ref 29), (3, .int x3), (4, .int x4), (5, .int x5), (6, .int x6), (7, .long x7), (9, .int (0 : Int32))] [] (I0, J0, mj_R1)
      else
        Q (.null, (I0, J0, mj_R1))))) :
    mj_if (Nat.ble (mj_sz [.ref 33, .ref 1, .ref 29, .int x3, .int x4, .int x5, .int x6, .long x7]) mt_209.2.2) (mj_sg mj_S1 mt_209 cal Q K 100 0 (mj_a0 0 [.ref 33, .ref 1, .ref 29, .int x3, .int x4, .int x5, .int x6, .long x7]) [] (I0, J0, mj_R1)) := h
set_option maxRecDepth 100000 in
set_option maxHeartbeats 8000000 in
theorem s209_45 {cal : Nat → List Value → mj_H → mj_R → Prop} {Q : mj_R → Prop} {K : Nat → mj_K} {I0 : Nat → Nat → Int32} {J0 : Nat → Nat → Int64} (x3 : Int32) (x4 : Int32) (x5 : Int32) (x6 : Int32) (x7 : Int64) (x9 : Int32)
    (h : (vp_in (3 : Int32) 6 ∧ ((if (I0 2 (3 : Int32).toNatClampNeg) ≤ x9 then
      Q (.null, (I0, J0, mj_R1))
    else
      (vp_in x9 24 ∧ ((vp_in x9 24 ∧ ((if (I0 7 x9.toNatClampNeg) = x4 then
        (if ((x6 >>> ((I0 8 x9.toNatClampNeg) &&& 31)) &&& (1 : Int32)) = 0 then
          (True ∧ ∃ (I1 : Nat → Nat → Int32) (J1 : Nat → Nat → Int64), cal 212 [.ref 33, .ref 1, .int x9, .int x5] (I0, J0, mj_R1) (.null, (I1, J1, mj_R1)) ∧ ((True ∧ ∃ (I2 : Nat → Nat → Int32) (J2 : Nat → Nat → Int64), cal 209 [.ref 33, .ref 1, .ref 29, .int x3, .int (I0 8 x9.toNatClampNeg), .int (x5 + (1 : Int32)), .int (x6 ||| ((1 : Int32) <<< ((I0 8 x9.toNatClampNeg) &&& 31))), .long (x7 ||| ((I0 8 x9.toNatClampNeg).toInt64 <<< (((4 : Int32) * ((9 : Int32) - x5)).toInt64 &&& 63)))] (I1, J1, mj_R1) (.null, (I2, J2, mj_R1)) ∧ (K 45 [(0, .ref 33), (1, .ref 1), (2, .ref 29), (3, .int x3), (4, .int x4), (5, .int x5), (6, .int x6), (7, .long x7), (9, .int (x9 + (1 : Int32)))] [] (I2, J2, mj_R1)))))
        else
          K 45 [(0, .ref 33), (1, .ref 1), (2, .ref 29), (3, .int x3), (4, .int x4), (5, .int x5), (6, .int x6), (7, .long x7), (9, .int (x9 + (1 : Int32)))] [] (I0, J0, mj_R1))
      else
        K 45 [(0, .ref 33), (1, .ref 1), (2, .ref 29), (3, .int x3), (4, .int x4), (5, .int x5), (6, .int x6), (7, .long x7), (9, .int (x9 + (1 : Int32)))] [] (I0, J0, mj_R1)))))))))) :
    mj_go mj_S1 mt_209 cal Q K 45 [(0, .ref 33), (1, .ref 1), (2, .ref 29), (3, .int x3), (4, .int x4), (5, .int x5), (6, .int x6), (7, .long x7), (9, .int x9)] [] (I0, J0, mj_R1) := h
-- UnbeatenHouse$Gatherer.putLosses(LUnbeatenHouse$Tale;I)V (('c', 33), ('c', 1), 'I')
set_option maxRecDepth 100000 in
set_option maxHeartbeats 8000000 in
theorem e210 {cal : Nat → List Value → mj_H → mj_R → Prop} {Q : mj_R → Prop} {K : Nat → mj_K} {I0 : Nat → Nat → Int32} {J0 : Nat → Nat → Int64} (x2 : Int32)
    (h : K 2 [(0, .ref 33), (1, .ref 1), (2, .int x2), (3, .int (0 : Int32))] [] (I0, J0, mj_R1)) :
    mj_if (Nat.ble (mj_sz [.ref 33, .ref 1, .int x2]) mt_210.2.2) (mj_sg mj_S1 mt_210 cal Q K 100 0 (mj_a0 0 [.ref 33, .ref 1, .int x2]) [] (I0, J0, mj_R1)) := h
set_option maxRecDepth 100000 in
set_option maxHeartbeats 8000000 in
theorem s210_2 {cal : Nat → List Value → mj_H → mj_R → Prop} {Q : mj_R → Prop} {K : Nat → mj_K} {I0 : Nat → Nat → Int32} {J0 : Nat → Nat → Int64} (x2 : Int32) (x3 : Int32)
    (h : (vp_in (0 : Int32) 6 ∧ ((if (I0 2 (0 : Int32).toNatClampNeg) ≤ x3 then
      Q (.null, (I0, J0, mj_R1))
    else
      (vp_in (x2 + x3) 40 ∧ ((True ∧ ∃ (r1 : Int32) (I1 : Nat → Nat → Int32) (J1 : Nat → Nat → Int64), cal 175 [.ref 1, .int x3, .int (I0 36 (x2 + x3).toNatClampNeg)] (I0, J0, mj_R1) (.int r1, (I1, J1, mj_R1)) ∧ ((vp_in x3 4 ∧ (K 2 [(0, .ref 33), (1, .ref 1), (2, .int x2), (3, .int (x3 + (1 : Int32)))] [] ((mj_up I1 37 x3.toNatClampNeg r1), J1, mj_R1))))))))))) :
    mj_go mj_S1 mt_210 cal Q K 2 [(0, .ref 33), (1, .ref 1), (2, .int x2), (3, .int x3)] [] (I0, J0, mj_R1) := h
-- UnbeatenHouse$Pool.add([IJ)V (('c', 29), ('c', 37), 'J')
set_option maxRecDepth 100000 in
set_option maxHeartbeats 8000000 in
theorem e211 {cal : Nat → List Value → mj_H → mj_R → Prop} {Q : mj_R → Prop} {K : Nat → mj_K} {I0 : Nat → Nat → Int32} {J0 : Nat → Nat → Int64} (x2 : Int64)
    (h : (if (6561 : Int32) ≤ (I0 29 3) then
      Q (.null, (I0, J0, mj_R1))
    else
      ((¬ (0 : Int32) < 0 ∧ ¬ ((I0 29 3) * (4 : Int32)) < 0 ∧ ¬ (4 : Int32) < 0 ∧ (0 : Int32).toNatClampNeg + (4 : Int32).toNatClampNeg ≤ 4 ∧ ((I0 29 3) * (4 : Int32)).toNatClampNeg + (4 : Int32).toNatClampNeg ≤ 26244) ∧ ((vp_in (I0 29 3) 6561 ∧ ((vp_in (I0 29 3) 6561 ∧ (Q (.null, ((mj_up (mj_up (mj_cp I0 37 (0 : Int32).toNatClampNeg 30 ((I0 29 3) * (4 : Int32)).toNatClampNeg (4 : Int32).toNatClampNeg) 32 (I0 29 3).toNatClampNeg (I0 29 3)) 29 3 ((I0 29 3) + (1 : Int32))), (mj_up J0 31 (I0 29 3).toNatClampNeg x2), mj_R1)))))))))) :
    mj_if (Nat.ble (mj_sz [.ref 29, .ref 37, .long x2]) mt_211.2.2) (mj_sg mj_S1 mt_211 cal Q K 100 0 (mj_a0 0 [.ref 29, .ref 37, .long x2]) [] (I0, J0, mj_R1)) := h
-- UnbeatenHouse$Gatherer.goAlong(LUnbeatenHouse$Tale;II)V (('c', 33), ('c', 1), 'I', 'I')
set_option maxRecDepth 100000 in
set_option maxHeartbeats 8000000 in
theorem e212 {cal : Nat → List Value → mj_H → mj_R → Prop} {Q : mj_R → Prop} {K : Nat → mj_K} {I0 : Nat → Nat → Int32} {J0 : Nat → Nat → Int64} (x2 : Int32) (x3 : Int32)
    (h : K 8 [(0, .ref 33), (1, .ref 1), (2, .int x2), (4, .int (x3 * (4 : Int32))), (5, .int (0 : Int32))] [] (I0, J0, mj_R1)) :
    mj_if (Nat.ble (mj_sz [.ref 33, .ref 1, .int x2, .int x3]) mt_212.2.2) (mj_sg mj_S1 mt_212 cal Q K 100 0 (mj_a0 0 [.ref 33, .ref 1, .int x2, .int x3]) [] (I0, J0, mj_R1)) := h
set_option maxRecDepth 100000 in
set_option maxHeartbeats 8000000 in
theorem s212_8 {cal : Nat → List Value → mj_H → mj_R → Prop} {Q : mj_R → Prop} {K : Nat → mj_K} {I0 : Nat → Nat → Int32} {J0 : Nat → Nat → Int64} (x2 : Int32) (x4 : Int32) (x5 : Int32)
    (h : (vp_in (0 : Int32) 6 ∧ ((if (I0 2 (0 : Int32).toNatClampNeg) ≤ x5 then
      Q (.null, (I0, J0, mj_R1))
    else
      (vp_in (x4 + x5) 40 ∧ ((True ∧ ∃ (r1 : Int32) (I1 : Nat → Nat → Int32) (J1 : Nat → Nat → Int64), cal 155 [.int (3 : Int32), .int x2, .int x5] (I0, J0, mj_R1) (.int r1, (I1, J1, mj_R1)) ∧ ((vp_in r1 960 ∧ ((vp_in ((x4 + (4 : Int32)) + x5) 40 ∧ (K 8 [(0, .ref 33), (1, .ref 1), (2, .int x2), (4, .int x4), (5, .int (x5 + (1 : Int32)))] [] ((mj_up I1 36 ((x4 + (4 : Int32)) + x5).toNatClampNeg ((I0 36 (x4 + x5).toNatClampNeg) + (I1 5 r1.toNatClampNeg))), J1, mj_R1))))))))))))) :
    mj_go mj_S1 mt_212 cal Q K 8 [(0, .ref 33), (1, .ref 1), (2, .int x2), (4, .int x4), (5, .int x5)] [] (I0, J0, mj_R1) := h
-- UnbeatenHouse$Pool.putFront(LUnbeatenHouse$Front;I)I (('c', 29), ('c', 44), 'I')
set_option maxRecDepth 100000 in
set_option maxHeartbeats 8000000 in
theorem e213_a {cal : Nat → List Value → mj_H → mj_R → Prop} {Q : mj_R → Prop} {K : Nat → mj_K} {I0 : Nat → Nat → Int32} {J0 : Nat → Nat → Int64} (x2 : Int32)
    (h : (True ∧ ∃ (I1 : Nat → Nat → Int32) (J1 : Nat → Nat → Int64), cal 214 [.ref 29] (I0, J0, mj_R1) (.null, (I1, J1, mj_R1)) ∧ ((True ∧ ∃ (I2 : Nat → Nat → Int32) (J2 : Nat → Nat → Int64), cal 182 [.ref 44, .int x2] (I1, J1, mj_R1) (.null, (I2, J2, mj_R1)) ∧ (K 11 [(0, .ref 29), (1, .ref 44), (3, .int (0 : Int32))] [] (I2, J2, mj_R1)))))) :
    mj_if (Nat.ble (mj_sz [.ref 29, .ref 44, .int x2]) mt_213.2.2) (mj_sg mj_S1 mt_213 cal Q K 100 0 (mj_a0 0 [.ref 29, .ref 44, .int x2]) [] (I0, J0, mj_R1)) := h
set_option maxRecDepth 100000 in
set_option maxHeartbeats 8000000 in
theorem s213_11_a {cal : Nat → List Value → mj_H → mj_R → Prop} {Q : mj_R → Prop} {K : Nat → mj_K} {I0 : Nat → Nat → Int32} {J0 : Nat → Nat → Int64} (x3 : Int32)
    (h : (if (I0 29 3) ≤ x3 then
      Q (.int (I0 44 1), (I0, J0, mj_R1))
    else
      (vp_in x3 6561 ∧ ((True ∧ ∃ (r1 : Int32) (I1 : Nat → Nat → Int32) (J1 : Nat → Nat → Int64), cal 218 [.ref 44, .ref 30, .int ((I0 32 x3.toNatClampNeg) * (4 : Int32)), .int (I0 29 4)] (I0, J0, mj_R1) (.int r1, (I1, J1, mj_R1)) ∧ ((if r1 = 0 then
        (if (I1 44 1) < (100 : Int32) then
          (vp_in x3 6561 ∧ ((vp_in (I1 32 x3.toNatClampNeg) 6561 ∧ ((True ∧ ∃ (I2 : Nat → Nat → Int32) (J2 : Nat → Nat → Int64), cal 205 [.ref 44, .ref 30, .int ((I0 32 x3.toNatClampNeg) * (4 : Int32)), .long (J1 31 (I1 32 x3.toNatClampNeg).toNatClampNeg)] (I1, J1, mj_R1) (.null, (I2, J2, mj_R1)) ∧ (K 11 [(0, .ref 29), (1, .ref 44), (3, .int (x3 + (1 : Int32)))] [] (I2, J2, mj_R1)))))))
        else
          Q (.int (-2 : Int32), (I1, J1, mj_R1)))
      else
        K 11 [(0, .ref 29), (1, .ref 44), (3, .int (x3 + (1 : Int32)))] [] (I1, J1, mj_R1)))))))) :
    mj_go mj_S1 mt_213 cal Q K 11 [(0, .ref 29), (1, .ref 44), (3, .int x3)] [] (I0, J0, mj_R1) := h
-- UnbeatenHouse$Pool.putFront(LUnbeatenHouse$Front;I)I (('c', 29), ('c', 41), 'I')
set_option maxRecDepth 100000 in
set_option maxHeartbeats 8000000 in
theorem e213_b {cal : Nat → List Value → mj_H → mj_R → Prop} {Q : mj_R → Prop} {K : Nat → mj_K} {I0 : Nat → Nat → Int32} {J0 : Nat → Nat → Int64} (x2 : Int32)
    (h : (True ∧ ∃ (I1 : Nat → Nat → Int32) (J1 : Nat → Nat → Int64), cal 214 [.ref 29] (I0, J0, mj_R1) (.null, (I1, J1, mj_R1)) ∧ ((True ∧ ∃ (I2 : Nat → Nat → Int32) (J2 : Nat → Nat → Int64), cal 182 [.ref 41, .int x2] (I1, J1, mj_R1) (.null, (I2, J2, mj_R1)) ∧ (K 11 [(0, .ref 29), (1, .ref 41), (3, .int (0 : Int32))] [] (I2, J2, mj_R1)))))) :
    mj_if (Nat.ble (mj_sz [.ref 29, .ref 41, .int x2]) mt_213.2.2) (mj_sg mj_S1 mt_213 cal Q K 100 0 (mj_a0 0 [.ref 29, .ref 41, .int x2]) [] (I0, J0, mj_R1)) := h
set_option maxRecDepth 100000 in
set_option maxHeartbeats 8000000 in
theorem s213_11_b {cal : Nat → List Value → mj_H → mj_R → Prop} {Q : mj_R → Prop} {K : Nat → mj_K} {I0 : Nat → Nat → Int32} {J0 : Nat → Nat → Int64} (x3 : Int32)
    (h : (if (I0 29 3) ≤ x3 then
      Q (.int (I0 41 1), (I0, J0, mj_R1))
    else
      (vp_in x3 6561 ∧ ((True ∧ ∃ (r1 : Int32) (I1 : Nat → Nat → Int32) (J1 : Nat → Nat → Int64), cal 218 [.ref 41, .ref 30, .int ((I0 32 x3.toNatClampNeg) * (4 : Int32)), .int (I0 29 4)] (I0, J0, mj_R1) (.int r1, (I1, J1, mj_R1)) ∧ ((if r1 = 0 then
        (if (I1 41 1) < (100 : Int32) then
          (vp_in x3 6561 ∧ ((vp_in (I1 32 x3.toNatClampNeg) 6561 ∧ ((True ∧ ∃ (I2 : Nat → Nat → Int32) (J2 : Nat → Nat → Int64), cal 205 [.ref 41, .ref 30, .int ((I0 32 x3.toNatClampNeg) * (4 : Int32)), .long (J1 31 (I1 32 x3.toNatClampNeg).toNatClampNeg)] (I1, J1, mj_R1) (.null, (I2, J2, mj_R1)) ∧ (K 11 [(0, .ref 29), (1, .ref 41), (3, .int (x3 + (1 : Int32)))] [] (I2, J2, mj_R1)))))))
        else
          Q (.int (-2 : Int32), (I1, J1, mj_R1)))
      else
        K 11 [(0, .ref 29), (1, .ref 41), (3, .int (x3 + (1 : Int32)))] [] (I1, J1, mj_R1)))))))) :
    mj_go mj_S1 mt_213 cal Q K 11 [(0, .ref 29), (1, .ref 41), (3, .int x3)] [] (I0, J0, mj_R1) := h
-- UnbeatenHouse$Pool.sort()V (('c', 29),)
set_option maxRecDepth 100000 in
set_option maxHeartbeats 8000000 in
theorem e214 {cal : Nat → List Value → mj_H → mj_R → Prop} {Q : mj_R → Prop} {K : Nat → mj_K} {I0 : Nat → Nat → Int32} {J0 : Nat → Nat → Int64}
    (h : (¬ (2 : Int32) = 0 ∧ (K 9 [(0, .ref 29), (1, .int (((I0 29 3) / (2 : Int32)) - (1 : Int32)))] [] (I0, J0, mj_R1)))) :
    mj_if (Nat.ble (mj_sz [.ref 29]) mt_214.2.2) (mj_sg mj_S1 mt_214 cal Q K 100 0 (mj_a0 0 [.ref 29]) [] (I0, J0, mj_R1)) := h
set_option maxRecDepth 100000 in
set_option maxHeartbeats 8000000 in
theorem s214_9 {cal : Nat → List Value → mj_H → mj_R → Prop} {Q : mj_R → Prop} {K : Nat → mj_K} {I0 : Nat → Nat → Int32} {J0 : Nat → Nat → Int64} (x1 : Int32)
    (h : (if x1 < 0 then
      K 35 [(0, .ref 29), (1, .int ((I0 29 3) - (1 : Int32)))] [] (I0, J0, mj_R1)
    else
      (True ∧ ∃ (I1 : Nat → Nat → Int32) (J1 : Nat → Nat → Int64), cal 215 [.ref 29, .int x1, .int (I0 29 3)] (I0, J0, mj_R1) (.null, (I1, J1, mj_R1)) ∧ (K 9 [(0, .ref 29), (1, .int (x1 + (-1 : Int32)))] [] (I1, J1, mj_R1))))) :
    mj_go mj_S1 mt_214 cal Q K 9 [(0, .ref 29), (1, .int x1)] [] (I0, J0, mj_R1) := h
set_option maxRecDepth 100000 in
set_option maxHeartbeats 8000000 in
theorem s214_35 {cal : Nat → List Value → mj_H → mj_R → Prop} {Q : mj_R → Prop} {K : Nat → mj_K} {I0 : Nat → Nat → Int32} {J0 : Nat → Nat → Int64} (x1 : Int32)
    (h : (if x1 ≤ 0 then
      Q (.null, (I0, J0, mj_R1))
    else
      (True ∧ ∃ (I1 : Nat → Nat → Int32) (J1 : Nat → Nat → Int64), cal 217 [.ref 29, .int (0 : Int32), .int x1] (I0, J0, mj_R1) (.null, (I1, J1, mj_R1)) ∧ ((True ∧ ∃ (I2 : Nat → Nat → Int32) (J2 : Nat → Nat → Int64), cal 215 [.ref 29, .int (0 : Int32), .int x1] (I1, J1, mj_R1) (.null, (I2, J2, mj_R1)) ∧ (K 35 [(0, .ref 29), (1, .int (x1 + (-1 : Int32)))] [] (I2, J2, mj_R1))))))) :
    mj_go mj_S1 mt_214 cal Q K 35 [(0, .ref 29), (1, .int x1)] [] (I0, J0, mj_R1) := h
-- UnbeatenHouse$Pool.sink(II)V (('c', 29), 'I', 'I')
set_option maxRecDepth 100000 in
set_option maxHeartbeats 8000000 in
theorem e215 {cal : Nat → List Value → mj_H → mj_R → Prop} {Q : mj_R → Prop} {K : Nat → mj_K} {I0 : Nat → Nat → Int32} {J0 : Nat → Nat → Int64} (x1 : Int32) (x2 : Int32)
    (h : K 5 [(0, .ref 29), (2, .int x2), (3, .int x1), (4, .int (0 : Int32))] [] (I0, J0, mj_R1)) :
    mj_if (Nat.ble (mj_sz [.ref 29, .int x1, .int x2]) mt_215.2.2) (mj_sg mj_S1 mt_215 cal Q K 100 0 (mj_a0 0 [.ref 29, .int x1, .int x2]) [] (I0, J0, mj_R1)) := h
set_option maxRecDepth 100000 in
set_option maxHeartbeats 8000000 in
theorem s215_5 {cal : Nat → List Value → mj_H → mj_R → Prop} {Q : mj_R → Prop} {K : Nat → mj_K} {I0 : Nat → Nat → Int32} {J0 : Nat → Nat → Int64} (x2 : Int32) (x3 : Int32) (x4 : Int32)
    (h : (if (32 : Int32) ≤ x4 then
      Q (.null, (I0, J0, mj_R1))
    else
      (if x2 ≤ (((2 : Int32) * x3) + (1 : Int32)) then
        Q (.null, (I0, J0, mj_R1))
      else
        (if x2 ≤ ((((2 : Int32) * x3) + (1 : Int32)) + (1 : Int32)) then
          K 62 [(0, .ref 29), (2, .int x2), (3, .int x3), (4, .int x4), (5, .int (((2 : Int32) * x3) + (1 : Int32)))] [] (I0, J0, mj_R1)
        else
          (vp_in (((2 : Int32) * x3) + (1 : Int32)) 6561 ∧ ((vp_in ((((2 : Int32) * x3) + (1 : Int32)) + (1 : Int32)) 6561 ∧ ((True ∧ ∃ (r1 : Int32) (I1 : Nat → Nat → Int32) (J1 : Nat → Nat → Int64), cal 216 [.ref 29, .int (I0 32 (((2 : Int32) * x3) + (1 : Int32)).toNatClampNeg), .int (I0 32 ((((2 : Int32) * x3) + (1 : Int32)) + (1 : Int32)).toNatClampNeg)] (I0, J0, mj_R1) (.int r1, (I1, J1, mj_R1)) ∧ ((if r1 = 0 then
            K 62 [(0, .ref 29), (2, .int x2), (3, .int x3), (4, .int x4), (5, .int (((2 : Int32) * x3) + (1 : Int32)))] [] (I1, J1, mj_R1)
          else
            K 62 [(0, .ref 29), (2, .int x2), (3, .int x3), (4, .int x4), (5, .int ((((2 : Int32) * x3) + (1 : Int32)) + (1 : Int32)))] [] (I1, J1, mj_R1)))))))))))) :
    mj_go mj_S1 mt_215 cal Q K 5 [(0, .ref 29), (2, .int x2), (3, .int x3), (4, .int x4)] [] (I0, J0, mj_R1) := h
set_option maxRecDepth 100000 in
set_option maxHeartbeats 8000000 in
theorem s215_62 {cal : Nat → List Value → mj_H → mj_R → Prop} {Q : mj_R → Prop} {K : Nat → mj_K} {I0 : Nat → Nat → Int32} {J0 : Nat → Nat → Int64} (x2 : Int32) (x3 : Int32) (x4 : Int32) (x5 : Int32)
    (h : (vp_in x3 6561 ∧ ((vp_in x5 6561 ∧ ((True ∧ ∃ (r1 : Int32) (I1 : Nat → Nat → Int32) (J1 : Nat → Nat → Int64), cal 216 [.ref 29, .int (I0 32 x3.toNatClampNeg), .int (I0 32 x5.toNatClampNeg)] (I0, J0, mj_R1) (.int r1, (I1, J1, mj_R1)) ∧ ((if r1 = 0 then
      Q (.null, (I1, J1, mj_R1))
    else
      (True ∧ ∃ (I2 : Nat → Nat → Int32) (J2 : Nat → Nat → Int64), cal 217 [.ref 29, .int x3, .int x5] (I1, J1, mj_R1) (.null, (I2, J2, mj_R1)) ∧ (K 5 [(0, .ref 29), (2, .int x2), (3, .int x5), (4, .int (x4 + (1 : Int32)))] [] (I2, J2, mj_R1))))))))))) :
    mj_go mj_S1 mt_215 cal Q K 62 [(0, .ref 29), (2, .int x2), (3, .int x3), (4, .int x4), (5, .int x5)] [] (I0, J0, mj_R1) := h
-- UnbeatenHouse$Pool.isAhead(II)Z (('c', 29), 'I', 'I')
set_option maxRecDepth 100000 in
set_option maxHeartbeats 8000000 in
theorem e216 {cal : Nat → List Value → mj_H → mj_R → Prop} {Q : mj_R → Prop} {K : Nat → mj_K} {I0 : Nat → Nat → Int32} {J0 : Nat → Nat → Int64} (x1 : Int32) (x2 : Int32)
    (h : K 2 [(0, .ref 29), (1, .int x1), (2, .int x2), (3, .int (0 : Int32))] [] (I0, J0, mj_R1)) :
    mj_if (Nat.ble (mj_sz [.ref 29, .int x1, .int x2]) mt_216.2.2) (mj_sg mj_S1 mt_216 cal Q K 100 0 (mj_a0 0 [.ref 29, .int x1, .int x2]) [] (I0, J0, mj_R1)) := h
set_option maxRecDepth 100000 in
set_option maxHeartbeats 8000000 in
theorem s216_2 {cal : Nat → List Value → mj_H → mj_R → Prop} {Q : mj_R → Prop} {K : Nat → mj_K} {I0 : Nat → Nat → Int32} {J0 : Nat → Nat → Int64} (x1 : Int32) (x2 : Int32) (x3 : Int32)
    (h : (if (I0 29 4) ≤ x3 then
      (vp_in x1 6561 ∧ ((vp_in x2 6561 ∧ ((if (lg_cmp (J0 31 x1.toNatClampNeg) (J0 31 x2.toNatClampNeg)) < 0 then
        (((1 : Int32) = 0 ∨ (1 : Int32) = 1) ∧ Q (.int (1 : Int32), (I0, J0, mj_R1)))
      else
        (((0 : Int32) = 0 ∨ (0 : Int32) = 1) ∧ Q (.int (0 : Int32), (I0, J0, mj_R1))))))))
    else
      (vp_in ((x1 * (4 : Int32)) + x3) 26244 ∧ ((vp_in ((x2 * (4 : Int32)) + x3) 26244 ∧ ((if (I0 30 ((x1 * (4 : Int32)) + x3).toNatClampNeg) = (I0 30 ((x2 * (4 : Int32)) + x3).toNatClampNeg) then
        K 2 [(0, .ref 29), (1, .int x1), (2, .int x2), (3, .int (x3 + (1 : Int32)))] [] (I0, J0, mj_R1)
      else
        (if (I0 30 ((x2 * (4 : Int32)) + x3).toNatClampNeg) ≤ (I0 30 ((x1 * (4 : Int32)) + x3).toNatClampNeg) then
          (((0 : Int32) = 0 ∨ (0 : Int32) = 1) ∧ Q (.int (0 : Int32), (I0, J0, mj_R1)))
        else
          (((1 : Int32) = 0 ∨ (1 : Int32) = 1) ∧ Q (.int (1 : Int32), (I0, J0, mj_R1))))))))))) :
    mj_go mj_S1 mt_216 cal Q K 2 [(0, .ref 29), (1, .int x1), (2, .int x2), (3, .int x3)] [] (I0, J0, mj_R1) := h
-- UnbeatenHouse$Pool.swap(II)V (('c', 29), 'I', 'I')
set_option maxRecDepth 100000 in
set_option maxHeartbeats 8000000 in
theorem e217 {cal : Nat → List Value → mj_H → mj_R → Prop} {Q : mj_R → Prop} {K : Nat → mj_K} {I0 : Nat → Nat → Int32} {J0 : Nat → Nat → Int64} (x1 : Int32) (x2 : Int32)
    (h : (vp_in x1 6561 ∧ ((vp_in x2 6561 ∧ ((vp_in x1 6561 ∧ ((vp_in x2 6561 ∧ (Q (.null, ((mj_up (mj_up I0 32 x1.toNatClampNeg (I0 32 x2.toNatClampNeg)) 32 x2.toNatClampNeg (I0 32 x1.toNatClampNeg)), J0, mj_R1))))))))))) :
    mj_if (Nat.ble (mj_sz [.ref 29, .int x1, .int x2]) mt_217.2.2) (mj_sg mj_S1 mt_217 cal Q K 100 0 (mj_a0 0 [.ref 29, .int x1, .int x2]) [] (I0, J0, mj_R1)) := h
-- UnbeatenHouse$Front.standsUnder([III)Z (('c', 44), ('c', 30), 'I', 'I')
set_option maxRecDepth 100000 in
set_option maxHeartbeats 8000000 in
theorem e218_a {cal : Nat → List Value → mj_H → mj_R → Prop} {Q : mj_R → Prop} {K : Nat → mj_K} {I0 : Nat → Nat → Int32} {J0 : Nat → Nat → Int64} (x2 : Int32) (x3 : Int32)
    (h : K 3 [(0, .ref 44), (1, .ref 30), (2, .int x2), (3, .int x3), (4, .int (0 : Int32))] [] (I0, J0, mj_R1)) :
    mj_if (Nat.ble (mj_sz [.ref 44, .ref 30, .int x2, .int x3]) mt_218.2.2) (mj_sg mj_S1 mt_218 cal Q K 100 0 (mj_a0 0 [.ref 44, .ref 30, .int x2, .int x3]) [] (I0, J0, mj_R1)) := h
set_option maxRecDepth 100000 in
set_option maxHeartbeats 8000000 in
theorem s218_3_a {cal : Nat → List Value → mj_H → mj_R → Prop} {Q : mj_R → Prop} {K : Nat → mj_K} {I0 : Nat → Nat → Int32} {J0 : Nat → Nat → Int64} (x2 : Int32) (x3 : Int32) (x4 : Int32)
    (h : (if (I0 44 1) ≤ x4 then
      (((0 : Int32) = 0 ∨ (0 : Int32) = 1) ∧ Q (.int (0 : Int32), (I0, J0, mj_R1)))
    else
      (True ∧ ∃ (r1 : Int32) (I1 : Nat → Nat → Int32) (J1 : Nat → Nat → Int64), cal 180 [.ref 45, .int (x4 * (4 : Int32)), .ref 30, .int x2, .int x3] (I0, J0, mj_R1) (.int r1, (I1, J1, mj_R1)) ∧ ((if r1 = 0 then
        K 3 [(0, .ref 44), (1, .ref 30), (2, .int x2), (3, .int x3), (4, .int (x4 + (1 : Int32)))] [] (I1, J1, mj_R1)
      else
        (((1 : Int32) = 0 ∨ (1 : Int32) = 1) ∧ Q (.int (1 : Int32), (I1, J1, mj_R1)))))))) :
    mj_go mj_S1 mt_218 cal Q K 3 [(0, .ref 44), (1, .ref 30), (2, .int x2), (3, .int x3), (4, .int x4)] [] (I0, J0, mj_R1) := h
-- UnbeatenHouse$Front.standsUnder([III)Z (('c', 41), ('c', 30), 'I', 'I')
set_option maxRecDepth 100000 in
set_option maxHeartbeats 8000000 in
theorem e218_b {cal : Nat → List Value → mj_H → mj_R → Prop} {Q : mj_R → Prop} {K : Nat → mj_K} {I0 : Nat → Nat → Int32} {J0 : Nat → Nat → Int64} (x2 : Int32) (x3 : Int32)
    (h : K 3 [(0, .ref 41), (1, .ref 30), (2, .int x2), (3, .int x3), (4, .int (0 : Int32))] [] (I0, J0, mj_R1)) :
    mj_if (Nat.ble (mj_sz [.ref 41, .ref 30, .int x2, .int x3]) mt_218.2.2) (mj_sg mj_S1 mt_218 cal Q K 100 0 (mj_a0 0 [.ref 41, .ref 30, .int x2, .int x3]) [] (I0, J0, mj_R1)) := h
set_option maxRecDepth 100000 in
set_option maxHeartbeats 8000000 in
theorem s218_3_b {cal : Nat → List Value → mj_H → mj_R → Prop} {Q : mj_R → Prop} {K : Nat → mj_K} {I0 : Nat → Nat → Int32} {J0 : Nat → Nat → Int64} (x2 : Int32) (x3 : Int32) (x4 : Int32)
    (h : (if (I0 41 1) ≤ x4 then
      (((0 : Int32) = 0 ∨ (0 : Int32) = 1) ∧ Q (.int (0 : Int32), (I0, J0, mj_R1)))
    else
      (True ∧ ∃ (r1 : Int32) (I1 : Nat → Nat → Int32) (J1 : Nat → Nat → Int64), cal 180 [.ref 42, .int (x4 * (4 : Int32)), .ref 30, .int x2, .int x3] (I0, J0, mj_R1) (.int r1, (I1, J1, mj_R1)) ∧ ((if r1 = 0 then
        K 3 [(0, .ref 41), (1, .ref 30), (2, .int x2), (3, .int x3), (4, .int (x4 + (1 : Int32)))] [] (I1, J1, mj_R1)
      else
        (((1 : Int32) = 0 ∨ (1 : Int32) = 1) ∧ Q (.int (1 : Int32), (I1, J1, mj_R1)))))))) :
    mj_go mj_S1 mt_218 cal Q K 3 [(0, .ref 41), (1, .ref 30), (2, .int x2), (3, .int x3), (4, .int x4)] [] (I0, J0, mj_R1) := h
-- UnbeatenHouse$Front.copy(LUnbeatenHouse$Front;)V (('c', 38), ('c', 44))
set_option maxRecDepth 100000 in
set_option maxHeartbeats 8000000 in
theorem e219_a {cal : Nat → List Value → mj_H → mj_R → Prop} {Q : mj_R → Prop} {K : Nat → mj_K} {I0 : Nat → Nat → Int32} {J0 : Nat → Nat → Int64}
    (h : (True ∧ ∃ (I1 : Nat → Nat → Int32) (J1 : Nat → Nat → Int64), cal 182 [.ref 38, .int (I0 44 0)] (I0, J0, mj_R1) (.null, (I1, J1, mj_R1)) ∧ (K 10 [(0, .ref 38), (1, .ref 44), (2, .int (0 : Int32))] [] (I1, J1, mj_R1)))) :
    mj_if (Nat.ble (mj_sz [.ref 38, .ref 44]) mt_219.2.2) (mj_sg mj_S1 mt_219 cal Q K 100 0 (mj_a0 0 [.ref 38, .ref 44]) [] (I0, J0, mj_R1)) := h
set_option maxRecDepth 100000 in
set_option maxHeartbeats 8000000 in
theorem s219_10_a {cal : Nat → List Value → mj_H → mj_R → Prop} {Q : mj_R → Prop} {K : Nat → mj_K} {I0 : Nat → Nat → Int32} {J0 : Nat → Nat → Int64} (x2 : Int32)
    (h : (if (I0 44 1) ≤ x2 then
      Q (.null, (I0, J0, mj_R1))
    else
      (vp_in x2 100 ∧ ((True ∧ ∃ (I1 : Nat → Nat → Int32) (J1 : Nat → Nat → Int64), cal 205 [.ref 38, .ref 45, .int (x2 * (4 : Int32)), .long (J0 46 x2.toNatClampNeg)] (I0, J0, mj_R1) (.null, (I1, J1, mj_R1)) ∧ (K 10 [(0, .ref 38), (1, .ref 44), (2, .int (x2 + (1 : Int32)))] [] (I1, J1, mj_R1))))))) :
    mj_go mj_S1 mt_219 cal Q K 10 [(0, .ref 38), (1, .ref 44), (2, .int x2)] [] (I0, J0, mj_R1) := h
-- UnbeatenHouse$Front.copy(LUnbeatenHouse$Front;)V (('c', 38), ('c', 41))
set_option maxRecDepth 100000 in
set_option maxHeartbeats 8000000 in
theorem e219_b {cal : Nat → List Value → mj_H → mj_R → Prop} {Q : mj_R → Prop} {K : Nat → mj_K} {I0 : Nat → Nat → Int32} {J0 : Nat → Nat → Int64}
    (h : (True ∧ ∃ (I1 : Nat → Nat → Int32) (J1 : Nat → Nat → Int64), cal 182 [.ref 38, .int (I0 41 0)] (I0, J0, mj_R1) (.null, (I1, J1, mj_R1)) ∧ (K 10 [(0, .ref 38), (1, .ref 41), (2, .int (0 : Int32))] [] (I1, J1, mj_R1)))) :
    mj_if (Nat.ble (mj_sz [.ref 38, .ref 41]) mt_219.2.2) (mj_sg mj_S1 mt_219 cal Q K 100 0 (mj_a0 0 [.ref 38, .ref 41]) [] (I0, J0, mj_R1)) := h
set_option maxRecDepth 100000 in
set_option maxHeartbeats 8000000 in
theorem s219_10_b {cal : Nat → List Value → mj_H → mj_R → Prop} {Q : mj_R → Prop} {K : Nat → mj_K} {I0 : Nat → Nat → Int32} {J0 : Nat → Nat → Int64} (x2 : Int32)
    (h : (if (I0 41 1) ≤ x2 then
      Q (.null, (I0, J0, mj_R1))
    else
      (vp_in x2 100 ∧ ((True ∧ ∃ (I1 : Nat → Nat → Int32) (J1 : Nat → Nat → Int64), cal 205 [.ref 38, .ref 42, .int (x2 * (4 : Int32)), .long (J0 43 x2.toNatClampNeg)] (I0, J0, mj_R1) (.null, (I1, J1, mj_R1)) ∧ (K 10 [(0, .ref 38), (1, .ref 41), (2, .int (x2 + (1 : Int32)))] [] (I1, J1, mj_R1))))))) :
    mj_go mj_S1 mt_219 cal Q K 10 [(0, .ref 38), (1, .ref 41), (2, .int x2)] [] (I0, J0, mj_R1) := h
-- UnbeatenHouse.takeSets()I (('c', 0),)
set_option maxRecDepth 100000 in
set_option maxHeartbeats 8000000 in
theorem e220 {cal : Nat → List Value → mj_H → mj_R → Prop} {Q : mj_R → Prop} {K : Nat → mj_K} {I0 : Nat → Nat → Int32} {J0 : Nat → Nat → Int64}
    (h : (if (I0 0 9) = (-3 : Int32) then
      (True ∧ ∃ (I1 : Nat → Nat → Int32) (J1 : Nat → Nat → Int64), cal 221 [.ref 33, .ref 1, .ref 29] (I0, J0, mj_R1) (.null, (I1, J1, mj_R1)) ∧ ((True ∧ ∃ (r2 : Int32) (I2 : Nat → Nat → Int32) (J2 : Nat → Nat → Int64), cal 213 [.ref 29, .ref 44, .int (2 : Int32)] (I1, J1, mj_R1) (.int r2, (I2, J2, mj_R1)) ∧ (K 40 [(0, .ref 0)] [] ((mj_up I2 0 9 r2), J2, mj_R1)))))
    else
      K 40 [(0, .ref 0)] [] (I0, J0, mj_R1))) :
    mj_if (Nat.ble (mj_sz [.ref 0]) mt_220.2.2) (mj_sg mj_S1 mt_220 cal Q K 100 0 (mj_a0 0 [.ref 0]) [] (I0, J0, mj_R1)) := h
set_option maxRecDepth 100000 in
set_option maxHeartbeats 8000000 in
theorem s220_40 {cal : Nat → List Value → mj_H → mj_R → Prop} {Q : mj_R → Prop} {K : Nat → mj_K} {I0 : Nat → Nat → Int32} {J0 : Nat → Nat → Int64}
    (h : (if (I0 0 9) = (-2 : Int32) then
      Q (.int (I0 0 9), (I0, J0, mj_R1))
    else
      (True ∧ ∃ (I1 : Nat → Nat → Int32) (J1 : Nat → Nat → Int64), cal 219 [.ref 38, .ref 44] (I0, J0, mj_R1) (.null, (I1, J1, mj_R1)) ∧ (Q (.int (I1 0 9), (I1, J1, mj_R1)))))) :
    mj_go mj_S1 mt_220 cal Q K 40 [(0, .ref 0)] [] (I0, J0, mj_R1) := h
-- UnbeatenHouse$Gatherer.gatherSets(LUnbeatenHouse$Tale;LUnbeatenHouse$Pool;)V (('c', 33), ('c', 1), ('c', 29))
set_option maxRecDepth 100000 in
set_option maxHeartbeats 8000000 in
theorem e221 {cal : Nat → List Value → mj_H → mj_R → Prop} {Q : mj_R → Prop} {K : Nat → mj_K} {I0 : Nat → Nat → Int32} {J0 : Nat → Nat → Int64}
    (h : (vp_in (0 : Int32) 6 ∧ ((True ∧ ∃ (I1 : Nat → Nat → Int32) (J1 : Nat → Nat → Int64), cal 208 [.ref 29, .int (I0 2 (0 : Int32).toNatClampNeg)] (I0, J0, mj_R1) (.null, (I1, J1, mj_R1)) ∧ (K 12 [(0, .ref 33), (1, .ref 1), (2, .ref 29), (3, .int (0 : Int32))] [] (I1, J1, mj_R1)))))) :
    mj_if (Nat.ble (mj_sz [.ref 33, .ref 1, .ref 29]) mt_221.2.2) (mj_sg mj_S1 mt_221 cal Q K 100 0 (mj_a0 0 [.ref 33, .ref 1, .ref 29]) [] (I0, J0, mj_R1)) := h
set_option maxRecDepth 100000 in
set_option maxHeartbeats 8000000 in
theorem s221_12 {cal : Nat → List Value → mj_H → mj_R → Prop} {Q : mj_R → Prop} {K : Nat → mj_K} {I0 : Nat → Nat → Int32} {J0 : Nat → Nat → Int64} (x3 : Int32)
    (h : (vp_in (4 : Int32) 6 ∧ ((if ((1 : Int32) <<< ((I0 2 (4 : Int32).toNatClampNeg) &&& 31)) ≤ x3 then
      Q (.null, (I0, J0, mj_R1))
    else
      (True ∧ ∃ (I1 : Nat → Nat → Int32) (J1 : Nat → Nat → Int64), cal 222 [.ref 33, .ref 1, .int x3] (I0, J0, mj_R1) (.null, (I1, J1, mj_R1)) ∧ ((True ∧ ∃ (r2 : Int32) (I2 : Nat → Nat → Int32) (J2 : Nat → Nat → Int64), cal 223 [.ref 34, .ref 1, .int x3, .ref 36] (I1, J1, mj_R1) (.int r2, (I2, J2, mj_R1)) ∧ ((if r2 = 0 then
        K 12 [(0, .ref 33), (1, .ref 1), (2, .ref 29), (3, .int (x3 + (1 : Int32)))] [] (I2, J2, mj_R1)
      else
        (True ∧ ∃ (I3 : Nat → Nat → Int32) (J3 : Nat → Nat → Int64), cal 210 [.ref 33, .ref 1, .int (0 : Int32)] (I2, J2, mj_R1) (.null, (I3, J3, mj_R1)) ∧ ((True ∧ ∃ (I4 : Nat → Nat → Int32) (J4 : Nat → Nat → Int64), cal 211 [.ref 29, .ref 37, .long x3.toInt64] (I3, J3, mj_R1) (.null, (I4, J4, mj_R1)) ∧ (K 12 [(0, .ref 33), (1, .ref 1), (2, .ref 29), (3, .int (x3 + (1 : Int32)))] [] (I4, J4, mj_R1)))))))))))))) :
    mj_go mj_S1 mt_221 cal Q K 12 [(0, .ref 33), (1, .ref 1), (2, .ref 29), (3, .int x3)] [] (I0, J0, mj_R1) := h
-- UnbeatenHouse$Gatherer.addUp(LUnbeatenHouse$Tale;I)V (('c', 33), ('c', 1), 'I')
set_option maxRecDepth 100000 in
set_option maxHeartbeats 8000000 in
theorem e222 {cal : Nat → List Value → mj_H → mj_R → Prop} {Q : mj_R → Prop} {K : Nat → mj_K} {I0 : Nat → Nat → Int32} {J0 : Nat → Nat → Int64} (x2 : Int32)
    (h : K 2 [(0, .ref 33), (1, .ref 1), (2, .int x2), (3, .int (0 : Int32))] [] (I0, J0, mj_R1)) :
    mj_if (Nat.ble (mj_sz [.ref 33, .ref 1, .int x2]) mt_222.2.2) (mj_sg mj_S1 mt_222 cal Q K 100 0 (mj_a0 0 [.ref 33, .ref 1, .int x2]) [] (I0, J0, mj_R1)) := h
set_option maxRecDepth 100000 in
set_option maxHeartbeats 8000000 in
theorem s222_2 {cal : Nat → List Value → mj_H → mj_R → Prop} {Q : mj_R → Prop} {K : Nat → mj_K} {I0 : Nat → Nat → Int32} {J0 : Nat → Nat → Int64} (x2 : Int32) (x3 : Int32)
    (h : (vp_in (0 : Int32) 6 ∧ ((if (I0 2 (0 : Int32).toNatClampNeg) ≤ x3 then
      Q (.null, (I0, J0, mj_R1))
    else
      (vp_in x3 40 ∧ (K 22 [(0, .ref 33), (1, .ref 1), (2, .int x2), (3, .int x3), (4, .int (0 : Int32))] [] ((mj_up I0 36 x3.toNatClampNeg (0 : Int32)), J0, mj_R1))))))) :
    mj_go mj_S1 mt_222 cal Q K 2 [(0, .ref 33), (1, .ref 1), (2, .int x2), (3, .int x3)] [] (I0, J0, mj_R1) := h
set_option maxRecDepth 100000 in
set_option maxHeartbeats 8000000 in
theorem s222_22 {cal : Nat → List Value → mj_H → mj_R → Prop} {Q : mj_R → Prop} {K : Nat → mj_K} {I0 : Nat → Nat → Int32} {J0 : Nat → Nat → Int64} (x2 : Int32) (x3 : Int32) (x4 : Int32)
    (h : (vp_in (4 : Int32) 6 ∧ ((if (I0 2 (4 : Int32).toNatClampNeg) ≤ x4 then
      K 2 [(0, .ref 33), (1, .ref 1), (2, .int x2), (3, .int (x3 + (1 : Int32)))] [] (I0, J0, mj_R1)
    else
      (if ((x2 >>> (x4 &&& 31)) &&& (1 : Int32)) = 0 then
        K 22 [(0, .ref 33), (1, .ref 1), (2, .int x2), (3, .int x3), (4, .int (x4 + (1 : Int32)))] [] (I0, J0, mj_R1)
      else
        (vp_in x3 40 ∧ ((True ∧ ∃ (r1 : Int32) (I1 : Nat → Nat → Int32) (J1 : Nat → Nat → Int64), cal 155 [.int (4 : Int32), .int x4, .int x3] (I0, J0, mj_R1) (.int r1, (I1, J1, mj_R1)) ∧ ((vp_in r1 960 ∧ ((vp_in x3 40 ∧ (K 22 [(0, .ref 33), (1, .ref 1), (2, .int x2), (3, .int x3), (4, .int (x4 + (1 : Int32)))] [] ((mj_up I1 36 x3.toNatClampNeg ((I0 36 x3.toNatClampNeg) + (I1 5 r1.toNatClampNeg))), J1, mj_R1)))))))))))))) :
    mj_go mj_S1 mt_222 cal Q K 22 [(0, .ref 33), (1, .ref 1), (2, .int x2), (3, .int x3), (4, .int x4)] [] (I0, J0, mj_R1) := h
-- UnbeatenHouse$Judge.allows(LUnbeatenHouse$Tale;I[I)Z (('c', 34), ('c', 1), 'I', ('c', 36))
set_option maxRecDepth 100000 in
set_option maxHeartbeats 8000000 in
theorem e223 {cal : Nat → List Value → mj_H → mj_R → Prop} {Q : mj_R → Prop} {K : Nat → mj_K} {I0 : Nat → Nat → Int32} {J0 : Nat → Nat → Int64} (x2 : Int32)
    (h : K 6 [(0, .ref 34), (1, .ref 1), (2, .int x2), (3, .ref 36), (4, .int (0 : Int32)), (5, .int (0 : Int32))] [] (I0, J0, mj_R1)) :
    mj_if (Nat.ble (mj_sz [.ref 34, .ref 1, .int x2, .ref 36]) mt_223.2.2) (mj_sg mj_S1 mt_223 cal Q K 100 0 (mj_a0 0 [.ref 34, .ref 1, .int x2, .ref 36]) [] (I0, J0, mj_R1)) := h
set_option maxRecDepth 100000 in
set_option maxHeartbeats 8000000 in
theorem s223_6 {cal : Nat → List Value → mj_H → mj_R → Prop} {Q : mj_R → Prop} {K : Nat → mj_K} {I0 : Nat → Nat → Int32} {J0 : Nat → Nat → Int64} (x2 : Int32) (x4 : Int32) (x5 : Int32)
    (h : (vp_in (5 : Int32) 6 ∧ ((if (I0 2 (5 : Int32).toNatClampNeg) ≤ x5 then
      (((1 : Int32) = 0 ∨ (1 : Int32) = 1) ∧ Q (.int (1 : Int32), (I0, J0, mj_R1)))
    else
      K 22 [(0, .ref 34), (1, .ref 1), (2, .int x2), (3, .ref 36), (4, .int x4), (5, .int x5)] [] ((mj_up I0 34 1 (0 : Int32)), J0, mj_R1))))) :
    mj_go mj_S1 mt_223 cal Q K 6 [(0, .ref 34), (1, .ref 1), (2, .int x2), (3, .ref 36), (4, .int x4), (5, .int x5)] [] (I0, J0, mj_R1) := h
set_option maxRecDepth 100000 in
set_option maxHeartbeats 8000000 in
theorem s223_22 {cal : Nat → List Value → mj_H → mj_R → Prop} {Q : mj_R → Prop} {K : Nat → mj_K} {I0 : Nat → Nat → Int32} {J0 : Nat → Nat → Int64} (x2 : Int32) (x4 : Int32) (x5 : Int32)
    (h : (vp_in x5 12 ∧ ((if (I0 10 x5.toNatClampNeg) ≤ x4 then
      (True ∧ ∃ (r1 : Int32) (I1 : Nat → Nat → Int32) (J1 : Nat → Nat → Int64), cal 226 [.ref 34] (I0, J0, mj_R1) (.int r1, (I1, J1, mj_R1)) ∧ ((if r1 = 0 then
        (((0 : Int32) = 0 ∨ (0 : Int32) = 1) ∧ Q (.int (0 : Int32), (I1, J1, mj_R1)))
      else
        K 6 [(0, .ref 34), (1, .ref 1), (2, .int x2), (3, .ref 36), (4, .int x4), (5, .int (x5 + (1 : Int32)))] [] (I1, J1, mj_R1))))
    else
      (vp_in x4 900 ∧ ((vp_in x4 900 ∧ ((True ∧ ∃ (I2 : Nat → Nat → Int32) (J2 : Nat → Nat → Int64), cal 224 [.ref 34, .int ((I0 9 x4.toNatClampNeg) >>> ((14 : Int32) &&& 31)), .int ((I0 9 x4.toNatClampNeg) &&& (16383 : Int32)), .int x2, .ref 36] (I0, J0, mj_R1) (.null, (I2, J2, mj_R1)) ∧ (K 22 [(0, .ref 34), (1, .ref 1), (2, .int x2), (3, .ref 36), (4, .int (x4 + (1 : Int32))), (5, .int x5)] [] (I2, J2, mj_R1))))))))))) :
    mj_go mj_S1 mt_223 cal Q K 22 [(0, .ref 34), (1, .ref 1), (2, .int x2), (3, .ref 36), (4, .int x4), (5, .int x5)] [] (I0, J0, mj_R1) := h
-- UnbeatenHouse$Judge.work(III[I)V (('c', 34), 'I', 'I', 'I', ('c', 36))
set_option maxRecDepth 100000 in
set_option maxHeartbeats 8000000 in
theorem e224 {cal : Nat → List Value → mj_H → mj_R → Prop} {Q : mj_R → Prop} {K : Nat → mj_K} {I0 : Nat → Nat → Int32} {J0 : Nat → Nat → Int64} (x1 : Int32) (x2 : Int32) (x3 : Int32)
    (h : (if x1 = (10 : Int32) then
      (True ∧ ∃ (r5 : Int32) (I5 : Nat → Nat → Int32) (J5 : Nat → Nat → Int64), cal 226 [.ref 34] (I0, J0, mj_R1) (.int r5, (I5, J5, mj_R1)) ∧ ((True ∧ ∃ (I6 : Nat → Nat → Int32) (J6 : Nat → Nat → Int64), cal 225 [.ref 34, .int ((1 : Int32) - r5)] (I5, J5, mj_R1) (.null, (I6, J6, mj_R1)) ∧ (Q (.null, (I6, J6, mj_R1))))))
    else (if x1 = (11 : Int32) then
      (True ∧ ∃ (I7 : Nat → Nat → Int32) (J7 : Nat → Nat → Int64), cal 225 [.ref 34, .int (1 : Int32)] (I0, J0, mj_R1) (.null, (I7, J7, mj_R1)) ∧ (Q (.null, (I7, J7, mj_R1))))
    else (if x1 = (12 : Int32) then
      (True ∧ ∃ (I8 : Nat → Nat → Int32) (J8 : Nat → Nat → Int64), cal 225 [.ref 34, .int ((x3 >>> (x2 &&& 31)) &&& (1 : Int32))] (I0, J0, mj_R1) (.null, (I8, J8, mj_R1)) ∧ (Q (.null, (I8, J8, mj_R1))))
    else (if x1 = (13 : Int32) then
      (True ∧ ∃ (r9 : Int32) (I9 : Nat → Nat → Int32) (J9 : Nat → Nat → Int64), cal 3 [.int x3] (I0, J0, mj_R1) (.int r9, (I9, J9, mj_R1)) ∧ ((True ∧ ∃ (I10 : Nat → Nat → Int32) (J10 : Nat → Nat → Int64), cal 225 [.ref 34, .int r9] (I9, J9, mj_R1) (.null, (I10, J10, mj_R1)) ∧ (Q (.null, (I10, J10, mj_R1))))))
    else (if x1 = (14 : Int32) then
      (if (4 : Int32) ≤ x2 then
        (True ∧ ∃ (I11 : Nat → Nat → Int32) (J11 : Nat → Nat → Int64), cal 225 [.ref 34, .int (0 : Int32)] (I0, J0, mj_R1) (.null, (I11, J11, mj_R1)) ∧ (Q (.null, (I11, J11, mj_R1))))
      else
        (vp_in x2 40 ∧ ((True ∧ ∃ (I12 : Nat → Nat → Int32) (J12 : Nat → Nat → Int64), cal 225 [.ref 34, .int (I0 36 x2.toNatClampNeg)] (I0, J0, mj_R1) (.null, (I12, J12, mj_R1)) ∧ (Q (.null, (I12, J12, mj_R1)))))))
    else (if x1 = (15 : Int32) then
      (True ∧ ∃ (r13 : Int32) (I13 : Nat → Nat → Int32) (J13 : Nat → Nat → Int64), cal 226 [.ref 34] (I0, J0, mj_R1) (.int r13, (I13, J13, mj_R1)) ∧ ((True ∧ ∃ (r14 : Int32) (I14 : Nat → Nat → Int32) (J14 : Nat → Nat → Int64), cal 226 [.ref 34] (I13, J13, mj_R1) (.int r14, (I14, J14, mj_R1)) ∧ ((True ∧ ∃ (r15 : Int32) (I15 : Nat → Nat → Int32) (J15 : Nat → Nat → Int64), cal 227 [.int x1, .int r14, .int r13] (I14, J14, mj_R1) (.int r15, (I15, J15, mj_R1)) ∧ ((True ∧ ∃ (I16 : Nat → Nat → Int32) (J16 : Nat → Nat → Int64), cal 225 [.ref 34, .int r15] (I15, J15, mj_R1) (.null, (I16, J16, mj_R1)) ∧ (Q (.null, (I16, J16, mj_R1))))))))))
    else (if x1 = (16 : Int32) then
      (True ∧ ∃ (r17 : Int32) (I17 : Nat → Nat → Int32) (J17 : Nat → Nat → Int64), cal 226 [.ref 34] (I0, J0, mj_R1) (.int r17, (I17, J17, mj_R1)) ∧ ((True ∧ ∃ (r18 : Int32) (I18 : Nat → Nat → Int32) (J18 : Nat → Nat → Int64), cal 226 [.ref 34] (I17, J17, mj_R1) (.int r18, (I18, J18, mj_R1)) ∧ ((True ∧ ∃ (r19 : Int32) (I19 : Nat → Nat → Int32) (J19 : Nat → Nat → Int64), cal 227 [.int x1, .int r18, .int r17] (I18, J18, mj_R1) (.int r19, (I19, J19, mj_R1)) ∧ ((True ∧ ∃ (I20 : Nat → Nat → Int32) (J20 : Nat → Nat → Int64), cal 225 [.ref 34, .int r19] (I19, J19, mj_R1) (.null, (I20, J20, mj_R1)) ∧ (Q (.null, (I20, J20, mj_R1))))))))))
    else (if x1 = (17 : Int32) then
      (True ∧ ∃ (I21 : Nat → Nat → Int32) (J21 : Nat → Nat → Int64), cal 225 [.ref 34, .int x2] (I0, J0, mj_R1) (.null, (I21, J21, mj_R1)) ∧ (Q (.null, (I21, J21, mj_R1))))
    else (True ∧ ∃ (r1 : Int32) (I1 : Nat → Nat → Int32) (J1 : Nat → Nat → Int64), cal 226 [.ref 34] (I0, J0, mj_R1) (.int r1, (I1, J1, mj_R1)) ∧ ((True ∧ ∃ (r2 : Int32) (I2 : Nat → Nat → Int32) (J2 : Nat → Nat → Int64), cal 226 [.ref 34] (I1, J1, mj_R1) (.int r2, (I2, J2, mj_R1)) ∧ ((True ∧ ∃ (r3 : Int32) (I3 : Nat → Nat → Int32) (J3 : Nat → Nat → Int64), cal 227 [.int x1, .int r2, .int r1] (I2, J2, mj_R1) (.int r3, (I3, J3, mj_R1)) ∧ ((True ∧ ∃ (I4 : Nat → Nat → Int32) (J4 : Nat → Nat → Int64), cal 225 [.ref 34, .int r3] (I3, J3, mj_R1) (.null, (I4, J4, mj_R1)) ∧ (Q (.null, (I4, J4, mj_R1))))))))))))))))))) :
    mj_if (Nat.ble (mj_sz [.ref 34, .int x1, .int x2, .int x3, .ref 36]) mt_224.2.2) (mj_sg mj_S1 mt_224 cal Q K 100 0 (mj_a0 0 [.ref 34, .int x1, .int x2, .int x3, .ref 36]) [] (I0, J0, mj_R1)) := h
-- UnbeatenHouse$Judge.push(I)V (('c', 34), 'I')
set_option maxRecDepth 100000 in
set_option maxHeartbeats 8000000 in
theorem e225 {cal : Nat → List Value → mj_H → mj_R → Prop} {Q : mj_R → Prop} {K : Nat → mj_K} {I0 : Nat → Nat → Int32} {J0 : Nat → Nat → Int64} (x1 : Int32)
    (h : (if (64 : Int32) ≤ (I0 34 1) then
      Q (.null, (I0, J0, mj_R1))
    else
      (vp_in (I0 34 1) 64 ∧ (Q (.null, ((mj_up (mj_up I0 35 (I0 34 1).toNatClampNeg x1) 34 1 ((I0 34 1) + (1 : Int32))), J0, mj_R1)))))) :
    mj_if (Nat.ble (mj_sz [.ref 34, .int x1]) mt_225.2.2) (mj_sg mj_S1 mt_225 cal Q K 100 0 (mj_a0 0 [.ref 34, .int x1]) [] (I0, J0, mj_R1)) := h
-- UnbeatenHouse$Judge.pop()I (('c', 34),)
set_option maxRecDepth 100000 in
set_option maxHeartbeats 8000000 in
theorem e226 {cal : Nat → List Value → mj_H → mj_R → Prop} {Q : mj_R → Prop} {K : Nat → mj_K} {I0 : Nat → Nat → Int32} {J0 : Nat → Nat → Int64}
    (h : (if (I0 34 1) = 0 then
      Q (.int (0 : Int32), (I0, J0, mj_R1))
    else
      (vp_in ((I0 34 1) - (1 : Int32)) 64 ∧ (Q (.int (I0 35 ((I0 34 1) - (1 : Int32)).toNatClampNeg), ((mj_up I0 34 1 ((I0 34 1) - (1 : Int32))), J0, mj_R1)))))) :
    mj_if (Nat.ble (mj_sz [.ref 34]) mt_226.2.2) (mj_sg mj_S1 mt_226 cal Q K 100 0 (mj_a0 0 [.ref 34]) [] (I0, J0, mj_R1)) := h
-- UnbeatenHouse$Judge.join(III)I ('I', 'I', 'I')
set_option maxRecDepth 100000 in
set_option maxHeartbeats 8000000 in
theorem e227 {cal : Nat → List Value → mj_H → mj_R → Prop} {Q : mj_R → Prop} {K : Nat → mj_K} {I0 : Nat → Nat → Int32} {J0 : Nat → Nat → Int64} (x0 : Int32) (x1 : Int32) (x2 : Int32)
    (h : (if x0 = (15 : Int32) then
      (True ∧ ∃ (r2 : Int32) (I2 : Nat → Nat → Int32) (J2 : Nat → Nat → Int64), cal 0 [.int x1, .int x2] (I0, J0, mj_R1) (.int r2, (I2, J2, mj_R1)) ∧ (Q (.int r2, (I2, J2, mj_R1))))
    else (if x0 = (16 : Int32) then
      (True ∧ ∃ (r3 : Int32) (I3 : Nat → Nat → Int32) (J3 : Nat → Nat → Int64), cal 1 [.int x1, .int x2] (I0, J0, mj_R1) (.int r3, (I3, J3, mj_R1)) ∧ (Q (.int r3, (I3, J3, mj_R1))))
    else (if x0 = (42 : Int32) then
      (True ∧ ∃ (r4 : Int32) (I4 : Nat → Nat → Int32) (J4 : Nat → Nat → Int64), cal 228 [.long (x1.toInt64 * x2.toInt64)] (I0, J0, mj_R1) (.int r4, (I4, J4, mj_R1)) ∧ (Q (.int r4, (I4, J4, mj_R1))))
    else (if x0 = (43 : Int32) then
      (True ∧ ∃ (r5 : Int32) (I5 : Nat → Nat → Int32) (J5 : Nat → Nat → Int64), cal 228 [.long (x1.toInt64 + x2.toInt64)] (I0, J0, mj_R1) (.int r5, (I5, J5, mj_R1)) ∧ (Q (.int r5, (I5, J5, mj_R1))))
    else (if x0 = (45 : Int32) then
      (True ∧ ∃ (r6 : Int32) (I6 : Nat → Nat → Int32) (J6 : Nat → Nat → Int64), cal 228 [.long (x1.toInt64 - x2.toInt64)] (I0, J0, mj_R1) (.int r6, (I6, J6, mj_R1)) ∧ (Q (.int r6, (I6, J6, mj_R1))))
    else (if x0 = (47 : Int32) then
      (if x2 = 0 then
        Q (.int (0 : Int32), (I0, J0, mj_R1))
      else
        (True ∧ ∃ (r7 : Int32) (I7 : Nat → Nat → Int32) (J7 : Nat → Nat → Int64), cal 6 [.int x1, .int x2] (I0, J0, mj_R1) (.int r7, (I7, J7, mj_R1)) ∧ (Q (.int r7, (I7, J7, mj_R1)))))
    else (True ∧ ∃ (r1 : Int32) (I1 : Nat → Nat → Int32) (J1 : Nat → Nat → Int64), cal 229 [.int x0, .int x1, .int x2] (I0, J0, mj_R1) (.int r1, (I1, J1, mj_R1)) ∧ ((if r1 = 0 then
        Q (.int (0 : Int32), (I1, J1, mj_R1))
      else
        Q (.int (1 : Int32), (I1, J1, mj_R1)))))))))))) :
    mj_if (Nat.ble (mj_sz [.int x0, .int x1, .int x2]) mt_227.2.2) (mj_sg mj_S1 mt_227 cal Q K 100 0 (mj_a0 0 [.int x0, .int x1, .int x2]) [] (I0, J0, mj_R1)) := h
-- UnbeatenHouse$Judge.bounded(J)I ('J',)
set_option maxRecDepth 100000 in
set_option maxHeartbeats 8000000 in
theorem e228 {cal : Nat → List Value → mj_H → mj_R → Prop} {Q : mj_R → Prop} {K : Nat → mj_K} {I0 : Nat → Nat → Int32} {J0 : Nat → Nat → Int64} (x0 : Int64)
    (h : (True ∧ ∃ (r1 : Int64) (I1 : Nat → Nat → Int32) (J1 : Nat → Nat → Int64), cal 4 [.long (1000000000 : Int64), .long x0] (I0, J0, mj_R1) (.long r1, (I1, J1, mj_R1)) ∧ ((True ∧ ∃ (r2 : Int64) (I2 : Nat → Nat → Int32) (J2 : Nat → Nat → Int64), cal 5 [.long (-1000000000 : Int64), .long r1] (I1, J1, mj_R1) (.long r2, (I2, J2, mj_R1)) ∧ (Q (.int r2.toInt32, (I2, J2, mj_R1))))))) :
    mj_if (Nat.ble (mj_sz [.long x0]) mt_228.2.2) (mj_sg mj_S1 mt_228 cal Q K 100 0 (mj_a0 0 [.long x0]) [] (I0, J0, mj_R1)) := h
-- UnbeatenHouse$Judge.holds(III)Z ('I', 'I', 'I')
set_option maxRecDepth 100000 in
set_option maxHeartbeats 8000000 in
theorem e229 {cal : Nat → List Value → mj_H → mj_R → Prop} {Q : mj_R → Prop} {K : Nat → mj_K} {I0 : Nat → Nat → Int32} {J0 : Nat → Nat → Int64} (x0 : Int32) (x1 : Int32) (x2 : Int32)
    (h : (if x0 = (9 : Int32) then
      (if x1 = 0 then
        (((0 : Int32) = 0 ∨ (0 : Int32) = 1) ∧ Q (.int (0 : Int32), (I0, J0, mj_R1)))
      else
        (if x2 = 0 then
          (((0 : Int32) = 0 ∨ (0 : Int32) = 1) ∧ Q (.int (0 : Int32), (I0, J0, mj_R1)))
        else
          (((1 : Int32) = 0 ∨ (1 : Int32) = 1) ∧ Q (.int (1 : Int32), (I0, J0, mj_R1)))))
    else (if x0 = (60 : Int32) then
      (if x2 ≤ x1 then
        (((0 : Int32) = 0 ∨ (0 : Int32) = 1) ∧ Q (.int (0 : Int32), (I0, J0, mj_R1)))
      else
        (((1 : Int32) = 0 ∨ (1 : Int32) = 1) ∧ Q (.int (1 : Int32), (I0, J0, mj_R1))))
    else (if x0 = (61 : Int32) then
      (if x1 = x2 then
        (((1 : Int32) = 0 ∨ (1 : Int32) = 1) ∧ Q (.int (1 : Int32), (I0, J0, mj_R1)))
      else
        (((0 : Int32) = 0 ∨ (0 : Int32) = 1) ∧ Q (.int (0 : Int32), (I0, J0, mj_R1))))
    else (if x0 = (62 : Int32) then
      (if x1 ≤ x2 then
        (((0 : Int32) = 0 ∨ (0 : Int32) = 1) ∧ Q (.int (0 : Int32), (I0, J0, mj_R1)))
      else
        (((1 : Int32) = 0 ∨ (1 : Int32) = 1) ∧ Q (.int (1 : Int32), (I0, J0, mj_R1))))
    else (if x1 = 0 then
        (if x2 = 0 then
          (((0 : Int32) = 0 ∨ (0 : Int32) = 1) ∧ Q (.int (0 : Int32), (I0, J0, mj_R1)))
        else
          (((1 : Int32) = 0 ∨ (1 : Int32) = 1) ∧ Q (.int (1 : Int32), (I0, J0, mj_R1))))
      else
        (((1 : Int32) = 0 ∨ (1 : Int32) = 1) ∧ Q (.int (1 : Int32), (I0, J0, mj_R1))))))))) :
    mj_if (Nat.ble (mj_sz [.int x0, .int x1, .int x2]) mt_229.2.2) (mj_sg mj_S1 mt_229 cal Q K 100 0 (mj_a0 0 [.int x0, .int x1, .int x2]) [] (I0, J0, mj_R1)) := h
-- UnbeatenHouse.loss(II)I (('c', 0), 'I', 'I')
set_option maxRecDepth 100000 in
set_option maxHeartbeats 8000000 in
theorem e230 {cal : Nat → List Value → mj_H → mj_R → Prop} {Q : mj_R → Prop} {K : Nat → mj_K} {I0 : Nat → Nat → Int32} {J0 : Nat → Nat → Int64} (x1 : Int32) (x2 : Int32)
    (h : (True ∧ ∃ (r1 : Int32) (I1 : Nat → Nat → Int32) (J1 : Nat → Nat → Int64), cal 231 [.ref 38, .int x1] (I0, J0, mj_R1) (.int r1, (I1, J1, mj_R1)) ∧ ((if r1 = 0 then
      Q (.int (-2000000000 : Int32), (I1, J1, mj_R1))
    else
      (True ∧ ∃ (r2 : Int32) (I2 : Nat → Nat → Int32) (J2 : Nat → Nat → Int64), cal 192 [.ref 1, .int (0 : Int32), .int x2] (I1, J1, mj_R1) (.int r2, (I2, J2, mj_R1)) ∧ ((if r2 = 0 then
        Q (.int (-2000000000 : Int32), (I2, J2, mj_R1))
      else
        (vp_in ((x1 * (4 : Int32)) + x2) 400 ∧ (Q (.int (I2 39 ((x1 * (4 : Int32)) + x2).toNatClampNeg), (I2, J2, mj_R1))))))))))) :
    mj_if (Nat.ble (mj_sz [.ref 0, .int x1, .int x2]) mt_230.2.2) (mj_sg mj_S1 mt_230 cal Q K 100 0 (mj_a0 0 [.ref 0, .int x1, .int x2]) [] (I0, J0, mj_R1)) := h
-- UnbeatenHouse$Front.isThere(I)Z (('c', 38), 'I')
set_option maxRecDepth 100000 in
set_option maxHeartbeats 8000000 in
theorem e231 {cal : Nat → List Value → mj_H → mj_R → Prop} {Q : mj_R → Prop} {K : Nat → mj_K} {I0 : Nat → Nat → Int32} {J0 : Nat → Nat → Int64} (x1 : Int32)
    (h : (if x1 < 0 then
      (((0 : Int32) = 0 ∨ (0 : Int32) = 1) ∧ Q (.int (0 : Int32), (I0, J0, mj_R1)))
    else
      (if (I0 38 1) ≤ x1 then
        (((0 : Int32) = 0 ∨ (0 : Int32) = 1) ∧ Q (.int (0 : Int32), (I0, J0, mj_R1)))
      else
        (((1 : Int32) = 0 ∨ (1 : Int32) = 1) ∧ Q (.int (1 : Int32), (I0, J0, mj_R1)))))) :
    mj_if (Nat.ble (mj_sz [.ref 38, .int x1]) mt_231.2.2) (mj_sg mj_S1 mt_231 cal Q K 100 0 (mj_a0 0 [.ref 38, .int x1]) [] (I0, J0, mj_R1)) := h
-- UnbeatenHouse.who(I)I (('c', 0), 'I')
set_option maxRecDepth 100000 in
set_option maxHeartbeats 8000000 in
theorem e232 {cal : Nat → List Value → mj_H → mj_R → Prop} {Q : mj_R → Prop} {K : Nat → mj_K} {I0 : Nat → Nat → Int32} {J0 : Nat → Nat → Int64} (x1 : Int32)
    (h : (True ∧ ∃ (r1 : Int32) (I1 : Nat → Nat → Int32) (J1 : Nat → Nat → Int64), cal 231 [.ref 38, .int x1] (I0, J0, mj_R1) (.int r1, (I1, J1, mj_R1)) ∧ ((if r1 = 0 then
      Q (.int (-1 : Int32), (I1, J1, mj_R1))
    else
      (if (I1 38 0) = (1 : Int32) then
        (vp_in x1 100 ∧ ((True ∧ ∃ (r2 : Int32) (I2 : Nat → Nat → Int32) (J2 : Nat → Nat → Int64), cal 233 [.long (J1 40 x1.toNatClampNeg)] (I1, J1, mj_R1) (.int r2, (I2, J2, mj_R1)) ∧ (Q (.int r2, (I2, J2, mj_R1))))))
      else
        (vp_in x1 100 ∧ (Q (.int (J1 40 x1.toNatClampNeg).toInt32, (I1, J1, mj_R1))))))))) :
    mj_if (Nat.ble (mj_sz [.ref 0, .int x1]) mt_232.2.2) (mj_sg mj_S1 mt_232 cal Q K 100 0 (mj_a0 0 [.ref 0, .int x1]) [] (I0, J0, mj_R1)) := h
-- UnbeatenHouse$Front.knotsOf(J)I ('J',)
set_option maxRecDepth 100000 in
set_option maxHeartbeats 8000000 in
theorem e233 {cal : Nat → List Value → mj_H → mj_R → Prop} {Q : mj_R → Prop} {K : Nat → mj_K} {I0 : Nat → Nat → Int32} {J0 : Nat → Nat → Int64} (x0 : Int64)
    (h : Q (.int (x0 &&& (15 : Int64)).toInt32, (I0, J0, mj_R1))) :
    mj_if (Nat.ble (mj_sz [.long x0]) mt_233.2.2) (mj_sg mj_S1 mt_233 cal Q K 100 0 (mj_a0 0 [.long x0]) [] (I0, J0, mj_R1)) := h
-- UnbeatenHouse.knot(II)I (('c', 0), 'I', 'I')
set_option maxRecDepth 100000 in
set_option maxHeartbeats 8000000 in
theorem e234 {cal : Nat → List Value → mj_H → mj_R → Prop} {Q : mj_R → Prop} {K : Nat → mj_K} {I0 : Nat → Nat → Int32} {J0 : Nat → Nat → Int64} (x1 : Int32) (x2 : Int32)
    (h : (True ∧ ∃ (r1 : Int32) (I1 : Nat → Nat → Int32) (J1 : Nat → Nat → Int64), cal 231 [.ref 38, .int x1] (I0, J0, mj_R1) (.int r1, (I1, J1, mj_R1)) ∧ ((if r1 = 0 then
      Q (.int (-1 : Int32), (I1, J1, mj_R1))
    else
      (if (I1 38 0) = (1 : Int32) then
        (if x2 < 0 then
          Q (.int (-1 : Int32), (I1, J1, mj_R1))
        else
          (vp_in x1 100 ∧ ((True ∧ ∃ (r2 : Int32) (I2 : Nat → Nat → Int32) (J2 : Nat → Nat → Int64), cal 233 [.long (J1 40 x1.toNatClampNeg)] (I1, J1, mj_R1) (.int r2, (I2, J2, mj_R1)) ∧ ((if r2 ≤ x2 then
            Q (.int (-1 : Int32), (I2, J2, mj_R1))
          else
            (vp_in x1 100 ∧ ((True ∧ ∃ (r3 : Int32) (I3 : Nat → Nat → Int32) (J3 : Nat → Nat → Int64), cal 235 [.long (J2 40 x1.toNatClampNeg), .int x2] (I2, J2, mj_R1) (.int r3, (I3, J3, mj_R1)) ∧ (Q (.int r3, (I3, J3, mj_R1))))))))))))
      else
        Q (.int (-1 : Int32), (I1, J1, mj_R1))))))) :
    mj_if (Nat.ble (mj_sz [.ref 0, .int x1, .int x2]) mt_234.2.2) (mj_sg mj_S1 mt_234 cal Q K 100 0 (mj_a0 0 [.ref 0, .int x1, .int x2]) [] (I0, J0, mj_R1)) := h
-- UnbeatenHouse$Front.knotOf(JI)I ('J', 'I')
set_option maxRecDepth 100000 in
set_option maxHeartbeats 8000000 in
theorem e235 {cal : Nat → List Value → mj_H → mj_R → Prop} {Q : mj_R → Prop} {K : Nat → mj_K} {I0 : Nat → Nat → Int32} {J0 : Nat → Nat → Int64} (x0 : Int64) (x2 : Int32)
    (h : Q (.int ((x0 >>> (((4 : Int32) * ((10 : Int32) - x2)).toInt64 &&& 63)).toInt32 &&& (15 : Int32)), (I0, J0, mj_R1))) :
    mj_if (Nat.ble (mj_sz [.long x0, .int x2]) mt_235.2.2) (mj_sg mj_S1 mt_235 cal Q K 100 0 (mj_a0 0 [.long x0, .int x2]) [] (I0, J0, mj_R1)) := h
-- UnbeatenHouse.grid(I)Z (('c', 0), 'I')
set_option maxRecDepth 100000 in
set_option maxHeartbeats 8000000 in
theorem e236 {cal : Nat → List Value → mj_H → mj_R → Prop} {Q : mj_R → Prop} {K : Nat → mj_K} {I0 : Nat → Nat → Int32} {J0 : Nat → Nat → Int64} (x1 : Int32)
    (h : (if x1 < (1 : Int32) then
      (((0 : Int32) = 0 ∨ (0 : Int32) = 1) ∧ Q (.int (0 : Int32), (I0, J0, mj_R1)))
    else
      (if x1 ≤ (12 : Int32) then
        (vp_in (0 : Int32) 6 ∧ ((True ∧ ∃ (I1 : Nat → Nat → Int32) (J1 : Nat → Nat → Int64), cal 186 [.ref 51, .int x1, .int (I0 2 (0 : Int32).toNatClampNeg)] (I0, J0, mj_R1) (.null, (I1, J1, mj_R1)) ∧ ((((1 : Int32) = 0 ∨ (1 : Int32) = 1) ∧ Q (.int (1 : Int32), (I1, J1, mj_R1)))))))
      else
        (((0 : Int32) = 0 ∨ (0 : Int32) = 1) ∧ Q (.int (0 : Int32), (I0, J0, mj_R1)))))) :
    mj_if (Nat.ble (mj_sz [.ref 0, .int x1]) mt_236.2.2) (mj_sg mj_S1 mt_236 cal Q K 100 0 (mj_a0 0 [.ref 0, .int x1]) [] (I0, J0, mj_R1)) := h
-- UnbeatenHouse.corner(I)I (('c', 0), 'I')
set_option maxRecDepth 100000 in
set_option maxHeartbeats 8000000 in
theorem e237 {cal : Nat → List Value → mj_H → mj_R → Prop} {Q : mj_R → Prop} {K : Nat → mj_K} {I0 : Nat → Nat → Int32} {J0 : Nat → Nat → Int64} (x1 : Int32)
    (h : (True ∧ ∃ (r1 : Int32) (I1 : Nat → Nat → Int32) (J1 : Nat → Nat → Int64), cal 231 [.ref 38, .int x1] (I0, J0, mj_R1) (.int r1, (I1, J1, mj_R1)) ∧ ((if r1 = 0 then
      Q (.int (-1 : Int32), (I1, J1, mj_R1))
    else
      K 17 [(0, .ref 0), (1, .int x1), (2, .int (0 : Int32)), (3, .int (0 : Int32))] [] (I1, J1, mj_R1))))) :
    mj_if (Nat.ble (mj_sz [.ref 0, .int x1]) mt_237.2.2) (mj_sg mj_S1 mt_237 cal Q K 100 0 (mj_a0 0 [.ref 0, .int x1]) [] (I0, J0, mj_R1)) := h
set_option maxRecDepth 100000 in
set_option maxHeartbeats 8000000 in
theorem s237_17 {cal : Nat → List Value → mj_H → mj_R → Prop} {Q : mj_R → Prop} {K : Nat → mj_K} {I0 : Nat → Nat → Int32} {J0 : Nat → Nat → Int64} (x1 : Int32) (x2 : Int32) (x3 : Int32)
    (h : (if (I0 51 2) ≤ x3 then
      Q (.int x2, (I0, J0, mj_R1))
    else
      (True ∧ ∃ (r1 : Int32) (I1 : Nat → Nat → Int32) (J1 : Nat → Nat → Int64), cal 238 [.ref 51, .int x3, .ref 38, .int x1] (I0, J0, mj_R1) (.int r1, (I1, J1, mj_R1)) ∧ ((if r1 = 0 then
        K 17 [(0, .ref 0), (1, .int x1), (2, .int x2), (3, .int (x3 + (1 : Int32)))] [] (I1, J1, mj_R1)
      else
        K 17 [(0, .ref 0), (1, .int x1), (2, .int (x2 + (1 : Int32))), (3, .int (x3 + (1 : Int32)))] [] (I1, J1, mj_R1)))))) :
    mj_go mj_S1 mt_237 cal Q K 17 [(0, .ref 0), (1, .int x1), (2, .int x2), (3, .int x3)] [] (I0, J0, mj_R1) := h
-- UnbeatenHouse$Weighings.isFirst(ILUnbeatenHouse$Front;I)Z (('c', 51), 'I', ('c', 38), 'I')
set_option maxRecDepth 100000 in
set_option maxHeartbeats 8000000 in
theorem e238 {cal : Nat → List Value → mj_H → mj_R → Prop} {Q : mj_R → Prop} {K : Nat → mj_K} {I0 : Nat → Nat → Int32} {J0 : Nat → Nat → Int64} (x1 : Int32) (x3 : Int32)
    (h : (True ∧ ∃ (r1 : Int32) (I1 : Nat → Nat → Int32) (J1 : Nat → Nat → Int64), cal 239 [.ref 51, .int x1, .ref 39, .int (x3 * (4 : Int32))] (I0, J0, mj_R1) (.int r1, (I1, J1, mj_R1)) ∧ (K 17 [(0, .ref 51), (1, .int x1), (2, .ref 38), (4, .int r1), (5, .int (0 : Int32))] [] (I1, J1, mj_R1)))) :
    mj_if (Nat.ble (mj_sz [.ref 51, .int x1, .ref 38, .int x3]) mt_238.2.2) (mj_sg mj_S1 mt_238 cal Q K 100 0 (mj_a0 0 [.ref 51, .int x1, .ref 38, .int x3]) [] (I0, J0, mj_R1)) := h
set_option maxRecDepth 100000 in
set_option maxHeartbeats 8000000 in
theorem s238_17 {cal : Nat → List Value → mj_H → mj_R → Prop} {Q : mj_R → Prop} {K : Nat → mj_K} {I0 : Nat → Nat → Int32} {J0 : Nat → Nat → Int64} (x1 : Int32) (x4 : Int32) (x5 : Int32)
    (h : (if (I0 38 1) ≤ x5 then
      (((1 : Int32) = 0 ∨ (1 : Int32) = 1) ∧ Q (.int (1 : Int32), (I0, J0, mj_R1)))
    else
      (True ∧ ∃ (r1 : Int32) (I1 : Nat → Nat → Int32) (J1 : Nat → Nat → Int64), cal 239 [.ref 51, .int x1, .ref 39, .int (x5 * (4 : Int32))] (I0, J0, mj_R1) (.int r1, (I1, J1, mj_R1)) ∧ ((if x4 ≤ r1 then
        K 17 [(0, .ref 51), (1, .int x1), (2, .ref 38), (4, .int x4), (5, .int (x5 + (1 : Int32)))] [] (I1, J1, mj_R1)
      else
        (((0 : Int32) = 0 ∨ (0 : Int32) = 1) ∧ Q (.int (0 : Int32), (I1, J1, mj_R1)))))))) :
    mj_go mj_S1 mt_238 cal Q K 17 [(0, .ref 51), (1, .int x1), (2, .ref 38), (4, .int x4), (5, .int x5)] [] (I0, J0, mj_R1) := h
-- UnbeatenHouse$Weighings.weigh(I[II)I (('c', 51), 'I', ('c', 25), 'I')
set_option maxRecDepth 100000 in
set_option maxHeartbeats 8000000 in
theorem e239_a {cal : Nat → List Value → mj_H → mj_R → Prop} {Q : mj_R → Prop} {K : Nat → mj_K} {I0 : Nat → Nat → Int32} {J0 : Nat → Nat → Int64} (x1 : Int32) (x3 : Int32)
    (h : K 6 [(0, .ref 51), (1, .int x1), (2, .ref 25), (3, .int x3), (4, .int (0 : Int32)), (5, .int (0 : Int32))] [] (I0, J0, mj_R1)) :
    mj_if (Nat.ble (mj_sz [.ref 51, .int x1, .ref 25, .int x3]) mt_239.2.2) (mj_sg mj_S1 mt_239 cal Q K 100 0 (mj_a0 0 [.ref 51, .int x1, .ref 25, .int x3]) [] (I0, J0, mj_R1)) := h
set_option maxRecDepth 100000 in
set_option maxHeartbeats 8000000 in
theorem s239_6_a {cal : Nat → List Value → mj_H → mj_R → Prop} {Q : mj_R → Prop} {K : Nat → mj_K} {I0 : Nat → Nat → Int32} {J0 : Nat → Nat → Int64} (x1 : Int32) (x3 : Int32) (x4 : Int32) (x5 : Int32)
    (h : (if (I0 51 1) ≤ x5 then
      Q (.int x4, (I0, J0, mj_R1))
    else
      (vp_in ((x1 * (4 : Int32)) + x5) 1820 ∧ ((vp_in (x3 + x5) 160 ∧ (K 6 [(0, .ref 51), (1, .int x1), (2, .ref 25), (3, .int x3), (4, .int (x4 + ((I0 52 ((x1 * (4 : Int32)) + x5).toNatClampNeg) * (I0 25 (x3 + x5).toNatClampNeg)))), (5, .int (x5 + (1 : Int32)))] [] (I0, J0, mj_R1))))))) :
    mj_go mj_S1 mt_239 cal Q K 6 [(0, .ref 51), (1, .int x1), (2, .ref 25), (3, .int x3), (4, .int x4), (5, .int x5)] [] (I0, J0, mj_R1) := h
-- UnbeatenHouse$Weighings.weigh(I[II)I (('c', 51), 'I', ('c', 39), 'I')
set_option maxRecDepth 100000 in
set_option maxHeartbeats 8000000 in
theorem e239_b {cal : Nat → List Value → mj_H → mj_R → Prop} {Q : mj_R → Prop} {K : Nat → mj_K} {I0 : Nat → Nat → Int32} {J0 : Nat → Nat → Int64} (x1 : Int32) (x3 : Int32)
    (h : K 6 [(0, .ref 51), (1, .int x1), (2, .ref 39), (3, .int x3), (4, .int (0 : Int32)), (5, .int (0 : Int32))] [] (I0, J0, mj_R1)) :
    mj_if (Nat.ble (mj_sz [.ref 51, .int x1, .ref 39, .int x3]) mt_239.2.2) (mj_sg mj_S1 mt_239 cal Q K 100 0 (mj_a0 0 [.ref 51, .int x1, .ref 39, .int x3]) [] (I0, J0, mj_R1)) := h
set_option maxRecDepth 100000 in
set_option maxHeartbeats 8000000 in
theorem s239_6_b {cal : Nat → List Value → mj_H → mj_R → Prop} {Q : mj_R → Prop} {K : Nat → mj_K} {I0 : Nat → Nat → Int32} {J0 : Nat → Nat → Int64} (x1 : Int32) (x3 : Int32) (x4 : Int32) (x5 : Int32)
    (h : (if (I0 51 1) ≤ x5 then
      Q (.int x4, (I0, J0, mj_R1))
    else
      (vp_in ((x1 * (4 : Int32)) + x5) 1820 ∧ ((vp_in (x3 + x5) 400 ∧ (K 6 [(0, .ref 51), (1, .int x1), (2, .ref 39), (3, .int x3), (4, .int (x4 + ((I0 52 ((x1 * (4 : Int32)) + x5).toNatClampNeg) * (I0 39 (x3 + x5).toNatClampNeg)))), (5, .int (x5 + (1 : Int32)))] [] (I0, J0, mj_R1))))))) :
    mj_go mj_S1 mt_239 cal Q K 6 [(0, .ref 51), (1, .int x1), (2, .ref 39), (3, .int x3), (4, .int x4), (5, .int x5)] [] (I0, J0, mj_R1) := h
-- UnbeatenHouse.weight(II)I (('c', 0), 'I', 'I')
set_option maxRecDepth 100000 in
set_option maxHeartbeats 8000000 in
theorem e240 {cal : Nat → List Value → mj_H → mj_R → Prop} {Q : mj_R → Prop} {K : Nat → mj_K} {I0 : Nat → Nat → Int32} {J0 : Nat → Nat → Int64} (x1 : Int32) (x2 : Int32)
    (h : (True ∧ ∃ (r1 : Int32) (I1 : Nat → Nat → Int32) (J1 : Nat → Nat → Int64), cal 231 [.ref 38, .int x1] (I0, J0, mj_R1) (.int r1, (I1, J1, mj_R1)) ∧ ((if r1 = 0 then
      Q (.int (-1 : Int32), (I1, J1, mj_R1))
    else
      (True ∧ ∃ (r2 : Int32) (I2 : Nat → Nat → Int32) (J2 : Nat → Nat → Int64), cal 192 [.ref 1, .int (0 : Int32), .int x2] (I1, J1, mj_R1) (.int r2, (I2, J2, mj_R1)) ∧ ((if r2 = 0 then
        Q (.int (-1 : Int32), (I2, J2, mj_R1))
      else
        K 27 [(0, .ref 0), (1, .int x1), (2, .int x2), (3, .int (0 : Int32))] [] (I2, J2, mj_R1)))))))) :
    mj_if (Nat.ble (mj_sz [.ref 0, .int x1, .int x2]) mt_240.2.2) (mj_sg mj_S1 mt_240 cal Q K 100 0 (mj_a0 0 [.ref 0, .int x1, .int x2]) [] (I0, J0, mj_R1)) := h
set_option maxRecDepth 100000 in
set_option maxHeartbeats 8000000 in
theorem s240_27 {cal : Nat → List Value → mj_H → mj_R → Prop} {Q : mj_R → Prop} {K : Nat → mj_K} {I0 : Nat → Nat → Int32} {J0 : Nat → Nat → Int64} (x1 : Int32) (x2 : Int32) (x3 : Int32)
    (h : (if (I0 51 2) ≤ x3 then
      Q (.int (-1 : Int32), (I0, J0, mj_R1))
    else
      (True ∧ ∃ (r1 : Int32) (I1 : Nat → Nat → Int32) (J1 : Nat → Nat → Int64), cal 238 [.ref 51, .int x3, .ref 38, .int x1] (I0, J0, mj_R1) (.int r1, (I1, J1, mj_R1)) ∧ ((if r1 = 0 then
        K 27 [(0, .ref 0), (1, .int x1), (2, .int x2), (3, .int (x3 + (1 : Int32)))] [] (I1, J1, mj_R1)
      else
        (vp_in ((x3 * (4 : Int32)) + x2) 1820 ∧ (Q (.int (I1 52 ((x3 * (4 : Int32)) + x2).toNatClampNeg), (I1, J1, mj_R1))))))))) :
    mj_go mj_S1 mt_240 cal Q K 27 [(0, .ref 0), (1, .int x1), (2, .int x2), (3, .int x3)] [] (I0, J0, mj_R1) := h
-- UnbeatenHouse.near(I)I (('c', 0), 'I')
set_option maxRecDepth 100000 in
set_option maxHeartbeats 8000000 in
theorem e241 {cal : Nat → List Value → mj_H → mj_R → Prop} {Q : mj_R → Prop} {K : Nat → mj_K} {I0 : Nat → Nat → Int32} {J0 : Nat → Nat → Int64} (x1 : Int32)
    (h : (if x1 < 0 then
      Q (.int (-1 : Int32), (I0, J0, mj_R1))
    else
      (if (9999 : Int32) < x1 then
        Q (.int (-1 : Int32), (I0, J0, mj_R1))
      else
        (True ∧ ∃ (r1 : Int32) (I1 : Nat → Nat → Int32) (J1 : Nat → Nat → Int64), cal 242 [.ref 38] (I0, J0, mj_R1) (.int r1, (I1, J1, mj_R1)) ∧ ((if r1 = 0 then
          Q (.int (-1 : Int32), (I1, J1, mj_R1))
        else
          (if (I1 38 1) ≤ (16 : Int32) then
            (vp_in (0 : Int32) 6 ∧ ((True ∧ ∃ (r2 : Int32) (I2 : Nat → Nat → Int32) (J2 : Nat → Nat → Int64), cal 243 [.ref 47, .ref 38, .int (I1 2 (0 : Int32).toNatClampNeg), .int x1] (I1, J1, mj_R1) (.int r2, (I2, J2, mj_R1)) ∧ (Q (.int r2, (I2, J2, mj_R1))))))
          else
            Q (.int (-1 : Int32), (I1, J1, mj_R1))))))))) :
    mj_if (Nat.ble (mj_sz [.ref 0, .int x1]) mt_241.2.2) (mj_sg mj_S1 mt_241 cal Q K 100 0 (mj_a0 0 [.ref 0, .int x1]) [] (I0, J0, mj_R1)) := h
-- UnbeatenHouse$Front.isAtHand()Z (('c', 38),)
set_option maxRecDepth 100000 in
set_option maxHeartbeats 8000000 in
theorem e242 {cal : Nat → List Value → mj_H → mj_R → Prop} {Q : mj_R → Prop} {K : Nat → mj_K} {I0 : Nat → Nat → Int32} {J0 : Nat → Nat → Int64}
    (h : (if (I0 38 0) = (-1 : Int32) then
      (((0 : Int32) = 0 ∨ (0 : Int32) = 1) ∧ Q (.int (0 : Int32), (I0, J0, mj_R1)))
    else
      (((1 : Int32) = 0 ∨ (1 : Int32) = 1) ∧ Q (.int (1 : Int32), (I0, J0, mj_R1))))) :
    mj_if (Nat.ble (mj_sz [.ref 38]) mt_242.2.2) (mj_sg mj_S1 mt_242 cal Q K 100 0 (mj_a0 0 [.ref 38]) [] (I0, J0, mj_R1)) := h
-- UnbeatenHouse$Picker.pickFewest(LUnbeatenHouse$Front;II)I (('c', 47), ('c', 38), 'I', 'I')
set_option maxRecDepth 100000 in
set_option maxHeartbeats 8000000 in
theorem e243 {cal : Nat → List Value → mj_H → mj_R → Prop} {Q : mj_R → Prop} {K : Nat → mj_K} {I0 : Nat → Nat → Int32} {J0 : Nat → Nat → Int64} (x2 : Int32) (x3 : Int32)
    (h : (True ∧ ∃ (I1 : Nat → Nat → Int32) (J1 : Nat → Nat → Int64), cal 244 [.ref 47, .ref 38, .int x2] (I0, J0, mj_R1) (.null, (I1, J1, mj_R1)) ∧ (K 9 [(0, .ref 47), (3, .int x3), (4, .int (0 : Int32))] [] (I1, J1, mj_R1)))) :
    mj_if (Nat.ble (mj_sz [.ref 47, .ref 38, .int x2, .int x3]) mt_243.2.2) (mj_sg mj_S1 mt_243 cal Q K 100 0 (mj_a0 0 [.ref 47, .ref 38, .int x2, .int x3]) [] (I0, J0, mj_R1)) := h
set_option maxRecDepth 100000 in
set_option maxHeartbeats 8000000 in
theorem s243_9 {cal : Nat → List Value → mj_H → mj_R → Prop} {Q : mj_R → Prop} {K : Nat → mj_K} {I0 : Nat → Nat → Int32} {J0 : Nat → Nat → Int64} (x3 : Int32) (x4 : Int32)
    (h : (if (I0 47 0) < x4 then
      Q (.int (-1 : Int32), (I0, J0, mj_R1))
    else
      (if (16 : Int32) < x4 then
        Q (.int (-1 : Int32), (I0, J0, mj_R1))
      else
        (True ∧ ∃ (r1 : Int32) (I1 : Nat → Nat → Int32) (J1 : Nat → Nat → Int64), cal 246 [.ref 47, .int x4, .int (x3 + (1 : Int32)), .int x3] (I0, J0, mj_R1) (.int r1, (I1, J1, mj_R1)) ∧ ((if x3 < r1 then
          K 9 [(0, .ref 47), (3, .int x3), (4, .int (x4 + (1 : Int32)))] [] (I1, J1, mj_R1)
        else
          Q (.int x4, (I1, J1, mj_R1)))))))) :
    mj_go mj_S1 mt_243 cal Q K 9 [(0, .ref 47), (3, .int x3), (4, .int x4)] [] (I0, J0, mj_R1) := h
-- UnbeatenHouse$Picker.measure(LUnbeatenHouse$Front;I)V (('c', 47), ('c', 38), 'I')
set_option maxRecDepth 100000 in
set_option maxHeartbeats 8000000 in
theorem e244 {cal : Nat → List Value → mj_H → mj_R → Prop} {Q : mj_R → Prop} {K : Nat → mj_K} {I0 : Nat → Nat → Int32} {J0 : Nat → Nat → Int64} (x2 : Int32)
    (h : (True ∧ ∃ (r1 : Int32) (I1 : Nat → Nat → Int32) (J1 : Nat → Nat → Int64), cal 0 [.int (I0 38 1), .int (24 : Int32)] (I0, J0, mj_R1) (.int r1, (I1, J1, mj_R1)) ∧ (K 15 [(0, .ref 47), (1, .ref 38), (2, .int x2), (3, .int (0 : Int32))] [] ((mj_up I1 47 0 r1), J1, mj_R1)))) :
    mj_if (Nat.ble (mj_sz [.ref 47, .ref 38, .int x2]) mt_244.2.2) (mj_sg mj_S1 mt_244 cal Q K 100 0 (mj_a0 0 [.ref 47, .ref 38, .int x2]) [] (I0, J0, mj_R1)) := h
set_option maxRecDepth 100000 in
set_option maxHeartbeats 8000000 in
theorem s244_15 {cal : Nat → List Value → mj_H → mj_R → Prop} {Q : mj_R → Prop} {K : Nat → mj_K} {I0 : Nat → Nat → Int32} {J0 : Nat → Nat → Int64} (x2 : Int32) (x3 : Int32)
    (h : (if (I0 47 0) ≤ x3 then
      Q (.null, (I0, J0, mj_R1))
    else
      K 26 [(0, .ref 47), (1, .ref 38), (2, .int x2), (3, .int x3), (4, .int (0 : Int32))] [] (I0, J0, mj_R1))) :
    mj_go mj_S1 mt_244 cal Q K 15 [(0, .ref 47), (1, .ref 38), (2, .int x2), (3, .int x3)] [] (I0, J0, mj_R1) := h
set_option maxRecDepth 100000 in
set_option maxHeartbeats 8000000 in
theorem s244_26 {cal : Nat → List Value → mj_H → mj_R → Prop} {Q : mj_R → Prop} {K : Nat → mj_K} {I0 : Nat → Nat → Int32} {J0 : Nat → Nat → Int64} (x2 : Int32) (x3 : Int32) (x4 : Int32)
    (h : (if (I0 47 0) ≤ x4 then
      K 15 [(0, .ref 47), (1, .ref 38), (2, .int x2), (3, .int (x3 + (1 : Int32)))] [] (I0, J0, mj_R1)
    else
      K 41 [(0, .ref 47), (1, .ref 38), (2, .int x2), (3, .int x3), (4, .int x4), (5, .int (0 : Int32)), (6, .int (0 : Int32))] [] (I0, J0, mj_R1))) :
    mj_go mj_S1 mt_244 cal Q K 26 [(0, .ref 47), (1, .ref 38), (2, .int x2), (3, .int x3), (4, .int x4)] [] (I0, J0, mj_R1) := h
set_option maxRecDepth 100000 in
set_option maxHeartbeats 8000000 in
theorem s244_41 {cal : Nat → List Value → mj_H → mj_R → Prop} {Q : mj_R → Prop} {K : Nat → mj_K} {I0 : Nat → Nat → Int32} {J0 : Nat → Nat → Int64} (x2 : Int32) (x3 : Int32) (x4 : Int32) (x5 : Int32) (x6 : Int32)
    (h : (if x2 ≤ x6 then
      (vp_in ((x3 * (24 : Int32)) + x4) 576 ∧ (K 26 [(0, .ref 47), (1, .ref 38), (2, .int x2), (3, .int x3), (4, .int (x4 + (1 : Int32)))] [] ((mj_up I0 48 ((x3 * (24 : Int32)) + x4).toNatClampNeg x5), J0, mj_R1)))
    else
      (True ∧ ∃ (r1 : Int32) (I1 : Nat → Nat → Int32) (J1 : Nat → Nat → Int64), cal 245 [.ref 38, .int x3, .int x4, .int x6] (I0, J0, mj_R1) (.int r1, (I1, J1, mj_R1)) ∧ ((True ∧ ∃ (r2 : Int32) (I2 : Nat → Nat → Int32) (J2 : Nat → Nat → Int64), cal 1 [.int x5, .int r1] (I1, J1, mj_R1) (.int r2, (I2, J2, mj_R1)) ∧ (K 41 [(0, .ref 47), (1, .ref 38), (2, .int x2), (3, .int x3), (4, .int x4), (5, .int r2), (6, .int (x6 + (1 : Int32)))] [] (I2, J2, mj_R1))))))) :
    mj_go mj_S1 mt_244 cal Q K 41 [(0, .ref 47), (1, .ref 38), (2, .int x2), (3, .int x3), (4, .int x4), (5, .int x5), (6, .int x6)] [] (I0, J0, mj_R1) := h
-- UnbeatenHouse$Front.difference(III)I (('c', 38), 'I', 'I', 'I')
set_option maxRecDepth 100000 in
set_option maxHeartbeats 8000000 in
theorem e245 {cal : Nat → List Value → mj_H → mj_R → Prop} {Q : mj_R → Prop} {K : Nat → mj_K} {I0 : Nat → Nat → Int32} {J0 : Nat → Nat → Int64} (x1 : Int32) (x2 : Int32) (x3 : Int32)
    (h : (vp_in ((x1 * (4 : Int32)) + x3) 400 ∧ ((vp_in ((x2 * (4 : Int32)) + x3) 400 ∧ (Q (.int ((I0 39 ((x1 * (4 : Int32)) + x3).toNatClampNeg) - (I0 39 ((x2 * (4 : Int32)) + x3).toNatClampNeg)), (I0, J0, mj_R1))))))) :
    mj_if (Nat.ble (mj_sz [.ref 38, .int x1, .int x2, .int x3]) mt_245.2.2) (mj_sg mj_S1 mt_245 cal Q K 100 0 (mj_a0 0 [.ref 38, .int x1, .int x2, .int x3]) [] (I0, J0, mj_R1)) := h
-- UnbeatenHouse$Picker.pickOf(III)I (('c', 47), 'I', 'I', 'I')
set_option maxRecDepth 100000 in
set_option maxHeartbeats 8000000 in
theorem e246 {cal : Nat → List Value → mj_H → mj_R → Prop} {Q : mj_R → Prop} {K : Nat → mj_K} {I0 : Nat → Nat → Int32} {J0 : Nat → Nat → Int64} (x1 : Int32) (x2 : Int32) (x3 : Int32)
    (h : K 9 [(0, .ref 47), (1, .int x1), (3, .int x3), (4, .int x2), (5, .int (1 : Int32)), (6, .int (0 : Int32))] [] (I0, J0, mj_R1)) :
    mj_if (Nat.ble (mj_sz [.ref 47, .int x1, .int x2, .int x3]) mt_246.2.2) (mj_sg mj_S1 mt_246 cal Q K 100 0 (mj_a0 0 [.ref 47, .int x1, .int x2, .int x3]) [] (I0, J0, mj_R1)) := h
set_option maxRecDepth 100000 in
set_option maxHeartbeats 8000000 in
theorem s246_9 {cal : Nat → List Value → mj_H → mj_R → Prop} {Q : mj_R → Prop} {K : Nat → mj_K} {I0 : Nat → Nat → Int32} {J0 : Nat → Nat → Int64} (x1 : Int32) (x3 : Int32) (x4 : Int32) (x5 : Int32) (x6 : Int32)
    (h : (if x1 ≤ x6 then
      K 33 [(0, .ref 47), (1, .int x1), (3, .int x3), (4, .int x4), (5, .int x5), (6, .int (0 : Int32))] [] (I0, J0, mj_R1)
    else
      (vp_in x6 16 ∧ (K 9 [(0, .ref 47), (1, .int x1), (3, .int x3), (4, .int x4), (5, .int x5), (6, .int (x6 + (1 : Int32)))] [] ((mj_up I0 49 x6.toNatClampNeg x6), J0, mj_R1))))) :
    mj_go mj_S1 mt_246 cal Q K 9 [(0, .ref 47), (1, .int x1), (3, .int x3), (4, .int x4), (5, .int x5), (6, .int x6)] [] (I0, J0, mj_R1) := h
set_option maxRecDepth 100000 in
set_option maxHeartbeats 8000000 in
theorem s246_33 {cal : Nat → List Value → mj_H → mj_R → Prop} {Q : mj_R → Prop} {K : Nat → mj_K} {I0 : Nat → Nat → Int32} {J0 : Nat → Nat → Int64} (x1 : Int32) (x3 : Int32) (x4 : Int32) (x5 : Int32) (x6 : Int32)
    (h : (if (20000 : Int32) ≤ x6 then
      Q (.int x4, (I0, J0, mj_R1))
    else
      (if x5 = 0 then
        Q (.int x4, (I0, J0, mj_R1))
      else
        (True ∧ ∃ (r1 : Int32) (I1 : Nat → Nat → Int32) (J1 : Nat → Nat → Int64), cal 247 [.ref 47, .int x1, .int x4] (I0, J0, mj_R1) (.int r1, (I1, J1, mj_R1)) ∧ ((if x4 ≤ r1 then
          K 85 [(0, .ref 47), (1, .int x1), (3, .int x3), (4, .int x4), (6, .int x6)] [] (I1, J1, mj_R1)
        else
          ((¬ (0 : Int32) < 0 ∧ ¬ (0 : Int32) < 0 ∧ ¬ x1 < 0 ∧ (0 : Int32).toNatClampNeg + x1.toNatClampNeg ≤ 16 ∧ (0 : Int32).toNatClampNeg + x1.toNatClampNeg ≤ 16) ∧ (K 85 [(0, .ref 47), (1, .int x1), (3, .int x3), (4, .int r1), (6, .int x6)] [] ((mj_cp (mj_up I1 47 4 x1) 49 (0 : Int32).toNatClampNeg 50 (0 : Int32).toNatClampNeg x1.toNatClampNeg), J1, mj_R1))))))))) :
    mj_go mj_S1 mt_246 cal Q K 33 [(0, .ref 47), (1, .int x1), (3, .int x3), (4, .int x4), (5, .int x5), (6, .int x6)] [] (I0, J0, mj_R1) := h
set_option maxRecDepth 100000 in
set_option maxHeartbeats 8000000 in
theorem s246_85 {cal : Nat → List Value → mj_H → mj_R → Prop} {Q : mj_R → Prop} {K : Nat → mj_K} {I0 : Nat → Nat → Int32} {J0 : Nat → Nat → Int64} (x1 : Int32) (x3 : Int32) (x4 : Int32) (x6 : Int32)
    (h : (if x4 ≤ x3 then
      K 33 [(0, .ref 47), (1, .int x1), (3, .int x3), (4, .int x4), (5, .int (0 : Int32)), (6, .int (x6 + (1 : Int32)))] [] (I0, J0, mj_R1)
    else
      (True ∧ ∃ (r1 : Int32) (I1 : Nat → Nat → Int32) (J1 : Nat → Nat → Int64), cal 248 [.ref 47, .int x1] (I0, J0, mj_R1) (.int r1, (I1, J1, mj_R1)) ∧ ((if r1 = 0 then
        K 33 [(0, .ref 47), (1, .int x1), (3, .int x3), (4, .int x4), (5, .int (0 : Int32)), (6, .int (x6 + (1 : Int32)))] [] (I1, J1, mj_R1)
      else
        K 33 [(0, .ref 47), (1, .int x1), (3, .int x3), (4, .int x4), (5, .int (1 : Int32)), (6, .int (x6 + (1 : Int32)))] [] (I1, J1, mj_R1)))))) :
    mj_go mj_S1 mt_246 cal Q K 85 [(0, .ref 47), (1, .int x1), (3, .int x3), (4, .int x4), (6, .int x6)] [] (I0, J0, mj_R1) := h
-- UnbeatenHouse$Picker.farthest(II)I (('c', 47), 'I', 'I')
set_option maxRecDepth 100000 in
set_option maxHeartbeats 8000000 in
theorem e247 {cal : Nat → List Value → mj_H → mj_R → Prop} {Q : mj_R → Prop} {K : Nat → mj_K} {I0 : Nat → Nat → Int32} {J0 : Nat → Nat → Int64} (x1 : Int32) (x2 : Int32)
    (h : K 5 [(0, .ref 47), (1, .int x1), (2, .int x2), (3, .int (0 : Int32)), (4, .int (0 : Int32))] [] (I0, J0, mj_R1)) :
    mj_if (Nat.ble (mj_sz [.ref 47, .int x1, .int x2]) mt_247.2.2) (mj_sg mj_S1 mt_247 cal Q K 100 0 (mj_a0 0 [.ref 47, .int x1, .int x2]) [] (I0, J0, mj_R1)) := h
set_option maxRecDepth 100000 in
set_option maxHeartbeats 8000000 in
theorem s247_5 {cal : Nat → List Value → mj_H → mj_R → Prop} {Q : mj_R → Prop} {K : Nat → mj_K} {I0 : Nat → Nat → Int32} {J0 : Nat → Nat → Int64} (x1 : Int32) (x2 : Int32) (x3 : Int32) (x4 : Int32)
    (h : (if (I0 47 0) ≤ x4 then
      Q (.int x3, (I0, J0, mj_R1))
    else
      (if x2 ≤ x3 then
        Q (.int x3, (I0, J0, mj_R1))
      else
        K 26 [(0, .ref 47), (1, .int x1), (2, .int x2), (3, .int x3), (4, .int x4), (5, .int (2000000000 : Int32)), (6, .int (0 : Int32))] [] (I0, J0, mj_R1)))) :
    mj_go mj_S1 mt_247 cal Q K 5 [(0, .ref 47), (1, .int x1), (2, .int x2), (3, .int x3), (4, .int x4)] [] (I0, J0, mj_R1) := h
set_option maxRecDepth 100000 in
set_option maxHeartbeats 8000000 in
theorem s247_26 {cal : Nat → List Value → mj_H → mj_R → Prop} {Q : mj_R → Prop} {K : Nat → mj_K} {I0 : Nat → Nat → Int32} {J0 : Nat → Nat → Int64} (x1 : Int32) (x2 : Int32) (x3 : Int32) (x4 : Int32) (x5 : Int32) (x6 : Int32)
    (h : (if x1 ≤ x6 then
      (True ∧ ∃ (r1 : Int32) (I1 : Nat → Nat → Int32) (J1 : Nat → Nat → Int64), cal 1 [.int x3, .int x5] (I0, J0, mj_R1) (.int r1, (I1, J1, mj_R1)) ∧ (K 5 [(0, .ref 47), (1, .int x1), (2, .int x2), (3, .int r1), (4, .int (x4 + (1 : Int32)))] [] (I1, J1, mj_R1)))
    else
      (vp_in x6 16 ∧ ((vp_in (((I0 49 x6.toNatClampNeg) * (24 : Int32)) + x4) 576 ∧ ((True ∧ ∃ (r2 : Int32) (I2 : Nat → Nat → Int32) (J2 : Nat → Nat → Int64), cal 0 [.int x5, .int (I0 48 (((I0 49 x6.toNatClampNeg) * (24 : Int32)) + x4).toNatClampNeg)] (I0, J0, mj_R1) (.int r2, (I2, J2, mj_R1)) ∧ (K 26 [(0, .ref 47), (1, .int x1), (2, .int x2), (3, .int x3), (4, .int x4), (5, .int r2), (6, .int (x6 + (1 : Int32)))] [] (I2, J2, mj_R1))))))))) :
    mj_go mj_S1 mt_247 cal Q K 26 [(0, .ref 47), (1, .int x1), (2, .int x2), (3, .int x3), (4, .int x4), (5, .int x5), (6, .int x6)] [] (I0, J0, mj_R1) := h
-- UnbeatenHouse$Picker.moveOn(I)Z (('c', 47), 'I')
set_option maxRecDepth 100000 in
set_option maxHeartbeats 8000000 in
theorem e248 {cal : Nat → List Value → mj_H → mj_R → Prop} {Q : mj_R → Prop} {K : Nat → mj_K} {I0 : Nat → Nat → Int32} {J0 : Nat → Nat → Int64} (x1 : Int32)
    (h : K 4 [(0, .ref 47), (1, .int x1), (2, .int (x1 - (1 : Int32)))] [] (I0, J0, mj_R1)) :
    mj_if (Nat.ble (mj_sz [.ref 47, .int x1]) mt_248.2.2) (mj_sg mj_S1 mt_248 cal Q K 100 0 (mj_a0 0 [.ref 47, .int x1]) [] (I0, J0, mj_R1)) := h
set_option maxRecDepth 100000 in
set_option maxHeartbeats 8000000 in
theorem s248_4 {cal : Nat → List Value → mj_H → mj_R → Prop} {Q : mj_R → Prop} {K : Nat → mj_K} {I0 : Nat → Nat → Int32} {J0 : Nat → Nat → Int64} (x1 : Int32) (x2 : Int32)
    (h : (if x2 < 0 then
      (((0 : Int32) = 0 ∨ (0 : Int32) = 1) ∧ Q (.int (0 : Int32), (I0, J0, mj_R1)))
    else
      (vp_in x2 16 ∧ ((if (((I0 47 0) - x1) + x2) ≤ (I0 49 x2.toNatClampNeg) then
        K 4 [(0, .ref 47), (1, .int x1), (2, .int (x2 + (-1 : Int32)))] [] (I0, J0, mj_R1)
      else
        (vp_in x2 16 ∧ ((vp_in x2 16 ∧ (K 39 [(0, .ref 47), (1, .int x1), (3, .int (x2 + (1 : Int32)))] [] ((mj_up I0 49 x2.toNatClampNeg ((I0 49 x2.toNatClampNeg) + (1 : Int32))), J0, mj_R1)))))))))) :
    mj_go mj_S1 mt_248 cal Q K 4 [(0, .ref 47), (1, .int x1), (2, .int x2)] [] (I0, J0, mj_R1) := h
set_option maxRecDepth 100000 in
set_option maxHeartbeats 8000000 in
theorem s248_39 {cal : Nat → List Value → mj_H → mj_R → Prop} {Q : mj_R → Prop} {K : Nat → mj_K} {I0 : Nat → Nat → Int32} {J0 : Nat → Nat → Int64} (x1 : Int32) (x3 : Int32)
    (h : (if x1 ≤ x3 then
      (((1 : Int32) = 0 ∨ (1 : Int32) = 1) ∧ Q (.int (1 : Int32), (I0, J0, mj_R1)))
    else
      (vp_in (x3 - (1 : Int32)) 16 ∧ ((vp_in x3 16 ∧ (K 39 [(0, .ref 47), (1, .int x1), (3, .int (x3 + (1 : Int32)))] [] ((mj_up I0 49 x3.toNatClampNeg ((I0 49 (x3 - (1 : Int32)).toNatClampNeg) + (1 : Int32))), J0, mj_R1))))))) :
    mj_go mj_S1 mt_248 cal Q K 39 [(0, .ref 47), (1, .int x1), (3, .int x3)] [] (I0, J0, mj_R1) := h
-- UnbeatenHouse.standIns(I)I (('c', 0), 'I')
set_option maxRecDepth 100000 in
set_option maxHeartbeats 8000000 in
theorem e249 {cal : Nat → List Value → mj_H → mj_R → Prop} {Q : mj_R → Prop} {K : Nat → mj_K} {I0 : Nat → Nat → Int32} {J0 : Nat → Nat → Int64} (x1 : Int32)
    (h : (if x1 < (1 : Int32) then
      Q (.int (-1 : Int32), (I0, J0, mj_R1))
    else
      (if (4 : Int32) < x1 then
        Q (.int (-1 : Int32), (I0, J0, mj_R1))
      else
        (True ∧ ∃ (r1 : Int32) (I1 : Nat → Nat → Int32) (J1 : Nat → Nat → Int64), cal 242 [.ref 38] (I0, J0, mj_R1) (.int r1, (I1, J1, mj_R1)) ∧ ((if r1 = 0 then
          Q (.int (-1 : Int32), (I1, J1, mj_R1))
        else
          (if (I1 38 1) < x1 then
            Q (.int (-1 : Int32), (I1, J1, mj_R1))
          else
            (if (I1 38 1) ≤ (24 : Int32) then
              (vp_in (0 : Int32) 6 ∧ ((True ∧ ∃ (r2 : Int32) (I2 : Nat → Nat → Int32) (J2 : Nat → Nat → Int64), cal 250 [.ref 47, .ref 38, .int (I1 2 (0 : Int32).toNatClampNeg), .int x1] (I1, J1, mj_R1) (.int r2, (I2, J2, mj_R1)) ∧ (Q (.int r2, (I2, J2, mj_R1))))))
            else
              Q (.int (-1 : Int32), (I1, J1, mj_R1)))))))))) :
    mj_if (Nat.ble (mj_sz [.ref 0, .int x1]) mt_249.2.2) (mj_sg mj_S1 mt_249 cal Q K 100 0 (mj_a0 0 [.ref 0, .int x1]) [] (I0, J0, mj_R1)) := h
-- UnbeatenHouse$Picker.pickClosest(LUnbeatenHouse$Front;II)I (('c', 47), ('c', 38), 'I', 'I')
set_option maxRecDepth 100000 in
set_option maxHeartbeats 8000000 in
theorem e250 {cal : Nat → List Value → mj_H → mj_R → Prop} {Q : mj_R → Prop} {K : Nat → mj_K} {I0 : Nat → Nat → Int32} {J0 : Nat → Nat → Int64} (x2 : Int32) (x3 : Int32)
    (h : (True ∧ ∃ (I1 : Nat → Nat → Int32) (J1 : Nat → Nat → Int64), cal 244 [.ref 47, .ref 38, .int x2] (I0, J0, mj_R1) (.null, (I1, J1, mj_R1)) ∧ ((True ∧ ∃ (r2 : Int32) (I2 : Nat → Nat → Int32) (J2 : Nat → Nat → Int64), cal 246 [.ref 47, .int x3, .int (2000000000 : Int32), .int (0 : Int32)] (I1, J1, mj_R1) (.int r2, (I2, J2, mj_R1)) ∧ (Q (.int r2, (I2, J2, mj_R1))))))) :
    mj_if (Nat.ble (mj_sz [.ref 47, .ref 38, .int x2, .int x3]) mt_250.2.2) (mj_sg mj_S1 mt_250 cal Q K 100 0 (mj_a0 0 [.ref 47, .ref 38, .int x2, .int x3]) [] (I0, J0, mj_R1)) := h
-- UnbeatenHouse.kept(I)I (('c', 0), 'I')
set_option maxRecDepth 100000 in
set_option maxHeartbeats 8000000 in
theorem e251 {cal : Nat → List Value → mj_H → mj_R → Prop} {Q : mj_R → Prop} {K : Nat → mj_K} {I0 : Nat → Nat → Int32} {J0 : Nat → Nat → Int64} (x1 : Int32)
    (h : (if x1 < 0 then
      Q (.int (-1 : Int32), (I0, J0, mj_R1))
    else
      (if (I0 47 4) ≤ x1 then
        Q (.int (-1 : Int32), (I0, J0, mj_R1))
      else
        (vp_in x1 16 ∧ (Q (.int (I0 50 x1.toNatClampNeg), (I0, J0, mj_R1))))))) :
    mj_if (Nat.ble (mj_sz [.ref 0, .int x1]) mt_251.2.2) (mj_sg mj_S1 mt_251 cal Q K 100 0 (mj_a0 0 [.ref 0, .int x1]) [] (I0, J0, mj_R1)) := h
-- UnbeatenHouse.cost(IIIZ)I (('c', 0), 'I', 'I', 'I', 'I')
set_option maxRecDepth 100000 in
set_option maxHeartbeats 8000000 in
theorem e252 {cal : Nat → List Value → mj_H → mj_R → Prop} {Q : mj_R → Prop} {K : Nat → mj_K} {I0 : Nat → Nat → Int32} {J0 : Nat → Nat → Int64} (x1 : Int32) (x2 : Int32) (x3 : Int32) (x4 : Int32)
    (h : (True ∧ ∃ (r1 : Int32) (I1 : Nat → Nat → Int32) (J1 : Nat → Nat → Int64), cal 231 [.ref 38, .int x1] (I0, J0, mj_R1) (.int r1, (I1, J1, mj_R1)) ∧ ((if r1 = 0 then
      Q (.int (-1 : Int32), (I1, J1, mj_R1))
    else
      (True ∧ ∃ (r2 : Int32) (I2 : Nat → Nat → Int32) (J2 : Nat → Nat → Int64), cal 192 [.ref 1, .int (0 : Int32), .int x2] (I1, J1, mj_R1) (.int r2, (I2, J2, mj_R1)) ∧ ((if r2 = 0 then
        Q (.int (-1 : Int32), (I2, J2, mj_R1))
      else
        (True ∧ ∃ (r3 : Int32) (I3 : Nat → Nat → Int32) (J3 : Nat → Nat → Int64), cal 192 [.ref 1, .int (0 : Int32), .int x3] (I2, J2, mj_R1) (.int r3, (I3, J3, mj_R1)) ∧ ((if r3 = 0 then
          Q (.int (-1 : Int32), (I3, J3, mj_R1))
        else
          (if x2 = x3 then
            Q (.int (-1 : Int32), (I3, J3, mj_R1))
          else
            K 51 [(0, .ref 0), (1, .int x1), (2, .int x2), (3, .int x3), (4, .int x4), (5, .long (0 : Int64)), (7, .long (0 : Int64)), (9, .int (0 : Int32))] [] (I3, J3, mj_R1)))))))))))) :
    mj_if (Nat.ble (mj_sz [.ref 0, .int x1, .int x2, .int x3, .int x4]) mt_252.2.2) (mj_sg mj_S1 mt_252 cal Q K 100 0 (mj_a0 0 [.ref 0, .int x1, .int x2, .int x3, .int x4]) [] (I0, J0, mj_R1)) := h
set_option maxRecDepth 100000 in
set_option maxHeartbeats 8000000 in
theorem s252_51 {cal : Nat → List Value → mj_H → mj_R → Prop} {Q : mj_R → Prop} {K : Nat → mj_K} {I0 : Nat → Nat → Int32} {J0 : Nat → Nat → Int64} (x1 : Int32) (x2 : Int32) (x3 : Int32) (x4 : Int32) (x5 : Int64) (x7 : Int64) (x9 : Int32)
    (h : (if (I0 38 1) ≤ x9 then
      (if (lg_cmp x7 (0 : Int64)) = 0 then
        Q (.int (-1 : Int32), (I0, J0, mj_R1))
      else
        (True ∧ ∃ (r1 : Int64) (I1 : Nat → Nat → Int32) (J1 : Nat → Nat → Int64), cal 253 [.long x5, .long x7] (I0, J0, mj_R1) (.long r1, (I1, J1, mj_R1)) ∧ ((if x4 = 0 then
          (¬ r1 = 0 ∧ (Q (.int (x7 / r1).toInt32, (I1, J1, mj_R1))))
        else
          (¬ r1 = 0 ∧ (Q (.int (x5 / r1).toInt32, (I1, J1, mj_R1))))))))
    else
      (True ∧ ∃ (r2 : Int32) (I2 : Nat → Nat → Int32) (J2 : Nat → Nat → Int64), cal 245 [.ref 38, .int x1, .int x9, .int x2] (I0, J0, mj_R1) (.int r2, (I2, J2, mj_R1)) ∧ ((True ∧ ∃ (r3 : Int32) (I3 : Nat → Nat → Int32) (J3 : Nat → Nat → Int64), cal 245 [.ref 38, .int x9, .int x1, .int x3] (I2, J2, mj_R1) (.int r3, (I3, J3, mj_R1)) ∧ ((if (lg_cmp r2.toInt64 (0 : Int64)) ≤ 0 then
        K 51 [(0, .ref 0), (1, .int x1), (2, .int x2), (3, .int x3), (4, .int x4), (5, .long x5), (7, .long x7), (9, .int (x9 + (1 : Int32)))] [] (I3, J3, mj_R1)
      else
        (if (lg_cmp r3.toInt64 (0 : Int64)) ≤ 0 then
          K 51 [(0, .ref 0), (1, .int x1), (2, .int x2), (3, .int x3), (4, .int x4), (5, .long x5), (7, .long x7), (9, .int (x9 + (1 : Int32)))] [] (I3, J3, mj_R1)
        else
          (if (lg_cmp x7 (0 : Int64)) = 0 then
            K 126 [(0, .ref 0), (1, .int x1), (2, .int x2), (3, .int x3), (4, .int x4), (9, .int x9), (10, .long r2.toInt64), (12, .long r3.toInt64)] [] (I3, J3, mj_R1)
          else
            (if (lg_cmp (r3.toInt64 * x7) (x5 * r2.toInt64)) < 0 then
              K 126 [(0, .ref 0), (1, .int x1), (2, .int x2), (3, .int x3), (4, .int x4), (9, .int x9), (10, .long r2.toInt64), (12, .long r3.toInt64)] [] (I3, J3, mj_R1)
            else
              K 51 [(0, .ref 0), (1, .int x1), (2, .int x2), (3, .int x3), (4, .int x4), (5, .long x5), (7, .long x7), (9, .int (x9 + (1 : Int32)))] [] (I3, J3, mj_R1))))))))))) :
    mj_go mj_S1 mt_252 cal Q K 51 [(0, .ref 0), (1, .int x1), (2, .int x2), (3, .int x3), (4, .int x4), (5, .long x5), (7, .long x7), (9, .int x9)] [] (I0, J0, mj_R1) := h
set_option maxRecDepth 100000 in
set_option maxHeartbeats 8000000 in
theorem s252_126 {cal : Nat → List Value → mj_H → mj_R → Prop} {Q : mj_R → Prop} {K : Nat → mj_K} {I0 : Nat → Nat → Int32} {J0 : Nat → Nat → Int64} (x1 : Int32) (x2 : Int32) (x3 : Int32) (x4 : Int32) (x9 : Int32) (x10 : Int64) (x12 : Int64)
    (h : K 51 [(0, .ref 0), (1, .int x1), (2, .int x2), (3, .int x3), (4, .int x4), (5, .long x12), (7, .long x10), (9, .int (x9 + (1 : Int32)))] [] (I0, J0, mj_R1)) :
    mj_go mj_S1 mt_252 cal Q K 126 [(0, .ref 0), (1, .int x1), (2, .int x2), (3, .int x3), (4, .int x4), (9, .int x9), (10, .long x10), (12, .long x12)] [] (I0, J0, mj_R1) := h
-- UnbeatenHouse.commonDivisor(JJ)J ('J', 'J')
set_option maxRecDepth 100000 in
set_option maxHeartbeats 8000000 in
theorem e253 {cal : Nat → List Value → mj_H → mj_R → Prop} {Q : mj_R → Prop} {K : Nat → mj_K} {I0 : Nat → Nat → Int32} {J0 : Nat → Nat → Int64} (x0 : Int64) (x2 : Int64)
    (h : K 9 [(4, .long x0), (6, .long x2), (8, .int (0 : Int32))] [] (I0, J0, mj_R1)) :
    mj_if (Nat.ble (mj_sz [.long x0, .long x2]) mt_253.2.2) (mj_sg mj_S1 mt_253 cal Q K 100 0 (mj_a0 0 [.long x0, .long x2]) [] (I0, J0, mj_R1)) := h
set_option maxRecDepth 100000 in
set_option maxHeartbeats 8000000 in
theorem s253_9 {cal : Nat → List Value → mj_H → mj_R → Prop} {Q : mj_R → Prop} {K : Nat → mj_K} {I0 : Nat → Nat → Int32} {J0 : Nat → Nat → Int64} (x4 : Int64) (x6 : Int64) (x8 : Int32)
    (h : (if (200 : Int32) ≤ x8 then
      (True ∧ ∃ (r1 : Int64) (I1 : Nat → Nat → Int32) (J1 : Nat → Nat → Int64), cal 5 [.long (1 : Int64), .long x4] (I0, J0, mj_R1) (.long r1, (I1, J1, mj_R1)) ∧ (Q (.long r1, (I1, J1, mj_R1))))
    else
      (if (lg_cmp x6 (0 : Int64)) ≤ 0 then
        (True ∧ ∃ (r2 : Int64) (I2 : Nat → Nat → Int32) (J2 : Nat → Nat → Int64), cal 5 [.long (1 : Int64), .long x4] (I0, J0, mj_R1) (.long r2, (I2, J2, mj_R1)) ∧ (Q (.long r2, (I2, J2, mj_R1))))
      else
        (¬ x6 = 0 ∧ (K 9 [(4, .long x6), (6, .long (x4 - x4 / x6 * x6)), (8, .int (x8 + (1 : Int32)))] [] (I0, J0, mj_R1)))))) :
    mj_go mj_S1 mt_253 cal Q K 9 [(4, .long x4), (6, .long x6), (8, .int x8)] [] (I0, J0, mj_R1) := h
-- UnbeatenHouse.hole(I)I (('c', 0), 'I')
set_option maxRecDepth 100000 in
set_option maxHeartbeats 8000000 in
theorem e254 {cal : Nat → List Value → mj_H → mj_R → Prop} {Q : mj_R → Prop} {K : Nat → mj_K} {I0 : Nat → Nat → Int32} {J0 : Nat → Nat → Int64} (x1 : Int32)
    (h : (True ∧ ∃ (r1 : Int32) (I1 : Nat → Nat → Int32) (J1 : Nat → Nat → Int64), cal 242 [.ref 38] (I0, J0, mj_R1) (.int r1, (I1, J1, mj_R1)) ∧ ((if r1 = 0 then
      Q (.int (-1 : Int32), (I1, J1, mj_R1))
    else
      (True ∧ ∃ (r2 : Int32) (I2 : Nat → Nat → Int32) (J2 : Nat → Nat → Int64), cal 192 [.ref 1, .int (0 : Int32), .int x1] (I1, J1, mj_R1) (.int r2, (I2, J2, mj_R1)) ∧ ((if r2 = 0 then
        Q (.int (-1 : Int32), (I2, J2, mj_R1))
      else
        K 28 [(0, .ref 0), (1, .int x1), (2, .int (0 : Int32)), (3, .int (0 : Int32))] [] (I2, J2, mj_R1)))))))) :
    mj_if (Nat.ble (mj_sz [.ref 0, .int x1]) mt_254.2.2) (mj_sg mj_S1 mt_254 cal Q K 100 0 (mj_a0 0 [.ref 0, .int x1]) [] (I0, J0, mj_R1)) := h
set_option maxRecDepth 100000 in
set_option maxHeartbeats 8000000 in
theorem s254_28 {cal : Nat → List Value → mj_H → mj_R → Prop} {Q : mj_R → Prop} {K : Nat → mj_K} {I0 : Nat → Nat → Int32} {J0 : Nat → Nat → Int64} (x1 : Int32) (x2 : Int32) (x3 : Int32)
    (h : (if (I0 38 1) ≤ x3 then
      Q (.int x2, (I0, J0, mj_R1))
    else
      (True ∧ ∃ (r1 : Int32) (I1 : Nat → Nat → Int32) (J1 : Nat → Nat → Int64), cal 255 [.ref 38, .int x3, .int x1] (I0, J0, mj_R1) (.int r1, (I1, J1, mj_R1)) ∧ ((True ∧ ∃ (r2 : Int32) (I2 : Nat → Nat → Int32) (J2 : Nat → Nat → Int64), cal 1 [.int x2, .int r1] (I1, J1, mj_R1) (.int r2, (I2, J2, mj_R1)) ∧ (K 28 [(0, .ref 0), (1, .int x1), (2, .int r2), (3, .int (x3 + (1 : Int32)))] [] (I2, J2, mj_R1))))))) :
    mj_go mj_S1 mt_254 cal Q K 28 [(0, .ref 0), (1, .int x1), (2, .int x2), (3, .int x3)] [] (I0, J0, mj_R1) := h
-- UnbeatenHouse$Front.stepAbove(II)I (('c', 38), 'I', 'I')
set_option maxRecDepth 100000 in
set_option maxHeartbeats 8000000 in
theorem e255 {cal : Nat → List Value → mj_H → mj_R → Prop} {Q : mj_R → Prop} {K : Nat → mj_K} {I0 : Nat → Nat → Int32} {J0 : Nat → Nat → Int64} (x1 : Int32) (x2 : Int32)
    (h : K 5 [(0, .ref 38), (1, .int x1), (2, .int x2), (3, .int (0 : Int32)), (4, .int (0 : Int32))] [] (I0, J0, mj_R1)) :
    mj_if (Nat.ble (mj_sz [.ref 38, .int x1, .int x2]) mt_255.2.2) (mj_sg mj_S1 mt_255 cal Q K 100 0 (mj_a0 0 [.ref 38, .int x1, .int x2]) [] (I0, J0, mj_R1)) := h
set_option maxRecDepth 100000 in
set_option maxHeartbeats 8000000 in
theorem s255_5 {cal : Nat → List Value → mj_H → mj_R → Prop} {Q : mj_R → Prop} {K : Nat → mj_K} {I0 : Nat → Nat → Int32} {J0 : Nat → Nat → Int64} (x1 : Int32) (x2 : Int32) (x3 : Int32) (x4 : Int32)
    (h : (if (I0 38 1) ≤ x4 then
      Q (.int x3, (I0, J0, mj_R1))
    else
      (True ∧ ∃ (r1 : Int32) (I1 : Nat → Nat → Int32) (J1 : Nat → Nat → Int64), cal 245 [.ref 38, .int x4, .int x1, .int x2] (I0, J0, mj_R1) (.int r1, (I1, J1, mj_R1)) ∧ ((if r1 ≤ 0 then
        K 5 [(0, .ref 38), (1, .int x1), (2, .int x2), (3, .int x3), (4, .int (x4 + (1 : Int32)))] [] (I1, J1, mj_R1)
      else
        (if x3 = 0 then
          K 5 [(0, .ref 38), (1, .int x1), (2, .int x2), (3, .int r1), (4, .int (x4 + (1 : Int32)))] [] (I1, J1, mj_R1)
        else
          (if x3 ≤ r1 then
            K 5 [(0, .ref 38), (1, .int x1), (2, .int x2), (3, .int x3), (4, .int (x4 + (1 : Int32)))] [] (I1, J1, mj_R1)
          else
            K 5 [(0, .ref 38), (1, .int x1), (2, .int x2), (3, .int r1), (4, .int (x4 + (1 : Int32)))] [] (I1, J1, mj_R1)))))))) :
    mj_go mj_S1 mt_255 cal Q K 5 [(0, .ref 38), (1, .int x1), (2, .int x2), (3, .int x3), (4, .int x4)] [] (I0, J0, mj_R1) := h
-- UnbeatenHouse.rather(II)I (('c', 0), 'I', 'I')
set_option maxRecDepth 100000 in
set_option maxHeartbeats 8000000 in
theorem e256 {cal : Nat → List Value → mj_H → mj_R → Prop} {Q : mj_R → Prop} {K : Nat → mj_K} {I0 : Nat → Nat → Int32} {J0 : Nat → Nat → Int64} (x1 : Int32) (x2 : Int32)
    (h : (True ∧ ∃ (r1 : Int32) (I1 : Nat → Nat → Int32) (J1 : Nat → Nat → Int64), cal 177 [.ref 24, .int x1] (I0, J0, mj_R1) (.int r1, (I1, J1, mj_R1)) ∧ ((if r1 = 0 then
      Q (.int (-1 : Int32), (I1, J1, mj_R1))
    else
      (True ∧ ∃ (r2 : Int32) (I2 : Nat → Nat → Int32) (J2 : Nat → Nat → Int64), cal 177 [.ref 24, .int x2] (I1, J1, mj_R1) (.int r2, (I2, J2, mj_R1)) ∧ ((if r2 = 0 then
        Q (.int (-1 : Int32), (I2, J2, mj_R1))
      else
        (if x1 = x2 then
          Q (.int (-1 : Int32), (I2, J2, mj_R1))
        else
          (if (I2 53 0) < (12 : Int32) then
            (True ∧ ∃ (r3 : Int32) (I3 : Nat → Nat → Int32) (J3 : Nat → Nat → Int64), cal 257 [.ref 53, .int x1, .int x2] (I2, J2, mj_R1) (.int r3, (I3, J3, mj_R1)) ∧ (Q (.int r3, (I3, J3, mj_R1))))
          else
            Q (.int (-1 : Int32), (I2, J2, mj_R1))))))))))) :
    mj_if (Nat.ble (mj_sz [.ref 0, .int x1, .int x2]) mt_256.2.2) (mj_sg mj_S1 mt_256 cal Q K 100 0 (mj_a0 0 [.ref 0, .int x1, .int x2]) [] (I0, J0, mj_R1)) := h
-- UnbeatenHouse$Sayings.add(II)I (('c', 53), 'I', 'I')
set_option maxRecDepth 100000 in
set_option maxHeartbeats 8000000 in
theorem e257 {cal : Nat → List Value → mj_H → mj_R → Prop} {Q : mj_R → Prop} {K : Nat → mj_K} {I0 : Nat → Nat → Int32} {J0 : Nat → Nat → Int64} (x1 : Int32) (x2 : Int32)
    (h : (vp_in (I0 53 0) 12 ∧ ((vp_in (I0 53 0) 12 ∧ (Q (.int ((I0 53 0) + (1 : Int32)), ((mj_up (mj_up (mj_up I0 54 (I0 53 0).toNatClampNeg x1) 55 (I0 53 0).toNatClampNeg x2) 53 0 ((I0 53 0) + (1 : Int32))), J0, mj_R1))))))) :
    mj_if (Nat.ble (mj_sz [.ref 53, .int x1, .int x2]) mt_257.2.2) (mj_sg mj_S1 mt_257 cal Q K 100 0 (mj_a0 0 [.ref 53, .int x1, .int x2]) [] (I0, J0, mj_R1)) := h
-- UnbeatenHouse.unsay()I (('c', 0),)
set_option maxRecDepth 100000 in
set_option maxHeartbeats 8000000 in
theorem e258 {cal : Nat → List Value → mj_H → mj_R → Prop} {Q : mj_R → Prop} {K : Nat → mj_K} {I0 : Nat → Nat → Int32} {J0 : Nat → Nat → Int64}
    (h : (if (I0 53 0) = 0 then
      Q (.int (-1 : Int32), (I0, J0, mj_R1))
    else
      Q (.int ((I0 53 0) - (1 : Int32)), ((mj_up I0 53 0 ((I0 53 0) - (1 : Int32))), J0, mj_R1)))) :
    mj_if (Nat.ble (mj_sz [.ref 0]) mt_258.2.2) (mj_sg mj_S1 mt_258 cal Q K 100 0 (mj_a0 0 [.ref 0]) [] (I0, J0, mj_R1)) := h
-- UnbeatenHouse.agree()I (('c', 0),)
set_option maxRecDepth 100000 in
set_option maxHeartbeats 8000000 in
theorem e259 {cal : Nat → List Value → mj_H → mj_R → Prop} {Q : mj_R → Prop} {K : Nat → mj_K} {I0 : Nat → Nat → Int32} {J0 : Nat → Nat → Int64}
    (h : (vp_in (0 : Int32) 6 ∧ ((if (I0 2 (0 : Int32).toNatClampNeg) = 0 then
      Q (.int (-1 : Int32), (I0, J0, mj_R1))
    else
      K 18 [(0, .ref 0), (1, .int (0 : Int32)), (2, .int (0 : Int32))] [] (I0, J0, mj_R1))))) :
    mj_if (Nat.ble (mj_sz [.ref 0]) mt_259.2.2) (mj_sg mj_S1 mt_259 cal Q K 100 0 (mj_a0 0 [.ref 0]) [] (I0, J0, mj_R1)) := h
set_option maxRecDepth 100000 in
set_option maxHeartbeats 8000000 in
theorem s259_18 {cal : Nat → List Value → mj_H → mj_R → Prop} {Q : mj_R → Prop} {K : Nat → mj_K} {I0 : Nat → Nat → Int32} {J0 : Nat → Nat → Int64} (x1 : Int32) (x2 : Int32)
    (h : (if (I0 51 2) ≤ x2 then
      Q (.int x1, (I0, J0, mj_R1))
    else
      (True ∧ ∃ (r1 : Int32) (I1 : Nat → Nat → Int32) (J1 : Nat → Nat → Int64), cal 260 [.ref 53, .int x2, .ref 51, .ref 24] (I0, J0, mj_R1) (.int r1, (I1, J1, mj_R1)) ∧ ((if r1 = 0 then
        K 18 [(0, .ref 0), (1, .int x1), (2, .int (x2 + (1 : Int32)))] [] (I1, J1, mj_R1)
      else
        K 18 [(0, .ref 0), (1, .int (x1 + (1 : Int32))), (2, .int (x2 + (1 : Int32)))] [] (I1, J1, mj_R1)))))) :
    mj_go mj_S1 mt_259 cal Q K 18 [(0, .ref 0), (1, .int x1), (2, .int x2)] [] (I0, J0, mj_R1) := h
-- UnbeatenHouse$Sayings.isAgreed(ILUnbeatenHouse$Weighings;LUnbeatenHouse$Rows;)Z (('c', 53), 'I', ('c', 51), ('c', 24))
set_option maxRecDepth 100000 in
set_option maxHeartbeats 8000000 in
theorem e260 {cal : Nat → List Value → mj_H → mj_R → Prop} {Q : mj_R → Prop} {K : Nat → mj_K} {I0 : Nat → Nat → Int32} {J0 : Nat → Nat → Int64} (x1 : Int32)
    (h : K 3 [(0, .ref 53), (1, .int x1), (2, .ref 51), (3, .ref 24), (4, .int (0 : Int32))] [] (I0, J0, mj_R1)) :
    mj_if (Nat.ble (mj_sz [.ref 53, .int x1, .ref 51, .ref 24]) mt_260.2.2) (mj_sg mj_S1 mt_260 cal Q K 100 0 (mj_a0 0 [.ref 53, .int x1, .ref 51, .ref 24]) [] (I0, J0, mj_R1)) := h
set_option maxRecDepth 100000 in
set_option maxHeartbeats 8000000 in
theorem s260_3 {cal : Nat → List Value → mj_H → mj_R → Prop} {Q : mj_R → Prop} {K : Nat → mj_K} {I0 : Nat → Nat → Int32} {J0 : Nat → Nat → Int64} (x1 : Int32) (x4 : Int32)
    (h : (if (I0 53 0) ≤ x4 then
      (((1 : Int32) = 0 ∨ (1 : Int32) = 1) ∧ Q (.int (1 : Int32), (I0, J0, mj_R1)))
    else
      (True ∧ ∃ (r1 : Int32) (I1 : Nat → Nat → Int32) (J1 : Nat → Nat → Int64), cal 261 [.ref 53, .int x4, .int x1, .ref 51, .ref 24] (I0, J0, mj_R1) (.int r1, (I1, J1, mj_R1)) ∧ ((if r1 = 0 then
        (((0 : Int32) = 0 ∨ (0 : Int32) = 1) ∧ Q (.int (0 : Int32), (I1, J1, mj_R1)))
      else
        K 3 [(0, .ref 53), (1, .int x1), (2, .ref 51), (3, .ref 24), (4, .int (x4 + (1 : Int32)))] [] (I1, J1, mj_R1)))))) :
    mj_go mj_S1 mt_260 cal Q K 3 [(0, .ref 53), (1, .int x1), (2, .ref 51), (3, .ref 24), (4, .int x4)] [] (I0, J0, mj_R1) := h
-- UnbeatenHouse$Sayings.isSayingAgreed(IILUnbeatenHouse$Weighings;LUnbeatenHouse$Rows;)Z (('c', 53), 'I', 'I', ('c', 51), ('c', 24))
set_option maxRecDepth 100000 in
set_option maxHeartbeats 8000000 in
theorem e261 {cal : Nat → List Value → mj_H → mj_R → Prop} {Q : mj_R → Prop} {K : Nat → mj_K} {I0 : Nat → Nat → Int32} {J0 : Nat → Nat → Int64} (x1 : Int32) (x2 : Int32)
    (h : (vp_in x1 12 ∧ ((vp_in x1 12 ∧ ((True ∧ ∃ (r1 : Int32) (I1 : Nat → Nat → Int32) (J1 : Nat → Nat → Int64), cal 177 [.ref 24, .int (I0 54 x1.toNatClampNeg)] (I0, J0, mj_R1) (.int r1, (I1, J1, mj_R1)) ∧ ((if r1 = 0 then
      (((1 : Int32) = 0 ∨ (1 : Int32) = 1) ∧ Q (.int (1 : Int32), (I1, J1, mj_R1)))
    else
      (True ∧ ∃ (r2 : Int32) (I2 : Nat → Nat → Int32) (J2 : Nat → Nat → Int64), cal 177 [.ref 24, .int (I0 55 x1.toNatClampNeg)] (I1, J1, mj_R1) (.int r2, (I2, J2, mj_R1)) ∧ ((if r2 = 0 then
        (((1 : Int32) = 0 ∨ (1 : Int32) = 1) ∧ Q (.int (1 : Int32), (I2, J2, mj_R1)))
      else
        (True ∧ ∃ (r3 : Int32) (I3 : Nat → Nat → Int32) (J3 : Nat → Nat → Int64), cal 239 [.ref 51, .int x2, .ref 25, .int ((I0 54 x1.toNatClampNeg) * (4 : Int32))] (I2, J2, mj_R1) (.int r3, (I3, J3, mj_R1)) ∧ ((True ∧ ∃ (r4 : Int32) (I4 : Nat → Nat → Int32) (J4 : Nat → Nat → Int64), cal 239 [.ref 51, .int x2, .ref 25, .int ((I0 55 x1.toNatClampNeg) * (4 : Int32))] (I3, J3, mj_R1) (.int r4, (I4, J4, mj_R1)) ∧ ((if r4 < r3 then
          (((0 : Int32) = 0 ∨ (0 : Int32) = 1) ∧ Q (.int (0 : Int32), (I4, J4, mj_R1)))
        else
          (((1 : Int32) = 0 ∨ (1 : Int32) = 1) ∧ Q (.int (1 : Int32), (I4, J4, mj_R1))))))))))))))))))) :
    mj_if (Nat.ble (mj_sz [.ref 53, .int x1, .int x2, .ref 51, .ref 24]) mt_261.2.2) (mj_sg mj_S1 mt_261 cal Q K 100 0 (mj_a0 0 [.ref 53, .int x1, .int x2, .ref 51, .ref 24]) [] (I0, J0, mj_R1)) := h
-- UnbeatenHouse.could()J (('c', 0),)
set_option maxRecDepth 100000 in
set_option maxHeartbeats 8000000 in
theorem e262 {cal : Nat → List Value → mj_H → mj_R → Prop} {Q : mj_R → Prop} {K : Nat → mj_K} {I0 : Nat → Nat → Int32} {J0 : Nat → Nat → Int64}
    (h : K 4 [(0, .ref 0), (1, .long (0 : Int64)), (3, .int (0 : Int32))] [] (I0, J0, mj_R1)) :
    mj_if (Nat.ble (mj_sz [.ref 0]) mt_262.2.2) (mj_sg mj_S1 mt_262 cal Q K 100 0 (mj_a0 0 [.ref 0]) [] (I0, J0, mj_R1)) := h
set_option maxRecDepth 100000 in
set_option maxHeartbeats 8000000 in
theorem s262_4 {cal : Nat → List Value → mj_H → mj_R → Prop} {Q : mj_R → Prop} {K : Nat → mj_K} {I0 : Nat → Nat → Int32} {J0 : Nat → Nat → Int64} (x1 : Int64) (x3 : Int32)
    (h : (if (I0 51 2) ≤ x3 then
      Q (.long x1, (I0, J0, mj_R1))
    else
      (True ∧ ∃ (r1 : Int32) (I1 : Nat → Nat → Int32) (J1 : Nat → Nat → Int64), cal 260 [.ref 53, .int x3, .ref 51, .ref 24] (I0, J0, mj_R1) (.int r1, (I1, J1, mj_R1)) ∧ ((if r1 = 0 then
        K 4 [(0, .ref 0), (1, .long x1), (3, .int (x3 + (1 : Int32)))] [] (I1, J1, mj_R1)
      else
        (True ∧ ∃ (r2 : Int64) (I2 : Nat → Nat → Int32) (J2 : Nat → Nat → Int64), cal 263 [.ref 24, .int x3, .ref 51, .int (0 : Int32)] (I1, J1, mj_R1) (.long r2, (I2, J2, mj_R1)) ∧ (K 4 [(0, .ref 0), (1, .long (x1 ||| r2)), (3, .int (x3 + (1 : Int32)))] [] (I2, J2, mj_R1)))))))) :
    mj_go mj_S1 mt_262 cal Q K 4 [(0, .ref 0), (1, .long x1), (3, .int x3)] [] (I0, J0, mj_R1) := h
-- UnbeatenHouse$Rows.firstBy(ILUnbeatenHouse$Weighings;I)J (('c', 24), 'I', ('c', 51), 'I')
set_option maxRecDepth 100000 in
set_option maxHeartbeats 8000000 in
theorem e263 {cal : Nat → List Value → mj_H → mj_R → Prop} {Q : mj_R → Prop} {K : Nat → mj_K} {I0 : Nat → Nat → Int32} {J0 : Nat → Nat → Int64} (x1 : Int32) (x3 : Int32)
    (h : K 7 [(0, .ref 24), (1, .int x1), (2, .ref 51), (3, .int x3), (4, .int (2000000000 : Int32)), (5, .int (0 : Int32))] [] (I0, J0, mj_R1)) :
    mj_if (Nat.ble (mj_sz [.ref 24, .int x1, .ref 51, .int x3]) mt_263.2.2) (mj_sg mj_S1 mt_263 cal Q K 100 0 (mj_a0 0 [.ref 24, .int x1, .ref 51, .int x3]) [] (I0, J0, mj_R1)) := h
set_option maxRecDepth 100000 in
set_option maxHeartbeats 8000000 in
theorem s263_7 {cal : Nat → List Value → mj_H → mj_R → Prop} {Q : mj_R → Prop} {K : Nat → mj_K} {I0 : Nat → Nat → Int32} {J0 : Nat → Nat → Int64} (x1 : Int32) (x3 : Int32) (x4 : Int32) (x5 : Int32)
    (h : (if (I0 24 0) ≤ x5 then
      K 74 [(0, .ref 24), (3, .int x3), (4, .int x4), (5, .long (0 : Int64)), (7, .int (0 : Int32))] [] (I0, J0, mj_R1)
    else
      (True ∧ ∃ (r1 : Int32) (I1 : Nat → Nat → Int32) (J1 : Nat → Nat → Int64), cal 239 [.ref 51, .int x1, .ref 25, .int (x5 * (4 : Int32))] (I0, J0, mj_R1) (.int r1, (I1, J1, mj_R1)) ∧ ((vp_in x5 40 ∧ ((True ∧ ∃ (r2 : Int32) (I2 : Nat → Nat → Int32) (J2 : Nat → Nat → Int64), cal 178 [.long (J1 24 6), .int x5] ((mj_up I1 28 x5.toNatClampNeg r1), J1, mj_R1) (.int r2, (I2, J2, mj_R1)) ∧ ((if r2 = 0 then
        K 7 [(0, .ref 24), (1, .int x1), (2, .ref 51), (3, .int x3), (4, .int x4), (5, .int (x5 + (1 : Int32)))] [] (I2, J2, mj_R1)
      else
        (vp_in x5 40 ∧ ((True ∧ ∃ (r3 : Int32) (I3 : Nat → Nat → Int32) (J3 : Nat → Nat → Int64), cal 0 [.int x4, .int (I2 28 x5.toNatClampNeg)] (I2, J2, mj_R1) (.int r3, (I3, J3, mj_R1)) ∧ (K 7 [(0, .ref 24), (1, .int x1), (2, .ref 51), (3, .int x3), (4, .int r3), (5, .int (x5 + (1 : Int32)))] [] (I3, J3, mj_R1)))))))))))))) :
    mj_go mj_S1 mt_263 cal Q K 7 [(0, .ref 24), (1, .int x1), (2, .ref 51), (3, .int x3), (4, .int x4), (5, .int x5)] [] (I0, J0, mj_R1) := h
set_option maxRecDepth 100000 in
set_option maxHeartbeats 8000000 in
theorem s263_74 {cal : Nat → List Value → mj_H → mj_R → Prop} {Q : mj_R → Prop} {K : Nat → mj_K} {I0 : Nat → Nat → Int32} {J0 : Nat → Nat → Int64} (x3 : Int32) (x4 : Int32) (x5 : Int64) (x7 : Int32)
    (h : (if (I0 24 0) ≤ x7 then
      Q (.long x5, (I0, J0, mj_R1))
    else
      (True ∧ ∃ (r1 : Int32) (I1 : Nat → Nat → Int32) (J1 : Nat → Nat → Int64), cal 178 [.long (J0 24 6), .int x7] (I0, J0, mj_R1) (.int r1, (I1, J1, mj_R1)) ∧ ((if r1 = 0 then
        K 74 [(0, .ref 24), (3, .int x3), (4, .int x4), (5, .long x5), (7, .int (x7 + (1 : Int32)))] [] (I1, J1, mj_R1)
      else
        (vp_in x7 40 ∧ ((if x3 < ((I1 28 x7.toNatClampNeg) - x4) then
          K 74 [(0, .ref 24), (3, .int x3), (4, .int x4), (5, .long x5), (7, .int (x7 + (1 : Int32)))] [] (I1, J1, mj_R1)
        else
          K 74 [(0, .ref 24), (3, .int x3), (4, .int x4), (5, .long (x5 ||| ((1 : Int64) <<< (x7.toInt64 &&& 63)))), (7, .int (x7 + (1 : Int32)))] [] (I1, J1, mj_R1))))))))) :
    mj_go mj_S1 mt_263 cal Q K 74 [(0, .ref 24), (3, .int x3), (4, .int x4), (5, .long x5), (7, .int x7)] [] (I0, J0, mj_R1) := h
-- UnbeatenHouse.question(I)I (('c', 0), 'I')
set_option maxRecDepth 100000 in
set_option maxHeartbeats 8000000 in
theorem e264 {cal : Nat → List Value → mj_H → mj_R → Prop} {Q : mj_R → Prop} {K : Nat → mj_K} {I0 : Nat → Nat → Int32} {J0 : Nat → Nat → Int64} (x1 : Int32)
    (h : (if x1 < 0 then
      Q (.int (-1 : Int32), (I0, J0, mj_R1))
    else
      (if (2 : Int32) < x1 then
        Q (.int (-1 : Int32), (I0, J0, mj_R1))
      else
        (True ∧ ∃ (r1 : Int32) (I1 : Nat → Nat → Int32) (J1 : Nat → Nat → Int64), cal 265 [.ref 53, .ref 51, .ref 24] (I0, J0, mj_R1) (.int r1, (I1, J1, mj_R1)) ∧ ((if r1 = 0 then
          Q (.int (-1 : Int32), (I1, J1, mj_R1))
        else
          (if x1 = (2 : Int32) then
            Q (.int (I1 53 7), (I1, J1, mj_R1))
          else
            (if x1 = 0 then
              Q (.int (I1 53 5), (I1, J1, mj_R1))
            else
              Q (.int (I1 53 6), (I1, J1, mj_R1)))))))))) :
    mj_if (Nat.ble (mj_sz [.ref 0, .int x1]) mt_264.2.2) (mj_sg mj_S1 mt_264 cal Q K 100 0 (mj_a0 0 [.ref 0, .int x1]) [] (I0, J0, mj_R1)) := h
-- UnbeatenHouse$Sayings.ask(LUnbeatenHouse$Weighings;LUnbeatenHouse$Rows;)Z (('c', 53), ('c', 51), ('c', 24))
set_option maxRecDepth 100000 in
set_option maxHeartbeats 8000000 in
theorem e265 {cal : Nat → List Value → mj_H → mj_R → Prop} {Q : mj_R → Prop} {K : Nat → mj_K} {I0 : Nat → Nat → Int32} {J0 : Nat → Nat → Int64}
    (h : K 2 [(0, .ref 53), (1, .ref 51), (2, .ref 24), (3, .int (0 : Int32))] [] (I0, J0, mj_R1)) :
    mj_if (Nat.ble (mj_sz [.ref 53, .ref 51, .ref 24]) mt_265.2.2) (mj_sg mj_S1 mt_265 cal Q K 100 0 (mj_a0 0 [.ref 53, .ref 51, .ref 24]) [] (I0, J0, mj_R1)) := h
set_option maxRecDepth 100000 in
set_option maxHeartbeats 8000000 in
theorem s265_2 {cal : Nat → List Value → mj_H → mj_R → Prop} {Q : mj_R → Prop} {K : Nat → mj_K} {I0 : Nat → Nat → Int32} {J0 : Nat → Nat → Int64} (x3 : Int32)
    (h : (if (1600 : Int32) ≤ x3 then
      K 24 [(0, .ref 53), (1, .ref 51), (2, .ref 24), (3, .int (0 : Int32))] [] (I0, J0, mj_R1)
    else
      (vp_in x3 1600 ∧ (K 2 [(0, .ref 53), (1, .ref 51), (2, .ref 24), (3, .int (x3 + (1 : Int32)))] [] (I0, (mj_up J0 56 x3.toNatClampNeg (0 : Int64)), mj_R1))))) :
    mj_go mj_S1 mt_265 cal Q K 2 [(0, .ref 53), (1, .ref 51), (2, .ref 24), (3, .int x3)] [] (I0, J0, mj_R1) := h
set_option maxRecDepth 100000 in
set_option maxHeartbeats 8000000 in
theorem s265_24 {cal : Nat → List Value → mj_H → mj_R → Prop} {Q : mj_R → Prop} {K : Nat → mj_K} {I0 : Nat → Nat → Int32} {J0 : Nat → Nat → Int64} (x3 : Int32)
    (h : (if (I0 51 2) ≤ x3 then
      K 67 [(0, .ref 53), (2, .ref 24), (3, .int (0 : Int32))] [] ((mj_up I0 53 7 (-1 : Int32)), J0, mj_R1)
    else
      (True ∧ ∃ (r1 : Int32) (I1 : Nat → Nat → Int32) (J1 : Nat → Nat → Int64), cal 260 [.ref 53, .int x3, .ref 51, .ref 24] (I0, J0, mj_R1) (.int r1, (I1, J1, mj_R1)) ∧ ((if r1 = 0 then
        K 24 [(0, .ref 53), (1, .ref 51), (2, .ref 24), (3, .int (x3 + (1 : Int32)))] [] (I1, J1, mj_R1)
      else
        (True ∧ ∃ (r2 : Int64) (I2 : Nat → Nat → Int32) (J2 : Nat → Nat → Int64), cal 263 [.ref 24, .int x3, .ref 51, .int (0 : Int32)] (I1, J1, mj_R1) (.long r2, (I2, J2, mj_R1)) ∧ ((True ∧ ∃ (I3 : Nat → Nat → Int32) (J3 : Nat → Nat → Int64), cal 266 [.ref 53, .long r2, .ref 24] (I2, J2, mj_R1) (.null, (I3, J3, mj_R1)) ∧ (K 24 [(0, .ref 53), (1, .ref 51), (2, .ref 24), (3, .int (x3 + (1 : Int32)))] [] (I3, J3, mj_R1)))))))))) :
    mj_go mj_S1 mt_265 cal Q K 24 [(0, .ref 53), (1, .ref 51), (2, .ref 24), (3, .int x3)] [] (I0, J0, mj_R1) := h
set_option maxRecDepth 100000 in
set_option maxHeartbeats 8000000 in
theorem s265_67 {cal : Nat → List Value → mj_H → mj_R → Prop} {Q : mj_R → Prop} {K : Nat → mj_K} {I0 : Nat → Nat → Int32} {J0 : Nat → Nat → Int64} (x3 : Int32)
    (h : (if (I0 24 0) ≤ x3 then
      (if (I0 53 7) = (-1 : Int32) then
        (((0 : Int32) = 0 ∨ (0 : Int32) = 1) ∧ Q (.int (0 : Int32), (I0, J0, mj_R1)))
      else
        (((1 : Int32) = 0 ∨ (1 : Int32) = 1) ∧ Q (.int (1 : Int32), (I0, J0, mj_R1))))
    else
      K 80 [(0, .ref 53), (2, .ref 24), (3, .int x3), (4, .int (x3 + (1 : Int32)))] [] (I0, J0, mj_R1))) :
    mj_go mj_S1 mt_265 cal Q K 67 [(0, .ref 53), (2, .ref 24), (3, .int x3)] [] (I0, J0, mj_R1) := h
set_option maxRecDepth 100000 in
set_option maxHeartbeats 8000000 in
theorem s265_80 {cal : Nat → List Value → mj_H → mj_R → Prop} {Q : mj_R → Prop} {K : Nat → mj_K} {I0 : Nat → Nat → Int32} {J0 : Nat → Nat → Int64} (x3 : Int32) (x4 : Int32)
    (h : (if (I0 24 0) ≤ x4 then
      K 67 [(0, .ref 53), (2, .ref 24), (3, .int (x3 + (1 : Int32)))] [] (I0, J0, mj_R1)
    else
      (True ∧ ∃ (r1 : Int32) (I1 : Nat → Nat → Int32) (J1 : Nat → Nat → Int64), cal 178 [.long (J0 24 6), .int x3] (I0, J0, mj_R1) (.int r1, (I1, J1, mj_R1)) ∧ ((if r1 = 0 then
        K 80 [(0, .ref 53), (2, .ref 24), (3, .int x3), (4, .int (x4 + (1 : Int32)))] [] (I1, J1, mj_R1)
      else
        (True ∧ ∃ (r2 : Int32) (I2 : Nat → Nat → Int32) (J2 : Nat → Nat → Int64), cal 178 [.long (J1 24 6), .int x4] (I1, J1, mj_R1) (.int r2, (I2, J2, mj_R1)) ∧ ((if r2 = 0 then
          K 80 [(0, .ref 53), (2, .ref 24), (3, .int x3), (4, .int (x4 + (1 : Int32)))] [] (I2, J2, mj_R1)
        else
          (True ∧ ∃ (I3 : Nat → Nat → Int32) (J3 : Nat → Nat → Int64), cal 267 [.ref 53, .int x3, .int x4] (I2, J2, mj_R1) (.null, (I3, J3, mj_R1)) ∧ (K 80 [(0, .ref 53), (2, .ref 24), (3, .int x3), (4, .int (x4 + (1 : Int32)))] [] (I3, J3, mj_R1))))))))))) :
    mj_go mj_S1 mt_265 cal Q K 80 [(0, .ref 53), (2, .ref 24), (3, .int x3), (4, .int x4)] [] (I0, J0, mj_R1) := h
-- UnbeatenHouse$Sayings.noteFirst(JLUnbeatenHouse$Rows;)V (('c', 53), 'J', ('c', 24))
set_option maxRecDepth 100000 in
set_option maxHeartbeats 8000000 in
theorem e266 {cal : Nat → List Value → mj_H → mj_R → Prop} {Q : mj_R → Prop} {K : Nat → mj_K} {I0 : Nat → Nat → Int32} {J0 : Nat → Nat → Int64} (x1 : Int64)
    (h : K 3 [(0, .ref 53), (1, .long x1), (3, .ref 24), (4, .int (0 : Int32))] [] (I0, J0, mj_R1)) :
    mj_if (Nat.ble (mj_sz [.ref 53, .long x1, .ref 24]) mt_266.2.2) (mj_sg mj_S1 mt_266 cal Q K 100 0 (mj_a0 0 [.ref 53, .long x1, .ref 24]) [] (I0, J0, mj_R1)) := h
set_option maxRecDepth 100000 in
set_option maxHeartbeats 8000000 in
theorem s266_3 {cal : Nat → List Value → mj_H → mj_R → Prop} {Q : mj_R → Prop} {K : Nat → mj_K} {I0 : Nat → Nat → Int32} {J0 : Nat → Nat → Int64} (x1 : Int64) (x4 : Int32)
    (h : (if (I0 24 0) ≤ x4 then
      Q (.null, (I0, J0, mj_R1))
    else
      K 15 [(0, .ref 53), (1, .long x1), (3, .ref 24), (4, .int x4), (5, .int (0 : Int32))] [] (I0, J0, mj_R1))) :
    mj_go mj_S1 mt_266 cal Q K 3 [(0, .ref 53), (1, .long x1), (3, .ref 24), (4, .int x4)] [] (I0, J0, mj_R1) := h
set_option maxRecDepth 100000 in
set_option maxHeartbeats 8000000 in
theorem s266_15 {cal : Nat → List Value → mj_H → mj_R → Prop} {Q : mj_R → Prop} {K : Nat → mj_K} {I0 : Nat → Nat → Int32} {J0 : Nat → Nat → Int64} (x1 : Int64) (x4 : Int32) (x5 : Int32)
    (h : (if (I0 24 0) ≤ x5 then
      K 3 [(0, .ref 53), (1, .long x1), (3, .ref 24), (4, .int (x4 + (1 : Int32)))] [] (I0, J0, mj_R1)
    else
      (vp_in x4 40 ∧ ((vp_in x5 40 ∧ ((if (I0 28 x5.toNatClampNeg) < (I0 28 x4.toNatClampNeg) then
        K 15 [(0, .ref 53), (1, .long x1), (3, .ref 24), (4, .int x4), (5, .int (x5 + (1 : Int32)))] [] (I0, J0, mj_R1)
      else
        (vp_in ((x4 * (40 : Int32)) + x5) 1600 ∧ ((vp_in ((x4 * (40 : Int32)) + x5) 1600 ∧ (K 15 [(0, .ref 53), (1, .long x1), (3, .ref 24), (4, .int x4), (5, .int (x5 + (1 : Int32)))] [] (I0, (mj_up J0 56 ((x4 * (40 : Int32)) + x5).toNatClampNeg ((J0 56 ((x4 * (40 : Int32)) + x5).toNatClampNeg) ||| x1)), mj_R1)))))))))))) :
    mj_go mj_S1 mt_266 cal Q K 15 [(0, .ref 53), (1, .long x1), (3, .ref 24), (4, .int x4), (5, .int x5)] [] (I0, J0, mj_R1) := h
-- UnbeatenHouse$Sayings.tryQuestion(II)V (('c', 53), 'I', 'I')
set_option maxRecDepth 100000 in
set_option maxHeartbeats 8000000 in
theorem e267 {cal : Nat → List Value → mj_H → mj_R → Prop} {Q : mj_R → Prop} {K : Nat → mj_K} {I0 : Nat → Nat → Int32} {J0 : Nat → Nat → Int64} (x1 : Int32) (x2 : Int32)
    (h : (vp_in ((x1 * (40 : Int32)) + x2) 1600 ∧ ((True ∧ ∃ (r1 : Int32) (I1 : Nat → Nat → Int32) (J1 : Nat → Nat → Int64), cal 2 [.long (J0 56 ((x1 * (40 : Int32)) + x2).toNatClampNeg)] (I0, J0, mj_R1) (.int r1, (I1, J1, mj_R1)) ∧ ((vp_in ((x2 * (40 : Int32)) + x1) 1600 ∧ ((True ∧ ∃ (r2 : Int32) (I2 : Nat → Nat → Int32) (J2 : Nat → Nat → Int64), cal 2 [.long (J1 56 ((x2 * (40 : Int32)) + x1).toNatClampNeg)] (I1, J1, mj_R1) (.int r2, (I2, J2, mj_R1)) ∧ ((True ∧ ∃ (r3 : Int32) (I3 : Nat → Nat → Int32) (J3 : Nat → Nat → Int64), cal 1 [.int r1, .int r2] (I2, J2, mj_R1) (.int r3, (I3, J3, mj_R1)) ∧ ((if (I3 53 7) = (-1 : Int32) then
      K 48 [(0, .ref 53), (1, .int x1), (2, .int x2), (3, .int r3)] [] (I3, J3, mj_R1)
    else
      (if (I3 53 7) ≤ r3 then
        Q (.null, (I3, J3, mj_R1))
      else
        K 48 [(0, .ref 53), (1, .int x1), (2, .int x2), (3, .int r3)] [] (I3, J3, mj_R1)))))))))))))) :
    mj_if (Nat.ble (mj_sz [.ref 53, .int x1, .int x2]) mt_267.2.2) (mj_sg mj_S1 mt_267 cal Q K 100 0 (mj_a0 0 [.ref 53, .int x1, .int x2]) [] (I0, J0, mj_R1)) := h
set_option maxRecDepth 100000 in
set_option maxHeartbeats 8000000 in
theorem s267_48 {cal : Nat → List Value → mj_H → mj_R → Prop} {Q : mj_R → Prop} {K : Nat → mj_K} {I0 : Nat → Nat → Int32} {J0 : Nat → Nat → Int64} (x1 : Int32) (x2 : Int32) (x3 : Int32)
    (h : Q (.null, ((mj_up (mj_up (mj_up I0 53 5 x1) 53 6 x2) 53 7 x3), J0, mj_R1))) :
    mj_go mj_S1 mt_267 cal Q K 48 [(0, .ref 53), (1, .int x1), (2, .int x2), (3, .int x3)] [] (I0, J0, mj_R1) := h
-- UnbeatenHouse.quarrel()I (('c', 0),)
set_option maxRecDepth 100000 in
set_option maxHeartbeats 8000000 in
theorem e268 {cal : Nat → List Value → mj_H → mj_R → Prop} {Q : mj_R → Prop} {K : Nat → mj_K} {I0 : Nat → Nat → Int32} {J0 : Nat → Nat → Int64}
    (h : (True ∧ ∃ (r1 : Int32) (I1 : Nat → Nat → Int32) (J1 : Nat → Nat → Int64), cal 269 [.ref 53, .ref 51, .ref 24] (I0, J0, mj_R1) (.int r1, (I1, J1, mj_R1)) ∧ (Q (.int r1, (I1, J1, mj_R1))))) :
    mj_if (Nat.ble (mj_sz [.ref 0]) mt_268.2.2) (mj_sg mj_S1 mt_268 cal Q K 100 0 (mj_a0 0 [.ref 0]) [] (I0, J0, mj_R1)) := h
-- UnbeatenHouse$Sayings.fewestAtOdds(LUnbeatenHouse$Weighings;LUnbeatenHouse$Rows;)I (('c', 53), ('c', 51), ('c', 24))
set_option maxRecDepth 100000 in
set_option maxHeartbeats 8000000 in
theorem e269 {cal : Nat → List Value → mj_H → mj_R → Prop} {Q : mj_R → Prop} {K : Nat → mj_K} {I0 : Nat → Nat → Int32} {J0 : Nat → Nat → Int64}
    (h : K 10 [(0, .ref 53), (1, .ref 51), (2, .ref 24), (3, .int ((1 : Int32) <<< ((I0 53 0) &&& 31))), (4, .int (0 : Int32))] [] (I0, J0, mj_R1)) :
    mj_if (Nat.ble (mj_sz [.ref 53, .ref 51, .ref 24]) mt_269.2.2) (mj_sg mj_S1 mt_269 cal Q K 100 0 (mj_a0 0 [.ref 53, .ref 51, .ref 24]) [] (I0, J0, mj_R1)) := h
set_option maxRecDepth 100000 in
set_option maxHeartbeats 8000000 in
theorem s269_10 {cal : Nat → List Value → mj_H → mj_R → Prop} {Q : mj_R → Prop} {K : Nat → mj_K} {I0 : Nat → Nat → Int32} {J0 : Nat → Nat → Int64} (x3 : Int32) (x4 : Int32)
    (h : (if x3 ≤ x4 then
      K 33 [(0, .ref 53), (1, .ref 51), (2, .ref 24), (3, .int x3), (4, .int (0 : Int32))] [] (I0, J0, mj_R1)
    else
      (vp_in x4 4096 ∧ (K 10 [(0, .ref 53), (1, .ref 51), (2, .ref 24), (3, .int x3), (4, .int (x4 + (1 : Int32)))] [] ((mj_up I0 57 x4.toNatClampNeg (vp_nar .boolean (0 : Int32))), J0, mj_R1))))) :
    mj_go mj_S1 mt_269 cal Q K 10 [(0, .ref 53), (1, .ref 51), (2, .ref 24), (3, .int x3), (4, .int x4)] [] (I0, J0, mj_R1) := h
set_option maxRecDepth 100000 in
set_option maxHeartbeats 8000000 in
theorem s269_33 {cal : Nat → List Value → mj_H → mj_R → Prop} {Q : mj_R → Prop} {K : Nat → mj_K} {I0 : Nat → Nat → Int32} {J0 : Nat → Nat → Int64} (x3 : Int32) (x4 : Int32)
    (h : (if (I0 51 2) ≤ x4 then
      (True ∧ ∃ (I1 : Nat → Nat → Int32) (J1 : Nat → Nat → Int64), cal 271 [.ref 53, .int x3] (I0, J0, mj_R1) (.null, (I1, J1, mj_R1)) ∧ (K 73 [(0, .ref 53), (3, .int x3), (4, .int (0 : Int32)), (5, .int (1 : Int32))] [] (I1, J1, mj_R1)))
    else
      (True ∧ ∃ (r2 : Int32) (I2 : Nat → Nat → Int32) (J2 : Nat → Nat → Int64), cal 270 [.ref 53, .int x4, .ref 51, .ref 24] (I0, J0, mj_R1) (.int r2, (I2, J2, mj_R1)) ∧ ((vp_in r2 4096 ∧ (K 33 [(0, .ref 53), (1, .ref 51), (2, .ref 24), (3, .int x3), (4, .int (x4 + (1 : Int32)))] [] ((mj_up I2 57 r2.toNatClampNeg (vp_nar .boolean (1 : Int32))), J2, mj_R1))))))) :
    mj_go mj_S1 mt_269 cal Q K 33 [(0, .ref 53), (1, .ref 51), (2, .ref 24), (3, .int x3), (4, .int x4)] [] (I0, J0, mj_R1) := h
set_option maxRecDepth 100000 in
set_option maxHeartbeats 8000000 in
theorem s269_73 {cal : Nat → List Value → mj_H → mj_R → Prop} {Q : mj_R → Prop} {K : Nat → mj_K} {I0 : Nat → Nat → Int32} {J0 : Nat → Nat → Int64} (x3 : Int32) (x4 : Int32) (x5 : Int32)
    (h : (if x3 ≤ x5 then
      Q (.int x4, (I0, J0, mj_R1))
    else
      (vp_in x5 4096 ∧ ((if (I0 57 x5.toNatClampNeg) = 0 then
        (if x4 = 0 then
          K 73 [(0, .ref 53), (3, .int x3), (4, .int x5), (5, .int (x5 + (1 : Int32)))] [] (I0, J0, mj_R1)
        else
          (True ∧ ∃ (r1 : Int32) (I1 : Nat → Nat → Int32) (J1 : Nat → Nat → Int64), cal 272 [.int x5, .int x4] (I0, J0, mj_R1) (.int r1, (I1, J1, mj_R1)) ∧ ((if r1 = 0 then
            K 73 [(0, .ref 53), (3, .int x3), (4, .int x4), (5, .int (x5 + (1 : Int32)))] [] (I1, J1, mj_R1)
          else
            K 73 [(0, .ref 53), (3, .int x3), (4, .int x5), (5, .int (x5 + (1 : Int32)))] [] (I1, J1, mj_R1)))))
      else
        K 73 [(0, .ref 53), (3, .int x3), (4, .int x4), (5, .int (x5 + (1 : Int32)))] [] (I0, J0, mj_R1)))))) :
    mj_go mj_S1 mt_269 cal Q K 73 [(0, .ref 53), (3, .int x3), (4, .int x4), (5, .int x5)] [] (I0, J0, mj_R1) := h
-- UnbeatenHouse$Sayings.agreedSayings(ILUnbeatenHouse$Weighings;LUnbeatenHouse$Rows;)I (('c', 53), 'I', ('c', 51), ('c', 24))
set_option maxRecDepth 100000 in
set_option maxHeartbeats 8000000 in
theorem e270 {cal : Nat → List Value → mj_H → mj_R → Prop} {Q : mj_R → Prop} {K : Nat → mj_K} {I0 : Nat → Nat → Int32} {J0 : Nat → Nat → Int64} (x1 : Int32)
    (h : K 6 [(0, .ref 53), (1, .int x1), (2, .ref 51), (3, .ref 24), (4, .int (0 : Int32)), (5, .int (0 : Int32))] [] (I0, J0, mj_R1)) :
    mj_if (Nat.ble (mj_sz [.ref 53, .int x1, .ref 51, .ref 24]) mt_270.2.2) (mj_sg mj_S1 mt_270 cal Q K 100 0 (mj_a0 0 [.ref 53, .int x1, .ref 51, .ref 24]) [] (I0, J0, mj_R1)) := h
set_option maxRecDepth 100000 in
set_option maxHeartbeats 8000000 in
theorem s270_6 {cal : Nat → List Value → mj_H → mj_R → Prop} {Q : mj_R → Prop} {K : Nat → mj_K} {I0 : Nat → Nat → Int32} {J0 : Nat → Nat → Int64} (x1 : Int32) (x4 : Int32) (x5 : Int32)
    (h : (if (I0 53 0) ≤ x5 then
      Q (.int x4, (I0, J0, mj_R1))
    else
      (True ∧ ∃ (r1 : Int32) (I1 : Nat → Nat → Int32) (J1 : Nat → Nat → Int64), cal 261 [.ref 53, .int x5, .int x1, .ref 51, .ref 24] (I0, J0, mj_R1) (.int r1, (I1, J1, mj_R1)) ∧ ((if r1 = 0 then
        K 6 [(0, .ref 53), (1, .int x1), (2, .ref 51), (3, .ref 24), (4, .int x4), (5, .int (x5 + (1 : Int32)))] [] (I1, J1, mj_R1)
      else
        K 6 [(0, .ref 53), (1, .int x1), (2, .ref 51), (3, .ref 24), (4, .int (x4 ||| ((1 : Int32) <<< (x5 &&& 31)))), (5, .int (x5 + (1 : Int32)))] [] (I1, J1, mj_R1)))))) :
    mj_go mj_S1 mt_270 cal Q K 6 [(0, .ref 53), (1, .int x1), (2, .ref 51), (3, .ref 24), (4, .int x4), (5, .int x5)] [] (I0, J0, mj_R1) := h
-- UnbeatenHouse$Sayings.spreadToParts(I)V (('c', 53), 'I')
set_option maxRecDepth 100000 in
set_option maxHeartbeats 8000000 in
theorem e271 {cal : Nat → List Value → mj_H → mj_R → Prop} {Q : mj_R → Prop} {K : Nat → mj_K} {I0 : Nat → Nat → Int32} {J0 : Nat → Nat → Int64} (x1 : Int32)
    (h : K 2 [(0, .ref 53), (1, .int x1), (2, .int (0 : Int32))] [] (I0, J0, mj_R1)) :
    mj_if (Nat.ble (mj_sz [.ref 53, .int x1]) mt_271.2.2) (mj_sg mj_S1 mt_271 cal Q K 100 0 (mj_a0 0 [.ref 53, .int x1]) [] (I0, J0, mj_R1)) := h
set_option maxRecDepth 100000 in
set_option maxHeartbeats 8000000 in
theorem s271_2 {cal : Nat → List Value → mj_H → mj_R → Prop} {Q : mj_R → Prop} {K : Nat → mj_K} {I0 : Nat → Nat → Int32} {J0 : Nat → Nat → Int64} (x1 : Int32) (x2 : Int32)
    (h : (if (I0 53 0) ≤ x2 then
      Q (.null, (I0, J0, mj_R1))
    else
      K 12 [(0, .ref 53), (1, .int x1), (2, .int x2), (3, .int (0 : Int32))] [] (I0, J0, mj_R1))) :
    mj_go mj_S1 mt_271 cal Q K 2 [(0, .ref 53), (1, .int x1), (2, .int x2)] [] (I0, J0, mj_R1) := h
set_option maxRecDepth 100000 in
set_option maxHeartbeats 8000000 in
theorem s271_12 {cal : Nat → List Value → mj_H → mj_R → Prop} {Q : mj_R → Prop} {K : Nat → mj_K} {I0 : Nat → Nat → Int32} {J0 : Nat → Nat → Int64} (x1 : Int32) (x2 : Int32) (x3 : Int32)
    (h : (if x1 ≤ x3 then
      K 2 [(0, .ref 53), (1, .int x1), (2, .int (x2 + (1 : Int32)))] [] (I0, J0, mj_R1)
    else
      (vp_in x3 4096 ∧ ((if (I0 57 x3.toNatClampNeg) = 0 then
        K 12 [(0, .ref 53), (1, .int x1), (2, .int x2), (3, .int (x3 + (1 : Int32)))] [] (I0, J0, mj_R1)
      else
        (vp_in (x3 &&& (((1 : Int32) <<< (x2 &&& 31)) ^^^ (-1 : Int32))) 4096 ∧ (K 12 [(0, .ref 53), (1, .int x1), (2, .int x2), (3, .int (x3 + (1 : Int32)))] [] ((mj_up I0 57 (x3 &&& (((1 : Int32) <<< (x2 &&& 31)) ^^^ (-1 : Int32))).toNatClampNeg (vp_nar .boolean (1 : Int32))), J0, mj_R1)))))))) :
    mj_go mj_S1 mt_271 cal Q K 12 [(0, .ref 53), (1, .int x1), (2, .int x2), (3, .int x3)] [] (I0, J0, mj_R1) := h
-- UnbeatenHouse$Sayings.isAhead(II)Z ('I', 'I')
set_option maxRecDepth 100000 in
set_option maxHeartbeats 8000000 in
theorem e272 {cal : Nat → List Value → mj_H → mj_R → Prop} {Q : mj_R → Prop} {K : Nat → mj_K} {I0 : Nat → Nat → Int32} {J0 : Nat → Nat → Int64} (x0 : Int32) (x1 : Int32)
    (h : (True ∧ ∃ (r1 : Int32) (I1 : Nat → Nat → Int32) (J1 : Nat → Nat → Int64), cal 3 [.int x0] (I0, J0, mj_R1) (.int r1, (I1, J1, mj_R1)) ∧ ((True ∧ ∃ (r2 : Int32) (I2 : Nat → Nat → Int32) (J2 : Nat → Nat → Int64), cal 3 [.int x1] (I1, J1, mj_R1) (.int r2, (I2, J2, mj_R1)) ∧ ((if (r1 - r2) < 0 then
      (((1 : Int32) = 0 ∨ (1 : Int32) = 1) ∧ Q (.int (1 : Int32), (I2, J2, mj_R1)))
    else
      (if (r1 - r2) = 0 then
        (if ((x0 &&& (x0 ^^^ x1)) &&& (-(x0 ^^^ x1))) = 0 then
          (((0 : Int32) = 0 ∨ (0 : Int32) = 1) ∧ Q (.int (0 : Int32), (I2, J2, mj_R1)))
        else
          (((1 : Int32) = 0 ∨ (1 : Int32) = 1) ∧ Q (.int (1 : Int32), (I2, J2, mj_R1))))
      else
        (((0 : Int32) = 0 ∨ (0 : Int32) = 1) ∧ Q (.int (0 : Int32), (I2, J2, mj_R1)))))))))) :
    mj_if (Nat.ble (mj_sz [.int x0, .int x1]) mt_272.2.2) (mj_sg mj_S1 mt_272 cal Q K 100 0 (mj_a0 0 [.int x0, .int x1]) [] (I0, J0, mj_R1)) := h
-- UnbeatenHouse.stop(I)I (('c', 0), 'I')
set_option maxRecDepth 100000 in
set_option maxHeartbeats 8000000 in
theorem e273 {cal : Nat → List Value → mj_H → mj_R → Prop} {Q : mj_R → Prop} {K : Nat → mj_K} {I0 : Nat → Nat → Int32} {J0 : Nat → Nat → Int64} (x1 : Int32)
    (h : (if x1 < 0 then
      Q (.int (-1 : Int32), (I0, J0, mj_R1))
    else
      (if x1 ≤ (9999 : Int32) then
        K 26 [(0, .ref 0), (1, .int x1), (2, .int (0 : Int32)), (3, .long (J0 24 6)), (5, .int (0 : Int32))] [] (I0, J0, mj_R1)
      else
        Q (.int (-1 : Int32), (I0, J0, mj_R1))))) :
    mj_if (Nat.ble (mj_sz [.ref 0, .int x1]) mt_273.2.2) (mj_sg mj_S1 mt_273 cal Q K 100 0 (mj_a0 0 [.ref 0, .int x1]) [] (I0, J0, mj_R1)) := h
set_option maxRecDepth 100000 in
set_option maxHeartbeats 8000000 in
theorem s273_26 {cal : Nat → List Value → mj_H → mj_R → Prop} {Q : mj_R → Prop} {K : Nat → mj_K} {I0 : Nat → Nat → Int32} {J0 : Nat → Nat → Int64} (x1 : Int32) (x2 : Int32) (x3 : Int64) (x5 : Int32)
    (h : (if (I0 51 2) ≤ x5 then
      (if x2 = 0 then
        Q (.int (-1 : Int32), (I0, J0, mj_R1))
      else
        (if (lg_cmp x3 (0 : Int64)) = 0 then
          Q (.int (-1 : Int32), (I0, J0, mj_R1))
        else
          (True ∧ ∃ (r1 : Int32) (I1 : Nat → Nat → Int32) (J1 : Nat → Nat → Int64), cal 7 [.long x3] (I0, J0, mj_R1) (.int r1, (I1, J1, mj_R1)) ∧ (Q (.int r1, (I1, J1, mj_R1))))))
    else
      (True ∧ ∃ (r2 : Int32) (I2 : Nat → Nat → Int32) (J2 : Nat → Nat → Int64), cal 260 [.ref 53, .int x5, .ref 51, .ref 24] (I0, J0, mj_R1) (.int r2, (I2, J2, mj_R1)) ∧ ((if r2 = 0 then
        K 26 [(0, .ref 0), (1, .int x1), (2, .int x2), (3, .long x3), (5, .int (x5 + (1 : Int32)))] [] (I2, J2, mj_R1)
      else
        (True ∧ ∃ (r3 : Int64) (I3 : Nat → Nat → Int32) (J3 : Nat → Nat → Int64), cal 263 [.ref 24, .int x5, .ref 51, .int (x1 * (I2 51 0))] (I2, J2, mj_R1) (.long r3, (I3, J3, mj_R1)) ∧ (K 26 [(0, .ref 0), (1, .int x1), (2, .int (1 : Int32)), (3, .long (x3 &&& r3)), (5, .int (x5 + (1 : Int32)))] [] (I3, J3, mj_R1)))))))) :
    mj_go mj_S1 mt_273 cal Q K 26 [(0, .ref 0), (1, .int x1), (2, .int x2), (3, .long x3), (5, .int x5)] [] (I0, J0, mj_R1) := h
-- UnbeatenHouse.person(IIIII)Z (('c', 0), 'I', 'I', 'I', 'I', 'I')
set_option maxRecDepth 100000 in
set_option maxHeartbeats 8000000 in
theorem e274 {cal : Nat → List Value → mj_H → mj_R → Prop} {Q : mj_R → Prop} {K : Nat → mj_K} {I0 : Nat → Nat → Int32} {J0 : Nat → Nat → Int64} (x1 : Int32) (x2 : Int32) (x3 : Int32) (x4 : Int32) (x5 : Int32)
    (h : (vp_in (0 : Int32) 6 ∧ ((True ∧ ∃ (r1 : Int32) (I1 : Nat → Nat → Int32) (J1 : Nat → Nat → Int64), cal 275 [.int x1] (I0, J0, mj_R1) (.int r1, (I1, J1, mj_R1)) ∧ ((if r1 = 0 then
      (((0 : Int32) = 0 ∨ (0 : Int32) = 1) ∧ Q (.int (0 : Int32), (I1, J1, mj_R1)))
    else
      (True ∧ ∃ (r2 : Int32) (I2 : Nat → Nat → Int32) (J2 : Nat → Nat → Int64), cal 276 [.int x2, .int (0 : Int32), .int (I0 2 (0 : Int32).toNatClampNeg)] (I1, J1, mj_R1) (.int r2, (I2, J2, mj_R1)) ∧ ((if r2 = 0 then
        (((0 : Int32) = 0 ∨ (0 : Int32) = 1) ∧ Q (.int (0 : Int32), (I2, J2, mj_R1)))
      else
        (True ∧ ∃ (r3 : Int32) (I3 : Nat → Nat → Int32) (J3 : Nat → Nat → Int64), cal 276 [.int x3, .int (1 : Int32), .int (I0 2 (0 : Int32).toNatClampNeg)] (I2, J2, mj_R1) (.int r3, (I3, J3, mj_R1)) ∧ ((if r3 = 0 then
          (((0 : Int32) = 0 ∨ (0 : Int32) = 1) ∧ Q (.int (0 : Int32), (I3, J3, mj_R1)))
        else
          (True ∧ ∃ (r4 : Int32) (I4 : Nat → Nat → Int32) (J4 : Nat → Nat → Int64), cal 276 [.int x4, .int (2 : Int32), .int (I0 2 (0 : Int32).toNatClampNeg)] (I3, J3, mj_R1) (.int r4, (I4, J4, mj_R1)) ∧ ((if r4 = 0 then
            (((0 : Int32) = 0 ∨ (0 : Int32) = 1) ∧ Q (.int (0 : Int32), (I4, J4, mj_R1)))
          else
            (True ∧ ∃ (r5 : Int32) (I5 : Nat → Nat → Int32) (J5 : Nat → Nat → Int64), cal 276 [.int x5, .int (3 : Int32), .int (I0 2 (0 : Int32).toNatClampNeg)] (I4, J4, mj_R1) (.int r5, (I5, J5, mj_R1)) ∧ ((if r5 = 0 then
              (((0 : Int32) = 0 ∨ (0 : Int32) = 1) ∧ Q (.int (0 : Int32), (I5, J5, mj_R1)))
            else
              (vp_in (x1 * (4 : Int32)) 24 ∧ ((vp_in ((x1 * (4 : Int32)) + (1 : Int32)) 24 ∧ ((vp_in ((x1 * (4 : Int32)) + (2 : Int32)) 24 ∧ ((vp_in ((x1 * (4 : Int32)) + (3 : Int32)) 24 ∧ (K 119 [(0, .ref 0), (1, .int x1), (2, .int x2), (3, .int x3), (4, .int x4), (5, .int x5)] [] ((mj_up (mj_up (mj_up (mj_up I5 59 (x1 * (4 : Int32)).toNatClampNeg x2) 59 ((x1 * (4 : Int32)) + (1 : Int32)).toNatClampNeg x3) 59 ((x1 * (4 : Int32)) + (2 : Int32)).toNatClampNeg x4) 59 ((x1 * (4 : Int32)) + (3 : Int32)).toNatClampNeg x5), J5, mj_R1))))))))))))))))))))))))))) :
    mj_if (Nat.ble (mj_sz [.ref 0, .int x1, .int x2, .int x3, .int x4, .int x5]) mt_274.2.2) (mj_sg mj_S1 mt_274 cal Q K 100 0 (mj_a0 0 [.ref 0, .int x1, .int x2, .int x3, .int x4, .int x5]) [] (I0, J0, mj_R1)) := h
set_option maxRecDepth 100000 in
set_option maxHeartbeats 8000000 in
theorem s274_119 {cal : Nat → List Value → mj_H → mj_R → Prop} {Q : mj_R → Prop} {K : Nat → mj_K} {I0 : Nat → Nat → Int32} {J0 : Nat → Nat → Int64} (x1 : Int32) (x2 : Int32) (x3 : Int32) (x4 : Int32) (x5 : Int32)
    (h : (if (((x2 ||| x3) ||| x4) ||| x5) = 0 then
      (vp_in x1 6 ∧ ((((1 : Int32) = 0 ∨ (1 : Int32) = 1) ∧ Q (.int (1 : Int32), ((mj_up I0 60 x1.toNatClampNeg (vp_nar .boolean (0 : Int32))), J0, mj_R1)))))
    else
      (vp_in x1 6 ∧ ((((1 : Int32) = 0 ∨ (1 : Int32) = 1) ∧ Q (.int (1 : Int32), ((mj_up I0 60 x1.toNatClampNeg (vp_nar .boolean (1 : Int32))), J0, mj_R1))))))) :
    mj_go mj_S1 mt_274 cal Q K 119 [(0, .ref 0), (1, .int x1), (2, .int x2), (3, .int x3), (4, .int x4), (5, .int x5)] [] (I0, J0, mj_R1) := h
-- UnbeatenHouse$People.isOne(I)Z ('I',)
set_option maxRecDepth 100000 in
set_option maxHeartbeats 8000000 in
theorem e275 {cal : Nat → List Value → mj_H → mj_R → Prop} {Q : mj_R → Prop} {K : Nat → mj_K} {I0 : Nat → Nat → Int32} {J0 : Nat → Nat → Int64} (x0 : Int32)
    (h : (if x0 < 0 then
      (((0 : Int32) = 0 ∨ (0 : Int32) = 1) ∧ Q (.int (0 : Int32), (I0, J0, mj_R1)))
    else
      (if (6 : Int32) ≤ x0 then
        (((0 : Int32) = 0 ∨ (0 : Int32) = 1) ∧ Q (.int (0 : Int32), (I0, J0, mj_R1)))
      else
        (((1 : Int32) = 0 ∨ (1 : Int32) = 1) ∧ Q (.int (1 : Int32), (I0, J0, mj_R1)))))) :
    mj_if (Nat.ble (mj_sz [.int x0]) mt_275.2.2) (mj_sg mj_S1 mt_275 cal Q K 100 0 (mj_a0 0 [.int x0]) [] (I0, J0, mj_R1)) := h
-- UnbeatenHouse.isWeight(III)Z ('I', 'I', 'I')
set_option maxRecDepth 100000 in
set_option maxHeartbeats 8000000 in
theorem e276 {cal : Nat → List Value → mj_H → mj_R → Prop} {Q : mj_R → Prop} {K : Nat → mj_K} {I0 : Nat → Nat → Int32} {J0 : Nat → Nat → Int64} (x0 : Int32) (x1 : Int32) (x2 : Int32)
    (h : (if x0 < 0 then
      (((0 : Int32) = 0 ∨ (0 : Int32) = 1) ∧ Q (.int (0 : Int32), (I0, J0, mj_R1)))
    else
      (if x2 ≤ x1 then
        (if (0 : Int32) < x0 then
          (((0 : Int32) = 0 ∨ (0 : Int32) = 1) ∧ Q (.int (0 : Int32), (I0, J0, mj_R1)))
        else
          (((1 : Int32) = 0 ∨ (1 : Int32) = 1) ∧ Q (.int (1 : Int32), (I0, J0, mj_R1))))
      else
        (if (9 : Int32) < x0 then
          (((0 : Int32) = 0 ∨ (0 : Int32) = 1) ∧ Q (.int (0 : Int32), (I0, J0, mj_R1)))
        else
          (((1 : Int32) = 0 ∨ (1 : Int32) = 1) ∧ Q (.int (1 : Int32), (I0, J0, mj_R1))))))) :
    mj_if (Nat.ble (mj_sz [.int x0, .int x1, .int x2]) mt_276.2.2) (mj_sg mj_S1 mt_276 cal Q K 100 0 (mj_a0 0 [.int x0, .int x1, .int x2]) [] (I0, J0, mj_R1)) := h
-- UnbeatenHouse.bar(IIZ)Z (('c', 0), 'I', 'I', 'I')
set_option maxRecDepth 100000 in
set_option maxHeartbeats 8000000 in
theorem e277 {cal : Nat → List Value → mj_H → mj_R → Prop} {Q : mj_R → Prop} {K : Nat → mj_K} {I0 : Nat → Nat → Int32} {J0 : Nat → Nat → Int64} (x1 : Int32) (x2 : Int32) (x3 : Int32)
    (h : (True ∧ ∃ (r1 : Int32) (I1 : Nat → Nat → Int32) (J1 : Nat → Nat → Int64), cal 275 [.int x1] (I0, J0, mj_R1) (.int r1, (I1, J1, mj_R1)) ∧ ((if r1 = 0 then
      (((0 : Int32) = 0 ∨ (0 : Int32) = 1) ∧ Q (.int (0 : Int32), (I1, J1, mj_R1)))
    else
      (True ∧ ∃ (r2 : Int32) (I2 : Nat → Nat → Int32) (J2 : Nat → Nat → Int64), cal 192 [.ref 1, .int (1 : Int32), .int x2] (I1, J1, mj_R1) (.int r2, (I2, J2, mj_R1)) ∧ ((if r2 = 0 then
        (((0 : Int32) = 0 ∨ (0 : Int32) = 1) ∧ Q (.int (0 : Int32), (I2, J2, mj_R1)))
      else
        (if x3 = 0 then
          (vp_in x1 6 ∧ ((vp_in x1 6 ∧ ((((1 : Int32) = 0 ∨ (1 : Int32) = 1) ∧ Q (.int (1 : Int32), (I2, (mj_up J2 61 x1.toNatClampNeg ((J2 61 x1.toNatClampNeg) &&& (((1 : Int64) <<< (x2.toInt64 &&& 63)) ^^^ (-1 : Int64)))), mj_R1)))))))
        else
          (vp_in x1 6 ∧ ((vp_in x1 6 ∧ ((((1 : Int32) = 0 ∨ (1 : Int32) = 1) ∧ Q (.int (1 : Int32), (I2, (mj_up J2 61 x1.toNatClampNeg ((J2 61 x1.toNatClampNeg) ||| ((1 : Int64) <<< (x2.toInt64 &&& 63)))), mj_R1))))))))))))))) :
    mj_if (Nat.ble (mj_sz [.ref 0, .int x1, .int x2, .int x3]) mt_277.2.2) (mj_sg mj_S1 mt_277 cal Q K 100 0 (mj_a0 0 [.ref 0, .int x1, .int x2, .int x3]) [] (I0, J0, mj_R1)) := h
-- UnbeatenHouse.choose(I)I (('c', 0), 'I')
set_option maxRecDepth 100000 in
set_option maxHeartbeats 8000000 in
theorem e278 {cal : Nat → List Value → mj_H → mj_R → Prop} {Q : mj_R → Prop} {K : Nat → mj_K} {I0 : Nat → Nat → Int32} {J0 : Nat → Nat → Int64} (x1 : Int32)
    (h : (True ∧ ∃ (r1 : Int32) (I1 : Nat → Nat → Int32) (J1 : Nat → Nat → Int64), cal 279 [.ref 58, .ref 24] (I0, J0, mj_R1) (.int r1, (I1, J1, mj_R1)) ∧ ((if r1 = 0 then
      Q (.int (-1 : Int32), (I1, J1, mj_R1))
    else
      (True ∧ ∃ (r2 : Int32) (I2 : Nat → Nat → Int32) (J2 : Nat → Nat → Int64), cal 281 [.ref 58, .int x1, .long (J1 58 5)] (I1, J1, mj_R1) (.int r2, (I2, J2, mj_R1)) ∧ (Q (.int r2, (I2, J2, mj_R1)))))))) :
    mj_if (Nat.ble (mj_sz [.ref 0, .int x1]) mt_278.2.2) (mj_sg mj_S1 mt_278 cal Q K 100 0 (mj_a0 0 [.ref 0, .int x1]) [] (I0, J0, mj_R1)) := h
-- UnbeatenHouse$People.gather(LUnbeatenHouse$Rows;)Z (('c', 58), ('c', 24))
set_option maxRecDepth 100000 in
set_option maxHeartbeats 8000000 in
theorem e279 {cal : Nat → List Value → mj_H → mj_R → Prop} {Q : mj_R → Prop} {K : Nat → mj_K} {I0 : Nat → Nat → Int32} {J0 : Nat → Nat → Int64}
    (h : K 15 [(0, .ref 58), (1, .ref 24), (2, .int (0 : Int32))] [] ((mj_up I0 58 4 (0 : Int32)), (mj_up J0 58 5 (J0 24 6)), mj_R1)) :
    mj_if (Nat.ble (mj_sz [.ref 58, .ref 24]) mt_279.2.2) (mj_sg mj_S1 mt_279 cal Q K 100 0 (mj_a0 0 [.ref 58, .ref 24]) [] (I0, J0, mj_R1)) := h
set_option maxRecDepth 100000 in
set_option maxHeartbeats 8000000 in
theorem s279_15 {cal : Nat → List Value → mj_H → mj_R → Prop} {Q : mj_R → Prop} {K : Nat → mj_K} {I0 : Nat → Nat → Int32} {J0 : Nat → Nat → Int64} (x2 : Int32)
    (h : (if (6 : Int32) ≤ x2 then
      (if (I0 58 4) ≤ 0 then
        (((0 : Int32) = 0 ∨ (0 : Int32) = 1) ∧ Q (.int (0 : Int32), (I0, J0, mj_R1)))
      else
        (((1 : Int32) = 0 ∨ (1 : Int32) = 1) ∧ Q (.int (1 : Int32), (I0, J0, mj_R1))))
    else
      (vp_in x2 6 ∧ ((vp_in x2 6 ∧ ((if (I0 60 x2.toNatClampNeg) = 0 then
        K 15 [(0, .ref 58), (1, .ref 24), (2, .int (x2 + (1 : Int32)))] [] (I0, (mj_up J0 58 5 ((J0 58 5) &&& ((J0 61 x2.toNatClampNeg) ^^^ (-1 : Int64)))), mj_R1)
      else
        (True ∧ ∃ (I1 : Nat → Nat → Int32) (J1 : Nat → Nat → Int64), cal 280 [.ref 58, .int x2, .ref 24] ((mj_up I0 58 4 ((I0 58 4) + (1 : Int32))), (mj_up J0 58 5 ((J0 58 5) &&& ((J0 61 x2.toNatClampNeg) ^^^ (-1 : Int64)))), mj_R1) (.null, (I1, J1, mj_R1)) ∧ (K 15 [(0, .ref 58), (1, .ref 24), (2, .int (x2 + (1 : Int32)))] [] (I1, J1, mj_R1)))))))))) :
    mj_go mj_S1 mt_279 cal Q K 15 [(0, .ref 58), (1, .ref 24), (2, .int x2)] [] (I0, J0, mj_R1) := h
-- UnbeatenHouse$People.weighAll(ILUnbeatenHouse$Rows;)V (('c', 58), 'I', ('c', 24))
set_option maxRecDepth 100000 in
set_option maxHeartbeats 8000000 in
theorem e280 {cal : Nat → List Value → mj_H → mj_R → Prop} {Q : mj_R → Prop} {K : Nat → mj_K} {I0 : Nat → Nat → Int32} {J0 : Nat → Nat → Int64} (x1 : Int32)
    (h : K 2 [(0, .ref 58), (1, .int x1), (2, .ref 24), (3, .int (0 : Int32))] [] (I0, J0, mj_R1)) :
    mj_if (Nat.ble (mj_sz [.ref 58, .int x1, .ref 24]) mt_280.2.2) (mj_sg mj_S1 mt_280 cal Q K 100 0 (mj_a0 0 [.ref 58, .int x1, .ref 24]) [] (I0, J0, mj_R1)) := h
set_option maxRecDepth 100000 in
set_option maxHeartbeats 8000000 in
theorem s280_2 {cal : Nat → List Value → mj_H → mj_R → Prop} {Q : mj_R → Prop} {K : Nat → mj_K} {I0 : Nat → Nat → Int32} {J0 : Nat → Nat → Int64} (x1 : Int32) (x3 : Int32)
    (h : (if (I0 24 0) ≤ x3 then
      Q (.null, (I0, J0, mj_R1))
    else
      K 16 [(0, .ref 58), (1, .int x1), (2, .ref 24), (3, .int x3), (4, .int (0 : Int32)), (5, .int (0 : Int32))] [] (I0, J0, mj_R1))) :
    mj_go mj_S1 mt_280 cal Q K 2 [(0, .ref 58), (1, .int x1), (2, .ref 24), (3, .int x3)] [] (I0, J0, mj_R1) := h
set_option maxRecDepth 100000 in
set_option maxHeartbeats 8000000 in
theorem s280_16 {cal : Nat → List Value → mj_H → mj_R → Prop} {Q : mj_R → Prop} {K : Nat → mj_K} {I0 : Nat → Nat → Int32} {J0 : Nat → Nat → Int64} (x1 : Int32) (x3 : Int32) (x4 : Int32) (x5 : Int32)
    (h : (if (I0 24 1) ≤ x5 then
      (vp_in ((x1 * (40 : Int32)) + x3) 240 ∧ (K 2 [(0, .ref 58), (1, .int x1), (2, .ref 24), (3, .int (x3 + (1 : Int32)))] [] ((mj_up I0 62 ((x1 * (40 : Int32)) + x3).toNatClampNeg x4), J0, mj_R1)))
    else
      (vp_in ((x1 * (4 : Int32)) + x5) 24 ∧ ((vp_in ((x3 * (4 : Int32)) + x5) 160 ∧ (K 16 [(0, .ref 58), (1, .int x1), (2, .ref 24), (3, .int x3), (4, .int (x4 + ((I0 59 ((x1 * (4 : Int32)) + x5).toNatClampNeg) * (I0 25 ((x3 * (4 : Int32)) + x5).toNatClampNeg)))), (5, .int (x5 + (1 : Int32)))] [] (I0, J0, mj_R1))))))) :
    mj_go mj_S1 mt_280 cal Q K 16 [(0, .ref 58), (1, .int x1), (2, .ref 24), (3, .int x3), (4, .int x4), (5, .int x5)] [] (I0, J0, mj_R1) := h
-- UnbeatenHouse$People.pick(IJ)I (('c', 58), 'I', 'J')
set_option maxRecDepth 100000 in
set_option maxHeartbeats 8000000 in
theorem e281 {cal : Nat → List Value → mj_H → mj_R → Prop} {Q : mj_R → Prop} {K : Nat → mj_K} {I0 : Nat → Nat → Int32} {J0 : Nat → Nat → Int64} (x1 : Int32) (x2 : Int64)
    (h : (if x1 = (3 : Int32) then
      (True ∧ ∃ (r1 : Int32) (I1 : Nat → Nat → Int32) (J1 : Nat → Nat → Int64), cal 282 [.ref 58, .long x2] (I0, J0, mj_R1) (.int r1, (I1, J1, mj_R1)) ∧ (Q (.int r1, (I1, J1, mj_R1))))
    else
      (if x1 < 0 then
        Q (.int (-1 : Int32), (I0, J0, mj_R1))
      else
        (if x1 ≤ (3 : Int32) then
          K 31 [(0, .ref 58), (1, .int x1), (2, .long x2), (4, .int (-1 : Int32)), (5, .int (0 : Int32)), (6, .int (0 : Int32))] [] (I0, J0, mj_R1)
        else
          Q (.int (-1 : Int32), (I0, J0, mj_R1)))))) :
    mj_if (Nat.ble (mj_sz [.ref 58, .int x1, .long x2]) mt_281.2.2) (mj_sg mj_S1 mt_281 cal Q K 100 0 (mj_a0 0 [.ref 58, .int x1, .long x2]) [] (I0, J0, mj_R1)) := h
set_option maxRecDepth 100000 in
set_option maxHeartbeats 8000000 in
theorem s281_31 {cal : Nat → List Value → mj_H → mj_R → Prop} {Q : mj_R → Prop} {K : Nat → mj_K} {I0 : Nat → Nat → Int32} {J0 : Nat → Nat → Int64} (x1 : Int32) (x2 : Int64) (x4 : Int32) (x5 : Int32) (x6 : Int32)
    (h : (if (40 : Int32) ≤ x6 then
      Q (.int x4, (I0, J0, mj_R1))
    else
      (True ∧ ∃ (r1 : Int32) (I1 : Nat → Nat → Int32) (J1 : Nat → Nat → Int64), cal 178 [.long x2, .int x6] (I0, J0, mj_R1) (.int r1, (I1, J1, mj_R1)) ∧ ((if r1 = 0 then
        K 31 [(0, .ref 58), (1, .int x1), (2, .long x2), (4, .int x4), (5, .int x5), (6, .int (x6 + (1 : Int32)))] [] (I1, J1, mj_R1)
      else
        (True ∧ ∃ (r2 : Int32) (I2 : Nat → Nat → Int32) (J2 : Nat → Nat → Int64), cal 285 [.ref 58, .int x1, .int x6, .long x2] (I1, J1, mj_R1) (.int r2, (I2, J2, mj_R1)) ∧ ((if x4 = (-1 : Int32) then
          K 70 [(0, .ref 58), (1, .int x1), (2, .long x2), (6, .int x6), (7, .int r2)] [] (I2, J2, mj_R1)
        else
          (if x5 ≤ r2 then
            K 31 [(0, .ref 58), (1, .int x1), (2, .long x2), (4, .int x4), (5, .int x5), (6, .int (x6 + (1 : Int32)))] [] (I2, J2, mj_R1)
          else
            K 70 [(0, .ref 58), (1, .int x1), (2, .long x2), (6, .int x6), (7, .int r2)] [] (I2, J2, mj_R1)))))))))) :
    mj_go mj_S1 mt_281 cal Q K 31 [(0, .ref 58), (1, .int x1), (2, .long x2), (4, .int x4), (5, .int x5), (6, .int x6)] [] (I0, J0, mj_R1) := h
set_option maxRecDepth 100000 in
set_option maxHeartbeats 8000000 in
theorem s281_70 {cal : Nat → List Value → mj_H → mj_R → Prop} {Q : mj_R → Prop} {K : Nat → mj_K} {I0 : Nat → Nat → Int32} {J0 : Nat → Nat → Int64} (x1 : Int32) (x2 : Int64) (x6 : Int32) (x7 : Int32)
    (h : K 31 [(0, .ref 58), (1, .int x1), (2, .long x2), (4, .int x6), (5, .int x7), (6, .int (x6 + (1 : Int32)))] [] (I0, J0, mj_R1)) :
    mj_go mj_S1 mt_281 cal Q K 70 [(0, .ref 58), (1, .int x1), (2, .long x2), (6, .int x6), (7, .int x7)] [] (I0, J0, mj_R1) := h
-- UnbeatenHouse$People.pickAheadOfAll(J)I (('c', 58), 'J')
set_option maxRecDepth 100000 in
set_option maxHeartbeats 8000000 in
theorem e282 {cal : Nat → List Value → mj_H → mj_R → Prop} {Q : mj_R → Prop} {K : Nat → mj_K} {I0 : Nat → Nat → Int32} {J0 : Nat → Nat → Int64} (x1 : Int64)
    (h : K 2 [(0, .ref 58), (1, .long x1), (3, .int (0 : Int32))] [] (I0, J0, mj_R1)) :
    mj_if (Nat.ble (mj_sz [.ref 58, .long x1]) mt_282.2.2) (mj_sg mj_S1 mt_282 cal Q K 100 0 (mj_a0 0 [.ref 58, .long x1]) [] (I0, J0, mj_R1)) := h
set_option maxRecDepth 100000 in
set_option maxHeartbeats 8000000 in
theorem s282_2 {cal : Nat → List Value → mj_H → mj_R → Prop} {Q : mj_R → Prop} {K : Nat → mj_K} {I0 : Nat → Nat → Int32} {J0 : Nat → Nat → Int64} (x1 : Int64) (x3 : Int32)
    (h : (if (40 : Int32) ≤ x3 then
      Q (.int (-1 : Int32), (I0, J0, mj_R1))
    else
      (True ∧ ∃ (r1 : Int32) (I1 : Nat → Nat → Int32) (J1 : Nat → Nat → Int64), cal 178 [.long x1, .int x3] (I0, J0, mj_R1) (.int r1, (I1, J1, mj_R1)) ∧ (K 18 [(0, .ref 58), (1, .long x1), (3, .int x3), (4, .int r1), (5, .int (0 : Int32))] [] (I1, J1, mj_R1))))) :
    mj_go mj_S1 mt_282 cal Q K 2 [(0, .ref 58), (1, .long x1), (3, .int x3)] [] (I0, J0, mj_R1) := h
set_option maxRecDepth 100000 in
set_option maxHeartbeats 8000000 in
theorem s282_18 {cal : Nat → List Value → mj_H → mj_R → Prop} {Q : mj_R → Prop} {K : Nat → mj_K} {I0 : Nat → Nat → Int32} {J0 : Nat → Nat → Int64} (x1 : Int64) (x3 : Int32) (x4 : Int32) (x5 : Int32)
    (h : (if (40 : Int32) ≤ x5 then
      K 68 [(0, .ref 58), (1, .long x1), (3, .int x3), (4, .int x4)] [] (I0, J0, mj_R1)
    else
      (if x4 = 0 then
        K 68 [(0, .ref 58), (1, .long x1), (3, .int x3), (4, .int x4)] [] (I0, J0, mj_R1)
      else
        (if x5 = x3 then
          K 18 [(0, .ref 58), (1, .long x1), (3, .int x3), (4, .int (1 : Int32)), (5, .int (x5 + (1 : Int32)))] [] (I0, J0, mj_R1)
        else
          (True ∧ ∃ (r1 : Int32) (I1 : Nat → Nat → Int32) (J1 : Nat → Nat → Int64), cal 178 [.long x1, .int x5] (I0, J0, mj_R1) (.int r1, (I1, J1, mj_R1)) ∧ ((if r1 = 0 then
            K 18 [(0, .ref 58), (1, .long x1), (3, .int x3), (4, .int (1 : Int32)), (5, .int (x5 + (1 : Int32)))] [] (I1, J1, mj_R1)
          else
            (True ∧ ∃ (r2 : Int32) (I2 : Nat → Nat → Int32) (J2 : Nat → Nat → Int64), cal 283 [.ref 58, .int x3, .int x5] (I1, J1, mj_R1) (.int r2, (I2, J2, mj_R1)) ∧ ((if r2 = 0 then
              K 18 [(0, .ref 58), (1, .long x1), (3, .int x3), (4, .int (0 : Int32)), (5, .int (x5 + (1 : Int32)))] [] (I2, J2, mj_R1)
            else
              K 18 [(0, .ref 58), (1, .long x1), (3, .int x3), (4, .int (1 : Int32)), (5, .int (x5 + (1 : Int32)))] [] (I2, J2, mj_R1))))))))))) :
    mj_go mj_S1 mt_282 cal Q K 18 [(0, .ref 58), (1, .long x1), (3, .int x3), (4, .int x4), (5, .int x5)] [] (I0, J0, mj_R1) := h
set_option maxRecDepth 100000 in
set_option maxHeartbeats 8000000 in
theorem s282_68 {cal : Nat → List Value → mj_H → mj_R → Prop} {Q : mj_R → Prop} {K : Nat → mj_K} {I0 : Nat → Nat → Int32} {J0 : Nat → Nat → Int64} (x1 : Int64) (x3 : Int32) (x4 : Int32)
    (h : (if x4 = 0 then
      K 2 [(0, .ref 58), (1, .long x1), (3, .int (x3 + (1 : Int32)))] [] (I0, J0, mj_R1)
    else
      Q (.int x3, (I0, J0, mj_R1)))) :
    mj_go mj_S1 mt_282 cal Q K 68 [(0, .ref 58), (1, .long x1), (3, .int x3), (4, .int x4)] [] (I0, J0, mj_R1) := h
-- UnbeatenHouse$People.isAheadForMost(II)Z (('c', 58), 'I', 'I')
set_option maxRecDepth 100000 in
set_option maxHeartbeats 8000000 in
theorem e283 {cal : Nat → List Value → mj_H → mj_R → Prop} {Q : mj_R → Prop} {K : Nat → mj_K} {I0 : Nat → Nat → Int32} {J0 : Nat → Nat → Int64} (x1 : Int32) (x2 : Int32)
    (h : K 5 [(0, .ref 58), (1, .int x1), (2, .int x2), (3, .int (0 : Int32)), (4, .int (0 : Int32))] [] (I0, J0, mj_R1)) :
    mj_if (Nat.ble (mj_sz [.ref 58, .int x1, .int x2]) mt_283.2.2) (mj_sg mj_S1 mt_283 cal Q K 100 0 (mj_a0 0 [.ref 58, .int x1, .int x2]) [] (I0, J0, mj_R1)) := h
set_option maxRecDepth 100000 in
set_option maxHeartbeats 8000000 in
theorem s283_5 {cal : Nat → List Value → mj_H → mj_R → Prop} {Q : mj_R → Prop} {K : Nat → mj_K} {I0 : Nat → Nat → Int32} {J0 : Nat → Nat → Int64} (x1 : Int32) (x2 : Int32) (x3 : Int32) (x4 : Int32)
    (h : (if (6 : Int32) ≤ x4 then
      (if ((2 : Int32) * x3) ≤ (I0 58 4) then
        (((0 : Int32) = 0 ∨ (0 : Int32) = 1) ∧ Q (.int (0 : Int32), (I0, J0, mj_R1)))
      else
        (((1 : Int32) = 0 ∨ (1 : Int32) = 1) ∧ Q (.int (1 : Int32), (I0, J0, mj_R1))))
    else
      (vp_in x4 6 ∧ ((if (I0 60 x4.toNatClampNeg) = 0 then
        K 5 [(0, .ref 58), (1, .int x1), (2, .int x2), (3, .int x3), (4, .int (x4 + (1 : Int32)))] [] (I0, J0, mj_R1)
      else
        (True ∧ ∃ (r1 : Int32) (I1 : Nat → Nat → Int32) (J1 : Nat → Nat → Int64), cal 284 [.ref 58, .int x4, .int x1, .int x2] (I0, J0, mj_R1) (.int r1, (I1, J1, mj_R1)) ∧ ((if r1 = 0 then
          K 5 [(0, .ref 58), (1, .int x1), (2, .int x2), (3, .int x3), (4, .int (x4 + (1 : Int32)))] [] (I1, J1, mj_R1)
        else
          K 5 [(0, .ref 58), (1, .int x1), (2, .int x2), (3, .int (x3 + (1 : Int32))), (4, .int (x4 + (1 : Int32)))] [] (I1, J1, mj_R1))))))))) :
    mj_go mj_S1 mt_283 cal Q K 5 [(0, .ref 58), (1, .int x1), (2, .int x2), (3, .int x3), (4, .int x4)] [] (I0, J0, mj_R1) := h
-- UnbeatenHouse$People.isAhead(III)Z (('c', 58), 'I', 'I', 'I')
set_option maxRecDepth 100000 in
set_option maxHeartbeats 8000000 in
theorem e284 {cal : Nat → List Value → mj_H → mj_R → Prop} {Q : mj_R → Prop} {K : Nat → mj_K} {I0 : Nat → Nat → Int32} {J0 : Nat → Nat → Int64} (x1 : Int32) (x2 : Int32) (x3 : Int32)
    (h : (vp_in ((x1 * (40 : Int32)) + x2) 240 ∧ ((vp_in ((x1 * (40 : Int32)) + x3) 240 ∧ ((if ((I0 62 ((x1 * (40 : Int32)) + x2).toNatClampNeg) - (I0 62 ((x1 * (40 : Int32)) + x3).toNatClampNeg)) < 0 then
      (((1 : Int32) = 0 ∨ (1 : Int32) = 1) ∧ Q (.int (1 : Int32), (I0, J0, mj_R1)))
    else
      (if ((I0 62 ((x1 * (40 : Int32)) + x2).toNatClampNeg) - (I0 62 ((x1 * (40 : Int32)) + x3).toNatClampNeg)) = 0 then
        (if x3 ≤ x2 then
          (((0 : Int32) = 0 ∨ (0 : Int32) = 1) ∧ Q (.int (0 : Int32), (I0, J0, mj_R1)))
        else
          (((1 : Int32) = 0 ∨ (1 : Int32) = 1) ∧ Q (.int (1 : Int32), (I0, J0, mj_R1))))
      else
        (((0 : Int32) = 0 ∨ (0 : Int32) = 1) ∧ Q (.int (0 : Int32), (I0, J0, mj_R1)))))))))) :
    mj_if (Nat.ble (mj_sz [.ref 58, .int x1, .int x2, .int x3]) mt_284.2.2) (mj_sg mj_S1 mt_284 cal Q K 100 0 (mj_a0 0 [.ref 58, .int x1, .int x2, .int x3]) [] (I0, J0, mj_R1)) := h
-- UnbeatenHouse$People.blameOf(IIJ)I (('c', 58), 'I', 'I', 'J')
set_option maxRecDepth 100000 in
set_option maxHeartbeats 8000000 in
theorem e285 {cal : Nat → List Value → mj_H → mj_R → Prop} {Q : mj_R → Prop} {K : Nat → mj_K} {I0 : Nat → Nat → Int32} {J0 : Nat → Nat → Int64} (x1 : Int32) (x2 : Int32) (x3 : Int64)
    (h : K 6 [(0, .ref 58), (1, .int x1), (2, .int x2), (3, .long x3), (5, .int (0 : Int32)), (6, .int (0 : Int32))] [] (I0, J0, mj_R1)) :
    mj_if (Nat.ble (mj_sz [.ref 58, .int x1, .int x2, .long x3]) mt_285.2.2) (mj_sg mj_S1 mt_285 cal Q K 100 0 (mj_a0 0 [.ref 58, .int x1, .int x2, .long x3]) [] (I0, J0, mj_R1)) := h
set_option maxRecDepth 100000 in
set_option maxHeartbeats 8000000 in
theorem s285_6 {cal : Nat → List Value → mj_H → mj_R → Prop} {Q : mj_R → Prop} {K : Nat → mj_K} {I0 : Nat → Nat → Int32} {J0 : Nat → Nat → Int64} (x1 : Int32) (x2 : Int32) (x3 : Int64) (x5 : Int32) (x6 : Int32)
    (h : (if (6 : Int32) ≤ x6 then
      Q (.int x5, (I0, J0, mj_R1))
    else
      (vp_in x6 6 ∧ ((if (I0 60 x6.toNatClampNeg) = 0 then
        K 6 [(0, .ref 58), (1, .int x1), (2, .int x2), (3, .long x3), (5, .int x5), (6, .int (x6 + (1 : Int32)))] [] (I0, J0, mj_R1)
      else
        (True ∧ ∃ (r1 : Int32) (I1 : Nat → Nat → Int32) (J1 : Nat → Nat → Int64), cal 286 [.ref 58, .int x6, .int x2, .long x3] (I0, J0, mj_R1) (.int r1, (I1, J1, mj_R1)) ∧ ((if x1 = 0 then
          (if r1 = 0 then
            K 6 [(0, .ref 58), (1, .int x1), (2, .int x2), (3, .long x3), (5, .int (x5 - (1 : Int32))), (6, .int (x6 + (1 : Int32)))] [] (I1, J1, mj_R1)
          else
            K 6 [(0, .ref 58), (1, .int x1), (2, .int x2), (3, .long x3), (5, .int (x5 - (0 : Int32))), (6, .int (x6 + (1 : Int32)))] [] (I1, J1, mj_R1))
        else
          (if x1 = (1 : Int32) then
            K 6 [(0, .ref 58), (1, .int x1), (2, .int x2), (3, .long x3), (5, .int (x5 + r1)), (6, .int (x6 + (1 : Int32)))] [] (I1, J1, mj_R1)
          else
            (True ∧ ∃ (r2 : Int32) (I2 : Nat → Nat → Int32) (J2 : Nat → Nat → Int64), cal 1 [.int x5, .int r1] (I1, J1, mj_R1) (.int r2, (I2, J2, mj_R1)) ∧ (K 6 [(0, .ref 58), (1, .int x1), (2, .int x2), (3, .long x3), (5, .int r2), (6, .int (x6 + (1 : Int32)))] [] (I2, J2, mj_R1)))))))))))) :
    mj_go mj_S1 mt_285 cal Q K 6 [(0, .ref 58), (1, .int x1), (2, .int x2), (3, .long x3), (5, .int x5), (6, .int x6)] [] (I0, J0, mj_R1) := h
-- UnbeatenHouse$People.rank(IIJ)I (('c', 58), 'I', 'I', 'J')
set_option maxRecDepth 100000 in
set_option maxHeartbeats 8000000 in
theorem e286 {cal : Nat → List Value → mj_H → mj_R → Prop} {Q : mj_R → Prop} {K : Nat → mj_K} {I0 : Nat → Nat → Int32} {J0 : Nat → Nat → Int64} (x1 : Int32) (x2 : Int32) (x3 : Int64)
    (h : K 6 [(0, .ref 58), (1, .int x1), (2, .int x2), (3, .long x3), (5, .int (0 : Int32)), (6, .int (0 : Int32))] [] (I0, J0, mj_R1)) :
    mj_if (Nat.ble (mj_sz [.ref 58, .int x1, .int x2, .long x3]) mt_286.2.2) (mj_sg mj_S1 mt_286 cal Q K 100 0 (mj_a0 0 [.ref 58, .int x1, .int x2, .long x3]) [] (I0, J0, mj_R1)) := h
set_option maxRecDepth 100000 in
set_option maxHeartbeats 8000000 in
theorem s286_6 {cal : Nat → List Value → mj_H → mj_R → Prop} {Q : mj_R → Prop} {K : Nat → mj_K} {I0 : Nat → Nat → Int32} {J0 : Nat → Nat → Int64} (x1 : Int32) (x2 : Int32) (x3 : Int64) (x5 : Int32) (x6 : Int32)
    (h : (if (40 : Int32) ≤ x6 then
      Q (.int x5, (I0, J0, mj_R1))
    else
      (True ∧ ∃ (r1 : Int32) (I1 : Nat → Nat → Int32) (J1 : Nat → Nat → Int64), cal 178 [.long x3, .int x6] (I0, J0, mj_R1) (.int r1, (I1, J1, mj_R1)) ∧ ((if r1 = 0 then
        K 6 [(0, .ref 58), (1, .int x1), (2, .int x2), (3, .long x3), (5, .int x5), (6, .int (x6 + (1 : Int32)))] [] (I1, J1, mj_R1)
      else
        (True ∧ ∃ (r2 : Int32) (I2 : Nat → Nat → Int32) (J2 : Nat → Nat → Int64), cal 284 [.ref 58, .int x1, .int x6, .int x2] (I1, J1, mj_R1) (.int r2, (I2, J2, mj_R1)) ∧ ((if r2 = 0 then
          K 6 [(0, .ref 58), (1, .int x1), (2, .int x2), (3, .long x3), (5, .int x5), (6, .int (x6 + (1 : Int32)))] [] (I2, J2, mj_R1)
        else
          K 6 [(0, .ref 58), (1, .int x1), (2, .int x2), (3, .long x3), (5, .int (x5 + (1 : Int32))), (6, .int (x6 + (1 : Int32)))] [] (I2, J2, mj_R1))))))))) :
    mj_go mj_S1 mt_286 cal Q K 6 [(0, .ref 58), (1, .int x1), (2, .int x2), (3, .long x3), (5, .int x5), (6, .int x6)] [] (I0, J0, mj_R1) := h
-- UnbeatenHouse.breaks(I)I (('c', 0), 'I')
set_option maxRecDepth 100000 in
set_option maxHeartbeats 8000000 in
theorem e287 {cal : Nat → List Value → mj_H → mj_R → Prop} {Q : mj_R → Prop} {K : Nat → mj_K} {I0 : Nat → Nat → Int32} {J0 : Nat → Nat → Int64} (x1 : Int32)
    (h : (True ∧ ∃ (r1 : Int32) (I1 : Nat → Nat → Int32) (J1 : Nat → Nat → Int64), cal 279 [.ref 58, .ref 24] (I0, J0, mj_R1) (.int r1, (I1, J1, mj_R1)) ∧ ((if r1 = 0 then
      Q (.int (-1 : Int32), (I1, J1, mj_R1))
    else
      (True ∧ ∃ (r2 : Int32) (I2 : Nat → Nat → Int32) (J2 : Nat → Nat → Int64), cal 288 [.ref 58, .int x1] (I1, J1, mj_R1) (.int r2, (I2, J2, mj_R1)) ∧ (Q (.int r2, (I2, J2, mj_R1)))))))) :
    mj_if (Nat.ble (mj_sz [.ref 0, .int x1]) mt_287.2.2) (mj_sg mj_S1 mt_287 cal Q K 100 0 (mj_a0 0 [.ref 0, .int x1]) [] (I0, J0, mj_R1)) := h
-- UnbeatenHouse$People.broken(I)I (('c', 58), 'I')
set_option maxRecDepth 100000 in
set_option maxHeartbeats 8000000 in
theorem e288 {cal : Nat → List Value → mj_H → mj_R → Prop} {Q : mj_R → Prop} {K : Nat → mj_K} {I0 : Nat → Nat → Int32} {J0 : Nat → Nat → Int64} (x1 : Int32)
    (h : (True ∧ ∃ (r1 : Int32) (I1 : Nat → Nat → Int32) (J1 : Nat → Nat → Int64), cal 281 [.ref 58, .int x1, .long (J0 58 5)] (I0, J0, mj_R1) (.int r1, (I1, J1, mj_R1)) ∧ ((if r1 = (-1 : Int32) then
      Q (.int (-1 : Int32), (I1, J1, mj_R1))
    else
      (True ∧ ∃ (r2 : Int32) (I2 : Nat → Nat → Int32) (J2 : Nat → Nat → Int64), cal 282 [.ref 58, .long (J1 58 5)] (I1, J1, mj_R1) (.int r2, (I2, J2, mj_R1)) ∧ ((if r2 = (-1 : Int32) then
        K 43 [(0, .ref 58), (1, .int x1), (2, .int r1), (4, .int (0 : Int32))] [] (I2, J2, mj_R1)
      else
        (if r2 = r1 then
          K 43 [(0, .ref 58), (1, .int x1), (2, .int r1), (4, .int (0 : Int32))] [] (I2, J2, mj_R1)
        else
          K 43 [(0, .ref 58), (1, .int x1), (2, .int r1), (4, .int (1 : Int32))] [] (I2, J2, mj_R1))))))))) :
    mj_if (Nat.ble (mj_sz [.ref 58, .int x1]) mt_288.2.2) (mj_sg mj_S1 mt_288 cal Q K 100 0 (mj_a0 0 [.ref 58, .int x1]) [] (I0, J0, mj_R1)) := h
set_option maxRecDepth 100000 in
set_option maxHeartbeats 8000000 in
theorem s288_43 {cal : Nat → List Value → mj_H → mj_R → Prop} {Q : mj_R → Prop} {K : Nat → mj_K} {I0 : Nat → Nat → Int32} {J0 : Nat → Nat → Int64} (x1 : Int32) (x2 : Int32) (x4 : Int32)
    (h : (True ∧ ∃ (r1 : Int32) (I1 : Nat → Nat → Int32) (J1 : Nat → Nat → Int64), cal 289 [.ref 58, .int x2] (I0, J0, mj_R1) (.int r1, (I1, J1, mj_R1)) ∧ ((if r1 = 0 then
      K 54 [(0, .ref 58), (1, .int x1), (2, .int x2), (4, .int x4)] [] (I1, J1, mj_R1)
    else
      K 54 [(0, .ref 58), (1, .int x1), (2, .int x2), (4, .int (x4 + (2 : Int32)))] [] (I1, J1, mj_R1))))) :
    mj_go mj_S1 mt_288 cal Q K 43 [(0, .ref 58), (1, .int x1), (2, .int x2), (4, .int x4)] [] (I0, J0, mj_R1) := h
set_option maxRecDepth 100000 in
set_option maxHeartbeats 8000000 in
theorem s288_54 {cal : Nat → List Value → mj_H → mj_R → Prop} {Q : mj_R → Prop} {K : Nat → mj_K} {I0 : Nat → Nat → Int32} {J0 : Nat → Nat → Int64} (x1 : Int32) (x2 : Int32) (x4 : Int32)
    (h : (True ∧ ∃ (r1 : Int64) (I1 : Nat → Nat → Int32) (J1 : Nat → Nat → Int64), cal 290 [.ref 58] (I0, J0, mj_R1) (.long r1, (I1, J1, mj_R1)) ∧ ((True ∧ ∃ (r2 : Int32) (I2 : Nat → Nat → Int32) (J2 : Nat → Nat → Int64), cal 281 [.ref 58, .int x1, .long r1] (I1, J1, mj_R1) (.int r2, (I2, J2, mj_R1)) ∧ ((if r2 = x2 then
      Q (.int x4, (I2, J2, mj_R1))
    else
      Q (.int (x4 + (4 : Int32)), (I2, J2, mj_R1)))))))) :
    mj_go mj_S1 mt_288 cal Q K 54 [(0, .ref 58), (1, .int x1), (2, .int x2), (4, .int x4)] [] (I0, J0, mj_R1) := h
-- UnbeatenHouse$People.isBehindAll(I)Z (('c', 58), 'I')
set_option maxRecDepth 100000 in
set_option maxHeartbeats 8000000 in
theorem e289 {cal : Nat → List Value → mj_H → mj_R → Prop} {Q : mj_R → Prop} {K : Nat → mj_K} {I0 : Nat → Nat → Int32} {J0 : Nat → Nat → Int64} (x1 : Int32)
    (h : K 2 [(0, .ref 58), (1, .int x1), (2, .int (0 : Int32))] [] (I0, J0, mj_R1)) :
    mj_if (Nat.ble (mj_sz [.ref 58, .int x1]) mt_289.2.2) (mj_sg mj_S1 mt_289 cal Q K 100 0 (mj_a0 0 [.ref 58, .int x1]) [] (I0, J0, mj_R1)) := h
set_option maxRecDepth 100000 in
set_option maxHeartbeats 8000000 in
theorem s289_2 {cal : Nat → List Value → mj_H → mj_R → Prop} {Q : mj_R → Prop} {K : Nat → mj_K} {I0 : Nat → Nat → Int32} {J0 : Nat → Nat → Int64} (x1 : Int32) (x2 : Int32)
    (h : (if (40 : Int32) ≤ x2 then
      (if (lg_cmp (J0 58 5) ((1 : Int64) <<< (x1.toInt64 &&& 63))) = 0 then
        (((0 : Int32) = 0 ∨ (0 : Int32) = 1) ∧ Q (.int (0 : Int32), (I0, J0, mj_R1)))
      else
        (((1 : Int32) = 0 ∨ (1 : Int32) = 1) ∧ Q (.int (1 : Int32), (I0, J0, mj_R1))))
    else
      (if x2 = x1 then
        K 2 [(0, .ref 58), (1, .int x1), (2, .int (x2 + (1 : Int32)))] [] (I0, J0, mj_R1)
      else
        (True ∧ ∃ (r1 : Int32) (I1 : Nat → Nat → Int32) (J1 : Nat → Nat → Int64), cal 178 [.long (J0 58 5), .int x2] (I0, J0, mj_R1) (.int r1, (I1, J1, mj_R1)) ∧ ((if r1 = 0 then
          K 2 [(0, .ref 58), (1, .int x1), (2, .int (x2 + (1 : Int32)))] [] (I1, J1, mj_R1)
        else
          (True ∧ ∃ (r2 : Int32) (I2 : Nat → Nat → Int32) (J2 : Nat → Nat → Int64), cal 283 [.ref 58, .int x2, .int x1] (I1, J1, mj_R1) (.int r2, (I2, J2, mj_R1)) ∧ ((if r2 = 0 then
            (((0 : Int32) = 0 ∨ (0 : Int32) = 1) ∧ Q (.int (0 : Int32), (I2, J2, mj_R1)))
          else
            K 2 [(0, .ref 58), (1, .int x1), (2, .int (x2 + (1 : Int32)))] [] (I2, J2, mj_R1)))))))))) :
    mj_go mj_S1 mt_289 cal Q K 2 [(0, .ref 58), (1, .int x1), (2, .int x2)] [] (I0, J0, mj_R1) := h
-- UnbeatenHouse$People.everFirst()J (('c', 58),)
set_option maxRecDepth 100000 in
set_option maxHeartbeats 8000000 in
theorem e290 {cal : Nat → List Value → mj_H → mj_R → Prop} {Q : mj_R → Prop} {K : Nat → mj_K} {I0 : Nat → Nat → Int32} {J0 : Nat → Nat → Int64}
    (h : K 4 [(0, .ref 58), (1, .long (0 : Int64)), (3, .int (0 : Int32))] [] (I0, J0, mj_R1)) :
    mj_if (Nat.ble (mj_sz [.ref 58]) mt_290.2.2) (mj_sg mj_S1 mt_290 cal Q K 100 0 (mj_a0 0 [.ref 58]) [] (I0, J0, mj_R1)) := h
set_option maxRecDepth 100000 in
set_option maxHeartbeats 8000000 in
theorem s290_4 {cal : Nat → List Value → mj_H → mj_R → Prop} {Q : mj_R → Prop} {K : Nat → mj_K} {I0 : Nat → Nat → Int32} {J0 : Nat → Nat → Int64} (x1 : Int64) (x3 : Int32)
    (h : (if (40 : Int32) ≤ x3 then
      Q (.long x1, (I0, J0, mj_R1))
    else
      (True ∧ ∃ (r1 : Int32) (I1 : Nat → Nat → Int32) (J1 : Nat → Nat → Int64), cal 178 [.long (J0 58 5), .int x3] (I0, J0, mj_R1) (.int r1, (I1, J1, mj_R1)) ∧ ((if r1 = 0 then
        K 4 [(0, .ref 58), (1, .long x1), (3, .int (x3 + (1 : Int32)))] [] (I1, J1, mj_R1)
      else
        (True ∧ ∃ (r2 : Int32) (I2 : Nat → Nat → Int32) (J2 : Nat → Nat → Int64), cal 285 [.ref 58, .int (0 : Int32), .int x3, .long (J1 58 5)] (I1, J1, mj_R1) (.int r2, (I2, J2, mj_R1)) ∧ ((if r2 < 0 then
          K 4 [(0, .ref 58), (1, .long (x1 ||| ((1 : Int64) <<< (x3.toInt64 &&& 63)))), (3, .int (x3 + (1 : Int32)))] [] (I2, J2, mj_R1)
        else
          K 4 [(0, .ref 58), (1, .long x1), (3, .int (x3 + (1 : Int32)))] [] (I2, J2, mj_R1))))))))) :
    mj_go mj_S1 mt_290 cal Q K 4 [(0, .ref 58), (1, .long x1), (3, .int x3)] [] (I0, J0, mj_R1) := h
-- UnbeatenHouse.place(II)I (('c', 0), 'I', 'I')
set_option maxRecDepth 100000 in
set_option maxHeartbeats 8000000 in
theorem e291 {cal : Nat → List Value → mj_H → mj_R → Prop} {Q : mj_R → Prop} {K : Nat → mj_K} {I0 : Nat → Nat → Int32} {J0 : Nat → Nat → Int64} (x1 : Int32) (x2 : Int32)
    (h : (True ∧ ∃ (r1 : Int32) (I1 : Nat → Nat → Int32) (J1 : Nat → Nat → Int64), cal 275 [.int x1] (I0, J0, mj_R1) (.int r1, (I1, J1, mj_R1)) ∧ ((if r1 = 0 then
      Q (.int (-1 : Int32), (I1, J1, mj_R1))
    else
      (True ∧ ∃ (r2 : Int32) (I2 : Nat → Nat → Int32) (J2 : Nat → Nat → Int64), cal 279 [.ref 58, .ref 24] (I1, J1, mj_R1) (.int r2, (I2, J2, mj_R1)) ∧ ((if r2 = 0 then
        Q (.int (-1 : Int32), (I2, J2, mj_R1))
      else
        (vp_in x1 6 ∧ ((if (I2 60 x1.toNatClampNeg) = 0 then
          Q (.int (-1 : Int32), (I2, J2, mj_R1))
        else
          (True ∧ ∃ (r3 : Int32) (I3 : Nat → Nat → Int32) (J3 : Nat → Nat → Int64), cal 192 [.ref 1, .int (1 : Int32), .int x2] (I2, J2, mj_R1) (.int r3, (I3, J3, mj_R1)) ∧ ((if r3 = 0 then
            Q (.int (-1 : Int32), (I3, J3, mj_R1))
          else
            (True ∧ ∃ (r4 : Int32) (I4 : Nat → Nat → Int32) (J4 : Nat → Nat → Int64), cal 178 [.long (J3 58 5), .int x2] (I3, J3, mj_R1) (.int r4, (I4, J4, mj_R1)) ∧ ((if r4 = 0 then
              Q (.int (-1 : Int32), (I4, J4, mj_R1))
            else
              (True ∧ ∃ (r5 : Int32) (I5 : Nat → Nat → Int32) (J5 : Nat → Nat → Int64), cal 286 [.ref 58, .int x1, .int x2, .long (J4 58 5)] (I4, J4, mj_R1) (.int r5, (I5, J5, mj_R1)) ∧ (Q (.int r5, (I5, J5, mj_R1)))))))))))))))))))) :
    mj_if (Nat.ble (mj_sz [.ref 0, .int x1, .int x2]) mt_291.2.2) (mj_sg mj_S1 mt_291 cal Q K 100 0 (mj_a0 0 [.ref 0, .int x1, .int x2]) [] (I0, J0, mj_R1)) := h
