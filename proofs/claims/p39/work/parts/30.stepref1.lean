/-! step lemmas, by program -/
-- UnbeatenHouseModel.feed(IIIII)I (('c', 0), 'I', 'I', 'I', 'I', 'I')
set_option maxRecDepth 100000 in
set_option maxHeartbeats 8000000 in
theorem e9 {cal : Nat → List Value → mj_H → mj_R → Prop} {Q : mj_R → Prop} {K : Nat → mj_K} {I0 : Nat → Nat → Int32} {J0 : Nat → Nat → Int64} (x1 : Int32) (x2 : Int32) (x3 : Int32) (x4 : Int32) (x5 : Int32)
    (h : (if ((I0 0 1) + (20 : Int32)) ≤ (900 : Int32) then
      (True ∧ ∃ (I1 : Nat → Nat → Int32) (J1 : Nat → Nat → Int64), cal 10 [.ref 0, .int x1] (I0, J0, mj_R2) (.null, (I1, J1, mj_R2)) ∧ ((True ∧ ∃ (I2 : Nat → Nat → Int32) (J2 : Nat → Nat → Int64), cal 10 [.ref 0, .int x2] (I1, J1, mj_R2) (.null, (I2, J2, mj_R2)) ∧ ((True ∧ ∃ (I3 : Nat → Nat → Int32) (J3 : Nat → Nat → Int64), cal 10 [.ref 0, .int x3] (I2, J2, mj_R2) (.null, (I3, J3, mj_R2)) ∧ ((True ∧ ∃ (I4 : Nat → Nat → Int32) (J4 : Nat → Nat → Int64), cal 10 [.ref 0, .int x4] (I3, J3, mj_R2) (.null, (I4, J4, mj_R2)) ∧ ((True ∧ ∃ (I5 : Nat → Nat → Int32) (J5 : Nat → Nat → Int64), cal 10 [.ref 0, .int x5] (I4, J4, mj_R2) (.null, (I5, J5, mj_R2)) ∧ (Q (.int (I5 0 1), (I5, J5, mj_R2))))))))))))
    else
      Q (.int (-1 : Int32), (I0, J0, mj_R2)))) :
    mj_if (Nat.ble (mj_sz [.ref 0, .int x1, .int x2, .int x3, .int x4, .int x5]) mt_9.2.2) (mj_sg mj_S2 mt_9 cal Q K 100 0 (mj_a0 0 [.ref 0, .int x1, .int x2, .int x3, .int x4, .int x5]) [] (I0, J0, mj_R2)) := h
-- UnbeatenHouseModel.put(I)V (('c', 0), 'I')
set_option maxRecDepth 100000 in
set_option maxHeartbeats 8000000 in
theorem e10 {cal : Nat → List Value → mj_H → mj_R → Prop} {Q : mj_R → Prop} {K : Nat → mj_K} {I0 : Nat → Nat → Int32} {J0 : Nat → Nat → Int64} (x1 : Int32)
    (h : K 3 [(0, .ref 0), (1, .int x1), (2, .int (24 : Int32))] [] (I0, J0, mj_R2)) :
    mj_if (Nat.ble (mj_sz [.ref 0, .int x1]) mt_10.2.2) (mj_sg mj_S2 mt_10 cal Q K 100 0 (mj_a0 0 [.ref 0, .int x1]) [] (I0, J0, mj_R2)) := h
set_option maxRecDepth 100000 in
set_option maxHeartbeats 8000000 in
theorem s10_3 {cal : Nat → List Value → mj_H → mj_R → Prop} {Q : mj_R → Prop} {K : Nat → mj_K} {I0 : Nat → Nat → Int32} {J0 : Nat → Nat → Int64} (x1 : Int32) (x2 : Int32)
    (h : (if x2 < 0 then
      Q (.null, (I0, J0, mj_R2))
    else
      (vp_in (I0 0 1) 900 ∧ (K 3 [(0, .ref 0), (1, .int x1), (2, .int (x2 + (-8 : Int32)))] [] ((mj_up (mj_up I0 1 (I0 0 1).toNatClampNeg ((x1 >>> (x2 &&& 31)) &&& (255 : Int32))) 0 1 ((I0 0 1) + (1 : Int32))), J0, mj_R2))))) :
    mj_go mj_S2 mt_10 cal Q K 3 [(0, .ref 0), (1, .int x1), (2, .int x2)] [] (I0, J0, mj_R2) := h
-- UnbeatenHouseModel.end(I)Z (('c', 0), 'I')
set_option maxRecDepth 100000 in
set_option maxHeartbeats 8000000 in
theorem e11 {cal : Nat → List Value → mj_H → mj_R → Prop} {Q : mj_R → Prop} {K : Nat → mj_K} {I0 : Nat → Nat → Int32} {J0 : Nat → Nat → Int64} (x1 : Int32)
    (h : (if x1 < 0 then
      (((0 : Int32) = 0 ∨ (0 : Int32) = 1) ∧ Q (.int (0 : Int32), (I0, J0, mj_R2)))
    else
      (if x1 ≤ (I0 0 1) then
        (((1 : Int32) = 0 ∨ (1 : Int32) = 1) ∧ Q (.int (1 : Int32), ((mj_up I0 0 1 x1), J0, mj_R2)))
      else
        (((0 : Int32) = 0 ∨ (0 : Int32) = 1) ∧ Q (.int (0 : Int32), (I0, J0, mj_R2)))))) :
    mj_if (Nat.ble (mj_sz [.ref 0, .int x1]) mt_11.2.2) (mj_sg mj_S2 mt_11 cal Q K 100 0 (mj_a0 0 [.ref 0, .int x1]) [] (I0, J0, mj_R2)) := h
-- UnbeatenHouseModel.text()I (('c', 0),)
set_option maxRecDepth 100000 in
set_option maxHeartbeats 8000000 in
theorem e12 {cal : Nat → List Value → mj_H → mj_R → Prop} {Q : mj_R → Prop} {K : Nat → mj_K} {I0 : Nat → Nat → Int32} {J0 : Nat → Nat → Int64}
    (h : K 23 [(0, .ref 0)] [] ((mj_up (mj_up (mj_up (mj_up I0 0 2 (I0 0 1)) 0 1 (0 : Int32)) 0 5 (0 : Int32)) 0 8 (0 : Int32)), J0, mj_R2)) :
    mj_if (Nat.ble (mj_sz [.ref 0]) mt_12.2.2) (mj_sg mj_S2 mt_12 cal Q K 100 0 (mj_a0 0 [.ref 0]) [] (I0, J0, mj_R2)) := h
set_option maxRecDepth 100000 in
set_option maxHeartbeats 8000000 in
theorem s12_23 {cal : Nat → List Value → mj_H → mj_R → Prop} {Q : mj_R → Prop} {K : Nat → mj_K} {I0 : Nat → Nat → Int32} {J0 : Nat → Nat → Int64}
    (h : (vp_in ((1 : Int32) - (I0 0 12)) 2 ∧ ((vp_in ((1 : Int32) - (I0 0 12)) 2 ∧ (K 58 [(0, .ref 0)] [] ((mj_up (mj_up (mj_up (mj_up I0 0 9 (-1 : Int32)) 0 35 ((1 : Int32) - (I0 0 12))) 2 ((1 : Int32) - (I0 0 12)).toNatClampNeg (0 : Int32)) 3 ((1 : Int32) - (I0 0 12)).toNatClampNeg (0 : Int32)), J0, mj_R2)))))) :
    mj_go mj_S2 mt_12 cal Q K 23 [(0, .ref 0)] [] (I0, J0, mj_R2) := h
set_option maxRecDepth 100000 in
set_option maxHeartbeats 8000000 in
theorem s12_58 {cal : Nat → List Value → mj_H → mj_R → Prop} {Q : mj_R → Prop} {K : Nat → mj_K} {I0 : Nat → Nat → Int32} {J0 : Nat → Nat → Int64}
    (h : (vp_in (I0 0 35) 2 ∧ ((vp_in (I0 0 35) 2 ∧ ((vp_in (I0 0 35) 2 ∧ ((vp_in (I0 0 35) 2 ∧ (K 98 [(0, .ref 0)] [] ((mj_up (mj_up (mj_up (mj_up I0 4 (I0 0 35).toNatClampNeg (0 : Int32)) 5 (I0 0 35).toNatClampNeg (0 : Int32)) 6 (I0 0 35).toNatClampNeg (0 : Int32)) 7 (I0 0 35).toNatClampNeg (0 : Int32)), J0, mj_R2)))))))))) :
    mj_go mj_S2 mt_12 cal Q K 58 [(0, .ref 0)] [] (I0, J0, mj_R2) := h
set_option maxRecDepth 100000 in
set_option maxHeartbeats 8000000 in
theorem s12_98 {cal : Nat → List Value → mj_H → mj_R → Prop} {Q : mj_R → Prop} {K : Nat → mj_K} {I0 : Nat → Nat → Int32} {J0 : Nat → Nat → Int64}
    (h : (True ∧ ∃ (I1 : Nat → Nat → Int32) (J1 : Nat → Nat → Int64), cal 13 [.ref 0] ((mj_up I0 0 34 (0 : Int32)), J0, mj_R2) (.null, (I1, J1, mj_R2)) ∧ (K 109 [(0, .ref 0), (1, .int (0 : Int32))] [] (I1, J1, mj_R2)))) :
    mj_go mj_S2 mt_12 cal Q K 98 [(0, .ref 0)] [] (I0, J0, mj_R2) := h
set_option maxRecDepth 100000 in
set_option maxHeartbeats 8000000 in
theorem s12_109 {cal : Nat → List Value → mj_H → mj_R → Prop} {Q : mj_R → Prop} {K : Nat → mj_K} {I0 : Nat → Nat → Int32} {J0 : Nat → Nat → Int64} (x1 : Int32)
    (h : (if (I0 0 8) = 0 then
      (if (I0 0 3) = 0 then
        K 133 [(0, .ref 0), (1, .int x1)] [] (I0, J0, mj_R2)
      else
        (True ∧ ∃ (I1 : Nat → Nat → Int32) (J1 : Nat → Nat → Int64), cal 17 [.ref 0] (I0, J0, mj_R2) (.null, (I1, J1, mj_R2)) ∧ (K 109 [(0, .ref 0), (1, .int (x1 + (1 : Int32)))] [] (I1, J1, mj_R2))))
    else
      K 133 [(0, .ref 0), (1, .int x1)] [] (I0, J0, mj_R2))) :
    mj_go mj_S2 mt_12 cal Q K 109 [(0, .ref 0), (1, .int x1)] [] (I0, J0, mj_R2) := h
set_option maxRecDepth 100000 in
set_option maxHeartbeats 8000000 in
theorem s12_133 {cal : Nat → List Value → mj_H → mj_R → Prop} {Q : mj_R → Prop} {K : Nat → mj_K} {I0 : Nat → Nat → Int32} {J0 : Nat → Nat → Int64} (x1 : Int32)
    (h : (if (I0 0 8) ≤ 0 then
      K 181 [(0, .ref 0), (1, .int x1)] [] ((mj_up (mj_up (mj_up (mj_up (mj_up I0 0 10 (I0 0 8)) 0 11 (I0 0 9)) 0 12 (I0 0 35)) 0 58 (-1 : Int32)) 0 65 (0 : Int32)), (mj_up J0 0 46 (0 : Int64)), mj_R2)
    else
      Q (.int (-1 : Int32), ((mj_up (mj_up I0 0 10 (I0 0 8)) 0 11 (I0 0 9)), J0, mj_R2)))) :
    mj_go mj_S2 mt_12 cal Q K 133 [(0, .ref 0), (1, .int x1)] [] (I0, J0, mj_R2) := h
set_option maxRecDepth 100000 in
set_option maxHeartbeats 8000000 in
theorem s12_181 {cal : Nat → List Value → mj_H → mj_R → Prop} {Q : mj_R → Prop} {K : Nat → mj_K} {I0 : Nat → Nat → Int32} {J0 : Nat → Nat → Int64} (x1 : Int32)
    (h : K 193 [(0, .ref 0), (1, .int x1), (2, .int (0 : Int32))] [] ((mj_up I0 0 68 (0 : Int32)), (mj_up J0 0 47 (0 : Int64)), mj_R2)) :
    mj_go mj_S2 mt_12 cal Q K 181 [(0, .ref 0), (1, .int x1)] [] (I0, J0, mj_R2) := h
set_option maxRecDepth 100000 in
set_option maxHeartbeats 8000000 in
theorem s12_193 {cal : Nat → List Value → mj_H → mj_R → Prop} {Q : mj_R → Prop} {K : Nat → mj_K} {I0 : Nat → Nat → Int32} {J0 : Nat → Nat → Int64} (x1 : Int32) (x2 : Int32)
    (h : (if (6 : Int32) ≤ x2 then
      Q (.int x1, (I0, J0, mj_R2))
    else
      (vp_in x2 6 ∧ (K 208 [(0, .ref 0), (1, .int x1), (2, .int x2), (3, .int (0 : Int32))] [] (I0, (mj_up J0 49 x2.toNatClampNeg (0 : Int64)), mj_R2))))) :
    mj_go mj_S2 mt_12 cal Q K 193 [(0, .ref 0), (1, .int x1), (2, .int x2)] [] (I0, J0, mj_R2) := h
set_option maxRecDepth 100000 in
set_option maxHeartbeats 8000000 in
theorem s12_208 {cal : Nat → List Value → mj_H → mj_R → Prop} {Q : mj_R → Prop} {K : Nat → mj_K} {I0 : Nat → Nat → Int32} {J0 : Nat → Nat → Int64} (x1 : Int32) (x2 : Int32) (x3 : Int32)
    (h : (if (4 : Int32) ≤ x3 then
      K 193 [(0, .ref 0), (1, .int x1), (2, .int (x2 + (1 : Int32)))] [] (I0, J0, mj_R2)
    else
      (vp_in (((4 : Int32) * x2) + x3) 24 ∧ (K 208 [(0, .ref 0), (1, .int x1), (2, .int x2), (3, .int (x3 + (1 : Int32)))] [] ((mj_up I0 48 (((4 : Int32) * x2) + x3).toNatClampNeg (0 : Int32)), J0, mj_R2))))) :
    mj_go mj_S2 mt_12 cal Q K 208 [(0, .ref 0), (1, .int x1), (2, .int x2), (3, .int x3)] [] (I0, J0, mj_R2) := h
-- UnbeatenHouseModel.next()V (('c', 0),)
set_option maxRecDepth 100000 in
set_option maxHeartbeats 8000000 in
theorem e13 {cal : Nat → List Value → mj_H → mj_R → Prop} {Q : mj_R → Prop} {K : Nat → mj_K} {I0 : Nat → Nat → Int32} {J0 : Nat → Nat → Int64}
    (h : K 5 [(0, .ref 0), (1, .int (I0 0 5))] [] (I0, J0, mj_R2)) :
    mj_if (Nat.ble (mj_sz [.ref 0]) mt_13.2.2) (mj_sg mj_S2 mt_13 cal Q K 100 0 (mj_a0 0 [.ref 0]) [] (I0, J0, mj_R2)) := h
set_option maxRecDepth 100000 in
set_option maxHeartbeats 8000000 in
theorem s13_5 {cal : Nat → List Value → mj_H → mj_R → Prop} {Q : mj_R → Prop} {K : Nat → mj_K} {I0 : Nat → Nat → Int32} {J0 : Nat → Nat → Int64} (x1 : Int32)
    (h : (if (I0 0 2) ≤ x1 then
      K 41 [(0, .ref 0), (1, .int x1)] [] (I0, J0, mj_R2)
    else
      (vp_in x1 900 ∧ ((if (I0 1 x1.toNatClampNeg) = (32 : Int32) then
        K 5 [(0, .ref 0), (1, .int (x1 + (1 : Int32)))] [] (I0, J0, mj_R2)
      else
        (vp_in x1 900 ∧ ((if (I0 1 x1.toNatClampNeg) = (10 : Int32) then
          K 5 [(0, .ref 0), (1, .int (x1 + (1 : Int32)))] [] (I0, J0, mj_R2)
        else
          K 41 [(0, .ref 0), (1, .int x1)] [] (I0, J0, mj_R2))))))))) :
    mj_go mj_S2 mt_13 cal Q K 5 [(0, .ref 0), (1, .int x1)] [] (I0, J0, mj_R2) := h
set_option maxRecDepth 100000 in
set_option maxHeartbeats 8000000 in
theorem s13_41 {cal : Nat → List Value → mj_H → mj_R → Prop} {Q : mj_R → Prop} {K : Nat → mj_K} {I0 : Nat → Nat → Int32} {J0 : Nat → Nat → Int64} (x1 : Int32)
    (h : (if x1 < (I0 0 2) then
      (vp_in x1 900 ∧ ((True ∧ ∃ (r1 : Int32) (I1 : Nat → Nat → Int32) (J1 : Nat → Nat → Int64), cal 14 [.int (I0 1 x1.toNatClampNeg)] ((mj_up (mj_up (mj_up I0 0 4 x1) 0 5 x1) 0 3 (0 : Int32)), J0, mj_R2) (.int r1, (I1, J1, mj_R2)) ∧ ((vp_in x1 900 ∧ ((True ∧ ∃ (r2 : Int32) (I2 : Nat → Nat → Int32) (J2 : Nat → Nat → Int64), cal 15 [.int (I1 1 x1.toNatClampNeg)] (I1, J1, mj_R2) (.int r2, (I2, J2, mj_R2)) ∧ ((if r1 = 0 then
        (if r2 = 0 then
          K 131 [(0, .ref 0), (1, .int x1), (2, .int r1), (3, .int r2)] [] (I2, J2, mj_R2)
        else
          K 93 [(0, .ref 0), (1, .int x1), (2, .int r1), (3, .int r2)] [] (I2, J2, mj_R2))
      else
        K 93 [(0, .ref 0), (1, .int x1), (2, .int r1), (3, .int r2)] [] (I2, J2, mj_R2))))))))))
    else
      Q (.null, ((mj_up (mj_up (mj_up I0 0 4 x1) 0 5 x1) 0 3 (0 : Int32)), J0, mj_R2)))) :
    mj_go mj_S2 mt_13 cal Q K 41 [(0, .ref 0), (1, .int x1)] [] (I0, J0, mj_R2) := h
set_option maxRecDepth 100000 in
set_option maxHeartbeats 8000000 in
theorem s13_93 {cal : Nat → List Value → mj_H → mj_R → Prop} {Q : mj_R → Prop} {K : Nat → mj_K} {I0 : Nat → Nat → Int32} {J0 : Nat → Nat → Int64} (x1 : Int32) (x2 : Int32) (x3 : Int32)
    (h : (if x1 ≤ 0 then
      K 131 [(0, .ref 0), (1, .int x1), (2, .int x2), (3, .int x3)] [] (I0, J0, mj_R2)
    else
      (vp_in (x1 - (1 : Int32)) 900 ∧ ((True ∧ ∃ (r1 : Int32) (I1 : Nat → Nat → Int32) (J1 : Nat → Nat → Int64), cal 14 [.int (I0 1 (x1 - (1 : Int32)).toNatClampNeg)] (I0, J0, mj_R2) (.int r1, (I1, J1, mj_R2)) ∧ ((if r1 = 0 then
        (vp_in (x1 - (1 : Int32)) 900 ∧ ((True ∧ ∃ (r2 : Int32) (I2 : Nat → Nat → Int32) (J2 : Nat → Nat → Int64), cal 15 [.int (I1 1 (x1 - (1 : Int32)).toNatClampNeg)] (I1, J1, mj_R2) (.int r2, (I2, J2, mj_R2)) ∧ ((if r2 = 0 then
          K 131 [(0, .ref 0), (1, .int x1), (2, .int x2), (3, .int x3)] [] (I2, J2, mj_R2)
        else
          (True ∧ ∃ (I3 : Nat → Nat → Int32) (J3 : Nat → Nat → Int64), cal 16 [.ref 0, .int (1 : Int32), .int x1] (I2, J2, mj_R2) (.null, (I3, J3, mj_R2)) ∧ (K 131 [(0, .ref 0), (1, .int x1), (2, .int x2), (3, .int x3)] [] (I3, J3, mj_R2))))))))
      else
        (True ∧ ∃ (I4 : Nat → Nat → Int32) (J4 : Nat → Nat → Int64), cal 16 [.ref 0, .int (1 : Int32), .int x1] (I1, J1, mj_R2) (.null, (I4, J4, mj_R2)) ∧ (K 131 [(0, .ref 0), (1, .int x1), (2, .int x2), (3, .int x3)] [] (I4, J4, mj_R2)))))))))) :
    mj_go mj_S2 mt_13 cal Q K 93 [(0, .ref 0), (1, .int x1), (2, .int x2), (3, .int x3)] [] (I0, J0, mj_R2) := h
set_option maxRecDepth 100000 in
set_option maxHeartbeats 8000000 in
theorem s13_131 {cal : Nat → List Value → mj_H → mj_R → Prop} {Q : mj_R → Prop} {K : Nat → mj_K} {I0 : Nat → Nat → Int32} {J0 : Nat → Nat → Int64} (x1 : Int32) (x2 : Int32) (x3 : Int32)
    (h : K 153 [(0, .ref 0), (1, .int x1), (2, .int x2), (3, .int x3)] [] ((mj_up (mj_up (mj_up I0 0 6 (0 : Int32)) 0 3 (3 : Int32)) 0 5 (x1 + (1 : Int32))), (mj_up J0 0 7 (0 : Int64)), mj_R2)) :
    mj_go mj_S2 mt_13 cal Q K 131 [(0, .ref 0), (1, .int x1), (2, .int x2), (3, .int x3)] [] (I0, J0, mj_R2) := h
set_option maxRecDepth 100000 in
set_option maxHeartbeats 8000000 in
theorem s13_153 {cal : Nat → List Value → mj_H → mj_R → Prop} {Q : mj_R → Prop} {K : Nat → mj_K} {I0 : Nat → Nat → Int32} {J0 : Nat → Nat → Int64} (x1 : Int32) (x2 : Int32) (x3 : Int32)
    (h : (if x2 = 0 then
      (if x3 = 0 then
        (vp_in x1 900 ∧ (Q (.null, ((mj_up I0 0 6 (I0 1 x1.toNatClampNeg)), J0, mj_R2))))
      else
        K 172 [(0, .ref 0), (1, .int x1), (2, .int x2), (3, .int x3)] [] (I0, J0, mj_R2))
    else
      K 172 [(0, .ref 0), (1, .int x1), (2, .int x2), (3, .int x3)] [] (I0, J0, mj_R2))) :
    mj_go mj_S2 mt_13 cal Q K 153 [(0, .ref 0), (1, .int x1), (2, .int x2), (3, .int x3)] [] (I0, J0, mj_R2) := h
set_option maxRecDepth 100000 in
set_option maxHeartbeats 8000000 in
theorem s13_172 {cal : Nat → List Value → mj_H → mj_R → Prop} {Q : mj_R → Prop} {K : Nat → mj_K} {I0 : Nat → Nat → Int32} {J0 : Nat → Nat → Int64} (x1 : Int32) (x2 : Int32) (x3 : Int32)
    (h : (if x2 = 0 then
      K 185 [(0, .ref 0), (1, .int x1), (2, .int x2), (3, .int x3)] [] ((mj_up I0 0 3 (2 : Int32)), J0, mj_R2)
    else
      K 185 [(0, .ref 0), (1, .int x1), (2, .int x2), (3, .int x3)] [] ((mj_up I0 0 3 (1 : Int32)), J0, mj_R2))) :
    mj_go mj_S2 mt_13 cal Q K 172 [(0, .ref 0), (1, .int x1), (2, .int x2), (3, .int x3)] [] (I0, J0, mj_R2) := h
set_option maxRecDepth 100000 in
set_option maxHeartbeats 8000000 in
theorem s13_185 {cal : Nat → List Value → mj_H → mj_R → Prop} {Q : mj_R → Prop} {K : Nat → mj_K} {I0 : Nat → Nat → Int32} {J0 : Nat → Nat → Int64} (x1 : Int32) (x2 : Int32) (x3 : Int32)
    (h : (if x2 = 0 then
      K 197 [(0, .ref 0), (1, .int x1), (2, .int x2), (3, .int x3), (4, .int (4 : Int32))] [] (I0, J0, mj_R2)
    else
      K 197 [(0, .ref 0), (1, .int x1), (2, .int x2), (3, .int x3), (4, .int (6 : Int32))] [] (I0, J0, mj_R2))) :
    mj_go mj_S2 mt_13 cal Q K 185 [(0, .ref 0), (1, .int x1), (2, .int x2), (3, .int x3)] [] (I0, J0, mj_R2) := h
set_option maxRecDepth 100000 in
set_option maxHeartbeats 8000000 in
theorem s13_197 {cal : Nat → List Value → mj_H → mj_R → Prop} {Q : mj_R → Prop} {K : Nat → mj_K} {I0 : Nat → Nat → Int32} {J0 : Nat → Nat → Int64} (x1 : Int32) (x2 : Int32) (x3 : Int32) (x4 : Int32)
    (h : K 200 [(0, .ref 0), (1, .int x1), (2, .int x2), (3, .int x3), (4, .int x4), (5, .int (0 : Int32))] [] (I0, J0, mj_R2)) :
    mj_go mj_S2 mt_13 cal Q K 197 [(0, .ref 0), (1, .int x1), (2, .int x2), (3, .int x3), (4, .int x4)] [] (I0, J0, mj_R2) := h
set_option maxRecDepth 100000 in
set_option maxHeartbeats 8000000 in
theorem s13_200 {cal : Nat → List Value → mj_H → mj_R → Prop} {Q : mj_R → Prop} {K : Nat → mj_K} {I0 : Nat → Nat → Int32} {J0 : Nat → Nat → Int64} (x1 : Int32) (x2 : Int32) (x3 : Int32) (x4 : Int32) (x5 : Int32)
    (h : (if (I0 0 2) ≤ x1 then
      Q (.null, ((mj_up I0 0 5 x1), J0, mj_R2))
    else
      (if x2 = 0 then
        (vp_in x1 900 ∧ ((True ∧ ∃ (r1 : Int32) (I1 : Nat → Nat → Int32) (J1 : Nat → Nat → Int64), cal 15 [.int (I0 1 x1.toNatClampNeg)] (I0, J0, mj_R2) (.int r1, (I1, J1, mj_R2)) ∧ ((if r1 = 0 then
          Q (.null, ((mj_up I1 0 5 x1), J1, mj_R2))
        else
          K 239 [(0, .ref 0), (1, .int x1), (2, .int x2), (3, .int x3), (4, .int x4), (5, .int x5)] [] (I1, J1, mj_R2))))))
      else
        (vp_in x1 900 ∧ ((True ∧ ∃ (r2 : Int32) (I2 : Nat → Nat → Int32) (J2 : Nat → Nat → Int64), cal 14 [.int (I0 1 x1.toNatClampNeg)] (I0, J0, mj_R2) (.int r2, (I2, J2, mj_R2)) ∧ ((if r2 = 0 then
          Q (.null, ((mj_up I2 0 5 x1), J2, mj_R2))
        else
          K 239 [(0, .ref 0), (1, .int x1), (2, .int x2), (3, .int x3), (4, .int x4), (5, .int x5)] [] (I2, J2, mj_R2))))))))) :
    mj_go mj_S2 mt_13 cal Q K 200 [(0, .ref 0), (1, .int x1), (2, .int x2), (3, .int x3), (4, .int x4), (5, .int x5)] [] (I0, J0, mj_R2) := h
set_option maxRecDepth 100000 in
set_option maxHeartbeats 8000000 in
theorem s13_239 {cal : Nat → List Value → mj_H → mj_R → Prop} {Q : mj_R → Prop} {K : Nat → mj_K} {I0 : Nat → Nat → Int32} {J0 : Nat → Nat → Int64} (x1 : Int32) (x2 : Int32) (x3 : Int32) (x4 : Int32) (x5 : Int32)
    (h : (if x5 = x4 then
      (True ∧ ∃ (I1 : Nat → Nat → Int32) (J1 : Nat → Nat → Int64), cal 16 [.ref 0, .int (1 : Int32), .int x1] (I0, J0, mj_R2) (.null, (I1, J1, mj_R2)) ∧ (K 252 [(0, .ref 0), (1, .int x1), (2, .int x2), (3, .int x3), (4, .int x4), (5, .int x5)] [] (I1, J1, mj_R2)))
    else
      K 252 [(0, .ref 0), (1, .int x1), (2, .int x2), (3, .int x3), (4, .int x4), (5, .int x5)] [] (I0, J0, mj_R2))) :
    mj_go mj_S2 mt_13 cal Q K 239 [(0, .ref 0), (1, .int x1), (2, .int x2), (3, .int x3), (4, .int x4), (5, .int x5)] [] (I0, J0, mj_R2) := h
set_option maxRecDepth 100000 in
set_option maxHeartbeats 8000000 in
theorem s13_252 {cal : Nat → List Value → mj_H → mj_R → Prop} {Q : mj_R → Prop} {K : Nat → mj_K} {I0 : Nat → Nat → Int32} {J0 : Nat → Nat → Int64} (x1 : Int32) (x2 : Int32) (x3 : Int32) (x4 : Int32) (x5 : Int32)
    (h : (if x4 ≤ x5 then
      K 282 [(0, .ref 0), (1, .int x1), (2, .int x2), (3, .int x3), (4, .int x4), (5, .int x5)] [] (I0, J0, mj_R2)
    else
      (if x2 = 0 then
        K 282 [(0, .ref 0), (1, .int x1), (2, .int x2), (3, .int x3), (4, .int x4), (5, .int x5)] [] (I0, J0, mj_R2)
      else
        (vp_in x1 900 ∧ (K 282 [(0, .ref 0), (1, .int x1), (2, .int x2), (3, .int x3), (4, .int x4), (5, .int x5)] [] (I0, (mj_up J0 0 7 (((J0 0 7) <<< ((8 : Int32).toInt64 &&& 63)) ||| (I0 1 x1.toNatClampNeg).toInt64)), mj_R2)))))) :
    mj_go mj_S2 mt_13 cal Q K 252 [(0, .ref 0), (1, .int x1), (2, .int x2), (3, .int x3), (4, .int x4), (5, .int x5)] [] (I0, J0, mj_R2) := h
set_option maxRecDepth 100000 in
set_option maxHeartbeats 8000000 in
theorem s13_282 {cal : Nat → List Value → mj_H → mj_R → Prop} {Q : mj_R → Prop} {K : Nat → mj_K} {I0 : Nat → Nat → Int32} {J0 : Nat → Nat → Int64} (x1 : Int32) (x2 : Int32) (x3 : Int32) (x4 : Int32) (x5 : Int32)
    (h : (if x4 ≤ x5 then
      K 200 [(0, .ref 0), (1, .int (x1 + (1 : Int32))), (2, .int x2), (3, .int x3), (4, .int x4), (5, .int (x5 + (1 : Int32)))] [] (I0, J0, mj_R2)
    else
      (if x3 = 0 then
        K 200 [(0, .ref 0), (1, .int (x1 + (1 : Int32))), (2, .int x2), (3, .int x3), (4, .int x4), (5, .int (x5 + (1 : Int32)))] [] (I0, J0, mj_R2)
      else
        (vp_in x1 900 ∧ (K 200 [(0, .ref 0), (1, .int (x1 + (1 : Int32))), (2, .int x2), (3, .int x3), (4, .int x4), (5, .int (x5 + (1 : Int32)))] [] ((mj_up I0 0 6 ((((10 : Int32) * (I0 0 6)) + (I0 1 x1.toNatClampNeg)) - (48 : Int32))), J0, mj_R2)))))) :
    mj_go mj_S2 mt_13 cal Q K 282 [(0, .ref 0), (1, .int x1), (2, .int x2), (3, .int x3), (4, .int x4), (5, .int x5)] [] (I0, J0, mj_R2) := h
-- UnbeatenHouseModel.isLetter(I)Z ('I',)
set_option maxRecDepth 100000 in
set_option maxHeartbeats 8000000 in
theorem e14 {cal : Nat → List Value → mj_H → mj_R → Prop} {Q : mj_R → Prop} {K : Nat → mj_K} {I0 : Nat → Nat → Int32} {J0 : Nat → Nat → Int64} (x0 : Int32)
    (h : (if x0 < (97 : Int32) then
      (((0 : Int32) = 0 ∨ (0 : Int32) = 1) ∧ Q (.int (0 : Int32), (I0, J0, mj_R2)))
    else
      (if (122 : Int32) < x0 then
        (((0 : Int32) = 0 ∨ (0 : Int32) = 1) ∧ Q (.int (0 : Int32), (I0, J0, mj_R2)))
      else
        (((1 : Int32) = 0 ∨ (1 : Int32) = 1) ∧ Q (.int (1 : Int32), (I0, J0, mj_R2)))))) :
    mj_if (Nat.ble (mj_sz [.int x0]) mt_14.2.2) (mj_sg mj_S2 mt_14 cal Q K 100 0 (mj_a0 0 [.int x0]) [] (I0, J0, mj_R2)) := h
-- UnbeatenHouseModel.isDigit(I)Z ('I',)
set_option maxRecDepth 100000 in
set_option maxHeartbeats 8000000 in
theorem e15 {cal : Nat → List Value → mj_H → mj_R → Prop} {Q : mj_R → Prop} {K : Nat → mj_K} {I0 : Nat → Nat → Int32} {J0 : Nat → Nat → Int64} (x0 : Int32)
    (h : (if x0 < (48 : Int32) then
      (((0 : Int32) = 0 ∨ (0 : Int32) = 1) ∧ Q (.int (0 : Int32), (I0, J0, mj_R2)))
    else
      (if (57 : Int32) < x0 then
        (((0 : Int32) = 0 ∨ (0 : Int32) = 1) ∧ Q (.int (0 : Int32), (I0, J0, mj_R2)))
      else
        (((1 : Int32) = 0 ∨ (1 : Int32) = 1) ∧ Q (.int (1 : Int32), (I0, J0, mj_R2)))))) :
    mj_if (Nat.ble (mj_sz [.int x0]) mt_15.2.2) (mj_sg mj_S2 mt_15 cal Q K 100 0 (mj_a0 0 [.int x0]) [] (I0, J0, mj_R2)) := h
-- UnbeatenHouseModel.blame(II)V (('c', 0), 'I', 'I')
set_option maxRecDepth 100000 in
set_option maxHeartbeats 8000000 in
theorem e16 {cal : Nat → List Value → mj_H → mj_R → Prop} {Q : mj_R → Prop} {K : Nat → mj_K} {I0 : Nat → Nat → Int32} {J0 : Nat → Nat → Int64} (x1 : Int32) (x2 : Int32)
    (h : (if (I0 0 8) ≤ 0 then
      Q (.null, ((mj_up (mj_up I0 0 8 x1) 0 9 x2), J0, mj_R2))
    else
      Q (.null, (I0, J0, mj_R2)))) :
    mj_if (Nat.ble (mj_sz [.ref 0, .int x1, .int x2]) mt_16.2.2) (mj_sg mj_S2 mt_16 cal Q K 100 0 (mj_a0 0 [.ref 0, .int x1, .int x2]) [] (I0, J0, mj_R2)) := h
-- UnbeatenHouseModel.statement()V (('c', 0),)
set_option maxRecDepth 100000 in
set_option maxHeartbeats 8000000 in
theorem e17 {cal : Nat → List Value → mj_H → mj_R → Prop} {Q : mj_R → Prop} {K : Nat → mj_K} {I0 : Nat → Nat → Int32} {J0 : Nat → Nat → Int64}
    (h : (True ∧ ∃ (r1 : Int32) (I1 : Nat → Nat → Int32) (J1 : Nat → Nat → Int64), cal 18 [.ref 0, .long (2003399528 : Int64)] (I0, J0, mj_R2) (.int r1, (I1, J1, mj_R2)) ∧ ((if r1 = 0 then
      (True ∧ ∃ (r2 : Int32) (I2 : Nat → Nat → Int32) (J2 : Nat → Nat → Int64), cal 18 [.ref 0, .long (7499639 : Int64)] (I1, J1, mj_R2) (.int r2, (I2, J2, mj_R2)) ∧ ((if r2 = 0 then
        (True ∧ ∃ (r3 : Int32) (I3 : Nat → Nat → Int32) (J3 : Nat → Nat → Int64), cal 18 [.ref 0, .long (1802399604 : Int64)] (I2, J2, mj_R2) (.int r3, (I3, J3, mj_R2)) ∧ ((if r3 = 0 then
          (True ∧ ∃ (r4 : Int32) (I4 : Nat → Nat → Int32) (J4 : Nat → Nat → Int64), cal 18 [.ref 0, .long (7629157 : Int64)] (I3, J3, mj_R2) (.int r4, (I4, J4, mj_R2)) ∧ ((if r4 = 0 then
            (True ∧ ∃ (r5 : Int32) (I5 : Nat → Nat → Int32) (J5 : Nat → Nat → Int64), cal 18 [.ref 0, .long (499967946343 : Int64)] (I4, J4, mj_R2) (.int r5, (I5, J5, mj_R2)) ∧ ((if r5 = 0 then
              (True ∧ ∃ (r6 : Int32) (I6 : Nat → Nat → Int32) (J6 : Nat → Nat → Int64), cal 18 [.ref 0, .long (1920298085 : Int64)] (I5, J5, mj_R2) (.int r6, (I6, J6, mj_R2)) ∧ ((if r6 = 0 then
                (True ∧ ∃ (I7 : Nat → Nat → Int32) (J7 : Nat → Nat → Int64), cal 16 [.ref 0, .int (1 : Int32), .int (I6 0 4)] (I6, J6, mj_R2) (.null, (I7, J7, mj_R2)) ∧ (K 296 [(0, .ref 0)] [] (I7, J7, mj_R2)))
              else
                (vp_in (I6 0 35) 2 ∧ ((if (I6 7 (I6 0 35).toNatClampNeg) = (12 : Int32) then
                  (True ∧ ∃ (I8 : Nat → Nat → Int32) (J8 : Nat → Nat → Int64), cal 20 [.ref 0, .int (1 : Int32), .int (0 : Int32)] (I6, J6, mj_R2) (.null, (I8, J8, mj_R2)) ∧ (K 194 [(0, .ref 0)] [] (I8, J8, mj_R2)))
                else
                  (True ∧ ∃ (I9 : Nat → Nat → Int32) (J9 : Nat → Nat → Int64), cal 20 [.ref 0, .int (0 : Int32), .int (0 : Int32)] (I6, J6, mj_R2) (.null, (I9, J9, mj_R2)) ∧ (K 194 [(0, .ref 0)] [] (I9, J9, mj_R2)))))))))
            else
              (True ∧ ∃ (I10 : Nat → Nat → Int32) (J10 : Nat → Nat → Int64), cal 32 [.ref 0] (I5, J5, mj_R2) (.null, (I10, J10, mj_R2)) ∧ (K 296 [(0, .ref 0)] [] (I10, J10, mj_R2))))))
          else
            (True ∧ ∃ (I11 : Nat → Nat → Int32) (J11 : Nat → Nat → Int64), cal 30 [.ref 0] (I4, J4, mj_R2) (.null, (I11, J11, mj_R2)) ∧ (K 296 [(0, .ref 0)] [] (I11, J11, mj_R2))))))
        else
          (vp_in (I3 0 35) 2 ∧ ((if (I3 4 (I3 0 35).toNatClampNeg) = (10 : Int32) then
            (True ∧ ∃ (I12 : Nat → Nat → Int32) (J12 : Nat → Nat → Int64), cal 20 [.ref 0, .int (1 : Int32), .int (0 : Int32)] (I3, J3, mj_R2) (.null, (I12, J12, mj_R2)) ∧ (K 68 [(0, .ref 0)] [] (I12, J12, mj_R2)))
          else
            (True ∧ ∃ (I13 : Nat → Nat → Int32) (J13 : Nat → Nat → Int64), cal 20 [.ref 0, .int (0 : Int32), .int (0 : Int32)] (I3, J3, mj_R2) (.null, (I13, J13, mj_R2)) ∧ (K 68 [(0, .ref 0)] [] (I13, J13, mj_R2)))))))))
      else
        (True ∧ ∃ (I14 : Nat → Nat → Int32) (J14 : Nat → Nat → Int64), cal 27 [.ref 0] (I2, J2, mj_R2) (.null, (I14, J14, mj_R2)) ∧ (K 296 [(0, .ref 0)] [] (I14, J14, mj_R2))))))
    else
      (True ∧ ∃ (I15 : Nat → Nat → Int32) (J15 : Nat → Nat → Int64), cal 19 [.ref 0] (I1, J1, mj_R2) (.null, (I15, J15, mj_R2)) ∧ (K 296 [(0, .ref 0)] [] (I15, J15, mj_R2))))))) :
    mj_if (Nat.ble (mj_sz [.ref 0]) mt_17.2.2) (mj_sg mj_S2 mt_17 cal Q K 100 0 (mj_a0 0 [.ref 0]) [] (I0, J0, mj_R2)) := h
set_option maxRecDepth 100000 in
set_option maxHeartbeats 8000000 in
theorem s17_68 {cal : Nat → List Value → mj_H → mj_R → Prop} {Q : mj_R → Prop} {K : Nat → mj_K} {I0 : Nat → Nat → Int32} {J0 : Nat → Nat → Int64}
    (h : (True ∧ ∃ (r1 : Int64) (I1 : Nat → Nat → Int32) (J1 : Nat → Nat → Int64), cal 21 [.ref 0] (I0, J0, mj_R2) (.long r1, (I1, J1, mj_R2)) ∧ ((if (I1 0 8) = 0 then
      (vp_in (I1 0 35) 2 ∧ ((vp_in (((10 : Int32) * (I1 0 35)) + (I1 4 (I1 0 35).toNatClampNeg)) 20 ∧ (K 103 [(0, .ref 0)] [] (I1, (mj_up J1 13 (((10 : Int32) * (I1 0 35)) + (I1 4 (I1 0 35).toNatClampNeg)).toNatClampNeg r1), mj_R2)))))
    else
      K 103 [(0, .ref 0)] [] (I1, J1, mj_R2))))) :
    mj_go mj_S2 mt_17 cal Q K 68 [(0, .ref 0)] [] (I0, J0, mj_R2) := h
set_option maxRecDepth 100000 in
set_option maxHeartbeats 8000000 in
theorem s17_103 {cal : Nat → List Value → mj_H → mj_R → Prop} {Q : mj_R → Prop} {K : Nat → mj_K} {I0 : Nat → Nat → Int32} {J0 : Nat → Nat → Int64}
    (h : (if (I0 0 8) = 0 then
      (vp_in (I0 0 35) 2 ∧ ((vp_in (I0 0 35) 2 ∧ (K 296 [(0, .ref 0)] [] ((mj_up I0 4 (I0 0 35).toNatClampNeg ((I0 4 (I0 0 35).toNatClampNeg) + (1 : Int32))), J0, mj_R2)))))
    else
      K 296 [(0, .ref 0)] [] (I0, J0, mj_R2))) :
    mj_go mj_S2 mt_17 cal Q K 103 [(0, .ref 0)] [] (I0, J0, mj_R2) := h
set_option maxRecDepth 100000 in
set_option maxHeartbeats 8000000 in
theorem s17_194 {cal : Nat → List Value → mj_H → mj_R → Prop} {Q : mj_R → Prop} {K : Nat → mj_K} {I0 : Nat → Nat → Int32} {J0 : Nat → Nat → Int64}
    (h : (if (I0 0 8) = 0 then
      (vp_in (I0 0 35) 2 ∧ ((vp_in (((12 : Int32) * (I0 0 35)) + (I0 7 (I0 0 35).toNatClampNeg)) 24 ∧ (K 227 [(0, .ref 0)] [] ((mj_up I0 19 (((12 : Int32) * (I0 0 35)) + (I0 7 (I0 0 35).toNatClampNeg)).toNatClampNeg (I0 0 34)), J0, mj_R2)))))
    else
      K 227 [(0, .ref 0)] [] (I0, J0, mj_R2))) :
    mj_go mj_S2 mt_17 cal Q K 194 [(0, .ref 0)] [] (I0, J0, mj_R2) := h
set_option maxRecDepth 100000 in
set_option maxHeartbeats 8000000 in
theorem s17_227 {cal : Nat → List Value → mj_H → mj_R → Prop} {Q : mj_R → Prop} {K : Nat → mj_K} {I0 : Nat → Nat → Int32} {J0 : Nat → Nat → Int64}
    (h : (True ∧ ∃ (I1 : Nat → Nat → Int32) (J1 : Nat → Nat → Int64), cal 33 [.ref 0] (I0, J0, mj_R2) (.null, (I1, J1, mj_R2)) ∧ ((if (I1 0 8) = 0 then
      (vp_in (I1 0 35) 2 ∧ ((vp_in (((12 : Int32) * (I1 0 35)) + (I1 7 (I1 0 35).toNatClampNeg)) 24 ∧ (K 264 [(0, .ref 0)] [] ((mj_up I1 20 (((12 : Int32) * (I1 0 35)) + (I1 7 (I1 0 35).toNatClampNeg)).toNatClampNeg (I1 0 34)), J1, mj_R2)))))
    else
      K 264 [(0, .ref 0)] [] (I1, J1, mj_R2))))) :
    mj_go mj_S2 mt_17 cal Q K 227 [(0, .ref 0)] [] (I0, J0, mj_R2) := h
set_option maxRecDepth 100000 in
set_option maxHeartbeats 8000000 in
theorem s17_264 {cal : Nat → List Value → mj_H → mj_R → Prop} {Q : mj_R → Prop} {K : Nat → mj_K} {I0 : Nat → Nat → Int32} {J0 : Nat → Nat → Int64}
    (h : (if (I0 0 8) = 0 then
      (vp_in (I0 0 35) 2 ∧ ((vp_in (I0 0 35) 2 ∧ (K 296 [(0, .ref 0)] [] ((mj_up I0 7 (I0 0 35).toNatClampNeg ((I0 7 (I0 0 35).toNatClampNeg) + (1 : Int32))), J0, mj_R2)))))
    else
      K 296 [(0, .ref 0)] [] (I0, J0, mj_R2))) :
    mj_go mj_S2 mt_17 cal Q K 264 [(0, .ref 0)] [] (I0, J0, mj_R2) := h
set_option maxRecDepth 100000 in
set_option maxHeartbeats 8000000 in
theorem s17_296 {cal : Nat → List Value → mj_H → mj_R → Prop} {Q : mj_R → Prop} {K : Nat → mj_K} {I0 : Nat → Nat → Int32} {J0 : Nat → Nat → Int64}
    (h : (if (I0 0 8) = 0 then
      (True ∧ ∃ (I1 : Nat → Nat → Int32) (J1 : Nat → Nat → Int64), cal 44 [.ref 0, .int (59 : Int32)] (I0, J0, mj_R2) (.null, (I1, J1, mj_R2)) ∧ (Q (.null, (I1, J1, mj_R2))))
    else
      Q (.null, (I0, J0, mj_R2)))) :
    mj_go mj_S2 mt_17 cal Q K 296 [(0, .ref 0)] [] (I0, J0, mj_R2) := h
-- UnbeatenHouseModel.isWord(J)Z (('c', 0), 'J')
set_option maxRecDepth 100000 in
set_option maxHeartbeats 8000000 in
theorem e18 {cal : Nat → List Value → mj_H → mj_R → Prop} {Q : mj_R → Prop} {K : Nat → mj_K} {I0 : Nat → Nat → Int32} {J0 : Nat → Nat → Int64} (x1 : Int64)
    (h : (if (I0 0 3) = (1 : Int32) then
      (if (lg_cmp (J0 0 7) x1) = 0 then
        (((1 : Int32) = 0 ∨ (1 : Int32) = 1) ∧ Q (.int (1 : Int32), (I0, J0, mj_R2)))
      else
        (((0 : Int32) = 0 ∨ (0 : Int32) = 1) ∧ Q (.int (0 : Int32), (I0, J0, mj_R2))))
    else
      (((0 : Int32) = 0 ∨ (0 : Int32) = 1) ∧ Q (.int (0 : Int32), (I0, J0, mj_R2))))) :
    mj_if (Nat.ble (mj_sz [.ref 0, .long x1]) mt_18.2.2) (mj_sg mj_S2 mt_18 cal Q K 100 0 (mj_a0 0 [.ref 0, .long x1]) [] (I0, J0, mj_R2)) := h
-- UnbeatenHouseModel.wish()V (('c', 0),)
set_option maxRecDepth 100000 in
set_option maxHeartbeats 8000000 in
theorem e19 {cal : Nat → List Value → mj_H → mj_R → Prop} {Q : mj_R → Prop} {K : Nat → mj_K} {I0 : Nat → Nat → Int32} {J0 : Nat → Nat → Int64}
    (h : (vp_in (I0 0 35) 2 ∧ ((if (I0 2 (I0 0 35).toNatClampNeg) = (4 : Int32) then
      (vp_in (I0 0 35) 2 ∧ ((vp_in (I0 0 35) 2 ∧ ((vp_in (I0 0 35) 2 ∧ ((if (((I0 3 (I0 0 35).toNatClampNeg) + (I0 5 (I0 0 35).toNatClampNeg)) + (I0 6 (I0 0 35).toNatClampNeg)) ≤ 0 then
        (True ∧ ∃ (I1 : Nat → Nat → Int32) (J1 : Nat → Nat → Int64), cal 20 [.ref 0, .int (1 : Int32), .int (0 : Int32)] (I0, J0, mj_R2) (.null, (I1, J1, mj_R2)) ∧ (K 59 [(0, .ref 0)] [] (I1, J1, mj_R2)))
      else
        (True ∧ ∃ (I2 : Nat → Nat → Int32) (J2 : Nat → Nat → Int64), cal 20 [.ref 0, .int (1 : Int32), .int (1 : Int32)] (I0, J0, mj_R2) (.null, (I2, J2, mj_R2)) ∧ (K 59 [(0, .ref 0)] [] (I2, J2, mj_R2))))))))))
    else
      (vp_in (I0 0 35) 2 ∧ ((vp_in (I0 0 35) 2 ∧ ((vp_in (I0 0 35) 2 ∧ ((if (((I0 3 (I0 0 35).toNatClampNeg) + (I0 5 (I0 0 35).toNatClampNeg)) + (I0 6 (I0 0 35).toNatClampNeg)) ≤ 0 then
        (True ∧ ∃ (I3 : Nat → Nat → Int32) (J3 : Nat → Nat → Int64), cal 20 [.ref 0, .int (0 : Int32), .int (0 : Int32)] (I0, J0, mj_R2) (.null, (I3, J3, mj_R2)) ∧ (K 59 [(0, .ref 0)] [] (I3, J3, mj_R2)))
      else
        (True ∧ ∃ (I4 : Nat → Nat → Int32) (J4 : Nat → Nat → Int64), cal 20 [.ref 0, .int (0 : Int32), .int (1 : Int32)] (I0, J0, mj_R2) (.null, (I4, J4, mj_R2)) ∧ (K 59 [(0, .ref 0)] [] (I4, J4, mj_R2)))))))))))))) :
    mj_if (Nat.ble (mj_sz [.ref 0]) mt_19.2.2) (mj_sg mj_S2 mt_19 cal Q K 100 0 (mj_a0 0 [.ref 0]) [] (I0, J0, mj_R2)) := h
set_option maxRecDepth 100000 in
set_option maxHeartbeats 8000000 in
theorem s19_59 {cal : Nat → List Value → mj_H → mj_R → Prop} {Q : mj_R → Prop} {K : Nat → mj_K} {I0 : Nat → Nat → Int32} {J0 : Nat → Nat → Int64}
    (h : (True ∧ ∃ (r1 : Int64) (I1 : Nat → Nat → Int32) (J1 : Nat → Nat → Int64), cal 21 [.ref 0] (I0, J0, mj_R2) (.long r1, (I1, J1, mj_R2)) ∧ ((if (I1 0 8) = 0 then
      (True ∧ ∃ (r2 : Int32) (I2 : Nat → Nat → Int32) (J2 : Nat → Nat → Int64), cal 18 [.ref 0, .long (1818588019 : Int64)] (I1, J1, mj_R2) (.int r2, (I2, J2, mj_R2)) ∧ ((if r2 = 0 then
        (True ∧ ∃ (r3 : Int32) (I3 : Nat → Nat → Int32) (J3 : Nat → Nat → Int64), cal 18 [.ref 0, .long (1836020325 : Int64)] (I2, J2, mj_R2) (.int r3, (I3, J3, mj_R2)) ∧ ((if r3 = 0 then
          (True ∧ ∃ (I4 : Nat → Nat → Int32) (J4 : Nat → Nat → Int64), cal 16 [.ref 0, .int (1 : Int32), .int (I3 0 4)] (I3, J3, mj_R2) (.null, (I4, J4, mj_R2)) ∧ (K 100 [(0, .ref 0), (1, .long r1)] [] (I4, J4, mj_R2)))
        else
          K 100 [(0, .ref 0), (1, .long r1)] [] (I3, J3, mj_R2))))
      else
        K 100 [(0, .ref 0), (1, .long r1)] [] (I2, J2, mj_R2))))
    else
      K 100 [(0, .ref 0), (1, .long r1)] [] (I1, J1, mj_R2))))) :
    mj_go mj_S2 mt_19 cal Q K 59 [(0, .ref 0)] [] (I0, J0, mj_R2) := h
set_option maxRecDepth 100000 in
set_option maxHeartbeats 8000000 in
theorem s19_100 {cal : Nat → List Value → mj_H → mj_R → Prop} {Q : mj_R → Prop} {K : Nat → mj_K} {I0 : Nat → Nat → Int32} {J0 : Nat → Nat → Int64} (x1 : Int64)
    (h : (if (I0 0 8) ≤ 0 then
      (vp_in (I0 0 35) 2 ∧ ((vp_in (((4 : Int32) * (I0 0 35)) + (I0 2 (I0 0 35).toNatClampNeg)) 8 ∧ ((vp_in (I0 0 35) 2 ∧ ((True ∧ ∃ (r1 : Int32) (I1 : Nat → Nat → Int32) (J1 : Nat → Nat → Int64), cal 18 [.ref 0, .long (1836020325 : Int64)] (I0, (mj_up J0 8 (((4 : Int32) * (I0 0 35)) + (I0 2 (I0 0 35).toNatClampNeg)).toNatClampNeg x1), mj_R2) (.int r1, (I1, J1, mj_R2)) ∧ ((vp_in (((4 : Int32) * (I0 0 35)) + (I0 2 (I0 0 35).toNatClampNeg)) 8 ∧ ((vp_in (I1 0 35) 2 ∧ ((vp_in (I1 0 35) 2 ∧ ((True ∧ ∃ (I2 : Nat → Nat → Int32) (J2 : Nat → Nat → Int64), cal 13 [.ref 0] ((mj_up (mj_up I1 9 (((4 : Int32) * (I0 0 35)) + (I0 2 (I0 0 35).toNatClampNeg)).toNatClampNeg (vp_nar .boolean r1)) 2 (I1 0 35).toNatClampNeg ((I1 2 (I1 0 35).toNatClampNeg) + (1 : Int32))), J1, mj_R2) (.null, (I2, J2, mj_R2)) ∧ (Q (.null, (I2, J2, mj_R2))))))))))))))))))
    else
      Q (.null, (I0, J0, mj_R2)))) :
    mj_go mj_S2 mt_19 cal Q K 100 [(0, .ref 0), (1, .long x1)] [] (I0, J0, mj_R2) := h
-- UnbeatenHouseModel.counts(ZZ)V (('c', 0), 'I', 'I')
set_option maxRecDepth 100000 in
set_option maxHeartbeats 8000000 in
theorem e20 {cal : Nat → List Value → mj_H → mj_R → Prop} {Q : mj_R → Prop} {K : Nat → mj_K} {I0 : Nat → Nat → Int32} {J0 : Nat → Nat → Int64} (x1 : Int32) (x2 : Int32)
    (h : (if x1 = 0 then
      K 13 [(0, .ref 0), (2, .int x2)] [] (I0, J0, mj_R2)
    else
      (True ∧ ∃ (I1 : Nat → Nat → Int32) (J1 : Nat → Nat → Int64), cal 16 [.ref 0, .int (5 : Int32), .int (I0 0 4)] (I0, J0, mj_R2) (.null, (I1, J1, mj_R2)) ∧ (K 13 [(0, .ref 0), (2, .int x2)] [] (I1, J1, mj_R2))))) :
    mj_if (Nat.ble (mj_sz [.ref 0, .int x1, .int x2]) mt_20.2.2) (mj_sg mj_S2 mt_20 cal Q K 100 0 (mj_a0 0 [.ref 0, .int x1, .int x2]) [] (I0, J0, mj_R2)) := h
set_option maxRecDepth 100000 in
set_option maxHeartbeats 8000000 in
theorem s20_13 {cal : Nat → List Value → mj_H → mj_R → Prop} {Q : mj_R → Prop} {K : Nat → mj_K} {I0 : Nat → Nat → Int32} {J0 : Nat → Nat → Int64} (x2 : Int32)
    (h : (if x2 = 0 then
      K 27 [(0, .ref 0)] [] (I0, J0, mj_R2)
    else
      (True ∧ ∃ (I1 : Nat → Nat → Int32) (J1 : Nat → Nat → Int64), cal 16 [.ref 0, .int (6 : Int32), .int (I0 0 4)] (I0, J0, mj_R2) (.null, (I1, J1, mj_R2)) ∧ (K 27 [(0, .ref 0)] [] (I1, J1, mj_R2))))) :
    mj_go mj_S2 mt_20 cal Q K 13 [(0, .ref 0), (2, .int x2)] [] (I0, J0, mj_R2) := h
set_option maxRecDepth 100000 in
set_option maxHeartbeats 8000000 in
theorem s20_27 {cal : Nat → List Value → mj_H → mj_R → Prop} {Q : mj_R → Prop} {K : Nat → mj_K} {I0 : Nat → Nat → Int32} {J0 : Nat → Nat → Int64}
    (h : (if (I0 0 8) = 0 then
      (True ∧ ∃ (I1 : Nat → Nat → Int32) (J1 : Nat → Nat → Int64), cal 13 [.ref 0] (I0, J0, mj_R2) (.null, (I1, J1, mj_R2)) ∧ (Q (.null, (I1, J1, mj_R2))))
    else
      Q (.null, (I0, J0, mj_R2)))) :
    mj_go mj_S2 mt_20 cal Q K 27 [(0, .ref 0)] [] (I0, J0, mj_R2) := h
-- UnbeatenHouseModel.fresh()J (('c', 0),)
set_option maxRecDepth 100000 in
set_option maxHeartbeats 8000000 in
theorem e21 {cal : Nat → List Value → mj_H → mj_R → Prop} {Q : mj_R → Prop} {K : Nat → mj_K} {I0 : Nat → Nat → Int32} {J0 : Nat → Nat → Int64}
    (h : (if (I0 0 8) ≤ 0 then
      (if (I0 0 3) = (1 : Int32) then
        (True ∧ ∃ (r1 : Int32) (I1 : Nat → Nat → Int32) (J1 : Nat → Nat → Int64), cal 22 [.ref 0, .long (J0 0 7)] (I0, J0, mj_R2) (.int r1, (I1, J1, mj_R2)) ∧ ((if r1 = 0 then
          K 37 [(0, .ref 0)] [] (I1, J1, mj_R2)
        else
          (True ∧ ∃ (I2 : Nat → Nat → Int32) (J2 : Nat → Nat → Int64), cal 16 [.ref 0, .int (1 : Int32), .int (I1 0 4)] (I1, J1, mj_R2) (.null, (I2, J2, mj_R2)) ∧ (K 37 [(0, .ref 0)] [] (I2, J2, mj_R2))))))
      else
        (True ∧ ∃ (I3 : Nat → Nat → Int32) (J3 : Nat → Nat → Int64), cal 16 [.ref 0, .int (1 : Int32), .int (I0 0 4)] (I0, J0, mj_R2) (.null, (I3, J3, mj_R2)) ∧ (K 37 [(0, .ref 0)] [] (I3, J3, mj_R2))))
    else
      Q (.long (0 : Int64), (I0, J0, mj_R2)))) :
    mj_if (Nat.ble (mj_sz [.ref 0]) mt_21.2.2) (mj_sg mj_S2 mt_21 cal Q K 100 0 (mj_a0 0 [.ref 0]) [] (I0, J0, mj_R2)) := h
set_option maxRecDepth 100000 in
set_option maxHeartbeats 8000000 in
theorem s21_37 {cal : Nat → List Value → mj_H → mj_R → Prop} {Q : mj_R → Prop} {K : Nat → mj_K} {I0 : Nat → Nat → Int32} {J0 : Nat → Nat → Int64}
    (h : (if (I0 0 8) = 0 then
      (True ∧ ∃ (r1 : Int32) (I1 : Nat → Nat → Int32) (J1 : Nat → Nat → Int64), cal 23 [.ref 0, .long (J0 0 7)] (I0, J0, mj_R2) (.int r1, (I1, J1, mj_R2)) ∧ ((if r1 = 0 then
        K 64 [(0, .ref 0)] [] (I1, J1, mj_R2)
      else
        (True ∧ ∃ (I2 : Nat → Nat → Int32) (J2 : Nat → Nat → Int64), cal 16 [.ref 0, .int (2 : Int32), .int (I1 0 4)] (I1, J1, mj_R2) (.null, (I2, J2, mj_R2)) ∧ (K 64 [(0, .ref 0)] [] (I2, J2, mj_R2))))))
    else
      K 64 [(0, .ref 0)] [] (I0, J0, mj_R2))) :
    mj_go mj_S2 mt_21 cal Q K 37 [(0, .ref 0)] [] (I0, J0, mj_R2) := h
set_option maxRecDepth 100000 in
set_option maxHeartbeats 8000000 in
theorem s21_64 {cal : Nat → List Value → mj_H → mj_R → Prop} {Q : mj_R → Prop} {K : Nat → mj_K} {I0 : Nat → Nat → Int32} {J0 : Nat → Nat → Int64}
    (h : (if (I0 0 8) = 0 then
      (True ∧ ∃ (I1 : Nat → Nat → Int32) (J1 : Nat → Nat → Int64), cal 13 [.ref 0] (I0, J0, mj_R2) (.null, (I1, J1, mj_R2)) ∧ (Q (.long (J0 0 7), (I1, J1, mj_R2))))
    else
      Q (.long (J0 0 7), (I0, J0, mj_R2)))) :
    mj_go mj_S2 mt_21 cal Q K 64 [(0, .ref 0)] [] (I0, J0, mj_R2) := h
-- UnbeatenHouseModel.isOwn(J)Z (('c', 0), 'J')
set_option maxRecDepth 100000 in
set_option maxHeartbeats 8000000 in
theorem e22 {cal : Nat → List Value → mj_H → mj_R → Prop} {Q : mj_R → Prop} {K : Nat → mj_K} {I0 : Nat → Nat → Int32} {J0 : Nat → Nat → Int64} (x1 : Int64)
    (h : (if (lg_cmp x1 (2003399528 : Int64)) = 0 then
      (((1 : Int32) = 0 ∨ (1 : Int32) = 1) ∧ Q (.int (1 : Int32), (I0, J0, mj_R2)))
    else
      (if (lg_cmp x1 (1818588019 : Int64)) = 0 then
        (((1 : Int32) = 0 ∨ (1 : Int32) = 1) ∧ Q (.int (1 : Int32), (I0, J0, mj_R2)))
      else
        (if (lg_cmp x1 (1836020325 : Int64)) = 0 then
          (((1 : Int32) = 0 ∨ (1 : Int32) = 1) ∧ Q (.int (1 : Int32), (I0, J0, mj_R2)))
        else
          (if (lg_cmp x1 (7499639 : Int64)) = 0 then
            (((1 : Int32) = 0 ∨ (1 : Int32) = 1) ∧ Q (.int (1 : Int32), (I0, J0, mj_R2)))
          else
            (if (lg_cmp x1 (1802399604 : Int64)) = 0 then
              (((1 : Int32) = 0 ∨ (1 : Int32) = 1) ∧ Q (.int (1 : Int32), (I0, J0, mj_R2)))
            else
              (if (lg_cmp x1 (7629157 : Int64)) = 0 then
                (((1 : Int32) = 0 ∨ (1 : Int32) = 1) ∧ Q (.int (1 : Int32), (I0, J0, mj_R2)))
              else
                (if (lg_cmp x1 (499967946343 : Int64)) = 0 then
                  (((1 : Int32) = 0 ∨ (1 : Int32) = 1) ∧ Q (.int (1 : Int32), (I0, J0, mj_R2)))
                else
                  (if (lg_cmp x1 (1920298085 : Int64)) = 0 then
                    (((1 : Int32) = 0 ∨ (1 : Int32) = 1) ∧ Q (.int (1 : Int32), (I0, J0, mj_R2)))
                  else
                    (if (lg_cmp x1 (28530 : Int64)) = 0 then
                      (((1 : Int32) = 0 ∨ (1 : Int32) = 1) ∧ Q (.int (1 : Int32), (I0, J0, mj_R2)))
                    else
                      (if (lg_cmp x1 (6385252 : Int64)) = 0 then
                        (((1 : Int32) = 0 ∨ (1 : Int32) = 1) ∧ Q (.int (1 : Int32), (I0, J0, mj_R2)))
                      else
                        (if (lg_cmp x1 (7237492 : Int64)) = 0 then
                          (((1 : Int32) = 0 ∨ (1 : Int32) = 1) ∧ Q (.int (1 : Int32), (I0, J0, mj_R2)))
                        else
                          (if (lg_cmp x1 (6384748 : Int64)) = 0 then
                            (((1 : Int32) = 0 ∨ (1 : Int32) = 1) ∧ Q (.int (1 : Int32), (I0, J0, mj_R2)))
                          else
                            (if (lg_cmp x1 (6840691 : Int64)) = 0 then
                              (((1 : Int32) = 0 ∨ (1 : Int32) = 1) ∧ Q (.int (1 : Int32), (I0, J0, mj_R2)))
                            else
                              (if (lg_cmp x1 (1835101817 : Int64)) = 0 then
                                (((1 : Int32) = 0 ∨ (1 : Int32) = 1) ∧ Q (.int (1 : Int32), (I0, J0, mj_R2)))
                              else
                                (if (lg_cmp x1 (28518 : Int64)) = 0 then
                                  (((1 : Int32) = 0 ∨ (1 : Int32) = 1) ∧ Q (.int (1 : Int32), (I0, J0, mj_R2)))
                                else
                                  (if (lg_cmp x1 (7170414 : Int64)) = 0 then
                                    (((1 : Int32) = 0 ∨ (1 : Int32) = 1) ∧ Q (.int (1 : Int32), (I0, J0, mj_R2)))
                                  else
                                    (if (lg_cmp x1 (7168376 : Int64)) = 0 then
                                      (((1 : Int32) = 0 ∨ (1 : Int32) = 1) ∧ Q (.int (1 : Int32), (I0, J0, mj_R2)))
                                    else
                                      (((0 : Int32) = 0 ∨ (0 : Int32) = 1) ∧ Q (.int (0 : Int32), (I0, J0, mj_R2))))))))))))))))))))) :
    mj_if (Nat.ble (mj_sz [.ref 0, .long x1]) mt_22.2.2) (mj_sg mj_S2 mt_22 cal Q K 100 0 (mj_a0 0 [.ref 0, .long x1]) [] (I0, J0, mj_R2)) := h
-- UnbeatenHouseModel.isName(J)Z (('c', 0), 'J')
set_option maxRecDepth 100000 in
set_option maxHeartbeats 8000000 in
theorem e23 {cal : Nat → List Value → mj_H → mj_R → Prop} {Q : mj_R → Prop} {K : Nat → mj_K} {I0 : Nat → Nat → Int32} {J0 : Nat → Nat → Int64} (x1 : Int64)
    (h : (True ∧ ∃ (r1 : Int32) (I1 : Nat → Nat → Int32) (J1 : Nat → Nat → Int64), cal 24 [.ref 0, .int (I0 0 35), .long x1] (I0, J0, mj_R2) (.int r1, (I1, J1, mj_R2)) ∧ ((if r1 = (-1 : Int32) then
      (True ∧ ∃ (r2 : Int32) (I2 : Nat → Nat → Int32) (J2 : Nat → Nat → Int64), cal 25 [.ref 0, .int (I1 0 35), .long x1] (I1, J1, mj_R2) (.int r2, (I2, J2, mj_R2)) ∧ ((if r2 = (-1 : Int32) then
        (True ∧ ∃ (r3 : Int32) (I3 : Nat → Nat → Int32) (J3 : Nat → Nat → Int64), cal 26 [.ref 0, .int (I2 0 35), .long x1] (I2, J2, mj_R2) (.int r3, (I3, J3, mj_R2)) ∧ ((if r3 = (-1 : Int32) then
          K 43 [(0, .ref 0), (1, .long x1), (3, .int (0 : Int32))] [] (I3, J3, mj_R2)
        else
          (((1 : Int32) = 0 ∨ (1 : Int32) = 1) ∧ Q (.int (1 : Int32), (I3, J3, mj_R2))))))
      else
        (((1 : Int32) = 0 ∨ (1 : Int32) = 1) ∧ Q (.int (1 : Int32), (I2, J2, mj_R2))))))
    else
      (((1 : Int32) = 0 ∨ (1 : Int32) = 1) ∧ Q (.int (1 : Int32), (I1, J1, mj_R2))))))) :
    mj_if (Nat.ble (mj_sz [.ref 0, .long x1]) mt_23.2.2) (mj_sg mj_S2 mt_23 cal Q K 100 0 (mj_a0 0 [.ref 0, .long x1]) [] (I0, J0, mj_R2)) := h
set_option maxRecDepth 100000 in
set_option maxHeartbeats 8000000 in
theorem s23_43 {cal : Nat → List Value → mj_H → mj_R → Prop} {Q : mj_R → Prop} {K : Nat → mj_K} {I0 : Nat → Nat → Int32} {J0 : Nat → Nat → Int64} (x1 : Int64) (x3 : Int32)
    (h : (vp_in (I0 0 35) 2 ∧ ((if (I0 3 (I0 0 35).toNatClampNeg) ≤ x3 then
      (((0 : Int32) = 0 ∨ (0 : Int32) = 1) ∧ Q (.int (0 : Int32), (I0, J0, mj_R2)))
    else
      (vp_in (((40 : Int32) * (I0 0 35)) + x3) 80 ∧ ((if (lg_cmp (J0 10 (((40 : Int32) * (I0 0 35)) + x3).toNatClampNeg) x1) = 0 then
        (((1 : Int32) = 0 ∨ (1 : Int32) = 1) ∧ Q (.int (1 : Int32), (I0, J0, mj_R2)))
      else
        K 43 [(0, .ref 0), (1, .long x1), (3, .int (x3 + (1 : Int32)))] [] (I0, J0, mj_R2)))))))) :
    mj_go mj_S2 mt_23 cal Q K 43 [(0, .ref 0), (1, .long x1), (3, .int x3)] [] (I0, J0, mj_R2) := h
-- UnbeatenHouseModel.wishOf(IJ)I (('c', 0), 'I', 'J')
set_option maxRecDepth 100000 in
set_option maxHeartbeats 8000000 in
theorem e24 {cal : Nat → List Value → mj_H → mj_R → Prop} {Q : mj_R → Prop} {K : Nat → mj_K} {I0 : Nat → Nat → Int32} {J0 : Nat → Nat → Int64} (x1 : Int32) (x2 : Int64)
    (h : K 3 [(0, .ref 0), (1, .int x1), (2, .long x2), (4, .int (0 : Int32))] [] (I0, J0, mj_R2)) :
    mj_if (Nat.ble (mj_sz [.ref 0, .int x1, .long x2]) mt_24.2.2) (mj_sg mj_S2 mt_24 cal Q K 100 0 (mj_a0 0 [.ref 0, .int x1, .long x2]) [] (I0, J0, mj_R2)) := h
set_option maxRecDepth 100000 in
set_option maxHeartbeats 8000000 in
theorem s24_3 {cal : Nat → List Value → mj_H → mj_R → Prop} {Q : mj_R → Prop} {K : Nat → mj_K} {I0 : Nat → Nat → Int32} {J0 : Nat → Nat → Int64} (x1 : Int32) (x2 : Int64) (x4 : Int32)
    (h : (vp_in x1 2 ∧ ((if (I0 2 x1.toNatClampNeg) ≤ x4 then
      Q (.int (-1 : Int32), (I0, J0, mj_R2))
    else
      (vp_in (((4 : Int32) * x1) + x4) 8 ∧ ((if (lg_cmp (J0 8 (((4 : Int32) * x1) + x4).toNatClampNeg) x2) = 0 then
        Q (.int x4, (I0, J0, mj_R2))
      else
        K 3 [(0, .ref 0), (1, .int x1), (2, .long x2), (4, .int (x4 + (1 : Int32)))] [] (I0, J0, mj_R2)))))))) :
    mj_go mj_S2 mt_24 cal Q K 3 [(0, .ref 0), (1, .int x1), (2, .long x2), (4, .int x4)] [] (I0, J0, mj_R2) := h
-- UnbeatenHouseModel.knotOf(IJ)I (('c', 0), 'I', 'J')
set_option maxRecDepth 100000 in
set_option maxHeartbeats 8000000 in
theorem e25 {cal : Nat → List Value → mj_H → mj_R → Prop} {Q : mj_R → Prop} {K : Nat → mj_K} {I0 : Nat → Nat → Int32} {J0 : Nat → Nat → Int64} (x1 : Int32) (x2 : Int64)
    (h : K 3 [(0, .ref 0), (1, .int x1), (2, .long x2), (4, .int (0 : Int32))] [] (I0, J0, mj_R2)) :
    mj_if (Nat.ble (mj_sz [.ref 0, .int x1, .long x2]) mt_25.2.2) (mj_sg mj_S2 mt_25 cal Q K 100 0 (mj_a0 0 [.ref 0, .int x1, .long x2]) [] (I0, J0, mj_R2)) := h
set_option maxRecDepth 100000 in
set_option maxHeartbeats 8000000 in
theorem s25_3 {cal : Nat → List Value → mj_H → mj_R → Prop} {Q : mj_R → Prop} {K : Nat → mj_K} {I0 : Nat → Nat → Int32} {J0 : Nat → Nat → Int64} (x1 : Int32) (x2 : Int64) (x4 : Int32)
    (h : (vp_in x1 2 ∧ ((if (I0 4 x1.toNatClampNeg) ≤ x4 then
      Q (.int (-1 : Int32), (I0, J0, mj_R2))
    else
      (vp_in (((10 : Int32) * x1) + x4) 20 ∧ ((if (lg_cmp (J0 13 (((10 : Int32) * x1) + x4).toNatClampNeg) x2) = 0 then
        Q (.int x4, (I0, J0, mj_R2))
      else
        K 3 [(0, .ref 0), (1, .int x1), (2, .long x2), (4, .int (x4 + (1 : Int32)))] [] (I0, J0, mj_R2)))))))) :
    mj_go mj_S2 mt_25 cal Q K 3 [(0, .ref 0), (1, .int x1), (2, .long x2), (4, .int x4)] [] (I0, J0, mj_R2) := h
-- UnbeatenHouseModel.thingOf(IJ)I (('c', 0), 'I', 'J')
set_option maxRecDepth 100000 in
set_option maxHeartbeats 8000000 in
theorem e26 {cal : Nat → List Value → mj_H → mj_R → Prop} {Q : mj_R → Prop} {K : Nat → mj_K} {I0 : Nat → Nat → Int32} {J0 : Nat → Nat → Int64} (x1 : Int32) (x2 : Int64)
    (h : K 3 [(0, .ref 0), (1, .int x1), (2, .long x2), (4, .int (0 : Int32))] [] (I0, J0, mj_R2)) :
    mj_if (Nat.ble (mj_sz [.ref 0, .int x1, .long x2]) mt_26.2.2) (mj_sg mj_S2 mt_26 cal Q K 100 0 (mj_a0 0 [.ref 0, .int x1, .long x2]) [] (I0, J0, mj_R2)) := h
set_option maxRecDepth 100000 in
set_option maxHeartbeats 8000000 in
theorem s26_3 {cal : Nat → List Value → mj_H → mj_R → Prop} {Q : mj_R → Prop} {K : Nat → mj_K} {I0 : Nat → Nat → Int32} {J0 : Nat → Nat → Int64} (x1 : Int32) (x2 : Int64) (x4 : Int32)
    (h : (vp_in x1 2 ∧ ((if (I0 6 x1.toNatClampNeg) ≤ x4 then
      Q (.int (-1 : Int32), (I0, J0, mj_R2))
    else
      (vp_in (((12 : Int32) * x1) + x4) 24 ∧ ((if (lg_cmp (J0 17 (((12 : Int32) * x1) + x4).toNatClampNeg) x2) = 0 then
        Q (.int x4, (I0, J0, mj_R2))
      else
        K 3 [(0, .ref 0), (1, .int x1), (2, .long x2), (4, .int (x4 + (1 : Int32)))] [] (I0, J0, mj_R2)))))))) :
    mj_go mj_S2 mt_26 cal Q K 3 [(0, .ref 0), (1, .int x1), (2, .long x2), (4, .int x4)] [] (I0, J0, mj_R2) := h
-- UnbeatenHouseModel.row()V (('c', 0),)
set_option maxRecDepth 100000 in
set_option maxHeartbeats 8000000 in
theorem e27 {cal : Nat → List Value → mj_H → mj_R → Prop} {Q : mj_R → Prop} {K : Nat → mj_K} {I0 : Nat → Nat → Int32} {J0 : Nat → Nat → Int64}
    (h : (vp_in (I0 0 35) 2 ∧ ((if (I0 3 (I0 0 35).toNatClampNeg) = (40 : Int32) then
      (vp_in (I0 0 35) 2 ∧ ((if (I0 2 (I0 0 35).toNatClampNeg) = 0 then
        (True ∧ ∃ (I1 : Nat → Nat → Int32) (J1 : Nat → Nat → Int64), cal 20 [.ref 0, .int (1 : Int32), .int (1 : Int32)] (I0, J0, mj_R2) (.null, (I1, J1, mj_R2)) ∧ (K 40 [(0, .ref 0)] [] (I1, J1, mj_R2)))
      else
        (True ∧ ∃ (I2 : Nat → Nat → Int32) (J2 : Nat → Nat → Int64), cal 20 [.ref 0, .int (1 : Int32), .int (0 : Int32)] (I0, J0, mj_R2) (.null, (I2, J2, mj_R2)) ∧ (K 40 [(0, .ref 0)] [] (I2, J2, mj_R2))))))
    else
      (vp_in (I0 0 35) 2 ∧ ((if (I0 2 (I0 0 35).toNatClampNeg) = 0 then
        (True ∧ ∃ (I3 : Nat → Nat → Int32) (J3 : Nat → Nat → Int64), cal 20 [.ref 0, .int (0 : Int32), .int (1 : Int32)] (I0, J0, mj_R2) (.null, (I3, J3, mj_R2)) ∧ (K 40 [(0, .ref 0)] [] (I3, J3, mj_R2)))
      else
        (True ∧ ∃ (I4 : Nat → Nat → Int32) (J4 : Nat → Nat → Int64), cal 20 [.ref 0, .int (0 : Int32), .int (0 : Int32)] (I0, J0, mj_R2) (.null, (I4, J4, mj_R2)) ∧ (K 40 [(0, .ref 0)] [] (I4, J4, mj_R2)))))))))) :
    mj_if (Nat.ble (mj_sz [.ref 0]) mt_27.2.2) (mj_sg mj_S2 mt_27 cal Q K 100 0 (mj_a0 0 [.ref 0]) [] (I0, J0, mj_R2)) := h
set_option maxRecDepth 100000 in
set_option maxHeartbeats 8000000 in
theorem s27_40 {cal : Nat → List Value → mj_H → mj_R → Prop} {Q : mj_R → Prop} {K : Nat → mj_K} {I0 : Nat → Nat → Int32} {J0 : Nat → Nat → Int64}
    (h : (if (I0 0 8) ≤ 0 then
      (vp_in (I0 0 35) 2 ∧ ((True ∧ ∃ (r1 : Int64) (I1 : Nat → Nat → Int32) (J1 : Nat → Nat → Int64), cal 21 [.ref 0] (I0, J0, mj_R2) (.long r1, (I1, J1, mj_R2)) ∧ ((vp_in (((40 : Int32) * (I0 0 35)) + (I0 3 (I0 0 35).toNatClampNeg)) 80 ∧ (K 78 [(0, .ref 0), (1, .int (((40 : Int32) * (I0 0 35)) + (I0 3 (I0 0 35).toNatClampNeg))), (2, .int (0 : Int32))] [] (I1, (mj_up J1 10 (((40 : Int32) * (I0 0 35)) + (I0 3 (I0 0 35).toNatClampNeg)).toNatClampNeg r1), mj_R2)))))))
    else
      Q (.null, (I0, J0, mj_R2)))) :
    mj_go mj_S2 mt_27 cal Q K 40 [(0, .ref 0)] [] (I0, J0, mj_R2) := h
set_option maxRecDepth 100000 in
set_option maxHeartbeats 8000000 in
theorem s27_78 {cal : Nat → List Value → mj_H → mj_R → Prop} {Q : mj_R → Prop} {K : Nat → mj_K} {I0 : Nat → Nat → Int32} {J0 : Nat → Nat → Int64} (x1 : Int32) (x2 : Int32)
    (h : (vp_in (I0 0 35) 2 ∧ ((if (I0 2 (I0 0 35).toNatClampNeg) ≤ x2 then
      K 193 [(0, .ref 0)] [] (I0, J0, mj_R2)
    else
      (if (I0 0 8) = 0 then
        (vp_in (((4 : Int32) * x1) + x2) 320 ∧ ((True ∧ ∃ (r1 : Int32) (I1 : Nat → Nat → Int32) (J1 : Nat → Nat → Int64), cal 28 [.ref 0, .int (63 : Int32)] ((mj_up I0 12 (((4 : Int32) * x1) + x2).toNatClampNeg (0 : Int32)), J0, mj_R2) (.int r1, (I1, J1, mj_R2)) ∧ ((if r1 = 0 then
          (True ∧ ∃ (r2 : Int32) (I2 : Nat → Nat → Int32) (J2 : Nat → Nat → Int64), cal 29 [.ref 0] (I1, J1, mj_R2) (.int r2, (I2, J2, mj_R2)) ∧ ((vp_in (((4 : Int32) * x1) + x2) 320 ∧ ((if (I2 0 8) ≤ 0 then
            (True ∧ ∃ (r3 : Int32) (I3 : Nat → Nat → Int32) (J3 : Nat → Nat → Int64), cal 28 [.ref 0, .int (126 : Int32)] ((mj_up I2 11 (((4 : Int32) * x1) + x2).toNatClampNeg r2), J2, mj_R2) (.int r3, (I3, J3, mj_R2)) ∧ ((if r3 = 0 then
              K 78 [(0, .ref 0), (1, .int x1), (2, .int (x2 + (1 : Int32)))] [] (I3, J3, mj_R2)
            else
              (True ∧ ∃ (I4 : Nat → Nat → Int32) (J4 : Nat → Nat → Int64), cal 13 [.ref 0] (I3, J3, mj_R2) (.null, (I4, J4, mj_R2)) ∧ ((True ∧ ∃ (r5 : Int32) (I5 : Nat → Nat → Int32) (J5 : Nat → Nat → Int64), cal 29 [.ref 0] (I4, J4, mj_R2) (.int r5, (I5, J5, mj_R2)) ∧ ((vp_in (((4 : Int32) * x1) + x2) 320 ∧ (K 78 [(0, .ref 0), (1, .int x1), (2, .int (x2 + (1 : Int32)))] [] ((mj_up I5 12 (((4 : Int32) * x1) + x2).toNatClampNeg r5), J5, mj_R2))))))))))
          else
            K 78 [(0, .ref 0), (1, .int x1), (2, .int (x2 + (1 : Int32)))] [] ((mj_up I2 11 (((4 : Int32) * x1) + x2).toNatClampNeg r2), J2, mj_R2))))))
        else
          (vp_in (((4 : Int32) * x1) + x2) 320 ∧ ((True ∧ ∃ (I6 : Nat → Nat → Int32) (J6 : Nat → Nat → Int64), cal 13 [.ref 0] ((mj_up I1 11 (((4 : Int32) * x1) + x2).toNatClampNeg (-1 : Int32)), J1, mj_R2) (.null, (I6, J6, mj_R2)) ∧ (K 78 [(0, .ref 0), (1, .int x1), (2, .int (x2 + (1 : Int32)))] [] (I6, J6, mj_R2))))))))))
      else
        K 193 [(0, .ref 0)] [] (I0, J0, mj_R2)))))) :
    mj_go mj_S2 mt_27 cal Q K 78 [(0, .ref 0), (1, .int x1), (2, .int x2)] [] (I0, J0, mj_R2) := h
set_option maxRecDepth 100000 in
set_option maxHeartbeats 8000000 in
theorem s27_193 {cal : Nat → List Value → mj_H → mj_R → Prop} {Q : mj_R → Prop} {K : Nat → mj_K} {I0 : Nat → Nat → Int32} {J0 : Nat → Nat → Int64}
    (h : (if (I0 0 8) = 0 then
      (vp_in (I0 0 35) 2 ∧ ((vp_in (I0 0 35) 2 ∧ (Q (.null, ((mj_up I0 3 (I0 0 35).toNatClampNeg ((I0 3 (I0 0 35).toNatClampNeg) + (1 : Int32))), J0, mj_R2))))))
    else
      Q (.null, (I0, J0, mj_R2)))) :
    mj_go mj_S2 mt_27 cal Q K 193 [(0, .ref 0)] [] (I0, J0, mj_R2) := h
-- UnbeatenHouseModel.isSign(I)Z (('c', 0), 'I')
set_option maxRecDepth 100000 in
set_option maxHeartbeats 8000000 in
theorem e28 {cal : Nat → List Value → mj_H → mj_R → Prop} {Q : mj_R → Prop} {K : Nat → mj_K} {I0 : Nat → Nat → Int32} {J0 : Nat → Nat → Int64} (x1 : Int32)
    (h : (if (I0 0 3) = (3 : Int32) then
      (if (I0 0 6) = x1 then
        (((1 : Int32) = 0 ∨ (1 : Int32) = 1) ∧ Q (.int (1 : Int32), (I0, J0, mj_R2)))
      else
        (((0 : Int32) = 0 ∨ (0 : Int32) = 1) ∧ Q (.int (0 : Int32), (I0, J0, mj_R2))))
    else
      (((0 : Int32) = 0 ∨ (0 : Int32) = 1) ∧ Q (.int (0 : Int32), (I0, J0, mj_R2))))) :
    mj_if (Nat.ble (mj_sz [.ref 0, .int x1]) mt_28.2.2) (mj_sg mj_S2 mt_28 cal Q K 100 0 (mj_a0 0 [.ref 0, .int x1]) [] (I0, J0, mj_R2)) := h
-- UnbeatenHouseModel.number()I (('c', 0),)
set_option maxRecDepth 100000 in
set_option maxHeartbeats 8000000 in
theorem e29 {cal : Nat → List Value → mj_H → mj_R → Prop} {Q : mj_R → Prop} {K : Nat → mj_K} {I0 : Nat → Nat → Int32} {J0 : Nat → Nat → Int64}
    (h : (if (I0 0 8) ≤ 0 then
      (if (I0 0 3) = (2 : Int32) then
        K 26 [(0, .ref 0)] [] (I0, J0, mj_R2)
      else
        (True ∧ ∃ (I1 : Nat → Nat → Int32) (J1 : Nat → Nat → Int64), cal 16 [.ref 0, .int (1 : Int32), .int (I0 0 4)] (I0, J0, mj_R2) (.null, (I1, J1, mj_R2)) ∧ (K 26 [(0, .ref 0)] [] (I1, J1, mj_R2))))
    else
      Q (.int (0 : Int32), (I0, J0, mj_R2)))) :
    mj_if (Nat.ble (mj_sz [.ref 0]) mt_29.2.2) (mj_sg mj_S2 mt_29 cal Q K 100 0 (mj_a0 0 [.ref 0]) [] (I0, J0, mj_R2)) := h
set_option maxRecDepth 100000 in
set_option maxHeartbeats 8000000 in
theorem s29_26 {cal : Nat → List Value → mj_H → mj_R → Prop} {Q : mj_R → Prop} {K : Nat → mj_K} {I0 : Nat → Nat → Int32} {J0 : Nat → Nat → Int64}
    (h : (if (I0 0 8) = 0 then
      (True ∧ ∃ (I1 : Nat → Nat → Int32) (J1 : Nat → Nat → Int64), cal 13 [.ref 0] (I0, J0, mj_R2) (.null, (I1, J1, mj_R2)) ∧ (Q (.int (I0 0 6), (I1, J1, mj_R2))))
    else
      Q (.int (I0 0 6), (I0, J0, mj_R2)))) :
    mj_go mj_S2 mt_29 cal Q K 26 [(0, .ref 0)] [] (I0, J0, mj_R2) := h
-- UnbeatenHouseModel.tie()V (('c', 0),)
set_option maxRecDepth 100000 in
set_option maxHeartbeats 8000000 in
theorem e30 {cal : Nat → List Value → mj_H → mj_R → Prop} {Q : mj_R → Prop} {K : Nat → mj_K} {I0 : Nat → Nat → Int32} {J0 : Nat → Nat → Int64}
    (h : (vp_in (I0 0 35) 2 ∧ ((if (I0 5 (I0 0 35).toNatClampNeg) = (24 : Int32) then
      (vp_in (I0 0 35) 2 ∧ ((if (I0 2 (I0 0 35).toNatClampNeg) = 0 then
        (True ∧ ∃ (I1 : Nat → Nat → Int32) (J1 : Nat → Nat → Int64), cal 20 [.ref 0, .int (1 : Int32), .int (1 : Int32)] (I0, J0, mj_R2) (.null, (I1, J1, mj_R2)) ∧ (K 40 [(0, .ref 0)] [] (I1, J1, mj_R2)))
      else
        (True ∧ ∃ (I2 : Nat → Nat → Int32) (J2 : Nat → Nat → Int64), cal 20 [.ref 0, .int (1 : Int32), .int (0 : Int32)] (I0, J0, mj_R2) (.null, (I2, J2, mj_R2)) ∧ (K 40 [(0, .ref 0)] [] (I2, J2, mj_R2))))))
    else
      (vp_in (I0 0 35) 2 ∧ ((if (I0 2 (I0 0 35).toNatClampNeg) = 0 then
        (True ∧ ∃ (I3 : Nat → Nat → Int32) (J3 : Nat → Nat → Int64), cal 20 [.ref 0, .int (0 : Int32), .int (1 : Int32)] (I0, J0, mj_R2) (.null, (I3, J3, mj_R2)) ∧ (K 40 [(0, .ref 0)] [] (I3, J3, mj_R2)))
      else
        (True ∧ ∃ (I4 : Nat → Nat → Int32) (J4 : Nat → Nat → Int64), cal 20 [.ref 0, .int (0 : Int32), .int (0 : Int32)] (I0, J0, mj_R2) (.null, (I4, J4, mj_R2)) ∧ (K 40 [(0, .ref 0)] [] (I4, J4, mj_R2)))))))))) :
    mj_if (Nat.ble (mj_sz [.ref 0]) mt_30.2.2) (mj_sg mj_S2 mt_30 cal Q K 100 0 (mj_a0 0 [.ref 0]) [] (I0, J0, mj_R2)) := h
set_option maxRecDepth 100000 in
set_option maxHeartbeats 8000000 in
theorem s30_40 {cal : Nat → List Value → mj_H → mj_R → Prop} {Q : mj_R → Prop} {K : Nat → mj_K} {I0 : Nat → Nat → Int32} {J0 : Nat → Nat → Int64}
    (h : (if (I0 0 8) ≤ 0 then
      (vp_in (I0 0 35) 2 ∧ ((True ∧ ∃ (r1 : Int32) (I1 : Nat → Nat → Int32) (J1 : Nat → Nat → Int64), cal 31 [.ref 0, .int (-1 : Int32)] (I0, J0, mj_R2) (.int r1, (I1, J1, mj_R2)) ∧ ((vp_in (((24 : Int32) * (I0 0 35)) + (I0 5 (I0 0 35).toNatClampNeg)) 48 ∧ ((vp_in (((24 : Int32) * (I0 0 35)) + (I0 5 (I0 0 35).toNatClampNeg)) 48 ∧ ((True ∧ ∃ (r2 : Int32) (I2 : Nat → Nat → Int32) (J2 : Nat → Nat → Int64), cal 31 [.ref 0, .int ((mj_up I1 14 (((24 : Int32) * (I0 0 35)) + (I0 5 (I0 0 35).toNatClampNeg)).toNatClampNeg r1) 14 (((24 : Int32) * (I0 0 35)) + (I0 5 (I0 0 35).toNatClampNeg)).toNatClampNeg)] ((mj_up I1 14 (((24 : Int32) * (I0 0 35)) + (I0 5 (I0 0 35).toNatClampNeg)).toNatClampNeg r1), J1, mj_R2) (.int r2, (I2, J2, mj_R2)) ∧ ((vp_in (((24 : Int32) * (I0 0 35)) + (I0 5 (I0 0 35).toNatClampNeg)) 48 ∧ (K 95 [(0, .ref 0), (1, .int (((24 : Int32) * (I0 0 35)) + (I0 5 (I0 0 35).toNatClampNeg))), (2, .int (0 : Int32))] [] ((mj_up I2 15 (((24 : Int32) * (I0 0 35)) + (I0 5 (I0 0 35).toNatClampNeg)).toNatClampNeg r2), J2, mj_R2)))))))))))))
    else
      Q (.null, (I0, J0, mj_R2)))) :
    mj_go mj_S2 mt_30 cal Q K 40 [(0, .ref 0)] [] (I0, J0, mj_R2) := h
set_option maxRecDepth 100000 in
set_option maxHeartbeats 8000000 in
theorem s30_95 {cal : Nat → List Value → mj_H → mj_R → Prop} {Q : mj_R → Prop} {K : Nat → mj_K} {I0 : Nat → Nat → Int32} {J0 : Nat → Nat → Int64} (x1 : Int32) (x2 : Int32)
    (h : (vp_in (I0 0 35) 2 ∧ ((if (I0 2 (I0 0 35).toNatClampNeg) ≤ x2 then
      K 135 [(0, .ref 0)] [] (I0, J0, mj_R2)
    else
      (if (I0 0 8) = 0 then
        (True ∧ ∃ (r1 : Int32) (I1 : Nat → Nat → Int32) (J1 : Nat → Nat → Int64), cal 29 [.ref 0] (I0, J0, mj_R2) (.int r1, (I1, J1, mj_R2)) ∧ ((vp_in (((4 : Int32) * x1) + x2) 192 ∧ (K 95 [(0, .ref 0), (1, .int x1), (2, .int (x2 + (1 : Int32)))] [] ((mj_up I1 16 (((4 : Int32) * x1) + x2).toNatClampNeg r1), J1, mj_R2)))))
      else
        K 135 [(0, .ref 0)] [] (I0, J0, mj_R2)))))) :
    mj_go mj_S2 mt_30 cal Q K 95 [(0, .ref 0), (1, .int x1), (2, .int x2)] [] (I0, J0, mj_R2) := h
set_option maxRecDepth 100000 in
set_option maxHeartbeats 8000000 in
theorem s30_135 {cal : Nat → List Value → mj_H → mj_R → Prop} {Q : mj_R → Prop} {K : Nat → mj_K} {I0 : Nat → Nat → Int32} {J0 : Nat → Nat → Int64}
    (h : (if (I0 0 8) = 0 then
      (vp_in (I0 0 35) 2 ∧ ((vp_in (I0 0 35) 2 ∧ (Q (.null, ((mj_up I0 5 (I0 0 35).toNatClampNeg ((I0 5 (I0 0 35).toNatClampNeg) + (1 : Int32))), J0, mj_R2))))))
    else
      Q (.null, (I0, J0, mj_R2)))) :
    mj_go mj_S2 mt_30 cal Q K 135 [(0, .ref 0)] [] (I0, J0, mj_R2) := h
-- UnbeatenHouseModel.knotRead(I)I (('c', 0), 'I')
set_option maxRecDepth 100000 in
set_option maxHeartbeats 8000000 in
theorem e31 {cal : Nat → List Value → mj_H → mj_R → Prop} {Q : mj_R → Prop} {K : Nat → mj_K} {I0 : Nat → Nat → Int32} {J0 : Nat → Nat → Int64} (x1 : Int32)
    (h : (if (I0 0 8) ≤ 0 then
      (if (I0 0 3) = (1 : Int32) then
        (True ∧ ∃ (r1 : Int32) (I1 : Nat → Nat → Int32) (J1 : Nat → Nat → Int64), cal 22 [.ref 0, .long (J0 0 7)] (I0, J0, mj_R2) (.int r1, (I1, J1, mj_R2)) ∧ ((if r1 = 0 then
          K 37 [(0, .ref 0), (1, .int x1)] [] (I1, J1, mj_R2)
        else
          (True ∧ ∃ (I2 : Nat → Nat → Int32) (J2 : Nat → Nat → Int64), cal 16 [.ref 0, .int (1 : Int32), .int (I1 0 4)] (I1, J1, mj_R2) (.null, (I2, J2, mj_R2)) ∧ (K 37 [(0, .ref 0), (1, .int x1)] [] (I2, J2, mj_R2))))))
      else
        (True ∧ ∃ (I3 : Nat → Nat → Int32) (J3 : Nat → Nat → Int64), cal 16 [.ref 0, .int (1 : Int32), .int (I0 0 4)] (I0, J0, mj_R2) (.null, (I3, J3, mj_R2)) ∧ (K 37 [(0, .ref 0), (1, .int x1)] [] (I3, J3, mj_R2))))
    else
      Q (.int (0 : Int32), (I0, J0, mj_R2)))) :
    mj_if (Nat.ble (mj_sz [.ref 0, .int x1]) mt_31.2.2) (mj_sg mj_S2 mt_31 cal Q K 100 0 (mj_a0 0 [.ref 0, .int x1]) [] (I0, J0, mj_R2)) := h
set_option maxRecDepth 100000 in
set_option maxHeartbeats 8000000 in
theorem s31_37 {cal : Nat → List Value → mj_H → mj_R → Prop} {Q : mj_R → Prop} {K : Nat → mj_K} {I0 : Nat → Nat → Int32} {J0 : Nat → Nat → Int64} (x1 : Int32)
    (h : (if (I0 0 8) ≤ 0 then
      (True ∧ ∃ (r1 : Int32) (I1 : Nat → Nat → Int32) (J1 : Nat → Nat → Int64), cal 25 [.ref 0, .int (I0 0 35), .long (J0 0 7)] (I0, J0, mj_R2) (.int r1, (I1, J1, mj_R2)) ∧ (K 61 [(0, .ref 0), (1, .int x1), (2, .int r1)] [] (I1, J1, mj_R2)))
    else
      K 61 [(0, .ref 0), (1, .int x1), (2, .int (0 : Int32))] [] (I0, J0, mj_R2))) :
    mj_go mj_S2 mt_31 cal Q K 37 [(0, .ref 0), (1, .int x1)] [] (I0, J0, mj_R2) := h
set_option maxRecDepth 100000 in
set_option maxHeartbeats 8000000 in
theorem s31_61 {cal : Nat → List Value → mj_H → mj_R → Prop} {Q : mj_R → Prop} {K : Nat → mj_K} {I0 : Nat → Nat → Int32} {J0 : Nat → Nat → Int64} (x1 : Int32) (x2 : Int32)
    (h : (if (I0 0 8) = 0 then
      (if x2 = (-1 : Int32) then
        (True ∧ ∃ (I1 : Nat → Nat → Int32) (J1 : Nat → Nat → Int64), cal 16 [.ref 0, .int (3 : Int32), .int (I0 0 4)] (I0, J0, mj_R2) (.null, (I1, J1, mj_R2)) ∧ (K 87 [(0, .ref 0), (2, .int x2)] [] (I1, J1, mj_R2)))
      else
        (if x2 = x1 then
          (True ∧ ∃ (I2 : Nat → Nat → Int32) (J2 : Nat → Nat → Int64), cal 16 [.ref 0, .int (3 : Int32), .int (I0 0 4)] (I0, J0, mj_R2) (.null, (I2, J2, mj_R2)) ∧ (K 87 [(0, .ref 0), (2, .int x2)] [] (I2, J2, mj_R2)))
        else
          K 87 [(0, .ref 0), (2, .int x2)] [] (I0, J0, mj_R2)))
    else
      K 87 [(0, .ref 0), (2, .int x2)] [] (I0, J0, mj_R2))) :
    mj_go mj_S2 mt_31 cal Q K 61 [(0, .ref 0), (1, .int x1), (2, .int x2)] [] (I0, J0, mj_R2) := h
set_option maxRecDepth 100000 in
set_option maxHeartbeats 8000000 in
theorem s31_87 {cal : Nat → List Value → mj_H → mj_R → Prop} {Q : mj_R → Prop} {K : Nat → mj_K} {I0 : Nat → Nat → Int32} {J0 : Nat → Nat → Int64} (x2 : Int32)
    (h : (if (I0 0 8) = 0 then
      (True ∧ ∃ (I1 : Nat → Nat → Int32) (J1 : Nat → Nat → Int64), cal 13 [.ref 0] (I0, J0, mj_R2) (.null, (I1, J1, mj_R2)) ∧ (Q (.int x2, (I1, J1, mj_R2))))
    else
      Q (.int x2, (I0, J0, mj_R2)))) :
    mj_go mj_S2 mt_31 cal Q K 87 [(0, .ref 0), (2, .int x2)] [] (I0, J0, mj_R2) := h
-- UnbeatenHouseModel.thing()V (('c', 0),)
set_option maxRecDepth 100000 in
set_option maxHeartbeats 8000000 in
theorem e32 {cal : Nat → List Value → mj_H → mj_R → Prop} {Q : mj_R → Prop} {K : Nat → mj_K} {I0 : Nat → Nat → Int32} {J0 : Nat → Nat → Int64}
    (h : (vp_in (I0 0 35) 2 ∧ ((if (I0 6 (I0 0 35).toNatClampNeg) = (12 : Int32) then
      (vp_in (I0 0 35) 2 ∧ ((if (I0 2 (I0 0 35).toNatClampNeg) = 0 then
        (True ∧ ∃ (I1 : Nat → Nat → Int32) (J1 : Nat → Nat → Int64), cal 20 [.ref 0, .int (1 : Int32), .int (1 : Int32)] (I0, J0, mj_R2) (.null, (I1, J1, mj_R2)) ∧ (K 40 [(0, .ref 0)] [] (I1, J1, mj_R2)))
      else
        (True ∧ ∃ (I2 : Nat → Nat → Int32) (J2 : Nat → Nat → Int64), cal 20 [.ref 0, .int (1 : Int32), .int (0 : Int32)] (I0, J0, mj_R2) (.null, (I2, J2, mj_R2)) ∧ (K 40 [(0, .ref 0)] [] (I2, J2, mj_R2))))))
    else
      (vp_in (I0 0 35) 2 ∧ ((if (I0 2 (I0 0 35).toNatClampNeg) = 0 then
        (True ∧ ∃ (I3 : Nat → Nat → Int32) (J3 : Nat → Nat → Int64), cal 20 [.ref 0, .int (0 : Int32), .int (1 : Int32)] (I0, J0, mj_R2) (.null, (I3, J3, mj_R2)) ∧ (K 40 [(0, .ref 0)] [] (I3, J3, mj_R2)))
      else
        (True ∧ ∃ (I4 : Nat → Nat → Int32) (J4 : Nat → Nat → Int64), cal 20 [.ref 0, .int (0 : Int32), .int (0 : Int32)] (I0, J0, mj_R2) (.null, (I4, J4, mj_R2)) ∧ (K 40 [(0, .ref 0)] [] (I4, J4, mj_R2)))))))))) :
    mj_if (Nat.ble (mj_sz [.ref 0]) mt_32.2.2) (mj_sg mj_S2 mt_32 cal Q K 100 0 (mj_a0 0 [.ref 0]) [] (I0, J0, mj_R2)) := h
set_option maxRecDepth 100000 in
set_option maxHeartbeats 8000000 in
theorem s32_40 {cal : Nat → List Value → mj_H → mj_R → Prop} {Q : mj_R → Prop} {K : Nat → mj_K} {I0 : Nat → Nat → Int32} {J0 : Nat → Nat → Int64}
    (h : (if (I0 0 8) ≤ 0 then
      (vp_in (I0 0 35) 2 ∧ ((True ∧ ∃ (r1 : Int64) (I1 : Nat → Nat → Int32) (J1 : Nat → Nat → Int64), cal 21 [.ref 0] (I0, J0, mj_R2) (.long r1, (I1, J1, mj_R2)) ∧ (K 74 [(0, .ref 0), (1, .int (((12 : Int32) * (I0 0 35)) + (I0 6 (I0 0 35).toNatClampNeg))), (2, .long r1), (4, .int (0 : Int32))] [] (I1, J1, mj_R2)))))
    else
      Q (.null, (I0, J0, mj_R2)))) :
    mj_go mj_S2 mt_32 cal Q K 40 [(0, .ref 0)] [] (I0, J0, mj_R2) := h
set_option maxRecDepth 100000 in
set_option maxHeartbeats 8000000 in
theorem s32_74 {cal : Nat → List Value → mj_H → mj_R → Prop} {Q : mj_R → Prop} {K : Nat → mj_K} {I0 : Nat → Nat → Int32} {J0 : Nat → Nat → Int64} (x1 : Int32) (x2 : Int64) (x4 : Int32)
    (h : (vp_in (I0 0 35) 2 ∧ ((if (I0 2 (I0 0 35).toNatClampNeg) ≤ x4 then
      K 116 [(0, .ref 0), (1, .int x1), (2, .long x2)] [] (I0, J0, mj_R2)
    else
      (if (I0 0 8) = 0 then
        (True ∧ ∃ (r1 : Int32) (I1 : Nat → Nat → Int32) (J1 : Nat → Nat → Int64), cal 29 [.ref 0] (I0, J0, mj_R2) (.int r1, (I1, J1, mj_R2)) ∧ ((vp_in (((4 : Int32) * x1) + x4) 96 ∧ (K 74 [(0, .ref 0), (1, .int x1), (2, .long x2), (4, .int (x4 + (1 : Int32)))] [] ((mj_up I1 18 (((4 : Int32) * x1) + x4).toNatClampNeg r1), J1, mj_R2)))))
      else
        K 116 [(0, .ref 0), (1, .int x1), (2, .long x2)] [] (I0, J0, mj_R2)))))) :
    mj_go mj_S2 mt_32 cal Q K 74 [(0, .ref 0), (1, .int x1), (2, .long x2), (4, .int x4)] [] (I0, J0, mj_R2) := h
set_option maxRecDepth 100000 in
set_option maxHeartbeats 8000000 in
theorem s32_116 {cal : Nat → List Value → mj_H → mj_R → Prop} {Q : mj_R → Prop} {K : Nat → mj_K} {I0 : Nat → Nat → Int32} {J0 : Nat → Nat → Int64} (x1 : Int32) (x2 : Int64)
    (h : (vp_in x1 24 ∧ ((if (I0 0 8) = 0 then
      (vp_in (I0 0 35) 2 ∧ ((vp_in (I0 0 35) 2 ∧ (Q (.null, ((mj_up I0 6 (I0 0 35).toNatClampNeg ((I0 6 (I0 0 35).toNatClampNeg) + (1 : Int32))), (mj_up J0 17 x1.toNatClampNeg x2), mj_R2))))))
    else
      Q (.null, (I0, (mj_up J0 17 x1.toNatClampNeg x2), mj_R2)))))) :
    mj_go mj_S2 mt_32 cal Q K 116 [(0, .ref 0), (1, .int x1), (2, .long x2)] [] (I0, J0, mj_R2) := h
-- UnbeatenHouseModel.readsTest()V (('c', 0),)
set_option maxRecDepth 100000 in
set_option maxHeartbeats 8000000 in
theorem e33 {cal : Nat → List Value → mj_H → mj_R → Prop} {Q : mj_R → Prop} {K : Nat → mj_K} {I0 : Nat → Nat → Int32} {J0 : Nat → Nat → Int64}
    (h : (if (I0 0 8) ≤ 0 then
      (((0 : Int32) = 0 ∨ (0 : Int32) = 1) ∧ (K 28 [(0, .ref 0)] [] ((mj_up (mj_up (mj_up (mj_up I0 0 41 (0 : Int32)) 0 42 (0 : Int32)) 0 44 (0 : Int32)) 0 45 (0 : Int32)), J0, mj_R2)))
    else
      Q (.null, (I0, J0, mj_R2)))) :
    mj_if (Nat.ble (mj_sz [.ref 0]) mt_33.2.2) (mj_sg mj_S2 mt_33 cal Q K 100 0 (mj_a0 0 [.ref 0]) [] (I0, J0, mj_R2)) := h
set_option maxRecDepth 100000 in
set_option maxHeartbeats 8000000 in
theorem s33_28 {cal : Nat → List Value → mj_H → mj_R → Prop} {Q : mj_R → Prop} {K : Nat → mj_K} {I0 : Nat → Nat → Int32} {J0 : Nat → Nat → Int64}
    (h : (True ∧ ∃ (I1 : Nat → Nat → Int32) (J1 : Nat → Nat → Int64), cal 34 [.ref 0, .int (1 : Int32)] (I0, J0, mj_R2) (.null, (I1, J1, mj_R2)) ∧ (K 35 [(0, .ref 0), (1, .int (1 : Int32))] [] (I1, J1, mj_R2)))) :
    mj_go mj_S2 mt_33 cal Q K 28 [(0, .ref 0)] [] (I0, J0, mj_R2) := h
set_option maxRecDepth 100000 in
set_option maxHeartbeats 8000000 in
theorem s33_35 {cal : Nat → List Value → mj_H → mj_R → Prop} {Q : mj_R → Prop} {K : Nat → mj_K} {I0 : Nat → Nat → Int32} {J0 : Nat → Nat → Int64} (x1 : Int32)
    (h : (if x1 = 0 then
      Q (.null, (I0, J0, mj_R2))
    else
      (if (I0 0 45) = 0 then
        (True ∧ ∃ (r1 : Int32) (I1 : Nat → Nat → Int32) (J1 : Nat → Nat → Int64), cal 35 [.ref 0] (I0, J0, mj_R2) (.int r1, (I1, J1, mj_R2)) ∧ (((r1 = 0 ∨ r1 = 1) ∧ (K 62 [(0, .ref 0), (1, .int x1)] [] ((mj_up I1 0 45 r1), J1, mj_R2)))))
      else
        (True ∧ ∃ (r2 : Int32) (I2 : Nat → Nat → Int32) (J2 : Nat → Nat → Int64), cal 41 [.ref 0] (I0, J0, mj_R2) (.int r2, (I2, J2, mj_R2)) ∧ (K 62 [(0, .ref 0), (1, .int r2)] [] (I2, J2, mj_R2)))))) :
    mj_go mj_S2 mt_33 cal Q K 35 [(0, .ref 0), (1, .int x1)] [] (I0, J0, mj_R2) := h
set_option maxRecDepth 100000 in
set_option maxHeartbeats 8000000 in
theorem s33_62 {cal : Nat → List Value → mj_H → mj_R → Prop} {Q : mj_R → Prop} {K : Nat → mj_K} {I0 : Nat → Nat → Int32} {J0 : Nat → Nat → Int64} (x1 : Int32)
    (h : (if x1 = 0 then
      K 35 [(0, .ref 0), (1, .int (0 : Int32))] [] (I0, J0, mj_R2)
    else
      (if (I0 0 8) = 0 then
        K 35 [(0, .ref 0), (1, .int (1 : Int32))] [] (I0, J0, mj_R2)
      else
        K 35 [(0, .ref 0), (1, .int (0 : Int32))] [] (I0, J0, mj_R2)))) :
    mj_go mj_S2 mt_33 cal Q K 62 [(0, .ref 0), (1, .int x1)] [] (I0, J0, mj_R2) := h
-- UnbeatenHouseModel.pushes(I)V (('c', 0), 'I')
set_option maxRecDepth 100000 in
set_option maxHeartbeats 8000000 in
theorem e34 {cal : Nat → List Value → mj_H → mj_R → Prop} {Q : mj_R → Prop} {K : Nat → mj_K} {I0 : Nat → Nat → Int32} {J0 : Nat → Nat → Int64} (x1 : Int32)
    (h : (vp_in (I0 0 41) 20 ∧ ((vp_in (I0 0 41) 20 ∧ ((vp_in (I0 0 41) 20 ∧ ((vp_in (I0 0 41) 20 ∧ (K 43 [(0, .ref 0)] [] ((mj_up (mj_up (mj_up (mj_up I0 23 (I0 0 41).toNatClampNeg x1) 24 (I0 0 41).toNatClampNeg (0 : Int32)) 25 (I0 0 41).toNatClampNeg (vp_nar .boolean (1 : Int32))) 27 (I0 0 41).toNatClampNeg (I0 0 44)), J0, mj_R2)))))))))) :
    mj_if (Nat.ble (mj_sz [.ref 0, .int x1]) mt_34.2.2) (mj_sg mj_S2 mt_34 cal Q K 100 0 (mj_a0 0 [.ref 0, .int x1]) [] (I0, J0, mj_R2)) := h
set_option maxRecDepth 100000 in
set_option maxHeartbeats 8000000 in
theorem s34_43 {cal : Nat → List Value → mj_H → mj_R → Prop} {Q : mj_R → Prop} {K : Nat → mj_K} {I0 : Nat → Nat → Int32} {J0 : Nat → Nat → Int64}
    (h : Q (.null, ((mj_up I0 0 41 ((I0 0 41) + (1 : Int32))), J0, mj_R2))) :
    mj_go mj_S2 mt_34 cal Q K 43 [(0, .ref 0)] [] (I0, J0, mj_R2) := h
-- UnbeatenHouseModel.part()Z (('c', 0),)
set_option maxRecDepth 100000 in
set_option maxHeartbeats 8000000 in
theorem e35 {cal : Nat → List Value → mj_H → mj_R → Prop} {Q : mj_R → Prop} {K : Nat → mj_K} {I0 : Nat → Nat → Int32} {J0 : Nat → Nat → Int64}
    (h : (vp_in ((I0 0 41) - (1 : Int32)) 20 ∧ ((True ∧ ∃ (r1 : Int32) (I1 : Nat → Nat → Int32) (J1 : Nat → Nat → Int64), cal 36 [.int (I0 23 ((I0 0 41) - (1 : Int32)).toNatClampNeg)] (I0, J0, mj_R2) (.int r1, (I1, J1, mj_R2)) ∧ ((if r1 = 0 then
      K 34 [(0, .ref 0), (1, .int ((I0 0 41) - (1 : Int32))), (2, .int (0 : Int32))] [] (I1, J1, mj_R2)
    else
      (vp_in ((I0 0 41) - (1 : Int32)) 20 ∧ ((if (I1 25 ((I0 0 41) - (1 : Int32)).toNatClampNeg) = 0 then
        K 34 [(0, .ref 0), (1, .int ((I0 0 41) - (1 : Int32))), (2, .int (0 : Int32))] [] (I1, J1, mj_R2)
      else
        K 34 [(0, .ref 0), (1, .int ((I0 0 41) - (1 : Int32))), (2, .int (1 : Int32))] [] (I1, J1, mj_R2)))))))))) :
    mj_if (Nat.ble (mj_sz [.ref 0]) mt_35.2.2) (mj_sg mj_S2 mt_35 cal Q K 100 0 (mj_a0 0 [.ref 0]) [] (I0, J0, mj_R2)) := h
set_option maxRecDepth 100000 in
set_option maxHeartbeats 8000000 in
theorem s35_34 {cal : Nat → List Value → mj_H → mj_R → Prop} {Q : mj_R → Prop} {K : Nat → mj_K} {I0 : Nat → Nat → Int32} {J0 : Nat → Nat → Int64} (x1 : Int32) (x2 : Int32)
    (h : (if x2 = 0 then
      K 60 [(0, .ref 0), (1, .int x1), (2, .int x2)] [] (I0, J0, mj_R2)
    else
      (True ∧ ∃ (r1 : Int32) (I1 : Nat → Nat → Int32) (J1 : Nat → Nat → Int64), cal 18 [.ref 0, .long (7237492 : Int64)] (I0, J0, mj_R2) (.int r1, (I1, J1, mj_R2)) ∧ ((if r1 = 0 then
        K 60 [(0, .ref 0), (1, .int x1), (2, .int x2)] [] (I1, J1, mj_R2)
      else
        (True ∧ ∃ (I2 : Nat → Nat → Int32) (J2 : Nat → Nat → Int64), cal 37 [.ref 0, .int (16 : Int32)] (I1, J1, mj_R2) (.null, (I2, J2, mj_R2)) ∧ ((True ∧ ∃ (I3 : Nat → Nat → Int32) (J3 : Nat → Nat → Int64), cal 13 [.ref 0] (I2, J2, mj_R2) (.null, (I3, J3, mj_R2)) ∧ ((((0 : Int32) = 0 ∨ (0 : Int32) = 1) ∧ Q (.int (0 : Int32), (I3, J3, mj_R2)))))))))))) :
    mj_go mj_S2 mt_35 cal Q K 34 [(0, .ref 0), (1, .int x1), (2, .int x2)] [] (I0, J0, mj_R2) := h
set_option maxRecDepth 100000 in
set_option maxHeartbeats 8000000 in
theorem s35_60 {cal : Nat → List Value → mj_H → mj_R → Prop} {Q : mj_R → Prop} {K : Nat → mj_K} {I0 : Nat → Nat → Int32} {J0 : Nat → Nat → Int64} (x1 : Int32) (x2 : Int32)
    (h : (vp_in x1 20 ∧ ((if x2 = 0 then
      K 87 [(0, .ref 0), (1, .int x1), (2, .int x2)] [] ((mj_up I0 25 x1.toNatClampNeg (vp_nar .boolean (0 : Int32))), J0, mj_R2)
    else
      (True ∧ ∃ (r1 : Int32) (I1 : Nat → Nat → Int32) (J1 : Nat → Nat → Int64), cal 28 [.ref 0, .int (91 : Int32)] ((mj_up I0 25 x1.toNatClampNeg (vp_nar .boolean (0 : Int32))), J0, mj_R2) (.int r1, (I1, J1, mj_R2)) ∧ ((if r1 = 0 then
        K 87 [(0, .ref 0), (1, .int x1), (2, .int x2)] [] (I1, J1, mj_R2)
      else
        (True ∧ ∃ (I2 : Nat → Nat → Int32) (J2 : Nat → Nat → Int64), cal 38 [.ref 0, .int (5 : Int32)] (I1, J1, mj_R2) (.null, (I2, J2, mj_R2)) ∧ ((((0 : Int32) = 0 ∨ (0 : Int32) = 1) ∧ Q (.int (0 : Int32), (I2, J2, mj_R2)))))))))))) :
    mj_go mj_S2 mt_35 cal Q K 60 [(0, .ref 0), (1, .int x1), (2, .int x2)] [] (I0, J0, mj_R2) := h
set_option maxRecDepth 100000 in
set_option maxHeartbeats 8000000 in
theorem s35_87 {cal : Nat → List Value → mj_H → mj_R → Prop} {Q : mj_R → Prop} {K : Nat → mj_K} {I0 : Nat → Nat → Int32} {J0 : Nat → Nat → Int64} (x1 : Int32) (x2 : Int32)
    (h : (if x2 = 0 then
      K 120 [(0, .ref 0), (1, .int x1), (2, .int x2)] [] (I0, J0, mj_R2)
    else
      (True ∧ ∃ (r1 : Int32) (I1 : Nat → Nat → Int32) (J1 : Nat → Nat → Int64), cal 18 [.ref 0, .long (6384748 : Int64)] (I0, J0, mj_R2) (.int r1, (I1, J1, mj_R2)) ∧ ((if r1 = 0 then
        K 120 [(0, .ref 0), (1, .int x1), (2, .int x2)] [] (I1, J1, mj_R2)
      else
        (True ∧ ∃ (I2 : Nat → Nat → Int32) (J2 : Nat → Nat → Int64), cal 39 [.ref 0, .int (3 : Int32), .int (0 : Int32)] (I1, J1, mj_R2) (.null, (I2, J2, mj_R2)) ∧ ((vp_in x1 20 ∧ ((True ∧ ∃ (I3 : Nat → Nat → Int32) (J3 : Nat → Nat → Int64), cal 13 [.ref 0] ((mj_up I2 24 x1.toNatClampNeg (2 : Int32)), J2, mj_R2) (.null, (I3, J3, mj_R2)) ∧ ((((1 : Int32) = 0 ∨ (1 : Int32) = 1) ∧ Q (.int (1 : Int32), (I3, J3, mj_R2)))))))))))))) :
    mj_go mj_S2 mt_35 cal Q K 87 [(0, .ref 0), (1, .int x1), (2, .int x2)] [] (I0, J0, mj_R2) := h
set_option maxRecDepth 100000 in
set_option maxHeartbeats 8000000 in
theorem s35_120 {cal : Nat → List Value → mj_H → mj_R → Prop} {Q : mj_R → Prop} {K : Nat → mj_K} {I0 : Nat → Nat → Int32} {J0 : Nat → Nat → Int64} (x1 : Int32) (x2 : Int32)
    (h : (if x2 = 0 then
      K 148 [(0, .ref 0)] [] (I0, J0, mj_R2)
    else
      (True ∧ ∃ (r1 : Int32) (I1 : Nat → Nat → Int32) (J1 : Nat → Nat → Int64), cal 18 [.ref 0, .long (6840691 : Int64)] (I0, J0, mj_R2) (.int r1, (I1, J1, mj_R2)) ∧ ((if r1 = 0 then
        K 148 [(0, .ref 0)] [] (I1, J1, mj_R2)
      else
        (vp_in x1 20 ∧ ((True ∧ ∃ (I2 : Nat → Nat → Int32) (J2 : Nat → Nat → Int64), cal 40 [.ref 0, .int (4 : Int32)] ((mj_up I1 24 x1.toNatClampNeg (2 : Int32)), J1, mj_R2) (.null, (I2, J2, mj_R2)) ∧ ((((1 : Int32) = 0 ∨ (1 : Int32) = 1) ∧ Q (.int (1 : Int32), (I2, J2, mj_R2)))))))))))) :
    mj_go mj_S2 mt_35 cal Q K 120 [(0, .ref 0), (1, .int x1), (2, .int x2)] [] (I0, J0, mj_R2) := h
set_option maxRecDepth 100000 in
set_option maxHeartbeats 8000000 in
theorem s35_148 {cal : Nat → List Value → mj_H → mj_R → Prop} {Q : mj_R → Prop} {K : Nat → mj_K} {I0 : Nat → Nat → Int32} {J0 : Nat → Nat → Int64}
    (h : (True ∧ ∃ (r1 : Int32) (I1 : Nat → Nat → Int32) (J1 : Nat → Nat → Int64), cal 28 [.ref 0, .int (40 : Int32)] (I0, J0, mj_R2) (.int r1, (I1, J1, mj_R2)) ∧ ((if r1 = 0 then
      (True ∧ ∃ (r2 : Int32) (I2 : Nat → Nat → Int32) (J2 : Nat → Nat → Int64), cal 18 [.ref 0, .long (7170414 : Int64)] (I1, J1, mj_R2) (.int r2, (I2, J2, mj_R2)) ∧ ((if r2 = 0 then
        (True ∧ ∃ (r3 : Int32) (I3 : Nat → Nat → Int32) (J3 : Nat → Nat → Int64), cal 18 [.ref 0, .long (7168376 : Int64)] (I2, J2, mj_R2) (.int r3, (I3, J3, mj_R2)) ∧ ((if r3 = 0 then
          (True ∧ ∃ (r4 : Int32) (I4 : Nat → Nat → Int32) (J4 : Nat → Nat → Int64), cal 18 [.ref 0, .long (28518 : Int64)] (I3, J3, mj_R2) (.int r4, (I4, J4, mj_R2)) ∧ ((if r4 = 0 then
            (if (I4 0 3) = (2 : Int32) then
              (True ∧ ∃ (I5 : Nat → Nat → Int32) (J5 : Nat → Nat → Int64), cal 39 [.ref 0, .int (0 : Int32), .int (I4 0 6)] (I4, J4, mj_R2) (.null, (I5, J5, mj_R2)) ∧ (K 315 [(0, .ref 0)] [] (I5, J5, mj_R2)))
            else
              (True ∧ ∃ (r6 : Int32) (I6 : Nat → Nat → Int32) (J6 : Nat → Nat → Int64), cal 18 [.ref 0, .long (1835101817 : Int64)] (I4, J4, mj_R2) (.int r6, (I6, J6, mj_R2)) ∧ ((if r6 = 0 then
                (True ∧ ∃ (I7 : Nat → Nat → Int32) (J7 : Nat → Nat → Int64), cal 16 [.ref 0, .int (1 : Int32), .int (I6 0 4)] (I6, J6, mj_R2) (.null, (I7, J7, mj_R2)) ∧ (K 315 [(0, .ref 0)] [] (I7, J7, mj_R2)))
              else
                (True ∧ ∃ (I8 : Nat → Nat → Int32) (J8 : Nat → Nat → Int64), cal 39 [.ref 0, .int (1 : Int32), .int (0 : Int32)] (I6, J6, mj_R2) (.null, (I8, J8, mj_R2)) ∧ (K 315 [(0, .ref 0)] [] (I8, J8, mj_R2)))))))
          else
            (True ∧ ∃ (I9 : Nat → Nat → Int32) (J9 : Nat → Nat → Int64), cal 40 [.ref 0, .int (2 : Int32)] (I4, J4, mj_R2) (.null, (I9, J9, mj_R2)) ∧ ((((1 : Int32) = 0 ∨ (1 : Int32) = 1) ∧ Q (.int (1 : Int32), (I9, J9, mj_R2))))))))
        else
          K 184 [(0, .ref 0)] [] (I3, J3, mj_R2))))
      else
        K 184 [(0, .ref 0)] [] (I2, J2, mj_R2))))
    else
      (True ∧ ∃ (I10 : Nat → Nat → Int32) (J10 : Nat → Nat → Int64), cal 38 [.ref 0, .int (2 : Int32)] (I1, J1, mj_R2) (.null, (I10, J10, mj_R2)) ∧ ((((0 : Int32) = 0 ∨ (0 : Int32) = 1) ∧ Q (.int (0 : Int32), (I10, J10, mj_R2))))))))) :
    mj_go mj_S2 mt_35 cal Q K 148 [(0, .ref 0)] [] (I0, J0, mj_R2) := h
set_option maxRecDepth 100000 in
set_option maxHeartbeats 8000000 in
theorem s35_184 {cal : Nat → List Value → mj_H → mj_R → Prop} {Q : mj_R → Prop} {K : Nat → mj_K} {I0 : Nat → Nat → Int32} {J0 : Nat → Nat → Int64}
    (h : (True ∧ ∃ (r1 : Int32) (I1 : Nat → Nat → Int32) (J1 : Nat → Nat → Int64), cal 18 [.ref 0, .long (7170414 : Int64)] (I0, J0, mj_R2) (.int r1, (I1, J1, mj_R2)) ∧ ((if r1 = 0 then
      K 202 [(0, .ref 0), (3, .int (10 : Int32))] [] (I1, J1, mj_R2)
    else
      K 202 [(0, .ref 0), (3, .int (9 : Int32))] [] (I1, J1, mj_R2))))) :
    mj_go mj_S2 mt_35 cal Q K 184 [(0, .ref 0)] [] (I0, J0, mj_R2) := h
set_option maxRecDepth 100000 in
set_option maxHeartbeats 8000000 in
theorem s35_202 {cal : Nat → List Value → mj_H → mj_R → Prop} {Q : mj_R → Prop} {K : Nat → mj_K} {I0 : Nat → Nat → Int32} {J0 : Nat → Nat → Int64} (x3 : Int32)
    (h : (True ∧ ∃ (I1 : Nat → Nat → Int32) (J1 : Nat → Nat → Int64), cal 13 [.ref 0] (I0, J0, mj_R2) (.null, (I1, J1, mj_R2)) ∧ ((True ∧ ∃ (r2 : Int32) (I2 : Nat → Nat → Int32) (J2 : Nat → Nat → Int64), cal 28 [.ref 0, .int (40 : Int32)] (I1, J1, mj_R2) (.int r2, (I2, J2, mj_R2)) ∧ ((if r2 = 0 then
      (True ∧ ∃ (I3 : Nat → Nat → Int32) (J3 : Nat → Nat → Int64), cal 16 [.ref 0, .int (1 : Int32), .int (I2 0 4)] (I2, J2, mj_R2) (.null, (I3, J3, mj_R2)) ∧ (K 224 [(0, .ref 0), (3, .int x3)] [] (I3, J3, mj_R2)))
    else
      K 224 [(0, .ref 0), (3, .int x3)] [] (I2, J2, mj_R2))))))) :
    mj_go mj_S2 mt_35 cal Q K 202 [(0, .ref 0), (3, .int x3)] [] (I0, J0, mj_R2) := h
set_option maxRecDepth 100000 in
set_option maxHeartbeats 8000000 in
theorem s35_224 {cal : Nat → List Value → mj_H → mj_R → Prop} {Q : mj_R → Prop} {K : Nat → mj_K} {I0 : Nat → Nat → Int32} {J0 : Nat → Nat → Int64} (x3 : Int32)
    (h : (True ∧ ∃ (I1 : Nat → Nat → Int32) (J1 : Nat → Nat → Int64), cal 38 [.ref 0, .int (3 : Int32)] (I0, J0, mj_R2) (.null, (I1, J1, mj_R2)) ∧ ((if (I1 0 8) = 0 then
      (vp_in ((I1 0 41) - (1 : Int32)) 20 ∧ ((((0 : Int32) = 0 ∨ (0 : Int32) = 1) ∧ Q (.int (0 : Int32), ((mj_up I1 26 ((I1 0 41) - (1 : Int32)).toNatClampNeg x3), J1, mj_R2)))))
    else
      (((0 : Int32) = 0 ∨ (0 : Int32) = 1) ∧ Q (.int (0 : Int32), (I1, J1, mj_R2))))))) :
    mj_go mj_S2 mt_35 cal Q K 224 [(0, .ref 0), (3, .int x3)] [] (I0, J0, mj_R2) := h
set_option maxRecDepth 100000 in
set_option maxHeartbeats 8000000 in
theorem s35_315 {cal : Nat → List Value → mj_H → mj_R → Prop} {Q : mj_R → Prop} {K : Nat → mj_K} {I0 : Nat → Nat → Int32} {J0 : Nat → Nat → Int64}
    (h : (if (I0 0 8) = 0 then
      (True ∧ ∃ (I1 : Nat → Nat → Int32) (J1 : Nat → Nat → Int64), cal 13 [.ref 0] (I0, J0, mj_R2) (.null, (I1, J1, mj_R2)) ∧ ((((1 : Int32) = 0 ∨ (1 : Int32) = 1) ∧ Q (.int (1 : Int32), (I1, J1, mj_R2)))))
    else
      (((1 : Int32) = 0 ∨ (1 : Int32) = 1) ∧ Q (.int (1 : Int32), (I0, J0, mj_R2))))) :
    mj_go mj_S2 mt_35 cal Q K 315 [(0, .ref 0)] [] (I0, J0, mj_R2) := h
-- UnbeatenHouseModel.isTest(I)Z ('I',)
set_option maxRecDepth 100000 in
set_option maxHeartbeats 8000000 in
theorem e36 {cal : Nat → List Value → mj_H → mj_R → Prop} {Q : mj_R → Prop} {K : Nat → mj_K} {I0 : Nat → Nat → Int32} {J0 : Nat → Nat → Int64} (x0 : Int32)
    (h : (if x0 = (1 : Int32) then
      (((1 : Int32) = 0 ∨ (1 : Int32) = 1) ∧ Q (.int (1 : Int32), (I0, J0, mj_R2)))
    else
      (if x0 = (5 : Int32) then
        (((1 : Int32) = 0 ∨ (1 : Int32) = 1) ∧ Q (.int (1 : Int32), (I0, J0, mj_R2)))
      else
        (((0 : Int32) = 0 ∨ (0 : Int32) = 1) ∧ Q (.int (0 : Int32), (I0, J0, mj_R2)))))) :
    mj_if (Nat.ble (mj_sz [.int x0]) mt_36.2.2) (mj_sg mj_S2 mt_36 cal Q K 100 0 (mj_a0 0 [.int x0]) [] (I0, J0, mj_R2)) := h
-- UnbeatenHouseModel.holdsBack(I)V (('c', 0), 'I')
set_option maxRecDepth 100000 in
set_option maxHeartbeats 8000000 in
theorem e37 {cal : Nat → List Value → mj_H → mj_R → Prop} {Q : mj_R → Prop} {K : Nat → mj_K} {I0 : Nat → Nat → Int32} {J0 : Nat → Nat → Int64} (x1 : Int32)
    (h : (vp_in (I0 0 44) 500 ∧ (Q (.null, ((mj_up (mj_up I0 28 (I0 0 44).toNatClampNeg x1) 0 44 ((I0 0 44) + (1 : Int32))), J0, mj_R2))))) :
    mj_if (Nat.ble (mj_sz [.ref 0, .int x1]) mt_37.2.2) (mj_sg mj_S2 mt_37 cal Q K 100 0 (mj_a0 0 [.ref 0, .int x1]) [] (I0, J0, mj_R2)) := h
-- UnbeatenHouseModel.opens(I)V (('c', 0), 'I')
set_option maxRecDepth 100000 in
set_option maxHeartbeats 8000000 in
theorem e38 {cal : Nat → List Value → mj_H → mj_R → Prop} {Q : mj_R → Prop} {K : Nat → mj_K} {I0 : Nat → Nat → Int32} {J0 : Nat → Nat → Int64} (x1 : Int32)
    (h : (if (I0 0 42) = (8 : Int32) then
      (True ∧ ∃ (I1 : Nat → Nat → Int32) (J1 : Nat → Nat → Int64), cal 16 [.ref 0, .int (5 : Int32), .int (I0 0 4)] (I0, J0, mj_R2) (.null, (I1, J1, mj_R2)) ∧ (K 18 [(0, .ref 0), (1, .int x1)] [] (I1, J1, mj_R2)))
    else
      K 18 [(0, .ref 0), (1, .int x1)] [] (I0, J0, mj_R2))) :
    mj_if (Nat.ble (mj_sz [.ref 0, .int x1]) mt_38.2.2) (mj_sg mj_S2 mt_38 cal Q K 100 0 (mj_a0 0 [.ref 0, .int x1]) [] (I0, J0, mj_R2)) := h
set_option maxRecDepth 100000 in
set_option maxHeartbeats 8000000 in
theorem s38_18 {cal : Nat → List Value → mj_H → mj_R → Prop} {Q : mj_R → Prop} {K : Nat → mj_K} {I0 : Nat → Nat → Int32} {J0 : Nat → Nat → Int64} (x1 : Int32)
    (h : (if (I0 0 8) ≤ 0 then
      (True ∧ ∃ (I1 : Nat → Nat → Int32) (J1 : Nat → Nat → Int64), cal 13 [.ref 0] ((mj_up I0 0 42 ((I0 0 42) + (1 : Int32))), J0, mj_R2) (.null, (I1, J1, mj_R2)) ∧ ((True ∧ ∃ (I2 : Nat → Nat → Int32) (J2 : Nat → Nat → Int64), cal 34 [.ref 0, .int x1] (I1, J1, mj_R2) (.null, (I2, J2, mj_R2)) ∧ (Q (.null, (I2, J2, mj_R2))))))
    else
      Q (.null, (I0, J0, mj_R2)))) :
    mj_go mj_S2 mt_38 cal Q K 18 [(0, .ref 0), (1, .int x1)] [] (I0, J0, mj_R2) := h
-- UnbeatenHouseModel.add(II)V (('c', 0), 'I', 'I')
set_option maxRecDepth 100000 in
set_option maxHeartbeats 8000000 in
theorem e39 {cal : Nat → List Value → mj_H → mj_R → Prop} {Q : mj_R → Prop} {K : Nat → mj_K} {I0 : Nat → Nat → Int32} {J0 : Nat → Nat → Int64} (x1 : Int32) (x2 : Int32)
    (h : (vp_in (((900 : Int32) * (I0 0 35)) + (I0 0 34)) 1800 ∧ ((vp_in (((900 : Int32) * (I0 0 35)) + (I0 0 34)) 1800 ∧ (Q (.null, ((mj_up (mj_up (mj_up I0 21 (((900 : Int32) * (I0 0 35)) + (I0 0 34)).toNatClampNeg x1) 22 (((900 : Int32) * (I0 0 35)) + (I0 0 34)).toNatClampNeg x2) 0 34 ((I0 0 34) + (1 : Int32))), J0, mj_R2))))))) :
    mj_if (Nat.ble (mj_sz [.ref 0, .int x1, .int x2]) mt_39.2.2) (mj_sg mj_S2 mt_39 cal Q K 100 0 (mj_a0 0 [.ref 0, .int x1, .int x2]) [] (I0, J0, mj_R2)) := h
-- UnbeatenHouseModel.named(I)V (('c', 0), 'I')
set_option maxRecDepth 100000 in
set_option maxHeartbeats 8000000 in
theorem e40 {cal : Nat → List Value → mj_H → mj_R → Prop} {Q : mj_R → Prop} {K : Nat → mj_K} {I0 : Nat → Nat → Int32} {J0 : Nat → Nat → Int64} (x1 : Int32)
    (h : (True ∧ ∃ (I1 : Nat → Nat → Int32) (J1 : Nat → Nat → Int64), cal 13 [.ref 0] (I0, J0, mj_R2) (.null, (I1, J1, mj_R2)) ∧ ((if (I1 0 8) = 0 then
      (if (I1 0 3) = (1 : Int32) then
        (True ∧ ∃ (r2 : Int32) (I2 : Nat → Nat → Int32) (J2 : Nat → Nat → Int64), cal 22 [.ref 0, .long (J1 0 7)] (I1, J1, mj_R2) (.int r2, (I2, J2, mj_R2)) ∧ ((if r2 = 0 then
          K 39 [(0, .ref 0), (1, .int x1)] [] (I2, J2, mj_R2)
        else
          (True ∧ ∃ (I3 : Nat → Nat → Int32) (J3 : Nat → Nat → Int64), cal 16 [.ref 0, .int (1 : Int32), .int (I2 0 4)] (I2, J2, mj_R2) (.null, (I3, J3, mj_R2)) ∧ (K 39 [(0, .ref 0), (1, .int x1)] [] (I3, J3, mj_R2))))))
      else
        (True ∧ ∃ (I4 : Nat → Nat → Int32) (J4 : Nat → Nat → Int64), cal 16 [.ref 0, .int (1 : Int32), .int (I1 0 4)] (I1, J1, mj_R2) (.null, (I4, J4, mj_R2)) ∧ (K 39 [(0, .ref 0), (1, .int x1)] [] (I4, J4, mj_R2))))
    else
      K 39 [(0, .ref 0), (1, .int x1)] [] (I1, J1, mj_R2))))) :
    mj_if (Nat.ble (mj_sz [.ref 0, .int x1]) mt_40.2.2) (mj_sg mj_S2 mt_40 cal Q K 100 0 (mj_a0 0 [.ref 0, .int x1]) [] (I0, J0, mj_R2)) := h
set_option maxRecDepth 100000 in
set_option maxHeartbeats 8000000 in
theorem s40_39 {cal : Nat → List Value → mj_H → mj_R → Prop} {Q : mj_R → Prop} {K : Nat → mj_K} {I0 : Nat → Nat → Int32} {J0 : Nat → Nat → Int64} (x1 : Int32)
    (h : (if (I0 0 8) ≤ 0 then
      (if x1 = (2 : Int32) then
        (True ∧ ∃ (r1 : Int32) (I1 : Nat → Nat → Int32) (J1 : Nat → Nat → Int64), cal 24 [.ref 0, .int (I0 0 35), .long (J0 0 7)] (I0, J0, mj_R2) (.int r1, (I1, J1, mj_R2)) ∧ (K 83 [(0, .ref 0), (1, .int x1), (2, .int r1)] [] (I1, J1, mj_R2)))
      else
        (True ∧ ∃ (r2 : Int32) (I2 : Nat → Nat → Int32) (J2 : Nat → Nat → Int64), cal 26 [.ref 0, .int (I0 0 35), .long (J0 0 7)] (I0, J0, mj_R2) (.int r2, (I2, J2, mj_R2)) ∧ (K 83 [(0, .ref 0), (1, .int x1), (2, .int r2)] [] (I2, J2, mj_R2))))
    else
      K 83 [(0, .ref 0), (1, .int x1), (2, .int (0 : Int32))] [] (I0, J0, mj_R2))) :
    mj_go mj_S2 mt_40 cal Q K 39 [(0, .ref 0), (1, .int x1)] [] (I0, J0, mj_R2) := h
set_option maxRecDepth 100000 in
set_option maxHeartbeats 8000000 in
theorem s40_83 {cal : Nat → List Value → mj_H → mj_R → Prop} {Q : mj_R → Prop} {K : Nat → mj_K} {I0 : Nat → Nat → Int32} {J0 : Nat → Nat → Int64} (x1 : Int32) (x2 : Int32)
    (h : (if (I0 0 8) = 0 then
      (if x2 = (-1 : Int32) then
        (True ∧ ∃ (I1 : Nat → Nat → Int32) (J1 : Nat → Nat → Int64), cal 16 [.ref 0, .int (3 : Int32), .int (I0 0 4)] (I0, J0, mj_R2) (.null, (I1, J1, mj_R2)) ∧ (K 104 [(0, .ref 0), (1, .int x1), (2, .int x2)] [] (I1, J1, mj_R2)))
      else
        K 104 [(0, .ref 0), (1, .int x1), (2, .int x2)] [] (I0, J0, mj_R2))
    else
      K 104 [(0, .ref 0), (1, .int x1), (2, .int x2)] [] (I0, J0, mj_R2))) :
    mj_go mj_S2 mt_40 cal Q K 83 [(0, .ref 0), (1, .int x1), (2, .int x2)] [] (I0, J0, mj_R2) := h
set_option maxRecDepth 100000 in
set_option maxHeartbeats 8000000 in
theorem s40_104 {cal : Nat → List Value → mj_H → mj_R → Prop} {Q : mj_R → Prop} {K : Nat → mj_K} {I0 : Nat → Nat → Int32} {J0 : Nat → Nat → Int64} (x1 : Int32) (x2 : Int32)
    (h : (if (I0 0 8) ≤ 0 then
      (True ∧ ∃ (I1 : Nat → Nat → Int32) (J1 : Nat → Nat → Int64), cal 39 [.ref 0, .int x1, .int x2] (I0, J0, mj_R2) (.null, (I1, J1, mj_R2)) ∧ ((True ∧ ∃ (I2 : Nat → Nat → Int32) (J2 : Nat → Nat → Int64), cal 13 [.ref 0] (I1, J1, mj_R2) (.null, (I2, J2, mj_R2)) ∧ (Q (.null, (I2, J2, mj_R2))))))
    else
      Q (.null, (I0, J0, mj_R2)))) :
    mj_go mj_S2 mt_40 cal Q K 104 [(0, .ref 0), (1, .int x1), (2, .int x2)] [] (I0, J0, mj_R2) := h
-- UnbeatenHouseModel.goesOn()Z (('c', 0),)
set_option maxRecDepth 100000 in
set_option maxHeartbeats 8000000 in
theorem e41 {cal : Nat → List Value → mj_H → mj_R → Prop} {Q : mj_R → Prop} {K : Nat → mj_K} {I0 : Nat → Nat → Int32} {J0 : Nat → Nat → Int64}
    (h : (vp_in ((I0 0 41) - (1 : Int32)) 20 ∧ ((True ∧ ∃ (r1 : Int32) (I1 : Nat → Nat → Int32) (J1 : Nat → Nat → Int64), cal 36 [.int (I0 23 ((I0 0 41) - (1 : Int32)).toNatClampNeg)] (I0, J0, mj_R2) (.int r1, (I1, J1, mj_R2)) ∧ ((vp_in ((I0 0 41) - (1 : Int32)) 20 ∧ ((if (2 : Int32) ≤ (I1 24 ((I0 0 41) - (1 : Int32)).toNatClampNeg) then
      K 151 [(0, .ref 0), (1, .int ((I0 0 41) - (1 : Int32))), (2, .int (I0 23 ((I0 0 41) - (1 : Int32)).toNatClampNeg)), (3, .int r1)] [] (I1, J1, mj_R2)
    else
      (True ∧ ∃ (r2 : Int32) (I2 : Nat → Nat → Int32) (J2 : Nat → Nat → Int64), cal 28 [.ref 0, .int (43 : Int32)] (I1, J1, mj_R2) (.int r2, (I2, J2, mj_R2)) ∧ ((if r2 = 0 then
        (True ∧ ∃ (r3 : Int32) (I3 : Nat → Nat → Int32) (J3 : Nat → Nat → Int64), cal 28 [.ref 0, .int (45 : Int32)] (I2, J2, mj_R2) (.int r3, (I3, J3, mj_R2)) ∧ ((if r3 = 0 then
          (True ∧ ∃ (r4 : Int32) (I4 : Nat → Nat → Int32) (J4 : Nat → Nat → Int64), cal 28 [.ref 0, .int (42 : Int32)] (I3, J3, mj_R2) (.int r4, (I4, J4, mj_R2)) ∧ ((if r4 = 0 then
            (True ∧ ∃ (r5 : Int32) (I5 : Nat → Nat → Int32) (J5 : Nat → Nat → Int64), cal 28 [.ref 0, .int (47 : Int32)] (I4, J4, mj_R2) (.int r5, (I5, J5, mj_R2)) ∧ ((if r5 = 0 then
              K 151 [(0, .ref 0), (1, .int ((I0 0 41) - (1 : Int32))), (2, .int (I0 23 ((I0 0 41) - (1 : Int32)).toNatClampNeg)), (3, .int r1)] [] (I5, J5, mj_R2)
            else
              K 65 [(0, .ref 0)] [] (I5, J5, mj_R2))))
          else
            K 65 [(0, .ref 0)] [] (I4, J4, mj_R2))))
        else
          K 65 [(0, .ref 0)] [] (I3, J3, mj_R2))))
      else
        K 65 [(0, .ref 0)] [] (I2, J2, mj_R2)))))))))))) :
    mj_if (Nat.ble (mj_sz [.ref 0]) mt_41.2.2) (mj_sg mj_S2 mt_41 cal Q K 100 0 (mj_a0 0 [.ref 0]) [] (I0, J0, mj_R2)) := h
set_option maxRecDepth 100000 in
set_option maxHeartbeats 8000000 in
theorem s41_65 {cal : Nat → List Value → mj_H → mj_R → Prop} {Q : mj_R → Prop} {K : Nat → mj_K} {I0 : Nat → Nat → Int32} {J0 : Nat → Nat → Int64}
    (h : (True ∧ ∃ (r1 : Int32) (I1 : Nat → Nat → Int32) (J1 : Nat → Nat → Int64), cal 28 [.ref 0, .int (43 : Int32)] (I0, J0, mj_R2) (.int r1, (I1, J1, mj_R2)) ∧ ((if r1 = 0 then
      (True ∧ ∃ (r2 : Int32) (I2 : Nat → Nat → Int32) (J2 : Nat → Nat → Int64), cal 28 [.ref 0, .int (45 : Int32)] (I1, J1, mj_R2) (.int r2, (I2, J2, mj_R2)) ∧ ((if r2 = 0 then
        (True ∧ ∃ (I3 : Nat → Nat → Int32) (J3 : Nat → Nat → Int64), cal 42 [.ref 0, .int (6 : Int32)] (I2, J2, mj_R2) (.null, (I3, J3, mj_R2)) ∧ (K 93 [(0, .ref 0)] [] (I3, J3, mj_R2)))
      else
        (True ∧ ∃ (I4 : Nat → Nat → Int32) (J4 : Nat → Nat → Int64), cal 42 [.ref 0, .int (5 : Int32)] (I2, J2, mj_R2) (.null, (I4, J4, mj_R2)) ∧ (K 93 [(0, .ref 0)] [] (I4, J4, mj_R2))))))
    else
      (True ∧ ∃ (I5 : Nat → Nat → Int32) (J5 : Nat → Nat → Int64), cal 42 [.ref 0, .int (5 : Int32)] (I1, J1, mj_R2) (.null, (I5, J5, mj_R2)) ∧ (K 93 [(0, .ref 0)] [] (I5, J5, mj_R2))))))) :
    mj_go mj_S2 mt_41 cal Q K 65 [(0, .ref 0)] [] (I0, J0, mj_R2) := h
set_option maxRecDepth 100000 in
set_option maxHeartbeats 8000000 in
theorem s41_93 {cal : Nat → List Value → mj_H → mj_R → Prop} {Q : mj_R → Prop} {K : Nat → mj_K} {I0 : Nat → Nat → Int32} {J0 : Nat → Nat → Int64}
    (h : (True ∧ ∃ (r1 : Int32) (I1 : Nat → Nat → Int32) (J1 : Nat → Nat → Int64), cal 28 [.ref 0, .int (43 : Int32)] (I0, J0, mj_R2) (.int r1, (I1, J1, mj_R2)) ∧ ((if r1 = 0 then
      (True ∧ ∃ (r2 : Int32) (I2 : Nat → Nat → Int32) (J2 : Nat → Nat → Int64), cal 28 [.ref 0, .int (45 : Int32)] (I1, J1, mj_R2) (.int r2, (I2, J2, mj_R2)) ∧ ((if r2 = 0 then
        (True ∧ ∃ (r3 : Int32) (I3 : Nat → Nat → Int32) (J3 : Nat → Nat → Int64), cal 28 [.ref 0, .int (42 : Int32)] (I2, J2, mj_R2) (.int r3, (I3, J3, mj_R2)) ∧ ((if r3 = 0 then
          (True ∧ ∃ (I4 : Nat → Nat → Int32) (J4 : Nat → Nat → Int64), cal 37 [.ref 0, .int (8 : Int32)] (I3, J3, mj_R2) (.null, (I4, J4, mj_R2)) ∧ (K 140 [(0, .ref 0)] [] (I4, J4, mj_R2)))
        else
          (True ∧ ∃ (I5 : Nat → Nat → Int32) (J5 : Nat → Nat → Int64), cal 37 [.ref 0, .int (7 : Int32)] (I3, J3, mj_R2) (.null, (I5, J5, mj_R2)) ∧ (K 140 [(0, .ref 0)] [] (I5, J5, mj_R2))))))
      else
        (True ∧ ∃ (I6 : Nat → Nat → Int32) (J6 : Nat → Nat → Int64), cal 37 [.ref 0, .int (6 : Int32)] (I2, J2, mj_R2) (.null, (I6, J6, mj_R2)) ∧ (K 140 [(0, .ref 0)] [] (I6, J6, mj_R2))))))
    else
      (True ∧ ∃ (I7 : Nat → Nat → Int32) (J7 : Nat → Nat → Int64), cal 37 [.ref 0, .int (5 : Int32)] (I1, J1, mj_R2) (.null, (I7, J7, mj_R2)) ∧ (K 140 [(0, .ref 0)] [] (I7, J7, mj_R2))))))) :
    mj_go mj_S2 mt_41 cal Q K 93 [(0, .ref 0)] [] (I0, J0, mj_R2) := h
set_option maxRecDepth 100000 in
set_option maxHeartbeats 8000000 in
theorem s41_140 {cal : Nat → List Value → mj_H → mj_R → Prop} {Q : mj_R → Prop} {K : Nat → mj_K} {I0 : Nat → Nat → Int32} {J0 : Nat → Nat → Int64}
    (h : (True ∧ ∃ (I1 : Nat → Nat → Int32) (J1 : Nat → Nat → Int64), cal 13 [.ref 0] (I0, J0, mj_R2) (.null, (I1, J1, mj_R2)) ∧ ((((0 : Int32) = 0 ∨ (0 : Int32) = 1) ∧ ((((1 : Int32) = 0 ∨ (1 : Int32) = 1) ∧ Q (.int (1 : Int32), ((mj_up I1 0 45 (0 : Int32)), J1, mj_R2)))))))) :
    mj_go mj_S2 mt_41 cal Q K 140 [(0, .ref 0)] [] (I0, J0, mj_R2) := h
set_option maxRecDepth 100000 in
set_option maxHeartbeats 8000000 in
theorem s41_151 {cal : Nat → List Value → mj_H → mj_R → Prop} {Q : mj_R → Prop} {K : Nat → mj_K} {I0 : Nat → Nat → Int32} {J0 : Nat → Nat → Int64} (x1 : Int32) (x2 : Int32) (x3 : Int32)
    (h : (if x3 = 0 then
      K 248 [(0, .ref 0), (1, .int x1), (2, .int x2), (3, .int x3)] [] (I0, J0, mj_R2)
    else
      (vp_in x1 20 ∧ ((if (I0 24 x1.toNatClampNeg) = 0 then
        (True ∧ ∃ (r1 : Int32) (I1 : Nat → Nat → Int32) (J1 : Nat → Nat → Int64), cal 28 [.ref 0, .int (60 : Int32)] (I0, J0, mj_R2) (.int r1, (I1, J1, mj_R2)) ∧ ((if r1 = 0 then
          (True ∧ ∃ (r2 : Int32) (I2 : Nat → Nat → Int32) (J2 : Nat → Nat → Int64), cal 28 [.ref 0, .int (62 : Int32)] (I1, J1, mj_R2) (.int r2, (I2, J2, mj_R2)) ∧ ((if r2 = 0 then
            (True ∧ ∃ (r3 : Int32) (I3 : Nat → Nat → Int32) (J3 : Nat → Nat → Int64), cal 28 [.ref 0, .int (61 : Int32)] (I2, J2, mj_R2) (.int r3, (I3, J3, mj_R2)) ∧ ((if r3 = 0 then
              K 248 [(0, .ref 0), (1, .int x1), (2, .int x2), (3, .int x3)] [] (I3, J3, mj_R2)
            else
              K 191 [(0, .ref 0), (1, .int x1)] [] (I3, J3, mj_R2))))
          else
            K 191 [(0, .ref 0), (1, .int x1)] [] (I2, J2, mj_R2))))
        else
          K 191 [(0, .ref 0), (1, .int x1)] [] (I1, J1, mj_R2))))
      else
        K 248 [(0, .ref 0), (1, .int x1), (2, .int x2), (3, .int x3)] [] (I0, J0, mj_R2)))))) :
    mj_go mj_S2 mt_41 cal Q K 151 [(0, .ref 0), (1, .int x1), (2, .int x2), (3, .int x3)] [] (I0, J0, mj_R2) := h
set_option maxRecDepth 100000 in
set_option maxHeartbeats 8000000 in
theorem s41_191 {cal : Nat → List Value → mj_H → mj_R → Prop} {Q : mj_R → Prop} {K : Nat → mj_K} {I0 : Nat → Nat → Int32} {J0 : Nat → Nat → Int64} (x1 : Int32)
    (h : (True ∧ ∃ (I1 : Nat → Nat → Int32) (J1 : Nat → Nat → Int64), cal 42 [.ref 0, .int (5 : Int32)] (I0, J0, mj_R2) (.null, (I1, J1, mj_R2)) ∧ ((True ∧ ∃ (r2 : Int32) (I2 : Nat → Nat → Int32) (J2 : Nat → Nat → Int64), cal 28 [.ref 0, .int (60 : Int32)] (I1, J1, mj_R2) (.int r2, (I2, J2, mj_R2)) ∧ ((if r2 = 0 then
      (True ∧ ∃ (r3 : Int32) (I3 : Nat → Nat → Int32) (J3 : Nat → Nat → Int64), cal 28 [.ref 0, .int (62 : Int32)] (I2, J2, mj_R2) (.int r3, (I3, J3, mj_R2)) ∧ ((if r3 = 0 then
        (True ∧ ∃ (I4 : Nat → Nat → Int32) (J4 : Nat → Nat → Int64), cal 37 [.ref 0, .int (13 : Int32)] (I3, J3, mj_R2) (.null, (I4, J4, mj_R2)) ∧ (K 230 [(0, .ref 0), (1, .int x1)] [] (I4, J4, mj_R2)))
      else
        (True ∧ ∃ (I5 : Nat → Nat → Int32) (J5 : Nat → Nat → Int64), cal 37 [.ref 0, .int (12 : Int32)] (I3, J3, mj_R2) (.null, (I5, J5, mj_R2)) ∧ (K 230 [(0, .ref 0), (1, .int x1)] [] (I5, J5, mj_R2))))))
    else
      (True ∧ ∃ (I6 : Nat → Nat → Int32) (J6 : Nat → Nat → Int64), cal 37 [.ref 0, .int (11 : Int32)] (I2, J2, mj_R2) (.null, (I6, J6, mj_R2)) ∧ (K 230 [(0, .ref 0), (1, .int x1)] [] (I6, J6, mj_R2))))))))) :
    mj_go mj_S2 mt_41 cal Q K 191 [(0, .ref 0), (1, .int x1)] [] (I0, J0, mj_R2) := h
set_option maxRecDepth 100000 in
set_option maxHeartbeats 8000000 in
theorem s41_230 {cal : Nat → List Value → mj_H → mj_R → Prop} {Q : mj_R → Prop} {K : Nat → mj_K} {I0 : Nat → Nat → Int32} {J0 : Nat → Nat → Int64} (x1 : Int32)
    (h : (vp_in x1 20 ∧ ((True ∧ ∃ (I1 : Nat → Nat → Int32) (J1 : Nat → Nat → Int64), cal 13 [.ref 0] ((mj_up I0 24 x1.toNatClampNeg (1 : Int32)), J0, mj_R2) (.null, (I1, J1, mj_R2)) ∧ ((((0 : Int32) = 0 ∨ (0 : Int32) = 1) ∧ ((((1 : Int32) = 0 ∨ (1 : Int32) = 1) ∧ Q (.int (1 : Int32), ((mj_up I1 0 45 (0 : Int32)), J1, mj_R2)))))))))) :
    mj_go mj_S2 mt_41 cal Q K 230 [(0, .ref 0), (1, .int x1)] [] (I0, J0, mj_R2) := h
set_option maxRecDepth 100000 in
set_option maxHeartbeats 8000000 in
theorem s41_248 {cal : Nat → List Value → mj_H → mj_R → Prop} {Q : mj_R → Prop} {K : Nat → mj_K} {I0 : Nat → Nat → Int32} {J0 : Nat → Nat → Int64} (x1 : Int32) (x2 : Int32) (x3 : Int32)
    (h : (if x3 = 0 then
      K 363 [(0, .ref 0), (1, .int x1), (2, .int x2), (3, .int x3)] [] (I0, J0, mj_R2)
    else
      (True ∧ ∃ (r1 : Int32) (I1 : Nat → Nat → Int32) (J1 : Nat → Nat → Int64), cal 18 [.ref 0, .long (6385252 : Int64)] (I0, J0, mj_R2) (.int r1, (I1, J1, mj_R2)) ∧ ((if r1 = 0 then
        (True ∧ ∃ (r2 : Int32) (I2 : Nat → Nat → Int32) (J2 : Nat → Nat → Int64), cal 18 [.ref 0, .long (28530 : Int64)] (I1, J1, mj_R2) (.int r2, (I2, J2, mj_R2)) ∧ ((if r2 = 0 then
          K 363 [(0, .ref 0), (1, .int x1), (2, .int x2), (3, .int x3)] [] (I2, J2, mj_R2)
        else
          K 272 [(0, .ref 0), (1, .int x1)] [] (I2, J2, mj_R2))))
      else
        K 272 [(0, .ref 0), (1, .int x1)] [] (I1, J1, mj_R2)))))) :
    mj_go mj_S2 mt_41 cal Q K 248 [(0, .ref 0), (1, .int x1), (2, .int x2), (3, .int x3)] [] (I0, J0, mj_R2) := h
set_option maxRecDepth 100000 in
set_option maxHeartbeats 8000000 in
theorem s41_272 {cal : Nat → List Value → mj_H → mj_R → Prop} {Q : mj_R → Prop} {K : Nat → mj_K} {I0 : Nat → Nat → Int32} {J0 : Nat → Nat → Int64} (x1 : Int32)
    (h : (vp_in x1 20 ∧ ((if (I0 24 x1.toNatClampNeg) = 0 then
      (True ∧ ∃ (I1 : Nat → Nat → Int32) (J1 : Nat → Nat → Int64), cal 16 [.ref 0, .int (1 : Int32), .int (I0 0 4)] (I0, J0, mj_R2) (.null, (I1, J1, mj_R2)) ∧ (K 290 [(0, .ref 0), (1, .int x1)] [] (I1, J1, mj_R2)))
    else
      K 290 [(0, .ref 0), (1, .int x1)] [] (I0, J0, mj_R2))))) :
    mj_go mj_S2 mt_41 cal Q K 272 [(0, .ref 0), (1, .int x1)] [] (I0, J0, mj_R2) := h
set_option maxRecDepth 100000 in
set_option maxHeartbeats 8000000 in
theorem s41_290 {cal : Nat → List Value → mj_H → mj_R → Prop} {Q : mj_R → Prop} {K : Nat → mj_K} {I0 : Nat → Nat → Int32} {J0 : Nat → Nat → Int64} (x1 : Int32)
    (h : (if (I0 0 8) ≤ 0 then
      (True ∧ ∃ (r1 : Int32) (I1 : Nat → Nat → Int32) (J1 : Nat → Nat → Int64), cal 18 [.ref 0, .long (6385252 : Int64)] (I0, J0, mj_R2) (.int r1, (I1, J1, mj_R2)) ∧ ((if r1 = 0 then
        (True ∧ ∃ (I2 : Nat → Nat → Int32) (J2 : Nat → Nat → Int64), cal 42 [.ref 0, .int (1 : Int32)] (I1, J1, mj_R2) (.null, (I2, J2, mj_R2)) ∧ (K 322 [(0, .ref 0), (1, .int x1), (4, .int r1)] [] (I2, J2, mj_R2)))
      else
        (True ∧ ∃ (I3 : Nat → Nat → Int32) (J3 : Nat → Nat → Int64), cal 42 [.ref 0, .int (2 : Int32)] (I1, J1, mj_R2) (.null, (I3, J3, mj_R2)) ∧ (K 322 [(0, .ref 0), (1, .int x1), (4, .int r1)] [] (I3, J3, mj_R2))))))
    else
      (((0 : Int32) = 0 ∨ (0 : Int32) = 1) ∧ Q (.int (0 : Int32), (I0, J0, mj_R2))))) :
    mj_go mj_S2 mt_41 cal Q K 290 [(0, .ref 0), (1, .int x1)] [] (I0, J0, mj_R2) := h
set_option maxRecDepth 100000 in
set_option maxHeartbeats 8000000 in
theorem s41_322 {cal : Nat → List Value → mj_H → mj_R → Prop} {Q : mj_R → Prop} {K : Nat → mj_K} {I0 : Nat → Nat → Int32} {J0 : Nat → Nat → Int64} (x1 : Int32) (x4 : Int32)
    (h : (if x4 = 0 then
      (True ∧ ∃ (I1 : Nat → Nat → Int32) (J1 : Nat → Nat → Int64), cal 37 [.ref 0, .int (15 : Int32)] (I0, J0, mj_R2) (.null, (I1, J1, mj_R2)) ∧ (K 338 [(0, .ref 0), (1, .int x1)] [] (I1, J1, mj_R2)))
    else
      (True ∧ ∃ (I2 : Nat → Nat → Int32) (J2 : Nat → Nat → Int64), cal 37 [.ref 0, .int (14 : Int32)] (I0, J0, mj_R2) (.null, (I2, J2, mj_R2)) ∧ (K 338 [(0, .ref 0), (1, .int x1)] [] (I2, J2, mj_R2))))) :
    mj_go mj_S2 mt_41 cal Q K 322 [(0, .ref 0), (1, .int x1), (4, .int x4)] [] (I0, J0, mj_R2) := h
set_option maxRecDepth 100000 in
set_option maxHeartbeats 8000000 in
theorem s41_338 {cal : Nat → List Value → mj_H → mj_R → Prop} {Q : mj_R → Prop} {K : Nat → mj_K} {I0 : Nat → Nat → Int32} {J0 : Nat → Nat → Int64} (x1 : Int32)
    (h : (vp_in x1 20 ∧ ((vp_in x1 20 ∧ ((True ∧ ∃ (I1 : Nat → Nat → Int32) (J1 : Nat → Nat → Int64), cal 13 [.ref 0] ((mj_up (mj_up I0 24 x1.toNatClampNeg (0 : Int32)) 25 x1.toNatClampNeg (vp_nar .boolean (1 : Int32))), J0, mj_R2) (.null, (I1, J1, mj_R2)) ∧ ((((0 : Int32) = 0 ∨ (0 : Int32) = 1) ∧ ((((1 : Int32) = 0 ∨ (1 : Int32) = 1) ∧ Q (.int (1 : Int32), ((mj_up I1 0 45 (0 : Int32)), J1, mj_R2)))))))))))) :
    mj_go mj_S2 mt_41 cal Q K 338 [(0, .ref 0), (1, .int x1)] [] (I0, J0, mj_R2) := h
set_option maxRecDepth 100000 in
set_option maxHeartbeats 8000000 in
theorem s41_363 {cal : Nat → List Value → mj_H → mj_R → Prop} {Q : mj_R → Prop} {K : Nat → mj_K} {I0 : Nat → Nat → Int32} {J0 : Nat → Nat → Int64} (x1 : Int32) (x2 : Int32) (x3 : Int32)
    (h : (if x3 = 0 then
      K 385 [(0, .ref 0), (1, .int x1), (2, .int x2)] [] (I0, J0, mj_R2)
    else
      (vp_in x1 20 ∧ ((if (I0 24 x1.toNatClampNeg) = 0 then
        (True ∧ ∃ (I1 : Nat → Nat → Int32) (J1 : Nat → Nat → Int64), cal 16 [.ref 0, .int (1 : Int32), .int (I0 0 4)] (I0, J0, mj_R2) (.null, (I1, J1, mj_R2)) ∧ (K 385 [(0, .ref 0), (1, .int x1), (2, .int x2)] [] (I1, J1, mj_R2)))
      else
        K 385 [(0, .ref 0), (1, .int x1), (2, .int x2)] [] (I0, J0, mj_R2)))))) :
    mj_go mj_S2 mt_41 cal Q K 363 [(0, .ref 0), (1, .int x1), (2, .int x2), (3, .int x3)] [] (I0, J0, mj_R2) := h
set_option maxRecDepth 100000 in
set_option maxHeartbeats 8000000 in
theorem s41_385 {cal : Nat → List Value → mj_H → mj_R → Prop} {Q : mj_R → Prop} {K : Nat → mj_K} {I0 : Nat → Nat → Int32} {J0 : Nat → Nat → Int64} (x1 : Int32) (x2 : Int32)
    (h : (if x2 = (1 : Int32) then
      (if (I0 0 8) = 0 then
        (True ∧ ∃ (I1 : Nat → Nat → Int32) (J1 : Nat → Nat → Int64), cal 42 [.ref 0, .int (1 : Int32)] (I0, J0, mj_R2) (.null, (I1, J1, mj_R2)) ∧ ((((0 : Int32) = 0 ∨ (0 : Int32) = 1) ∧ Q (.int (0 : Int32), (I1, J1, mj_R2)))))
      else
        (((0 : Int32) = 0 ∨ (0 : Int32) = 1) ∧ Q (.int (0 : Int32), (I0, J0, mj_R2))))
    else
      (if x2 = (3 : Int32) then
        (True ∧ ∃ (r2 : Int32) (I2 : Nat → Nat → Int32) (J2 : Nat → Nat → Int64), cal 28 [.ref 0, .int (44 : Int32)] (I0, J0, mj_R2) (.int r2, (I2, J2, mj_R2)) ∧ ((if r2 = 0 then
          (True ∧ ∃ (I3 : Nat → Nat → Int32) (J3 : Nat → Nat → Int64), cal 16 [.ref 0, .int (1 : Int32), .int (I2 0 4)] (I2, J2, mj_R2) (.null, (I3, J3, mj_R2)) ∧ (K 427 [(0, .ref 0), (1, .int x1)] [] (I3, J3, mj_R2)))
        else
          K 427 [(0, .ref 0), (1, .int x1)] [] (I2, J2, mj_R2))))
      else
        (if x2 = (5 : Int32) then
          (True ∧ ∃ (r4 : Int32) (I4 : Nat → Nat → Int32) (J4 : Nat → Nat → Int64), cal 28 [.ref 0, .int (93 : Int32)] (I0, J0, mj_R2) (.int r4, (I4, J4, mj_R2)) ∧ ((if r4 = 0 then
            (True ∧ ∃ (I5 : Nat → Nat → Int32) (J5 : Nat → Nat → Int64), cal 16 [.ref 0, .int (1 : Int32), .int (I4 0 4)] (I4, J4, mj_R2) (.null, (I5, J5, mj_R2)) ∧ (K 487 [(0, .ref 0), (1, .int x1), (2, .int x2)] [] (I5, J5, mj_R2)))
          else
            K 487 [(0, .ref 0), (1, .int x1), (2, .int x2)] [] (I4, J4, mj_R2))))
        else
          (True ∧ ∃ (r6 : Int32) (I6 : Nat → Nat → Int32) (J6 : Nat → Nat → Int64), cal 28 [.ref 0, .int (41 : Int32)] (I0, J0, mj_R2) (.int r6, (I6, J6, mj_R2)) ∧ ((if r6 = 0 then
            (True ∧ ∃ (I7 : Nat → Nat → Int32) (J7 : Nat → Nat → Int64), cal 16 [.ref 0, .int (1 : Int32), .int (I6 0 4)] (I6, J6, mj_R2) (.null, (I7, J7, mj_R2)) ∧ (K 487 [(0, .ref 0), (1, .int x1), (2, .int x2)] [] (I7, J7, mj_R2)))
          else
            K 487 [(0, .ref 0), (1, .int x1), (2, .int x2)] [] (I6, J6, mj_R2)))))))) :
    mj_go mj_S2 mt_41 cal Q K 385 [(0, .ref 0), (1, .int x1), (2, .int x2)] [] (I0, J0, mj_R2) := h
set_option maxRecDepth 100000 in
set_option maxHeartbeats 8000000 in
theorem s41_427 {cal : Nat → List Value → mj_H → mj_R → Prop} {Q : mj_R → Prop} {K : Nat → mj_K} {I0 : Nat → Nat → Int32} {J0 : Nat → Nat → Int64} (x1 : Int32)
    (h : (if (I0 0 8) ≤ 0 then
      (True ∧ ∃ (I1 : Nat → Nat → Int32) (J1 : Nat → Nat → Int64), cal 42 [.ref 0, .int (1 : Int32)] (I0, J0, mj_R2) (.null, (I1, J1, mj_R2)) ∧ ((vp_in x1 20 ∧ ((True ∧ ∃ (I2 : Nat → Nat → Int32) (J2 : Nat → Nat → Int64), cal 13 [.ref 0] ((mj_up I1 23 x1.toNatClampNeg (4 : Int32)), J1, mj_R2) (.null, (I2, J2, mj_R2)) ∧ ((((0 : Int32) = 0 ∨ (0 : Int32) = 1) ∧ ((((1 : Int32) = 0 ∨ (1 : Int32) = 1) ∧ Q (.int (1 : Int32), ((mj_up I2 0 45 (0 : Int32)), J2, mj_R2)))))))))))
    else
      (((0 : Int32) = 0 ∨ (0 : Int32) = 1) ∧ Q (.int (0 : Int32), (I0, J0, mj_R2))))) :
    mj_go mj_S2 mt_41 cal Q K 427 [(0, .ref 0), (1, .int x1)] [] (I0, J0, mj_R2) := h
set_option maxRecDepth 100000 in
set_option maxHeartbeats 8000000 in
theorem s41_487 {cal : Nat → List Value → mj_H → mj_R → Prop} {Q : mj_R → Prop} {K : Nat → mj_K} {I0 : Nat → Nat → Int32} {J0 : Nat → Nat → Int64} (x1 : Int32) (x2 : Int32)
    (h : (if (I0 0 8) ≤ 0 then
      (True ∧ ∃ (I1 : Nat → Nat → Int32) (J1 : Nat → Nat → Int64), cal 42 [.ref 0, .int (1 : Int32)] (I0, J0, mj_R2) (.null, (I1, J1, mj_R2)) ∧ ((if x2 = (4 : Int32) then
        (vp_in x1 20 ∧ ((True ∧ ∃ (I2 : Nat → Nat → Int32) (J2 : Nat → Nat → Int64), cal 39 [.ref 0, .int (I1 26 x1.toNatClampNeg), .int (0 : Int32)] ((mj_up (mj_up I1 0 41 ((I1 0 41) - (1 : Int32))) 0 42 ((I1 0 42) - (1 : Int32))), J1, mj_R2) (.null, (I2, J2, mj_R2)) ∧ (K 537 [(0, .ref 0), (2, .int x2)] [] (I2, J2, mj_R2)))))
      else
        K 537 [(0, .ref 0), (2, .int x2)] [] ((mj_up (mj_up I1 0 41 ((I1 0 41) - (1 : Int32))) 0 42 ((I1 0 42) - (1 : Int32))), J1, mj_R2))))
    else
      (((0 : Int32) = 0 ∨ (0 : Int32) = 1) ∧ Q (.int (0 : Int32), (I0, J0, mj_R2))))) :
    mj_go mj_S2 mt_41 cal Q K 487 [(0, .ref 0), (1, .int x1), (2, .int x2)] [] (I0, J0, mj_R2) := h
set_option maxRecDepth 100000 in
set_option maxHeartbeats 8000000 in
theorem s41_537 {cal : Nat → List Value → mj_H → mj_R → Prop} {Q : mj_R → Prop} {K : Nat → mj_K} {I0 : Nat → Nat → Int32} {J0 : Nat → Nat → Int64} (x2 : Int32)
    (h : (if x2 = (5 : Int32) then
      (vp_in ((I0 0 41) - (1 : Int32)) 20 ∧ ((True ∧ ∃ (I1 : Nat → Nat → Int32) (J1 : Nat → Nat → Int64), cal 13 [.ref 0] ((mj_up I0 24 ((I0 0 41) - (1 : Int32)).toNatClampNeg (2 : Int32)), J0, mj_R2) (.null, (I1, J1, mj_R2)) ∧ ((((1 : Int32) = 0 ∨ (1 : Int32) = 1) ∧ Q (.int (1 : Int32), (I1, J1, mj_R2)))))))
    else
      (True ∧ ∃ (I2 : Nat → Nat → Int32) (J2 : Nat → Nat → Int64), cal 13 [.ref 0] (I0, J0, mj_R2) (.null, (I2, J2, mj_R2)) ∧ ((((1 : Int32) = 0 ∨ (1 : Int32) = 1) ∧ Q (.int (1 : Int32), (I2, J2, mj_R2))))))) :
    mj_go mj_S2 mt_41 cal Q K 537 [(0, .ref 0), (2, .int x2)] [] (I0, J0, mj_R2) := h
-- UnbeatenHouseModel.joins(I)V (('c', 0), 'I')
set_option maxRecDepth 100000 in
set_option maxHeartbeats 8000000 in
theorem e42 {cal : Nat → List Value → mj_H → mj_R → Prop} {Q : mj_R → Prop} {K : Nat → mj_K} {I0 : Nat → Nat → Int32} {J0 : Nat → Nat → Int64} (x1 : Int32)
    (h : K 0 [(0, .ref 0), (1, .int x1)] [] (I0, J0, mj_R2)) :
    mj_if (Nat.ble (mj_sz [.ref 0, .int x1]) mt_42.2.2) (mj_sg mj_S2 mt_42 cal Q K 100 0 (mj_a0 0 [.ref 0, .int x1]) [] (I0, J0, mj_R2)) := h
set_option maxRecDepth 100000 in
set_option maxHeartbeats 8000000 in
theorem s42_0 {cal : Nat → List Value → mj_H → mj_R → Prop} {Q : mj_R → Prop} {K : Nat → mj_K} {I0 : Nat → Nat → Int32} {J0 : Nat → Nat → Int64} (x1 : Int32)
    (h : (vp_in ((I0 0 41) - (1 : Int32)) 20 ∧ ((if (I0 0 44) ≤ (I0 27 ((I0 0 41) - (1 : Int32)).toNatClampNeg) then
      Q (.null, (I0, J0, mj_R2))
    else
      (vp_in ((I0 0 44) - (1 : Int32)) 500 ∧ ((True ∧ ∃ (r1 : Int32) (I1 : Nat → Nat → Int32) (J1 : Nat → Nat → Int64), cal 43 [.int (I0 28 ((I0 0 44) - (1 : Int32)).toNatClampNeg)] (I0, J0, mj_R2) (.int r1, (I1, J1, mj_R2)) ∧ ((if r1 < x1 then
        Q (.null, (I1, J1, mj_R2))
      else
        (vp_in ((I1 0 44) - (1 : Int32)) 500 ∧ ((True ∧ ∃ (I2 : Nat → Nat → Int32) (J2 : Nat → Nat → Int64), cal 39 [.ref 0, .int (I1 28 ((I1 0 44) - (1 : Int32)).toNatClampNeg), .int (0 : Int32)] ((mj_up I1 0 44 ((I1 0 44) - (1 : Int32))), J1, mj_R2) (.null, (I2, J2, mj_R2)) ∧ (K 0 [(0, .ref 0), (1, .int x1)] [] (I2, J2, mj_R2)))))))))))))) :
    mj_go mj_S2 mt_42 cal Q K 0 [(0, .ref 0), (1, .int x1)] [] (I0, J0, mj_R2) := h
-- UnbeatenHouseModel.rank(I)I ('I',)
set_option maxRecDepth 100000 in
set_option maxHeartbeats 8000000 in
theorem e43 {cal : Nat → List Value → mj_H → mj_R → Prop} {Q : mj_R → Prop} {K : Nat → mj_K} {I0 : Nat → Nat → Int32} {J0 : Nat → Nat → Int64} (x0 : Int32)
    (h : (if x0 = (15 : Int32) then
      Q (.int (1 : Int32), (I0, J0, mj_R2))
    else
      (if x0 = (14 : Int32) then
        Q (.int (2 : Int32), (I0, J0, mj_R2))
      else
        (if x0 = (16 : Int32) then
          Q (.int (3 : Int32), (I0, J0, mj_R2))
        else
          (if x0 = (11 : Int32) then
            Q (.int (4 : Int32), (I0, J0, mj_R2))
          else
            (if x0 = (12 : Int32) then
              Q (.int (4 : Int32), (I0, J0, mj_R2))
            else
              (if x0 = (13 : Int32) then
                Q (.int (4 : Int32), (I0, J0, mj_R2))
              else
                (if x0 = (5 : Int32) then
                  Q (.int (5 : Int32), (I0, J0, mj_R2))
                else
                  (if x0 = (6 : Int32) then
                    Q (.int (5 : Int32), (I0, J0, mj_R2))
                  else
                    Q (.int (6 : Int32), (I0, J0, mj_R2))))))))))) :
    mj_if (Nat.ble (mj_sz [.int x0]) mt_43.2.2) (mj_sg mj_S2 mt_43 cal Q K 100 0 (mj_a0 0 [.int x0]) [] (I0, J0, mj_R2)) := h
-- UnbeatenHouseModel.must(I)V (('c', 0), 'I')
set_option maxRecDepth 100000 in
set_option maxHeartbeats 8000000 in
theorem e44 {cal : Nat → List Value → mj_H → mj_R → Prop} {Q : mj_R → Prop} {K : Nat → mj_K} {I0 : Nat → Nat → Int32} {J0 : Nat → Nat → Int64} (x1 : Int32)
    (h : (True ∧ ∃ (r1 : Int32) (I1 : Nat → Nat → Int32) (J1 : Nat → Nat → Int64), cal 28 [.ref 0, .int x1] (I0, J0, mj_R2) (.int r1, (I1, J1, mj_R2)) ∧ ((if r1 = 0 then
      (True ∧ ∃ (I2 : Nat → Nat → Int32) (J2 : Nat → Nat → Int64), cal 16 [.ref 0, .int (1 : Int32), .int (I1 0 4)] (I1, J1, mj_R2) (.null, (I2, J2, mj_R2)) ∧ (K 17 [(0, .ref 0)] [] (I2, J2, mj_R2)))
    else
      K 17 [(0, .ref 0)] [] (I1, J1, mj_R2))))) :
    mj_if (Nat.ble (mj_sz [.ref 0, .int x1]) mt_44.2.2) (mj_sg mj_S2 mt_44 cal Q K 100 0 (mj_a0 0 [.ref 0, .int x1]) [] (I0, J0, mj_R2)) := h
set_option maxRecDepth 100000 in
set_option maxHeartbeats 8000000 in
theorem s44_17 {cal : Nat → List Value → mj_H → mj_R → Prop} {Q : mj_R → Prop} {K : Nat → mj_K} {I0 : Nat → Nat → Int32} {J0 : Nat → Nat → Int64}
    (h : (if (I0 0 8) = 0 then
      (True ∧ ∃ (I1 : Nat → Nat → Int32) (J1 : Nat → Nat → Int64), cal 13 [.ref 0] (I0, J0, mj_R2) (.null, (I1, J1, mj_R2)) ∧ (Q (.null, (I1, J1, mj_R2))))
    else
      Q (.null, (I0, J0, mj_R2)))) :
    mj_go mj_S2 mt_44 cal Q K 17 [(0, .ref 0)] [] (I0, J0, mj_R2) := h
-- UnbeatenHouseModel.fault(I)I (('c', 0), 'I')
set_option maxRecDepth 100000 in
set_option maxHeartbeats 8000000 in
theorem e45 {cal : Nat → List Value → mj_H → mj_R → Prop} {Q : mj_R → Prop} {K : Nat → mj_K} {I0 : Nat → Nat → Int32} {J0 : Nat → Nat → Int64} (x1 : Int32)
    (h : (if x1 = 0 then
      Q (.int (I0 0 10), (I0, J0, mj_R2))
    else
      (if x1 = (1 : Int32) then
        Q (.int (I0 0 11), (I0, J0, mj_R2))
      else
        Q (.int (-1 : Int32), (I0, J0, mj_R2))))) :
    mj_if (Nat.ble (mj_sz [.ref 0, .int x1]) mt_45.2.2) (mj_sg mj_S2 mt_45 cal Q K 100 0 (mj_a0 0 [.ref 0, .int x1]) [] (I0, J0, mj_R2)) := h
-- UnbeatenHouseModel.has(I)I (('c', 0), 'I')
set_option maxRecDepth 100000 in
set_option maxHeartbeats 8000000 in
theorem e46 {cal : Nat → List Value → mj_H → mj_R → Prop} {Q : mj_R → Prop} {K : Nat → mj_K} {I0 : Nat → Nat → Int32} {J0 : Nat → Nat → Int64} (x1 : Int32)
    (h : (if x1 = (0 : Int32) then
      (vp_in (I0 0 12) 2 ∧ (Q (.int (I0 2 (I0 0 12).toNatClampNeg), (I0, J0, mj_R2))))
    else (if x1 = (1 : Int32) then
      (vp_in (I0 0 12) 2 ∧ (Q (.int (I0 3 (I0 0 12).toNatClampNeg), (I0, J0, mj_R2))))
    else (if x1 = (2 : Int32) then
      (vp_in (I0 0 12) 2 ∧ (Q (.int (I0 4 (I0 0 12).toNatClampNeg), (I0, J0, mj_R2))))
    else (if x1 = (3 : Int32) then
      (vp_in (I0 0 12) 2 ∧ (Q (.int (I0 5 (I0 0 12).toNatClampNeg), (I0, J0, mj_R2))))
    else (if x1 = (4 : Int32) then
      (vp_in (I0 0 12) 2 ∧ (Q (.int (I0 6 (I0 0 12).toNatClampNeg), (I0, J0, mj_R2))))
    else (if x1 = (5 : Int32) then
      (vp_in (I0 0 12) 2 ∧ (Q (.int (I0 7 (I0 0 12).toNatClampNeg), (I0, J0, mj_R2))))
    else (if x1 = (6 : Int32) then
      Q (.int (I0 0 68), (I0, J0, mj_R2))
    else (if x1 = (7 : Int32) then
      Q (.int (I0 0 63), (I0, J0, mj_R2))
    else Q (.int (-1 : Int32), (I0, J0, mj_R2))))))))))) :
    mj_if (Nat.ble (mj_sz [.ref 0, .int x1]) mt_46.2.2) (mj_sg mj_S2 mt_46 cal Q K 100 0 (mj_a0 0 [.ref 0, .int x1]) [] (I0, J0, mj_R2)) := h
-- UnbeatenHouseModel.letter(III)I (('c', 0), 'I', 'I', 'I')
set_option maxRecDepth 100000 in
set_option maxHeartbeats 8000000 in
theorem e47 {cal : Nat → List Value → mj_H → mj_R → Prop} {Q : mj_R → Prop} {K : Nat → mj_K} {I0 : Nat → Nat → Int32} {J0 : Nat → Nat → Int64} (x1 : Int32) (x2 : Int32) (x3 : Int32)
    (h : (if x1 = 0 then
      (True ∧ ∃ (r1 : Int32) (I1 : Nat → Nat → Int32) (J1 : Nat → Nat → Int64), cal 48 [.ref 0, .int x2] (I0, J0, mj_R2) (.int r1, (I1, J1, mj_R2)) ∧ ((if r1 = 0 then
        K 30 [(0, .ref 0), (1, .int x1), (2, .int x2), (3, .int x3)] [] (I1, J1, mj_R2)
      else
        (vp_in (((4 : Int32) * (I1 0 12)) + x2) 8 ∧ ((True ∧ ∃ (r2 : Int32) (I2 : Nat → Nat → Int32) (J2 : Nat → Nat → Int64), cal 50 [.long (J1 8 (((4 : Int32) * (I1 0 12)) + x2).toNatClampNeg), .int x3] (I1, J1, mj_R2) (.int r2, (I2, J2, mj_R2)) ∧ (Q (.int r2, (I2, J2, mj_R2)))))))))
    else
      K 30 [(0, .ref 0), (1, .int x1), (2, .int x2), (3, .int x3)] [] (I0, J0, mj_R2))) :
    mj_if (Nat.ble (mj_sz [.ref 0, .int x1, .int x2, .int x3]) mt_47.2.2) (mj_sg mj_S2 mt_47 cal Q K 100 0 (mj_a0 0 [.ref 0, .int x1, .int x2, .int x3]) [] (I0, J0, mj_R2)) := h
set_option maxRecDepth 100000 in
set_option maxHeartbeats 8000000 in
theorem s47_30 {cal : Nat → List Value → mj_H → mj_R → Prop} {Q : mj_R → Prop} {K : Nat → mj_K} {I0 : Nat → Nat → Int32} {J0 : Nat → Nat → Int64} (x1 : Int32) (x2 : Int32) (x3 : Int32)
    (h : (if x1 = (1 : Int32) then
      (True ∧ ∃ (r1 : Int32) (I1 : Nat → Nat → Int32) (J1 : Nat → Nat → Int64), cal 51 [.ref 0, .int x2] (I0, J0, mj_R2) (.int r1, (I1, J1, mj_R2)) ∧ ((if r1 = 0 then
        K 62 [(0, .ref 0), (1, .int x1), (2, .int x2), (3, .int x3)] [] (I1, J1, mj_R2)
      else
        (vp_in (((40 : Int32) * (I1 0 12)) + x2) 80 ∧ ((True ∧ ∃ (r2 : Int32) (I2 : Nat → Nat → Int32) (J2 : Nat → Nat → Int64), cal 50 [.long (J1 10 (((40 : Int32) * (I1 0 12)) + x2).toNatClampNeg), .int x3] (I1, J1, mj_R2) (.int r2, (I2, J2, mj_R2)) ∧ (Q (.int r2, (I2, J2, mj_R2)))))))))
    else
      K 62 [(0, .ref 0), (1, .int x1), (2, .int x2), (3, .int x3)] [] (I0, J0, mj_R2))) :
    mj_go mj_S2 mt_47 cal Q K 30 [(0, .ref 0), (1, .int x1), (2, .int x2), (3, .int x3)] [] (I0, J0, mj_R2) := h
set_option maxRecDepth 100000 in
set_option maxHeartbeats 8000000 in
theorem s47_62 {cal : Nat → List Value → mj_H → mj_R → Prop} {Q : mj_R → Prop} {K : Nat → mj_K} {I0 : Nat → Nat → Int32} {J0 : Nat → Nat → Int64} (x1 : Int32) (x2 : Int32) (x3 : Int32)
    (h : (if x1 = (2 : Int32) then
      (vp_in (I0 0 12) 2 ∧ ((True ∧ ∃ (r1 : Int32) (I1 : Nat → Nat → Int32) (J1 : Nat → Nat → Int64), cal 49 [.int x2, .int (0 : Int32), .int ((I0 4 (I0 0 12).toNatClampNeg) - (1 : Int32))] (I0, J0, mj_R2) (.int r1, (I1, J1, mj_R2)) ∧ ((if r1 = 0 then
        K 105 [(0, .ref 0), (1, .int x1), (2, .int x2), (3, .int x3)] [] (I1, J1, mj_R2)
      else
        (vp_in (((10 : Int32) * (I1 0 12)) + x2) 20 ∧ ((True ∧ ∃ (r2 : Int32) (I2 : Nat → Nat → Int32) (J2 : Nat → Nat → Int64), cal 50 [.long (J1 13 (((10 : Int32) * (I1 0 12)) + x2).toNatClampNeg), .int x3] (I1, J1, mj_R2) (.int r2, (I2, J2, mj_R2)) ∧ (Q (.int r2, (I2, J2, mj_R2)))))))))))
    else
      K 105 [(0, .ref 0), (1, .int x1), (2, .int x2), (3, .int x3)] [] (I0, J0, mj_R2))) :
    mj_go mj_S2 mt_47 cal Q K 62 [(0, .ref 0), (1, .int x1), (2, .int x2), (3, .int x3)] [] (I0, J0, mj_R2) := h
set_option maxRecDepth 100000 in
set_option maxHeartbeats 8000000 in
theorem s47_105 {cal : Nat → List Value → mj_H → mj_R → Prop} {Q : mj_R → Prop} {K : Nat → mj_K} {I0 : Nat → Nat → Int32} {J0 : Nat → Nat → Int64} (x1 : Int32) (x2 : Int32) (x3 : Int32)
    (h : (if x1 = (3 : Int32) then
      (vp_in (I0 0 12) 2 ∧ ((True ∧ ∃ (r1 : Int32) (I1 : Nat → Nat → Int32) (J1 : Nat → Nat → Int64), cal 49 [.int x2, .int (0 : Int32), .int ((I0 6 (I0 0 12).toNatClampNeg) - (1 : Int32))] (I0, J0, mj_R2) (.int r1, (I1, J1, mj_R2)) ∧ ((if r1 = 0 then
        Q (.int (-1 : Int32), (I1, J1, mj_R2))
      else
        (vp_in (((12 : Int32) * (I1 0 12)) + x2) 24 ∧ ((True ∧ ∃ (r2 : Int32) (I2 : Nat → Nat → Int32) (J2 : Nat → Nat → Int64), cal 50 [.long (J1 17 (((12 : Int32) * (I1 0 12)) + x2).toNatClampNeg), .int x3] (I1, J1, mj_R2) (.int r2, (I2, J2, mj_R2)) ∧ (Q (.int r2, (I2, J2, mj_R2)))))))))))
    else
      Q (.int (-1 : Int32), (I0, J0, mj_R2)))) :
    mj_go mj_S2 mt_47 cal Q K 105 [(0, .ref 0), (1, .int x1), (2, .int x2), (3, .int x3)] [] (I0, J0, mj_R2) := h
-- UnbeatenHouseModel.isWish(I)Z (('c', 0), 'I')
set_option maxRecDepth 100000 in
set_option maxHeartbeats 8000000 in
theorem e48 {cal : Nat → List Value → mj_H → mj_R → Prop} {Q : mj_R → Prop} {K : Nat → mj_K} {I0 : Nat → Nat → Int32} {J0 : Nat → Nat → Int64} (x1 : Int32)
    (h : (vp_in (I0 0 12) 2 ∧ ((True ∧ ∃ (r1 : Int32) (I1 : Nat → Nat → Int32) (J1 : Nat → Nat → Int64), cal 49 [.int x1, .int (0 : Int32), .int ((I0 2 (I0 0 12).toNatClampNeg) - (1 : Int32))] (I0, J0, mj_R2) (.int r1, (I1, J1, mj_R2)) ∧ (((r1 = 0 ∨ r1 = 1) ∧ Q (.int r1, (I1, J1, mj_R2)))))))) :
    mj_if (Nat.ble (mj_sz [.ref 0, .int x1]) mt_48.2.2) (mj_sg mj_S2 mt_48 cal Q K 100 0 (mj_a0 0 [.ref 0, .int x1]) [] (I0, J0, mj_R2)) := h
-- UnbeatenHouseModel.is(III)Z ('I', 'I', 'I')
set_option maxRecDepth 100000 in
set_option maxHeartbeats 8000000 in
theorem e49 {cal : Nat → List Value → mj_H → mj_R → Prop} {Q : mj_R → Prop} {K : Nat → mj_K} {I0 : Nat → Nat → Int32} {J0 : Nat → Nat → Int64} (x0 : Int32) (x1 : Int32) (x2 : Int32)
    (h : (if x0 < x1 then
      (((0 : Int32) = 0 ∨ (0 : Int32) = 1) ∧ Q (.int (0 : Int32), (I0, J0, mj_R2)))
    else
      (if x2 < x0 then
        (((0 : Int32) = 0 ∨ (0 : Int32) = 1) ∧ Q (.int (0 : Int32), (I0, J0, mj_R2)))
      else
        (((1 : Int32) = 0 ∨ (1 : Int32) = 1) ∧ Q (.int (1 : Int32), (I0, J0, mj_R2)))))) :
    mj_if (Nat.ble (mj_sz [.int x0, .int x1, .int x2]) mt_49.2.2) (mj_sg mj_S2 mt_49 cal Q K 100 0 (mj_a0 0 [.int x0, .int x1, .int x2]) [] (I0, J0, mj_R2)) := h
-- UnbeatenHouseModel.letterOf(JI)I ('J', 'I')
set_option maxRecDepth 100000 in
set_option maxHeartbeats 8000000 in
theorem e50 {cal : Nat → List Value → mj_H → mj_R → Prop} {Q : mj_R → Prop} {K : Nat → mj_K} {I0 : Nat → Nat → Int32} {J0 : Nat → Nat → Int64} (x0 : Int64) (x2 : Int32)
    (h : K 5 [(0, .long x0), (2, .int x2), (3, .int (0 : Int32)), (4, .long x0)] [] (I0, J0, mj_R2)) :
    mj_if (Nat.ble (mj_sz [.long x0, .int x2]) mt_50.2.2) (mj_sg mj_S2 mt_50 cal Q K 100 0 (mj_a0 0 [.long x0, .int x2]) [] (I0, J0, mj_R2)) := h
set_option maxRecDepth 100000 in
set_option maxHeartbeats 8000000 in
theorem s50_5 {cal : Nat → List Value → mj_H → mj_R → Prop} {Q : mj_R → Prop} {K : Nat → mj_K} {I0 : Nat → Nat → Int32} {J0 : Nat → Nat → Int64} (x0 : Int64) (x2 : Int32) (x3 : Int32) (x4 : Int64)
    (h : (if (lg_cmp x4 (0 : Int64)) = 0 then
      (if x2 < 0 then
        Q (.int (-1 : Int32), (I0, J0, mj_R2))
      else
        (if x2 < x3 then
          Q (.int ((x0.toUInt64 >>> (((8 : Int32) * ((x3 - (1 : Int32)) - x2)).toInt64.toUInt64 &&& Int64.toUInt64 63)).toInt64 &&& (255 : Int64)).toInt32, (I0, J0, mj_R2))
        else
          Q (.int (-1 : Int32), (I0, J0, mj_R2))))
    else
      K 5 [(0, .long x0), (2, .int x2), (3, .int (x3 + (1 : Int32))), (4, .long (x4.toUInt64 >>> ((8 : Int32).toInt64.toUInt64 &&& Int64.toUInt64 63)).toInt64)] [] (I0, J0, mj_R2))) :
    mj_go mj_S2 mt_50 cal Q K 5 [(0, .long x0), (2, .int x2), (3, .int x3), (4, .long x4)] [] (I0, J0, mj_R2) := h
-- UnbeatenHouseModel.isRow(I)Z (('c', 0), 'I')
set_option maxRecDepth 100000 in
set_option maxHeartbeats 8000000 in
theorem e51 {cal : Nat → List Value → mj_H → mj_R → Prop} {Q : mj_R → Prop} {K : Nat → mj_K} {I0 : Nat → Nat → Int32} {J0 : Nat → Nat → Int64} (x1 : Int32)
    (h : (vp_in (I0 0 12) 2 ∧ ((True ∧ ∃ (r1 : Int32) (I1 : Nat → Nat → Int32) (J1 : Nat → Nat → Int64), cal 49 [.int x1, .int (0 : Int32), .int ((I0 3 (I0 0 12).toNatClampNeg) - (1 : Int32))] (I0, J0, mj_R2) (.int r1, (I1, J1, mj_R2)) ∧ (((r1 = 0 ∨ r1 = 1) ∧ Q (.int r1, (I1, J1, mj_R2)))))))) :
    mj_if (Nat.ble (mj_sz [.ref 0, .int x1]) mt_51.2.2) (mj_sg mj_S2 mt_51 cal Q K 100 0 (mj_a0 0 [.ref 0, .int x1]) [] (I0, J0, mj_R2)) := h
-- UnbeatenHouseModel.price(IIZ)I (('c', 0), 'I', 'I', 'I')
set_option maxRecDepth 100000 in
set_option maxHeartbeats 8000000 in
theorem e52 {cal : Nat → List Value → mj_H → mj_R → Prop} {Q : mj_R → Prop} {K : Nat → mj_K} {I0 : Nat → Nat → Int32} {J0 : Nat → Nat → Int64} (x1 : Int32) (x2 : Int32) (x3 : Int32)
    (h : (True ∧ ∃ (r1 : Int32) (I1 : Nat → Nat → Int32) (J1 : Nat → Nat → Int64), cal 51 [.ref 0, .int x1] (I0, J0, mj_R2) (.int r1, (I1, J1, mj_R2)) ∧ ((if r1 = 0 then
      Q (.int (-1 : Int32), (I1, J1, mj_R2))
    else
      (True ∧ ∃ (r2 : Int32) (I2 : Nat → Nat → Int32) (J2 : Nat → Nat → Int64), cal 48 [.ref 0, .int x2] (I1, J1, mj_R2) (.int r2, (I2, J2, mj_R2)) ∧ ((if r2 = 0 then
        Q (.int (-1 : Int32), (I2, J2, mj_R2))
      else
        (True ∧ ∃ (r3 : Int32) (I3 : Nat → Nat → Int32) (J3 : Nat → Nat → Int64), cal 53 [.ref 0, .int x1, .int x2] (I2, J2, mj_R2) (.int r3, (I3, J3, mj_R2)) ∧ ((vp_in r3 320 ∧ ((if (I3 11 r3.toNatClampNeg) = (-1 : Int32) then
          Q (.int (-1 : Int32), (I3, J3, mj_R2))
        else
          (if x3 = 0 then
            (True ∧ ∃ (r4 : Int32) (I4 : Nat → Nat → Int32) (J4 : Nat → Nat → Int64), cal 53 [.ref 0, .int x1, .int x2] (I3, J3, mj_R2) (.int r4, (I4, J4, mj_R2)) ∧ ((vp_in r4 320 ∧ (Q (.int (I4 11 r4.toNatClampNeg), (I4, J4, mj_R2))))))
          else
            (True ∧ ∃ (r5 : Int32) (I5 : Nat → Nat → Int32) (J5 : Nat → Nat → Int64), cal 53 [.ref 0, .int x1, .int x2] (I3, J3, mj_R2) (.int r5, (I5, J5, mj_R2)) ∧ ((vp_in r5 320 ∧ (Q (.int (I5 12 r5.toNatClampNeg), (I5, J5, mj_R2))))))))))))))))))) :
    mj_if (Nat.ble (mj_sz [.ref 0, .int x1, .int x2, .int x3]) mt_52.2.2) (mj_sg mj_S2 mt_52 cal Q K 100 0 (mj_a0 0 [.ref 0, .int x1, .int x2, .int x3]) [] (I0, J0, mj_R2)) := h
-- UnbeatenHouseModel.rowAt(II)I (('c', 0), 'I', 'I')
set_option maxRecDepth 100000 in
set_option maxHeartbeats 8000000 in
theorem e53 {cal : Nat → List Value → mj_H → mj_R → Prop} {Q : mj_R → Prop} {K : Nat → mj_K} {I0 : Nat → Nat → Int32} {J0 : Nat → Nat → Int64} (x1 : Int32) (x2 : Int32)
    (h : Q (.int (((4 : Int32) * (((40 : Int32) * (I0 0 12)) + x1)) + x2), (I0, J0, mj_R2))) :
    mj_if (Nat.ble (mj_sz [.ref 0, .int x1, .int x2]) mt_53.2.2) (mj_sg mj_S2 mt_53 cal Q K 100 0 (mj_a0 0 [.ref 0, .int x1, .int x2]) [] (I0, J0, mj_R2)) := h
-- UnbeatenHouseModel.beats(II)I (('c', 0), 'I', 'I')
set_option maxRecDepth 100000 in
set_option maxHeartbeats 8000000 in
theorem e54 {cal : Nat → List Value → mj_H → mj_R → Prop} {Q : mj_R → Prop} {K : Nat → mj_K} {I0 : Nat → Nat → Int32} {J0 : Nat → Nat → Int64} (x1 : Int32) (x2 : Int32)
    (h : (True ∧ ∃ (r1 : Int32) (I1 : Nat → Nat → Int32) (J1 : Nat → Nat → Int64), cal 51 [.ref 0, .int x1] (I0, J0, mj_R2) (.int r1, (I1, J1, mj_R2)) ∧ ((if r1 = 0 then
      Q (.int (-1 : Int32), (I1, J1, mj_R2))
    else
      (True ∧ ∃ (r2 : Int32) (I2 : Nat → Nat → Int32) (J2 : Nat → Nat → Int64), cal 51 [.ref 0, .int x2] (I1, J1, mj_R2) (.int r2, (I2, J2, mj_R2)) ∧ ((if r2 = 0 then
        Q (.int (-1 : Int32), (I2, J2, mj_R2))
      else
        (True ∧ ∃ (r3 : Int32) (I3 : Nat → Nat → Int32) (J3 : Nat → Nat → Int64), cal 55 [.ref 0, .int x1, .int x2] (I2, J2, mj_R2) (.int r3, (I3, J3, mj_R2)) ∧ ((if r3 = 0 then
          Q (.int (0 : Int32), (I3, J3, mj_R2))
        else
          Q (.int (1 : Int32), (I3, J3, mj_R2)))))))))))) :
    mj_if (Nat.ble (mj_sz [.ref 0, .int x1, .int x2]) mt_54.2.2) (mj_sg mj_S2 mt_54 cal Q K 100 0 (mj_a0 0 [.ref 0, .int x1, .int x2]) [] (I0, J0, mj_R2)) := h
-- UnbeatenHouseModel.doesBeat(II)Z (('c', 0), 'I', 'I')
set_option maxRecDepth 100000 in
set_option maxHeartbeats 8000000 in
theorem e55 {cal : Nat → List Value → mj_H → mj_R → Prop} {Q : mj_R → Prop} {K : Nat → mj_K} {I0 : Nat → Nat → Int32} {J0 : Nat → Nat → Int64} (x1 : Int32) (x2 : Int32)
    (h : (True ∧ ∃ (r1 : Int32) (I1 : Nat → Nat → Int32) (J1 : Nat → Nat → Int64), cal 56 [.ref 0, .int x1] (I0, J0, mj_R2) (.int r1, (I1, J1, mj_R2)) ∧ ((if r1 = 0 then
      (True ∧ ∃ (r2 : Int32) (I2 : Nat → Nat → Int32) (J2 : Nat → Nat → Int64), cal 56 [.ref 0, .int x2] (I1, J1, mj_R2) (.int r2, (I2, J2, mj_R2)) ∧ ((if r2 = 0 then
        K 23 [(0, .ref 0), (1, .int x1), (2, .int x2), (3, .int (0 : Int32)), (4, .int (0 : Int32))] [] (I2, J2, mj_R2)
      else
        (((0 : Int32) = 0 ∨ (0 : Int32) = 1) ∧ Q (.int (0 : Int32), (I2, J2, mj_R2))))))
    else
      (((0 : Int32) = 0 ∨ (0 : Int32) = 1) ∧ Q (.int (0 : Int32), (I1, J1, mj_R2))))))) :
    mj_if (Nat.ble (mj_sz [.ref 0, .int x1, .int x2]) mt_55.2.2) (mj_sg mj_S2 mt_55 cal Q K 100 0 (mj_a0 0 [.ref 0, .int x1, .int x2]) [] (I0, J0, mj_R2)) := h
set_option maxRecDepth 100000 in
set_option maxHeartbeats 8000000 in
theorem s55_23 {cal : Nat → List Value → mj_H → mj_R → Prop} {Q : mj_R → Prop} {K : Nat → mj_K} {I0 : Nat → Nat → Int32} {J0 : Nat → Nat → Int64} (x1 : Int32) (x2 : Int32) (x3 : Int32) (x4 : Int32)
    (h : (vp_in (I0 0 12) 2 ∧ ((if (I0 2 (I0 0 12).toNatClampNeg) ≤ x4 then
      ((x3 = 0 ∨ x3 = 1) ∧ Q (.int x3, (I0, J0, mj_R2)))
    else
      (True ∧ ∃ (r1 : Int32) (I1 : Nat → Nat → Int32) (J1 : Nat → Nat → Int64), cal 57 [.ref 0, .int x1, .int x4] (I0, J0, mj_R2) (.int r1, (I1, J1, mj_R2)) ∧ ((True ∧ ∃ (r2 : Int32) (I2 : Nat → Nat → Int32) (J2 : Nat → Nat → Int64), cal 57 [.ref 0, .int x2, .int x4] (I1, J1, mj_R2) (.int r2, (I2, J2, mj_R2)) ∧ ((if r1 ≤ r2 then
        (if x3 = 0 then
          (True ∧ ∃ (r3 : Int32) (I3 : Nat → Nat → Int32) (J3 : Nat → Nat → Int64), cal 57 [.ref 0, .int x1, .int x4] (I2, J2, mj_R2) (.int r3, (I3, J3, mj_R2)) ∧ ((True ∧ ∃ (r4 : Int32) (I4 : Nat → Nat → Int32) (J4 : Nat → Nat → Int64), cal 57 [.ref 0, .int x2, .int x4] (I3, J3, mj_R2) (.int r4, (I4, J4, mj_R2)) ∧ ((if r4 ≤ r3 then
            K 23 [(0, .ref 0), (1, .int x1), (2, .int x2), (3, .int (0 : Int32)), (4, .int (x4 + (1 : Int32)))] [] (I4, J4, mj_R2)
          else
            K 23 [(0, .ref 0), (1, .int x1), (2, .int x2), (3, .int (1 : Int32)), (4, .int (x4 + (1 : Int32)))] [] (I4, J4, mj_R2))))))
        else
          K 23 [(0, .ref 0), (1, .int x1), (2, .int x2), (3, .int (1 : Int32)), (4, .int (x4 + (1 : Int32)))] [] (I2, J2, mj_R2))
      else
        (((0 : Int32) = 0 ∨ (0 : Int32) = 1) ∧ Q (.int (0 : Int32), (I2, J2, mj_R2)))))))))))) :
    mj_go mj_S2 mt_55 cal Q K 23 [(0, .ref 0), (1, .int x1), (2, .int x2), (3, .int x3), (4, .int x4)] [] (I0, J0, mj_R2) := h
-- UnbeatenHouseModel.isAside(I)Z (('c', 0), 'I')
set_option maxRecDepth 100000 in
set_option maxHeartbeats 8000000 in
theorem e56 {cal : Nat → List Value → mj_H → mj_R → Prop} {Q : mj_R → Prop} {K : Nat → mj_K} {I0 : Nat → Nat → Int32} {J0 : Nat → Nat → Int64} (x1 : Int32)
    (h : K 2 [(0, .ref 0), (1, .int x1), (2, .int (0 : Int32))] [] (I0, J0, mj_R2)) :
    mj_if (Nat.ble (mj_sz [.ref 0, .int x1]) mt_56.2.2) (mj_sg mj_S2 mt_56 cal Q K 100 0 (mj_a0 0 [.ref 0, .int x1]) [] (I0, J0, mj_R2)) := h
set_option maxRecDepth 100000 in
set_option maxHeartbeats 8000000 in
theorem s56_2 {cal : Nat → List Value → mj_H → mj_R → Prop} {Q : mj_R → Prop} {K : Nat → mj_K} {I0 : Nat → Nat → Int32} {J0 : Nat → Nat → Int64} (x1 : Int32) (x2 : Int32)
    (h : (vp_in (I0 0 12) 2 ∧ ((if (I0 2 (I0 0 12).toNatClampNeg) ≤ x2 then
      (((0 : Int32) = 0 ∨ (0 : Int32) = 1) ∧ Q (.int (0 : Int32), (I0, J0, mj_R2)))
    else
      (True ∧ ∃ (r1 : Int32) (I1 : Nat → Nat → Int32) (J1 : Nat → Nat → Int64), cal 53 [.ref 0, .int x1, .int x2] (I0, J0, mj_R2) (.int r1, (I1, J1, mj_R2)) ∧ ((vp_in r1 320 ∧ ((if (I1 11 r1.toNatClampNeg) = (-1 : Int32) then
        (((1 : Int32) = 0 ∨ (1 : Int32) = 1) ∧ Q (.int (1 : Int32), (I1, J1, mj_R2)))
      else
        K 2 [(0, .ref 0), (1, .int x1), (2, .int (x2 + (1 : Int32)))] [] (I1, J1, mj_R2)))))))))) :
    mj_go mj_S2 mt_56 cal Q K 2 [(0, .ref 0), (1, .int x1), (2, .int x2)] [] (I0, J0, mj_R2) := h
-- UnbeatenHouseModel.rowLoss(II)I (('c', 0), 'I', 'I')
set_option maxRecDepth 100000 in
set_option maxHeartbeats 8000000 in
theorem e57 {cal : Nat → List Value → mj_H → mj_R → Prop} {Q : mj_R → Prop} {K : Nat → mj_K} {I0 : Nat → Nat → Int32} {J0 : Nat → Nat → Int64} (x1 : Int32) (x2 : Int32)
    (h : (True ∧ ∃ (r1 : Int32) (I1 : Nat → Nat → Int32) (J1 : Nat → Nat → Int64), cal 53 [.ref 0, .int x1, .int x2] (I0, J0, mj_R2) (.int r1, (I1, J1, mj_R2)) ∧ ((vp_in r1 320 ∧ ((True ∧ ∃ (r2 : Int32) (I2 : Nat → Nat → Int32) (J2 : Nat → Nat → Int64), cal 58 [.ref 0, .int x2, .int (I1 11 r1.toNatClampNeg)] (I1, J1, mj_R2) (.int r2, (I2, J2, mj_R2)) ∧ (Q (.int r2, (I2, J2, mj_R2))))))))) :
    mj_if (Nat.ble (mj_sz [.ref 0, .int x1, .int x2]) mt_57.2.2) (mj_sg mj_S2 mt_57 cal Q K 100 0 (mj_a0 0 [.ref 0, .int x1, .int x2]) [] (I0, J0, mj_R2)) := h
-- UnbeatenHouseModel.lossOf(II)I (('c', 0), 'I', 'I')
set_option maxRecDepth 100000 in
set_option maxHeartbeats 8000000 in
theorem e58 {cal : Nat → List Value → mj_H → mj_R → Prop} {Q : mj_R → Prop} {K : Nat → mj_K} {I0 : Nat → Nat → Int32} {J0 : Nat → Nat → Int64} (x1 : Int32) (x2 : Int32)
    (h : (vp_in (((4 : Int32) * (I0 0 12)) + x1) 8 ∧ ((if (I0 9 (((4 : Int32) * (I0 0 12)) + x1).toNatClampNeg) = 0 then
      Q (.int x2, (I0, J0, mj_R2))
    else
      Q (.int (-x2), (I0, J0, mj_R2)))))) :
    mj_if (Nat.ble (mj_sz [.ref 0, .int x1, .int x2]) mt_58.2.2) (mj_sg mj_S2 mt_58 cal Q K 100 0 (mj_a0 0 [.ref 0, .int x1, .int x2]) [] (I0, J0, mj_R2)) := h
-- UnbeatenHouseModel.rows()J (('c', 0),)
set_option maxRecDepth 100000 in
set_option maxHeartbeats 8000000 in
theorem e59 {cal : Nat → List Value → mj_H → mj_R → Prop} {Q : mj_R → Prop} {K : Nat → mj_K} {I0 : Nat → Nat → Int32} {J0 : Nat → Nat → Int64}
    (h : (True ∧ ∃ (r1 : Int64) (I1 : Nat → Nat → Int32) (J1 : Nat → Nat → Int64), cal 60 [.ref 0] (I0, J0, mj_R2) (.long r1, (I1, J1, mj_R2)) ∧ (Q (.long r1, (I1, J1, mj_R2))))) :
    mj_if (Nat.ble (mj_sz [.ref 0]) mt_59.2.2) (mj_sg mj_S2 mt_59 cal Q K 100 0 (mj_a0 0 [.ref 0]) [] (I0, J0, mj_R2)) := h
-- UnbeatenHouseModel.rowFront()J (('c', 0),)
set_option maxRecDepth 100000 in
set_option maxHeartbeats 8000000 in
theorem e60 {cal : Nat → List Value → mj_H → mj_R → Prop} {Q : mj_R → Prop} {K : Nat → mj_K} {I0 : Nat → Nat → Int32} {J0 : Nat → Nat → Int64}
    (h : K 4 [(0, .ref 0), (1, .long (0 : Int64)), (3, .int (0 : Int32))] [] (I0, J0, mj_R2)) :
    mj_if (Nat.ble (mj_sz [.ref 0]) mt_60.2.2) (mj_sg mj_S2 mt_60 cal Q K 100 0 (mj_a0 0 [.ref 0]) [] (I0, J0, mj_R2)) := h
set_option maxRecDepth 100000 in
set_option maxHeartbeats 8000000 in
theorem s60_4 {cal : Nat → List Value → mj_H → mj_R → Prop} {Q : mj_R → Prop} {K : Nat → mj_K} {I0 : Nat → Nat → Int32} {J0 : Nat → Nat → Int64} (x1 : Int64) (x3 : Int32)
    (h : (vp_in (I0 0 12) 2 ∧ ((if (I0 3 (I0 0 12).toNatClampNeg) ≤ x3 then
      Q (.long x1, (I0, J0, mj_R2))
    else
      (True ∧ ∃ (r1 : Int32) (I1 : Nat → Nat → Int32) (J1 : Nat → Nat → Int64), cal 56 [.ref 0, .int x3] (I0, J0, mj_R2) (.int r1, (I1, J1, mj_R2)) ∧ ((if r1 = 0 then
        K 32 [(0, .ref 0), (1, .long x1), (3, .int x3), (4, .int (1 : Int32))] [] (I1, J1, mj_R2)
      else
        K 32 [(0, .ref 0), (1, .long x1), (3, .int x3), (4, .int (0 : Int32))] [] (I1, J1, mj_R2)))))))) :
    mj_go mj_S2 mt_60 cal Q K 4 [(0, .ref 0), (1, .long x1), (3, .int x3)] [] (I0, J0, mj_R2) := h
set_option maxRecDepth 100000 in
set_option maxHeartbeats 8000000 in
theorem s60_32 {cal : Nat → List Value → mj_H → mj_R → Prop} {Q : mj_R → Prop} {K : Nat → mj_K} {I0 : Nat → Nat → Int32} {J0 : Nat → Nat → Int64} (x1 : Int64) (x3 : Int32) (x4 : Int32)
    (h : K 35 [(0, .ref 0), (1, .long x1), (3, .int x3), (4, .int x4), (5, .int (0 : Int32))] [] (I0, J0, mj_R2)) :
    mj_go mj_S2 mt_60 cal Q K 32 [(0, .ref 0), (1, .long x1), (3, .int x3), (4, .int x4)] [] (I0, J0, mj_R2) := h
set_option maxRecDepth 100000 in
set_option maxHeartbeats 8000000 in
theorem s60_35 {cal : Nat → List Value → mj_H → mj_R → Prop} {Q : mj_R → Prop} {K : Nat → mj_K} {I0 : Nat → Nat → Int32} {J0 : Nat → Nat → Int64} (x1 : Int64) (x3 : Int32) (x4 : Int32) (x5 : Int32)
    (h : (vp_in (I0 0 12) 2 ∧ ((if (I0 3 (I0 0 12).toNatClampNeg) ≤ x5 then
      K 77 [(0, .ref 0), (1, .long x1), (3, .int x3), (4, .int x4)] [] (I0, J0, mj_R2)
    else
      (if x4 = 0 then
        K 77 [(0, .ref 0), (1, .long x1), (3, .int x3), (4, .int x4)] [] (I0, J0, mj_R2)
      else
        (True ∧ ∃ (r1 : Int32) (I1 : Nat → Nat → Int32) (J1 : Nat → Nat → Int64), cal 55 [.ref 0, .int x5, .int x3] (I0, J0, mj_R2) (.int r1, (I1, J1, mj_R2)) ∧ ((if r1 = 0 then
          K 35 [(0, .ref 0), (1, .long x1), (3, .int x3), (4, .int (1 : Int32)), (5, .int (x5 + (1 : Int32)))] [] (I1, J1, mj_R2)
        else
          K 35 [(0, .ref 0), (1, .long x1), (3, .int x3), (4, .int (0 : Int32)), (5, .int (x5 + (1 : Int32)))] [] (I1, J1, mj_R2))))))))) :
    mj_go mj_S2 mt_60 cal Q K 35 [(0, .ref 0), (1, .long x1), (3, .int x3), (4, .int x4), (5, .int x5)] [] (I0, J0, mj_R2) := h
set_option maxRecDepth 100000 in
set_option maxHeartbeats 8000000 in
theorem s60_77 {cal : Nat → List Value → mj_H → mj_R → Prop} {Q : mj_R → Prop} {K : Nat → mj_K} {I0 : Nat → Nat → Int32} {J0 : Nat → Nat → Int64} (x1 : Int64) (x3 : Int32) (x4 : Int32)
    (h : (if x4 = 0 then
      K 4 [(0, .ref 0), (1, .long (x1 ||| (0 : Int64))), (3, .int (x3 + (1 : Int32)))] [] (I0, J0, mj_R2)
    else
      K 4 [(0, .ref 0), (1, .long (x1 ||| ((1 : Int64) <<< (x3.toInt64 &&& 63)))), (3, .int (x3 + (1 : Int32)))] [] (I0, J0, mj_R2))) :
    mj_go mj_S2 mt_60 cal Q K 77 [(0, .ref 0), (1, .long x1), (3, .int x3), (4, .int x4)] [] (I0, J0, mj_R2) := h
-- UnbeatenHouseModel.leads(I)I (('c', 0), 'I')
set_option maxRecDepth 100000 in
set_option maxHeartbeats 8000000 in
theorem e61 {cal : Nat → List Value → mj_H → mj_R → Prop} {Q : mj_R → Prop} {K : Nat → mj_K} {I0 : Nat → Nat → Int32} {J0 : Nat → Nat → Int64} (x1 : Int32)
    (h : (True ∧ ∃ (r1 : Int32) (I1 : Nat → Nat → Int32) (J1 : Nat → Nat → Int64), cal 51 [.ref 0, .int x1] (I0, J0, mj_R2) (.int r1, (I1, J1, mj_R2)) ∧ ((if r1 = 0 then
      Q (.int (-1 : Int32), (I1, J1, mj_R2))
    else
      (True ∧ ∃ (r2 : Int64) (I2 : Nat → Nat → Int32) (J2 : Nat → Nat → Int64), cal 60 [.ref 0] (I1, J1, mj_R2) (.long r2, (I2, J2, mj_R2)) ∧ (K 18 [(0, .ref 0), (1, .int x1), (2, .long r2), (4, .int (0 : Int32))] [] (I2, J2, mj_R2))))))) :
    mj_if (Nat.ble (mj_sz [.ref 0, .int x1]) mt_61.2.2) (mj_sg mj_S2 mt_61 cal Q K 100 0 (mj_a0 0 [.ref 0, .int x1]) [] (I0, J0, mj_R2)) := h
set_option maxRecDepth 100000 in
set_option maxHeartbeats 8000000 in
theorem s61_18 {cal : Nat → List Value → mj_H → mj_R → Prop} {Q : mj_R → Prop} {K : Nat → mj_K} {I0 : Nat → Nat → Int32} {J0 : Nat → Nat → Int64} (x1 : Int32) (x2 : Int64) (x4 : Int32)
    (h : (vp_in (I0 0 12) 2 ∧ ((if (I0 3 (I0 0 12).toNatClampNeg) ≤ x4 then
      Q (.int (-1 : Int32), (I0, J0, mj_R2))
    else
      (if (lg_cmp ((x2 >>> (x4.toInt64 &&& 63)) &&& (1 : Int64)) (1 : Int64)) = 0 then
        (True ∧ ∃ (r1 : Int32) (I1 : Nat → Nat → Int32) (J1 : Nat → Nat → Int64), cal 55 [.ref 0, .int x4, .int x1] (I0, J0, mj_R2) (.int r1, (I1, J1, mj_R2)) ∧ ((if r1 = 0 then
          K 18 [(0, .ref 0), (1, .int x1), (2, .long x2), (4, .int (x4 + (1 : Int32)))] [] (I1, J1, mj_R2)
        else
          Q (.int x4, (I1, J1, mj_R2)))))
      else
        K 18 [(0, .ref 0), (1, .int x1), (2, .long x2), (4, .int (x4 + (1 : Int32)))] [] (I0, J0, mj_R2)))))) :
    mj_go mj_S2 mt_61 cal Q K 18 [(0, .ref 0), (1, .int x1), (2, .long x2), (4, .int x4)] [] (I0, J0, mj_R2) := h
-- UnbeatenHouseModel.change(III)I (('c', 0), 'I', 'I', 'I')
set_option maxRecDepth 100000 in
set_option maxHeartbeats 8000000 in
theorem e62 {cal : Nat → List Value → mj_H → mj_R → Prop} {Q : mj_R → Prop} {K : Nat → mj_K} {I0 : Nat → Nat → Int32} {J0 : Nat → Nat → Int64} (x1 : Int32) (x2 : Int32) (x3 : Int32)
    (h : (True ∧ ∃ (r1 : Int32) (I1 : Nat → Nat → Int32) (J1 : Nat → Nat → Int64), cal 51 [.ref 0, .int x1] (I0, J0, mj_R2) (.int r1, (I1, J1, mj_R2)) ∧ ((if r1 = 0 then
      Q (.int (-1 : Int32), (I1, J1, mj_R2))
    else
      (True ∧ ∃ (r2 : Int32) (I2 : Nat → Nat → Int32) (J2 : Nat → Nat → Int64), cal 48 [.ref 0, .int x2] (I1, J1, mj_R2) (.int r2, (I2, J2, mj_R2)) ∧ ((if r2 = 0 then
        Q (.int (-1 : Int32), (I2, J2, mj_R2))
      else
        (True ∧ ∃ (r3 : Int32) (I3 : Nat → Nat → Int32) (J3 : Nat → Nat → Int64), cal 49 [.int x3, .int (-1 : Int32), .int (9999 : Int32)] (I2, J2, mj_R2) (.int r3, (I3, J3, mj_R2)) ∧ ((if r3 = 0 then
          Q (.int (-1 : Int32), (I3, J3, mj_R2))
        else
          (True ∧ ∃ (r4 : Int64) (I4 : Nat → Nat → Int32) (J4 : Nat → Nat → Int64), cal 60 [.ref 0] (I3, J3, mj_R2) (.long r4, (I4, J4, mj_R2)) ∧ ((True ∧ ∃ (r5 : Int32) (I5 : Nat → Nat → Int32) (J5 : Nat → Nat → Int64), cal 53 [.ref 0, .int x1, .int x2] (I4, J4, mj_R2) (.int r5, (I5, J5, mj_R2)) ∧ ((if x3 = (-1 : Int32) then
            (vp_in r5 320 ∧ (K 56 [(0, .ref 0), (3, .int x3), (4, .long r4), (6, .int r5)] [] ((mj_up I5 12 r5.toNatClampNeg (0 : Int32)), J5, mj_R2)))
          else
            K 56 [(0, .ref 0), (3, .int x3), (4, .long r4), (6, .int r5)] [] (I5, J5, mj_R2)))))))))))))))) :
    mj_if (Nat.ble (mj_sz [.ref 0, .int x1, .int x2, .int x3]) mt_62.2.2) (mj_sg mj_S2 mt_62 cal Q K 100 0 (mj_a0 0 [.ref 0, .int x1, .int x2, .int x3]) [] (I0, J0, mj_R2)) := h
set_option maxRecDepth 100000 in
set_option maxHeartbeats 8000000 in
theorem s62_56 {cal : Nat → List Value → mj_H → mj_R → Prop} {Q : mj_R → Prop} {K : Nat → mj_K} {I0 : Nat → Nat → Int32} {J0 : Nat → Nat → Int64} (x3 : Int32) (x4 : Int64) (x6 : Int32)
    (h : (vp_in x6 320 ∧ ((True ∧ ∃ (r1 : Int64) (I1 : Nat → Nat → Int32) (J1 : Nat → Nat → Int64), cal 60 [.ref 0] ((mj_up I0 11 x6.toNatClampNeg x3), J0, mj_R2) (.long r1, (I1, J1, mj_R2)) ∧ ((True ∧ ∃ (r2 : Int32) (I2 : Nat → Nat → Int32) (J2 : Nat → Nat → Int64), cal 63 [.long (x4 &&& (r1 ^^^ (-1 : Int64)))] (I1, (mj_up (mj_up J1 0 46 (x4 &&& (r1 ^^^ (-1 : Int64)))) 0 47 (r1 &&& (x4 ^^^ (-1 : Int64)))), mj_R2) (.int r2, (I2, J2, mj_R2)) ∧ ((True ∧ ∃ (r3 : Int32) (I3 : Nat → Nat → Int32) (J3 : Nat → Nat → Int64), cal 63 [.long (J2 0 47)] (I2, J2, mj_R2) (.int r3, (I3, J3, mj_R2)) ∧ (Q (.int (r2 + r3), (I3, J3, mj_R2))))))))))) :
    mj_go mj_S2 mt_62 cal Q K 56 [(0, .ref 0), (3, .int x3), (4, .long x4), (6, .int x6)] [] (I0, J0, mj_R2) := h
-- UnbeatenHouseModel.bitsOf(J)I ('J',)
set_option maxRecDepth 100000 in
set_option maxHeartbeats 8000000 in
theorem e63 {cal : Nat → List Value → mj_H → mj_R → Prop} {Q : mj_R → Prop} {K : Nat → mj_K} {I0 : Nat → Nat → Int32} {J0 : Nat → Nat → Int64} (x0 : Int64)
    (h : K 4 [(2, .int (0 : Int32)), (3, .long x0)] [] (I0, J0, mj_R2)) :
    mj_if (Nat.ble (mj_sz [.long x0]) mt_63.2.2) (mj_sg mj_S2 mt_63 cal Q K 100 0 (mj_a0 0 [.long x0]) [] (I0, J0, mj_R2)) := h
set_option maxRecDepth 100000 in
set_option maxHeartbeats 8000000 in
theorem s63_4 {cal : Nat → List Value → mj_H → mj_R → Prop} {Q : mj_R → Prop} {K : Nat → mj_K} {I0 : Nat → Nat → Int32} {J0 : Nat → Nat → Int64} (x2 : Int32) (x3 : Int64)
    (h : (if (lg_cmp x3 (0 : Int64)) = 0 then
      Q (.int x2, (I0, J0, mj_R2))
    else
      K 4 [(2, .int (x2 + (x3 &&& (1 : Int64)).toInt32)), (3, .long (x3.toUInt64 >>> ((1 : Int32).toInt64.toUInt64 &&& Int64.toUInt64 63)).toInt64)] [] (I0, J0, mj_R2))) :
    mj_go mj_S2 mt_63 cal Q K 4 [(2, .int x2), (3, .long x3)] [] (I0, J0, mj_R2) := h
-- UnbeatenHouseModel.changed(Z)J (('c', 0), 'I')
set_option maxRecDepth 100000 in
set_option maxHeartbeats 8000000 in
theorem e64 {cal : Nat → List Value → mj_H → mj_R → Prop} {Q : mj_R → Prop} {K : Nat → mj_K} {I0 : Nat → Nat → Int32} {J0 : Nat → Nat → Int64} (x1 : Int32)
    (h : (if x1 = 0 then
      Q (.long (J0 0 46), (I0, J0, mj_R2))
    else
      Q (.long (J0 0 47), (I0, J0, mj_R2)))) :
    mj_if (Nat.ble (mj_sz [.ref 0, .int x1]) mt_64.2.2) (mj_sg mj_S2 mt_64 cal Q K 100 0 (mj_a0 0 [.ref 0, .int x1]) [] (I0, J0, mj_R2)) := h
-- UnbeatenHouseModel.maybe(II)I (('c', 0), 'I', 'I')
set_option maxRecDepth 100000 in
set_option maxHeartbeats 8000000 in
theorem e65 {cal : Nat → List Value → mj_H → mj_R → Prop} {Q : mj_R → Prop} {K : Nat → mj_K} {I0 : Nat → Nat → Int32} {J0 : Nat → Nat → Int64} (x1 : Int32) (x2 : Int32)
    (h : (True ∧ ∃ (r1 : Int32) (I1 : Nat → Nat → Int32) (J1 : Nat → Nat → Int64), cal 51 [.ref 0, .int x1] (I0, J0, mj_R2) (.int r1, (I1, J1, mj_R2)) ∧ ((if r1 = 0 then
      Q (.int (-1 : Int32), (I1, J1, mj_R2))
    else
      (True ∧ ∃ (r2 : Int32) (I2 : Nat → Nat → Int32) (J2 : Nat → Nat → Int64), cal 51 [.ref 0, .int x2] (I1, J1, mj_R2) (.int r2, (I2, J2, mj_R2)) ∧ ((if r2 = 0 then
        Q (.int (-1 : Int32), (I2, J2, mj_R2))
      else
        (if x1 = x2 then
          Q (.int (-1 : Int32), (I2, J2, mj_R2))
        else
          (True ∧ ∃ (r3 : Int32) (I3 : Nat → Nat → Int32) (J3 : Nat → Nat → Int64), cal 56 [.ref 0, .int x1] (I2, J2, mj_R2) (.int r3, (I3, J3, mj_R2)) ∧ ((if r3 = 0 then
            (True ∧ ∃ (r4 : Int32) (I4 : Nat → Nat → Int32) (J4 : Nat → Nat → Int64), cal 56 [.ref 0, .int x2] (I3, J3, mj_R2) (.int r4, (I4, J4, mj_R2)) ∧ ((if r4 = 0 then
              (True ∧ ∃ (r5 : Int32) (I5 : Nat → Nat → Int32) (J5 : Nat → Nat → Int64), cal 66 [.ref 0, .int x1, .int x2] (I4, J4, mj_R2) (.int r5, (I5, J5, mj_R2)) ∧ (Q (.int r5, (I5, J5, mj_R2))))
            else
              Q (.int (-1 : Int32), (I4, J4, mj_R2)))))
          else
            Q (.int (-1 : Int32), (I3, J3, mj_R2))))))))))))) :
    mj_if (Nat.ble (mj_sz [.ref 0, .int x1, .int x2]) mt_65.2.2) (mj_sg mj_S2 mt_65 cal Q K 100 0 (mj_a0 0 [.ref 0, .int x1, .int x2]) [] (I0, J0, mj_R2)) := h
-- UnbeatenHouseModel.mayBeat(II)I (('c', 0), 'I', 'I')
set_option maxRecDepth 100000 in
set_option maxHeartbeats 8000000 in
theorem e66 {cal : Nat → List Value → mj_H → mj_R → Prop} {Q : mj_R → Prop} {K : Nat → mj_K} {I0 : Nat → Nat → Int32} {J0 : Nat → Nat → Int64} (x1 : Int32) (x2 : Int32)
    (h : K 14 [(0, .ref 0), (1, .int x1), (2, .int x2), (3, .int (1 : Int32)), (4, .int (0 : Int32)), (5, .int (1 : Int32)), (6, .int (0 : Int32)), (7, .int (0 : Int32))] [] (I0, J0, mj_R2)) :
    mj_if (Nat.ble (mj_sz [.ref 0, .int x1, .int x2]) mt_66.2.2) (mj_sg mj_S2 mt_66 cal Q K 100 0 (mj_a0 0 [.ref 0, .int x1, .int x2]) [] (I0, J0, mj_R2)) := h
set_option maxRecDepth 100000 in
set_option maxHeartbeats 8000000 in
theorem s66_14 {cal : Nat → List Value → mj_H → mj_R → Prop} {Q : mj_R → Prop} {K : Nat → mj_K} {I0 : Nat → Nat → Int32} {J0 : Nat → Nat → Int64} (x1 : Int32) (x2 : Int32) (x3 : Int32) (x4 : Int32) (x5 : Int32) (x6 : Int32) (x7 : Int32)
    (h : (vp_in (I0 0 12) 2 ∧ ((if (I0 2 (I0 0 12).toNatClampNeg) ≤ x7 then
      (if x3 = 0 then
        K 161 [(5, .int x5), (6, .int x6)] [] (I0, J0, mj_R2)
      else
        (if x4 = 0 then
          K 161 [(5, .int x5), (6, .int x6)] [] (I0, J0, mj_R2)
        else
          Q (.int (2 : Int32), (I0, J0, mj_R2))))
    else
      (if x3 = 0 then
        K 55 [(0, .ref 0), (1, .int x1), (2, .int x2), (3, .int (0 : Int32)), (4, .int x4), (5, .int x5), (6, .int x6), (7, .int x7)] [] (I0, J0, mj_R2)
      else
        (True ∧ ∃ (r1 : Int32) (I1 : Nat → Nat → Int32) (J1 : Nat → Nat → Int64), cal 67 [.ref 0, .int x1, .int x7] (I0, J0, mj_R2) (.int r1, (I1, J1, mj_R2)) ∧ ((True ∧ ∃ (r2 : Int32) (I2 : Nat → Nat → Int32) (J2 : Nat → Nat → Int64), cal 68 [.ref 0, .int x2, .int x7] (I1, J1, mj_R2) (.int r2, (I2, J2, mj_R2)) ∧ ((if r2 < r1 then
          K 55 [(0, .ref 0), (1, .int x1), (2, .int x2), (3, .int (0 : Int32)), (4, .int x4), (5, .int x5), (6, .int x6), (7, .int x7)] [] (I2, J2, mj_R2)
        else
          K 55 [(0, .ref 0), (1, .int x1), (2, .int x2), (3, .int (1 : Int32)), (4, .int x4), (5, .int x5), (6, .int x6), (7, .int x7)] [] (I2, J2, mj_R2))))))))))) :
    mj_go mj_S2 mt_66 cal Q K 14 [(0, .ref 0), (1, .int x1), (2, .int x2), (3, .int x3), (4, .int x4), (5, .int x5), (6, .int x6), (7, .int x7)] [] (I0, J0, mj_R2) := h
set_option maxRecDepth 100000 in
set_option maxHeartbeats 8000000 in
theorem s66_55 {cal : Nat → List Value → mj_H → mj_R → Prop} {Q : mj_R → Prop} {K : Nat → mj_K} {I0 : Nat → Nat → Int32} {J0 : Nat → Nat → Int64} (x1 : Int32) (x2 : Int32) (x3 : Int32) (x4 : Int32) (x5 : Int32) (x6 : Int32) (x7 : Int32)
    (h : (if x4 = 0 then
      (True ∧ ∃ (r1 : Int32) (I1 : Nat → Nat → Int32) (J1 : Nat → Nat → Int64), cal 67 [.ref 0, .int x1, .int x7] (I0, J0, mj_R2) (.int r1, (I1, J1, mj_R2)) ∧ ((True ∧ ∃ (r2 : Int32) (I2 : Nat → Nat → Int32) (J2 : Nat → Nat → Int64), cal 68 [.ref 0, .int x2, .int x7] (I1, J1, mj_R2) (.int r2, (I2, J2, mj_R2)) ∧ ((if r2 ≤ r1 then
        K 84 [(0, .ref 0), (1, .int x1), (2, .int x2), (3, .int x3), (4, .int (0 : Int32)), (5, .int x5), (6, .int x6), (7, .int x7)] [] (I2, J2, mj_R2)
      else
        K 84 [(0, .ref 0), (1, .int x1), (2, .int x2), (3, .int x3), (4, .int (1 : Int32)), (5, .int x5), (6, .int x6), (7, .int x7)] [] (I2, J2, mj_R2))))))
    else
      K 84 [(0, .ref 0), (1, .int x1), (2, .int x2), (3, .int x3), (4, .int (1 : Int32)), (5, .int x5), (6, .int x6), (7, .int x7)] [] (I0, J0, mj_R2))) :
    mj_go mj_S2 mt_66 cal Q K 55 [(0, .ref 0), (1, .int x1), (2, .int x2), (3, .int x3), (4, .int x4), (5, .int x5), (6, .int x6), (7, .int x7)] [] (I0, J0, mj_R2) := h
set_option maxRecDepth 100000 in
set_option maxHeartbeats 8000000 in
theorem s66_84 {cal : Nat → List Value → mj_H → mj_R → Prop} {Q : mj_R → Prop} {K : Nat → mj_K} {I0 : Nat → Nat → Int32} {J0 : Nat → Nat → Int64} (x1 : Int32) (x2 : Int32) (x3 : Int32) (x4 : Int32) (x5 : Int32) (x6 : Int32) (x7 : Int32)
    (h : (if x5 = 0 then
      K 113 [(0, .ref 0), (1, .int x1), (2, .int x2), (3, .int x3), (4, .int x4), (5, .int (0 : Int32)), (6, .int x6), (7, .int x7)] [] (I0, J0, mj_R2)
    else
      (True ∧ ∃ (r1 : Int32) (I1 : Nat → Nat → Int32) (J1 : Nat → Nat → Int64), cal 68 [.ref 0, .int x1, .int x7] (I0, J0, mj_R2) (.int r1, (I1, J1, mj_R2)) ∧ ((True ∧ ∃ (r2 : Int32) (I2 : Nat → Nat → Int32) (J2 : Nat → Nat → Int64), cal 67 [.ref 0, .int x2, .int x7] (I1, J1, mj_R2) (.int r2, (I2, J2, mj_R2)) ∧ ((if r2 < r1 then
        K 113 [(0, .ref 0), (1, .int x1), (2, .int x2), (3, .int x3), (4, .int x4), (5, .int (0 : Int32)), (6, .int x6), (7, .int x7)] [] (I2, J2, mj_R2)
      else
        K 113 [(0, .ref 0), (1, .int x1), (2, .int x2), (3, .int x3), (4, .int x4), (5, .int (1 : Int32)), (6, .int x6), (7, .int x7)] [] (I2, J2, mj_R2)))))))) :
    mj_go mj_S2 mt_66 cal Q K 84 [(0, .ref 0), (1, .int x1), (2, .int x2), (3, .int x3), (4, .int x4), (5, .int x5), (6, .int x6), (7, .int x7)] [] (I0, J0, mj_R2) := h
set_option maxRecDepth 100000 in
set_option maxHeartbeats 8000000 in
theorem s66_113 {cal : Nat → List Value → mj_H → mj_R → Prop} {Q : mj_R → Prop} {K : Nat → mj_K} {I0 : Nat → Nat → Int32} {J0 : Nat → Nat → Int64} (x1 : Int32) (x2 : Int32) (x3 : Int32) (x4 : Int32) (x5 : Int32) (x6 : Int32) (x7 : Int32)
    (h : (if x6 = 0 then
      (True ∧ ∃ (r1 : Int32) (I1 : Nat → Nat → Int32) (J1 : Nat → Nat → Int64), cal 68 [.ref 0, .int x1, .int x7] (I0, J0, mj_R2) (.int r1, (I1, J1, mj_R2)) ∧ ((True ∧ ∃ (r2 : Int32) (I2 : Nat → Nat → Int32) (J2 : Nat → Nat → Int64), cal 67 [.ref 0, .int x2, .int x7] (I1, J1, mj_R2) (.int r2, (I2, J2, mj_R2)) ∧ ((if r2 ≤ r1 then
        K 14 [(0, .ref 0), (1, .int x1), (2, .int x2), (3, .int x3), (4, .int x4), (5, .int x5), (6, .int (0 : Int32)), (7, .int (x7 + (1 : Int32)))] [] (I2, J2, mj_R2)
      else
        K 14 [(0, .ref 0), (1, .int x1), (2, .int x2), (3, .int x3), (4, .int x4), (5, .int x5), (6, .int (1 : Int32)), (7, .int (x7 + (1 : Int32)))] [] (I2, J2, mj_R2))))))
    else
      K 14 [(0, .ref 0), (1, .int x1), (2, .int x2), (3, .int x3), (4, .int x4), (5, .int x5), (6, .int (1 : Int32)), (7, .int (x7 + (1 : Int32)))] [] (I0, J0, mj_R2))) :
    mj_go mj_S2 mt_66 cal Q K 113 [(0, .ref 0), (1, .int x1), (2, .int x2), (3, .int x3), (4, .int x4), (5, .int x5), (6, .int x6), (7, .int x7)] [] (I0, J0, mj_R2) := h
set_option maxRecDepth 100000 in
set_option maxHeartbeats 8000000 in
theorem s66_161 {cal : Nat → List Value → mj_H → mj_R → Prop} {Q : mj_R → Prop} {K : Nat → mj_K} {I0 : Nat → Nat → Int32} {J0 : Nat → Nat → Int64} (x5 : Int32) (x6 : Int32)
    (h : (if x5 = 0 then
      Q (.int (0 : Int32), (I0, J0, mj_R2))
    else
      (if x6 = 0 then
        Q (.int (0 : Int32), (I0, J0, mj_R2))
      else
        Q (.int (1 : Int32), (I0, J0, mj_R2))))) :
    mj_go mj_S2 mt_66 cal Q K 161 [(5, .int x5), (6, .int x6)] [] (I0, J0, mj_R2) := h
-- UnbeatenHouseModel.mostLoss(II)I (('c', 0), 'I', 'I')
set_option maxRecDepth 100000 in
set_option maxHeartbeats 8000000 in
theorem e67 {cal : Nat → List Value → mj_H → mj_R → Prop} {Q : mj_R → Prop} {K : Nat → mj_K} {I0 : Nat → Nat → Int32} {J0 : Nat → Nat → Int64} (x1 : Int32) (x2 : Int32)
    (h : (True ∧ ∃ (r1 : Int32) (I1 : Nat → Nat → Int32) (J1 : Nat → Nat → Int64), cal 57 [.ref 0, .int x1, .int x2] (I0, J0, mj_R2) (.int r1, (I1, J1, mj_R2)) ∧ ((True ∧ ∃ (r2 : Int32) (I2 : Nat → Nat → Int32) (J2 : Nat → Nat → Int64), cal 53 [.ref 0, .int x1, .int x2] (I1, J1, mj_R2) (.int r2, (I2, J2, mj_R2)) ∧ ((vp_in r2 320 ∧ (Q (.int (r1 + (I2 12 r2.toNatClampNeg)), (I2, J2, mj_R2))))))))) :
    mj_if (Nat.ble (mj_sz [.ref 0, .int x1, .int x2]) mt_67.2.2) (mj_sg mj_S2 mt_67 cal Q K 100 0 (mj_a0 0 [.ref 0, .int x1, .int x2]) [] (I0, J0, mj_R2)) := h
-- UnbeatenHouseModel.leastLoss(II)I (('c', 0), 'I', 'I')
set_option maxRecDepth 100000 in
set_option maxHeartbeats 8000000 in
theorem e68 {cal : Nat → List Value → mj_H → mj_R → Prop} {Q : mj_R → Prop} {K : Nat → mj_K} {I0 : Nat → Nat → Int32} {J0 : Nat → Nat → Int64} (x1 : Int32) (x2 : Int32)
    (h : (True ∧ ∃ (r1 : Int32) (I1 : Nat → Nat → Int32) (J1 : Nat → Nat → Int64), cal 57 [.ref 0, .int x1, .int x2] (I0, J0, mj_R2) (.int r1, (I1, J1, mj_R2)) ∧ ((True ∧ ∃ (r2 : Int32) (I2 : Nat → Nat → Int32) (J2 : Nat → Nat → Int64), cal 53 [.ref 0, .int x1, .int x2] (I1, J1, mj_R2) (.int r2, (I2, J2, mj_R2)) ∧ ((vp_in r2 320 ∧ (Q (.int (r1 - (I2 12 r2.toNatClampNeg)), (I2, J2, mj_R2))))))))) :
    mj_if (Nat.ble (mj_sz [.ref 0, .int x1, .int x2]) mt_68.2.2) (mj_sg mj_S2 mt_68 cal Q K 100 0 (mj_a0 0 [.ref 0, .int x1, .int x2]) [] (I0, J0, mj_R2)) := h
-- UnbeatenHouseModel.unsure(Z)J (('c', 0), 'I')
set_option maxRecDepth 100000 in
set_option maxHeartbeats 8000000 in
theorem e69 {cal : Nat → List Value → mj_H → mj_R → Prop} {Q : mj_R → Prop} {K : Nat → mj_K} {I0 : Nat → Nat → Int32} {J0 : Nat → Nat → Int64} (x1 : Int32)
    (h : K 5 [(0, .ref 0), (1, .int x1), (2, .long (0 : Int64)), (4, .int (0 : Int32))] [] (I0, J0, mj_R2)) :
    mj_if (Nat.ble (mj_sz [.ref 0, .int x1]) mt_69.2.2) (mj_sg mj_S2 mt_69 cal Q K 100 0 (mj_a0 0 [.ref 0, .int x1]) [] (I0, J0, mj_R2)) := h
set_option maxRecDepth 100000 in
set_option maxHeartbeats 8000000 in
theorem s69_5 {cal : Nat → List Value → mj_H → mj_R → Prop} {Q : mj_R → Prop} {K : Nat → mj_K} {I0 : Nat → Nat → Int32} {J0 : Nat → Nat → Int64} (x1 : Int32) (x2 : Int64) (x4 : Int32)
    (h : (vp_in (I0 0 12) 2 ∧ ((if (I0 3 (I0 0 12).toNatClampNeg) ≤ x4 then
      Q (.long x2, (I0, J0, mj_R2))
    else
      (True ∧ ∃ (r1 : Int32) (I1 : Nat → Nat → Int32) (J1 : Nat → Nat → Int64), cal 56 [.ref 0, .int x4] (I0, J0, mj_R2) (.int r1, (I1, J1, mj_R2)) ∧ ((if r1 = 0 then
        K 35 [(0, .ref 0), (1, .int x1), (2, .long x2), (4, .int x4), (5, .int (1 : Int32))] [] (I1, J1, mj_R2)
      else
        K 35 [(0, .ref 0), (1, .int x1), (2, .long x2), (4, .int x4), (5, .int (0 : Int32))] [] (I1, J1, mj_R2)))))))) :
    mj_go mj_S2 mt_69 cal Q K 5 [(0, .ref 0), (1, .int x1), (2, .long x2), (4, .int x4)] [] (I0, J0, mj_R2) := h
set_option maxRecDepth 100000 in
set_option maxHeartbeats 8000000 in
theorem s69_35 {cal : Nat → List Value → mj_H → mj_R → Prop} {Q : mj_R → Prop} {K : Nat → mj_K} {I0 : Nat → Nat → Int32} {J0 : Nat → Nat → Int64} (x1 : Int32) (x2 : Int64) (x4 : Int32) (x5 : Int32)
    (h : K 38 [(0, .ref 0), (1, .int x1), (2, .long x2), (4, .int x4), (5, .int x5), (6, .int (0 : Int32))] [] (I0, J0, mj_R2)) :
    mj_go mj_S2 mt_69 cal Q K 35 [(0, .ref 0), (1, .int x1), (2, .long x2), (4, .int x4), (5, .int x5)] [] (I0, J0, mj_R2) := h
set_option maxRecDepth 100000 in
set_option maxHeartbeats 8000000 in
theorem s69_38 {cal : Nat → List Value → mj_H → mj_R → Prop} {Q : mj_R → Prop} {K : Nat → mj_K} {I0 : Nat → Nat → Int32} {J0 : Nat → Nat → Int64} (x1 : Int32) (x2 : Int64) (x4 : Int32) (x5 : Int32) (x6 : Int32)
    (h : (vp_in (I0 0 12) 2 ∧ ((if (I0 3 (I0 0 12).toNatClampNeg) ≤ x6 then
      K 106 [(0, .ref 0), (1, .int x1), (2, .long x2), (4, .int x4), (5, .int x5)] [] (I0, J0, mj_R2)
    else
      (if x5 = 0 then
        K 106 [(0, .ref 0), (1, .int x1), (2, .long x2), (4, .int x4), (5, .int x5)] [] (I0, J0, mj_R2)
      else
        (if x6 = x4 then
          K 38 [(0, .ref 0), (1, .int x1), (2, .long x2), (4, .int x4), (5, .int (1 : Int32)), (6, .int (x6 + (1 : Int32)))] [] (I0, J0, mj_R2)
        else
          (True ∧ ∃ (r1 : Int32) (I1 : Nat → Nat → Int32) (J1 : Nat → Nat → Int64), cal 56 [.ref 0, .int x6] (I0, J0, mj_R2) (.int r1, (I1, J1, mj_R2)) ∧ ((if r1 = 0 then
            (True ∧ ∃ (r2 : Int32) (I2 : Nat → Nat → Int32) (J2 : Nat → Nat → Int64), cal 66 [.ref 0, .int x6, .int x4] (I1, J1, mj_R2) (.int r2, (I2, J2, mj_R2)) ∧ ((if x1 = 0 then
              (if (2 : Int32) ≤ r2 then
                K 38 [(0, .ref 0), (1, .int x1), (2, .long x2), (4, .int x4), (5, .int (0 : Int32)), (6, .int (x6 + (1 : Int32)))] [] (I2, J2, mj_R2)
              else
                K 38 [(0, .ref 0), (1, .int x1), (2, .long x2), (4, .int x4), (5, .int (1 : Int32)), (6, .int (x6 + (1 : Int32)))] [] (I2, J2, mj_R2))
            else
              (if (1 : Int32) ≤ r2 then
                K 38 [(0, .ref 0), (1, .int x1), (2, .long x2), (4, .int x4), (5, .int (0 : Int32)), (6, .int (x6 + (1 : Int32)))] [] (I2, J2, mj_R2)
              else
                K 38 [(0, .ref 0), (1, .int x1), (2, .long x2), (4, .int x4), (5, .int (1 : Int32)), (6, .int (x6 + (1 : Int32)))] [] (I2, J2, mj_R2)))))
          else
            K 38 [(0, .ref 0), (1, .int x1), (2, .long x2), (4, .int x4), (5, .int (1 : Int32)), (6, .int (x6 + (1 : Int32)))] [] (I1, J1, mj_R2)))))))))) :
    mj_go mj_S2 mt_69 cal Q K 38 [(0, .ref 0), (1, .int x1), (2, .long x2), (4, .int x4), (5, .int x5), (6, .int x6)] [] (I0, J0, mj_R2) := h
set_option maxRecDepth 100000 in
set_option maxHeartbeats 8000000 in
theorem s69_106 {cal : Nat → List Value → mj_H → mj_R → Prop} {Q : mj_R → Prop} {K : Nat → mj_K} {I0 : Nat → Nat → Int32} {J0 : Nat → Nat → Int64} (x1 : Int32) (x2 : Int64) (x4 : Int32) (x5 : Int32)
    (h : (if x5 = 0 then
      K 5 [(0, .ref 0), (1, .int x1), (2, .long (x2 ||| (0 : Int64))), (4, .int (x4 + (1 : Int32)))] [] (I0, J0, mj_R2)
    else
      K 5 [(0, .ref 0), (1, .int x1), (2, .long (x2 ||| ((1 : Int64) <<< (x4.toInt64 &&& 63)))), (4, .int (x4 + (1 : Int32)))] [] (I0, J0, mj_R2))) :
    mj_go mj_S2 mt_69 cal Q K 106 [(0, .ref 0), (1, .int x1), (2, .long x2), (4, .int x4), (5, .int x5)] [] (I0, J0, mj_R2) := h
-- UnbeatenHouseModel.front(III)I (('c', 0), 'I', 'I', 'I')
set_option maxRecDepth 100000 in
set_option maxHeartbeats 8000000 in
theorem e70 {cal : Nat → List Value → mj_H → mj_R → Prop} {Q : mj_R → Prop} {K : Nat → mj_K} {I0 : Nat → Nat → Int32} {J0 : Nat → Nat → Int64} (x1 : Int32) (x2 : Int32) (x3 : Int32)
    (h : (True ∧ ∃ (r1 : Int32) (I1 : Nat → Nat → Int32) (J1 : Nat → Nat → Int64), cal 49 [.int x1, .int (0 : Int32), .int (2 : Int32)] (I0, J0, mj_R2) (.int r1, (I1, J1, mj_R2)) ∧ ((if r1 = 0 then
      Q (.int (-1 : Int32), (I1, J1, mj_R2))
    else
      (vp_in (I1 0 12) 2 ∧ ((if (I1 2 (I1 0 12).toNatClampNeg) = 0 then
        Q (.int (-1 : Int32), (I1, J1, mj_R2))
      else
        (if x1 = (1 : Int32) then
          (vp_in (I1 0 12) 2 ∧ ((True ∧ ∃ (r2 : Int32) (I2 : Nat → Nat → Int32) (J2 : Nat → Nat → Int64), cal 49 [.int x2, .int (0 : Int32), .int ((I1 4 (I1 0 12).toNatClampNeg) - (1 : Int32))] (I1, J1, mj_R2) (.int r2, (I2, J2, mj_R2)) ∧ ((if r2 = 0 then
            Q (.int (-1 : Int32), (I2, J2, mj_R2))
          else
            (vp_in (I2 0 12) 2 ∧ ((True ∧ ∃ (r3 : Int32) (I3 : Nat → Nat → Int32) (J3 : Nat → Nat → Int64), cal 49 [.int x3, .int (0 : Int32), .int ((I2 4 (I2 0 12).toNatClampNeg) - (1 : Int32))] (I2, J2, mj_R2) (.int r3, (I3, J3, mj_R2)) ∧ ((if r3 = 0 then
              Q (.int (-1 : Int32), (I3, J3, mj_R2))
            else
              (if x2 = x3 then
                Q (.int (-1 : Int32), (I3, J3, mj_R2))
              else
                K 73 [(0, .ref 0), (1, .int x1), (2, .int x2), (3, .int x3)] [] (I3, J3, mj_R2))))))))))))
        else
          K 73 [(0, .ref 0), (1, .int x1), (2, .int x2), (3, .int x3)] [] (I1, J1, mj_R2))))))))) :
    mj_if (Nat.ble (mj_sz [.ref 0, .int x1, .int x2, .int x3]) mt_70.2.2) (mj_sg mj_S2 mt_70 cal Q K 100 0 (mj_a0 0 [.ref 0, .int x1, .int x2, .int x3]) [] (I0, J0, mj_R2)) := h
set_option maxRecDepth 100000 in
set_option maxHeartbeats 8000000 in
theorem s70_73 {cal : Nat → List Value → mj_H → mj_R → Prop} {Q : mj_R → Prop} {K : Nat → mj_K} {I0 : Nat → Nat → Int32} {J0 : Nat → Nat → Int64} (x1 : Int32) (x2 : Int32) (x3 : Int32)
    (h : (if x1 = 0 then
      (True ∧ ∃ (r1 : Int64) (I1 : Nat → Nat → Int32) (J1 : Nat → Nat → Int64), cal 60 [.ref 0] ((mj_up I0 0 48 (0 : Int32)), J0, mj_R2) (.long r1, (I1, J1, mj_R2)) ∧ (K 91 [(0, .ref 0), (1, .int x1), (2, .int x2), (3, .int x3), (4, .long r1), (6, .int (0 : Int32))] [] (I1, J1, mj_R2)))
    else
      K 192 [(0, .ref 0), (1, .int x1), (2, .int x2), (3, .int x3)] [] ((mj_up I0 0 48 (0 : Int32)), J0, mj_R2))) :
    mj_go mj_S2 mt_70 cal Q K 73 [(0, .ref 0), (1, .int x1), (2, .int x2), (3, .int x3)] [] (I0, J0, mj_R2) := h
set_option maxRecDepth 100000 in
set_option maxHeartbeats 8000000 in
theorem s70_91 {cal : Nat → List Value → mj_H → mj_R → Prop} {Q : mj_R → Prop} {K : Nat → mj_K} {I0 : Nat → Nat → Int32} {J0 : Nat → Nat → Int64} (x1 : Int32) (x2 : Int32) (x3 : Int32) (x4 : Int64) (x6 : Int32)
    (h : (vp_in (I0 0 12) 2 ∧ ((if (I0 3 (I0 0 12).toNatClampNeg) ≤ x6 then
      K 192 [(0, .ref 0), (1, .int x1), (2, .int x2), (3, .int x3)] [] (I0, J0, mj_R2)
    else
      (if (lg_cmp ((x4 >>> (x6.toInt64 &&& 63)) &&& (1 : Int64)) (0 : Int64)) = 0 then
        K 91 [(0, .ref 0), (1, .int x1), (2, .int x2), (3, .int x3), (4, .long x4), (6, .int (x6 + (1 : Int32)))] [] (I0, J0, mj_R2)
      else
        K 123 [(0, .ref 0), (1, .int x1), (2, .int x2), (3, .int x3), (4, .long x4), (6, .int x6), (7, .int (0 : Int32))] [] (I0, J0, mj_R2)))))) :
    mj_go mj_S2 mt_70 cal Q K 91 [(0, .ref 0), (1, .int x1), (2, .int x2), (3, .int x3), (4, .long x4), (6, .int x6)] [] (I0, J0, mj_R2) := h
set_option maxRecDepth 100000 in
set_option maxHeartbeats 8000000 in
theorem s70_123 {cal : Nat → List Value → mj_H → mj_R → Prop} {Q : mj_R → Prop} {K : Nat → mj_K} {I0 : Nat → Nat → Int32} {J0 : Nat → Nat → Int64} (x1 : Int32) (x2 : Int32) (x3 : Int32) (x4 : Int64) (x6 : Int32) (x7 : Int32)
    (h : (vp_in (I0 0 12) 2 ∧ ((if (I0 2 (I0 0 12).toNatClampNeg) ≤ x7 then
      (vp_in (I0 0 48) 8192 ∧ (K 91 [(0, .ref 0), (1, .int x1), (2, .int x2), (3, .int x3), (4, .long x4), (6, .int (x6 + (1 : Int32)))] [] ((mj_up (mj_up I0 30 (I0 0 48).toNatClampNeg x6) 0 48 ((I0 0 48) + (1 : Int32))), J0, mj_R2)))
    else
      (True ∧ ∃ (r1 : Int32) (I1 : Nat → Nat → Int32) (J1 : Nat → Nat → Int64), cal 57 [.ref 0, .int x6, .int x7] (I0, J0, mj_R2) (.int r1, (I1, J1, mj_R2)) ∧ ((vp_in (((4 : Int32) * (I0 0 48)) + x7) 32768 ∧ (K 123 [(0, .ref 0), (1, .int x1), (2, .int x2), (3, .int x3), (4, .long x4), (6, .int x6), (7, .int (x7 + (1 : Int32)))] [] ((mj_up I1 29 (((4 : Int32) * (I0 0 48)) + x7).toNatClampNeg r1), J1, mj_R2))))))))) :
    mj_go mj_S2 mt_70 cal Q K 123 [(0, .ref 0), (1, .int x1), (2, .int x2), (3, .int x3), (4, .long x4), (6, .int x6), (7, .int x7)] [] (I0, J0, mj_R2) := h
set_option maxRecDepth 100000 in
set_option maxHeartbeats 8000000 in
theorem s70_192 {cal : Nat → List Value → mj_H → mj_R → Prop} {Q : mj_R → Prop} {K : Nat → mj_K} {I0 : Nat → Nat → Int32} {J0 : Nat → Nat → Int64} (x1 : Int32) (x2 : Int32) (x3 : Int32)
    (h : (if x1 = (1 : Int32) then
      (True ∧ ∃ (I1 : Nat → Nat → Int32) (J1 : Nat → Nat → Int64), cal 71 [.ref 0, .int x2, .int x3] (I0, J0, mj_R2) (.null, (I1, J1, mj_R2)) ∧ ((if x1 = (2 : Int32) then
        (True ∧ ∃ (I2 : Nat → Nat → Int32) (J2 : Nat → Nat → Int64), cal 76 [.ref 0] (I1, J1, mj_R2) (.null, (I2, J2, mj_R2)) ∧ (K 212 [(0, .ref 0), (1, .int x1)] [] (I2, J2, mj_R2)))
      else
        K 212 [(0, .ref 0), (1, .int x1)] [] (I1, J1, mj_R2))))
    else
      (if x1 = (2 : Int32) then
        (True ∧ ∃ (I3 : Nat → Nat → Int32) (J3 : Nat → Nat → Int64), cal 76 [.ref 0] (I0, J0, mj_R2) (.null, (I3, J3, mj_R2)) ∧ (K 212 [(0, .ref 0), (1, .int x1)] [] (I3, J3, mj_R2)))
      else
        K 212 [(0, .ref 0), (1, .int x1)] [] (I0, J0, mj_R2)))) :
    mj_go mj_S2 mt_70 cal Q K 192 [(0, .ref 0), (1, .int x1), (2, .int x2), (3, .int x3)] [] (I0, J0, mj_R2) := h
set_option maxRecDepth 100000 in
set_option maxHeartbeats 8000000 in
theorem s70_212 {cal : Nat → List Value → mj_H → mj_R → Prop} {Q : mj_R → Prop} {K : Nat → mj_K} {I0 : Nat → Nat → Int32} {J0 : Nat → Nat → Int64} (x1 : Int32)
    (h : (if (I0 0 48) ≤ (100 : Int32) then
      K 240 [(0, .ref 0), (1, .int x1), (4, .int (0 : Int32))] [] ((mj_up (mj_up I0 0 59 x1) 0 58 (I0 0 48)), J0, mj_R2)
    else
      Q (.int (-2 : Int32), (I0, J0, mj_R2)))) :
    mj_go mj_S2 mt_70 cal Q K 212 [(0, .ref 0), (1, .int x1)] [] (I0, J0, mj_R2) := h
set_option maxRecDepth 100000 in
set_option maxHeartbeats 8000000 in
theorem s70_240 {cal : Nat → List Value → mj_H → mj_R → Prop} {Q : mj_R → Prop} {K : Nat → mj_K} {I0 : Nat → Nat → Int32} {J0 : Nat → Nat → Int64} (x1 : Int32) (x4 : Int32)
    (h : (if (I0 0 48) ≤ x4 then
      Q (.int (I0 0 48), (I0, J0, mj_R2))
    else
      K 256 [(0, .ref 0), (1, .int x1), (4, .int x4), (5, .int x4), (6, .int (0 : Int32))] [] (I0, J0, mj_R2))) :
    mj_go mj_S2 mt_70 cal Q K 240 [(0, .ref 0), (1, .int x1), (4, .int x4)] [] (I0, J0, mj_R2) := h
set_option maxRecDepth 100000 in
set_option maxHeartbeats 8000000 in
theorem s70_256 {cal : Nat → List Value → mj_H → mj_R → Prop} {Q : mj_R → Prop} {K : Nat → mj_K} {I0 : Nat → Nat → Int32} {J0 : Nat → Nat → Int64} (x1 : Int32) (x4 : Int32) (x5 : Int32) (x6 : Int32)
    (h : (if (I0 0 48) ≤ x6 then
      K 336 [(0, .ref 0), (1, .int x1), (4, .int x4), (5, .int x5), (6, .int (0 : Int32))] [] (I0, J0, mj_R2)
    else
      (if x1 ≤ 0 then
        K 336 [(0, .ref 0), (1, .int x1), (4, .int x4), (5, .int x5), (6, .int (0 : Int32))] [] (I0, J0, mj_R2)
      else
        K 275 [(0, .ref 0), (1, .int x1), (4, .int x4), (5, .int x5), (6, .int x6), (7, .int (0 : Int32)), (8, .int (0 : Int32))] [] (I0, J0, mj_R2)))) :
    mj_go mj_S2 mt_70 cal Q K 256 [(0, .ref 0), (1, .int x1), (4, .int x4), (5, .int x5), (6, .int x6)] [] (I0, J0, mj_R2) := h
set_option maxRecDepth 100000 in
set_option maxHeartbeats 8000000 in
theorem s70_275 {cal : Nat → List Value → mj_H → mj_R → Prop} {Q : mj_R → Prop} {K : Nat → mj_K} {I0 : Nat → Nat → Int32} {J0 : Nat → Nat → Int64} (x1 : Int32) (x4 : Int32) (x5 : Int32) (x6 : Int32) (x7 : Int32) (x8 : Int32)
    (h : (if (I0 0 48) ≤ x8 then
      (if x7 = x4 then
        K 256 [(0, .ref 0), (1, .int x1), (4, .int x4), (5, .int x6), (6, .int (x6 + (1 : Int32)))] [] (I0, J0, mj_R2)
      else
        K 256 [(0, .ref 0), (1, .int x1), (4, .int x4), (5, .int x5), (6, .int (x6 + (1 : Int32)))] [] (I0, J0, mj_R2))
    else
      (True ∧ ∃ (r1 : Int32) (I1 : Nat → Nat → Int32) (J1 : Nat → Nat → Int64), cal 83 [.ref 0, .int x8, .int x6] (I0, J0, mj_R2) (.int r1, (I1, J1, mj_R2)) ∧ ((if r1 = 0 then
        K 275 [(0, .ref 0), (1, .int x1), (4, .int x4), (5, .int x5), (6, .int x6), (7, .int (x7 + (0 : Int32))), (8, .int (x8 + (1 : Int32)))] [] (I1, J1, mj_R2)
      else
        K 275 [(0, .ref 0), (1, .int x1), (4, .int x4), (5, .int x5), (6, .int x6), (7, .int (x7 + (1 : Int32))), (8, .int (x8 + (1 : Int32)))] [] (I1, J1, mj_R2)))))) :
    mj_go mj_S2 mt_70 cal Q K 275 [(0, .ref 0), (1, .int x1), (4, .int x4), (5, .int x5), (6, .int x6), (7, .int x7), (8, .int x8)] [] (I0, J0, mj_R2) := h
set_option maxRecDepth 100000 in
set_option maxHeartbeats 8000000 in
theorem s70_336 {cal : Nat → List Value → mj_H → mj_R → Prop} {Q : mj_R → Prop} {K : Nat → mj_K} {I0 : Nat → Nat → Int32} {J0 : Nat → Nat → Int64} (x1 : Int32) (x4 : Int32) (x5 : Int32) (x6 : Int32)
    (h : (vp_in (I0 0 12) 2 ∧ ((if (I0 2 (I0 0 12).toNatClampNeg) ≤ x6 then
      (vp_in x5 8192 ∧ ((vp_in x4 100 ∧ (K 397 [(0, .ref 0), (1, .int x1), (4, .int x4), (5, .int x5), (6, .int (0 : Int32))] [] ((mj_up I0 38 x4.toNatClampNeg (I0 30 x5.toNatClampNeg)), J0, mj_R2)))))
    else
      (vp_in (((4 : Int32) * x5) + x6) 32768 ∧ ((vp_in (((4 : Int32) * x4) + x6) 400 ∧ (K 336 [(0, .ref 0), (1, .int x1), (4, .int x4), (5, .int x5), (6, .int (x6 + (1 : Int32)))] [] ((mj_up I0 37 (((4 : Int32) * x4) + x6).toNatClampNeg (I0 29 (((4 : Int32) * x5) + x6).toNatClampNeg)), J0, mj_R2))))))))) :
    mj_go mj_S2 mt_70 cal Q K 336 [(0, .ref 0), (1, .int x1), (4, .int x4), (5, .int x5), (6, .int x6)] [] (I0, J0, mj_R2) := h
set_option maxRecDepth 100000 in
set_option maxHeartbeats 8000000 in
theorem s70_397 {cal : Nat → List Value → mj_H → mj_R → Prop} {Q : mj_R → Prop} {K : Nat → mj_K} {I0 : Nat → Nat → Int32} {J0 : Nat → Nat → Int64} (x1 : Int32) (x4 : Int32) (x5 : Int32) (x6 : Int32)
    (h : (if (10 : Int32) ≤ x6 then
      K 240 [(0, .ref 0), (1, .int x1), (4, .int (x4 + (1 : Int32)))] [] (I0, J0, mj_R2)
    else
      (vp_in (((10 : Int32) * x5) + x6) 81920 ∧ ((vp_in (((10 : Int32) * x4) + x6) 1000 ∧ (K 397 [(0, .ref 0), (1, .int x1), (4, .int x4), (5, .int x5), (6, .int (x6 + (1 : Int32)))] [] ((mj_up I0 39 (((10 : Int32) * x4) + x6).toNatClampNeg (I0 31 (((10 : Int32) * x5) + x6).toNatClampNeg)), J0, mj_R2))))))) :
    mj_go mj_S2 mt_70 cal Q K 397 [(0, .ref 0), (1, .int x1), (4, .int x4), (5, .int x5), (6, .int x6)] [] (I0, J0, mj_R2) := h
