/-! step lemmas, by program -/
-- UnbeatenHouseModel.ways(II)V (('c', 0), 'I', 'I')
set_option maxRecDepth 100000 in
set_option maxHeartbeats 8000000 in
theorem e71 {cal : Nat → List Value → mj_H → mj_R → Prop} {Q : mj_R → Prop} {K : Nat → mj_K} {I0 : Nat → Nat → Int32} {J0 : Nat → Nat → Int64} (x1 : Int32) (x2 : Int32)
    (h : (vp_in (0 : Int32) 10 ∧ ((vp_in (0 : Int32) 10 ∧ (K 16 [(0, .ref 0), (2, .int x2), (3, .int (0 : Int32))] [] ((mj_up (mj_up I0 33 (0 : Int32).toNatClampNeg x1) 35 (0 : Int32).toNatClampNeg (0 : Int32)), J0, mj_R2)))))) :
    mj_if (Nat.ble (mj_sz [.ref 0, .int x1, .int x2]) mt_71.2.2) (mj_sg mj_S2 mt_71 cal Q K 100 0 (mj_a0 0 [.ref 0, .int x1, .int x2]) [] (I0, J0, mj_R2)) := h
set_option maxRecDepth 100000 in
set_option maxHeartbeats 8000000 in
theorem s71_16 {cal : Nat → List Value → mj_H → mj_R → Prop} {Q : mj_R → Prop} {K : Nat → mj_K} {I0 : Nat → Nat → Int32} {J0 : Nat → Nat → Int64} (x2 : Int32) (x3 : Int32)
    (h : (if (4 : Int32) ≤ x3 then
      K 36 [(0, .ref 0), (2, .int x2), (3, .int (0 : Int32))] [] (I0, J0, mj_R2)
    else
      (vp_in x3 40 ∧ (K 16 [(0, .ref 0), (2, .int x2), (3, .int (x3 + (1 : Int32)))] [] ((mj_up I0 34 x3.toNatClampNeg (0 : Int32)), J0, mj_R2))))) :
    mj_go mj_S2 mt_71 cal Q K 16 [(0, .ref 0), (2, .int x2), (3, .int x3)] [] (I0, J0, mj_R2) := h
set_option maxRecDepth 100000 in
set_option maxHeartbeats 8000000 in
theorem s71_36 {cal : Nat → List Value → mj_H → mj_R → Prop} {Q : mj_R → Prop} {K : Nat → mj_K} {I0 : Nat → Nat → Int32} {J0 : Nat → Nat → Int64} (x2 : Int32) (x3 : Int32)
    (h : (if x3 < 0 then
      Q (.null, (I0, J0, mj_R2))
    else
      (vp_in x3 10 ∧ ((if (I0 35 x3.toNatClampNeg) = (240 : Int32) then
        K 36 [(0, .ref 0), (2, .int x2), (3, .int (x3 + (-1 : Int32)))] [] (I0, J0, mj_R2)
      else
        (vp_in x3 10 ∧ ((¬ (24 : Int32) = 0 ∧ ((vp_in x3 10 ∧ ((¬ (24 : Int32) = 0 ∧ ((vp_in x3 10 ∧ ((¬ (24 : Int32) = 0 ∧ ((vp_in (I0 0 12) 2 ∧ ((if (I0 5 (I0 0 12).toNatClampNeg) ≤ ((I0 35 x3.toNatClampNeg) - (I0 35 x3.toNatClampNeg) / (24 : Int32) * (24 : Int32)) then
          K 158 [(0, .ref 0), (2, .int x2), (3, .int x3), (4, .int ((I0 35 x3.toNatClampNeg) / (24 : Int32))), (5, .int (((24 : Int32) * (I0 0 12)) + ((I0 35 x3.toNatClampNeg) - (I0 35 x3.toNatClampNeg) / (24 : Int32) * (24 : Int32)))), (6, .int (0 : Int32))] [] (I0, J0, mj_R2)
        else
          (vp_in (I0 0 12) 2 ∧ ((if (I0 4 (I0 0 12).toNatClampNeg) ≤ ((I0 35 x3.toNatClampNeg) / (24 : Int32)) then
            K 158 [(0, .ref 0), (2, .int x2), (3, .int x3), (4, .int ((I0 35 x3.toNatClampNeg) / (24 : Int32))), (5, .int (((24 : Int32) * (I0 0 12)) + ((I0 35 x3.toNatClampNeg) - (I0 35 x3.toNatClampNeg) / (24 : Int32) * (24 : Int32)))), (6, .int (0 : Int32))] [] (I0, J0, mj_R2)
          else
            (vp_in (((24 : Int32) * (I0 0 12)) + ((I0 35 x3.toNatClampNeg) - (I0 35 x3.toNatClampNeg) / (24 : Int32) * (24 : Int32))) 48 ∧ ((vp_in x3 10 ∧ ((if (I0 14 (((24 : Int32) * (I0 0 12)) + ((I0 35 x3.toNatClampNeg) - (I0 35 x3.toNatClampNeg) / (24 : Int32) * (24 : Int32))).toNatClampNeg) = (I0 33 x3.toNatClampNeg) then
              (vp_in (((24 : Int32) * (I0 0 12)) + ((I0 35 x3.toNatClampNeg) - (I0 35 x3.toNatClampNeg) / (24 : Int32) * (24 : Int32))) 48 ∧ ((if (I0 15 (((24 : Int32) * (I0 0 12)) + ((I0 35 x3.toNatClampNeg) - (I0 35 x3.toNatClampNeg) / (24 : Int32) * (24 : Int32))).toNatClampNeg) = ((I0 35 x3.toNatClampNeg) / (24 : Int32)) then
                K 158 [(0, .ref 0), (2, .int x2), (3, .int x3), (4, .int ((I0 35 x3.toNatClampNeg) / (24 : Int32))), (5, .int (((24 : Int32) * (I0 0 12)) + ((I0 35 x3.toNatClampNeg) - (I0 35 x3.toNatClampNeg) / (24 : Int32) * (24 : Int32)))), (6, .int (1 : Int32))] [] (I0, J0, mj_R2)
              else
                K 158 [(0, .ref 0), (2, .int x2), (3, .int x3), (4, .int ((I0 35 x3.toNatClampNeg) / (24 : Int32))), (5, .int (((24 : Int32) * (I0 0 12)) + ((I0 35 x3.toNatClampNeg) - (I0 35 x3.toNatClampNeg) / (24 : Int32) * (24 : Int32)))), (6, .int (0 : Int32))] [] (I0, J0, mj_R2))))
            else
              K 158 [(0, .ref 0), (2, .int x2), (3, .int x3), (4, .int ((I0 35 x3.toNatClampNeg) / (24 : Int32))), (5, .int (((24 : Int32) * (I0 0 12)) + ((I0 35 x3.toNatClampNeg) - (I0 35 x3.toNatClampNeg) / (24 : Int32) * (24 : Int32)))), (6, .int (0 : Int32))] [] (I0, J0, mj_R2))))))))))))))))))))))))))))) :
    mj_go mj_S2 mt_71 cal Q K 36 [(0, .ref 0), (2, .int x2), (3, .int x3)] [] (I0, J0, mj_R2) := h
set_option maxRecDepth 100000 in
set_option maxHeartbeats 8000000 in
theorem s71_158 {cal : Nat → List Value → mj_H → mj_R → Prop} {Q : mj_R → Prop} {K : Nat → mj_K} {I0 : Nat → Nat → Int32} {J0 : Nat → Nat → Int64} (x2 : Int32) (x3 : Int32) (x4 : Int32) (x5 : Int32) (x6 : Int32)
    (h : (vp_in x3 10 ∧ ((vp_in x3 10 ∧ (K 171 [(0, .ref 0), (2, .int x2), (3, .int x3), (4, .int x4), (5, .int x5), (6, .int x6), (7, .int (0 : Int32))] [] ((mj_up I0 35 x3.toNatClampNeg ((I0 35 x3.toNatClampNeg) + (1 : Int32))), J0, mj_R2)))))) :
    mj_go mj_S2 mt_71 cal Q K 158 [(0, .ref 0), (2, .int x2), (3, .int x3), (4, .int x4), (5, .int x5), (6, .int x6)] [] (I0, J0, mj_R2) := h
set_option maxRecDepth 100000 in
set_option maxHeartbeats 8000000 in
theorem s71_171 {cal : Nat → List Value → mj_H → mj_R → Prop} {Q : mj_R → Prop} {K : Nat → mj_K} {I0 : Nat → Nat → Int32} {J0 : Nat → Nat → Int64} (x2 : Int32) (x3 : Int32) (x4 : Int32) (x5 : Int32) (x6 : Int32) (x7 : Int32)
    (h : (if x3 < x7 then
      (if x6 = 0 then
        K 36 [(0, .ref 0), (2, .int x2), (3, .int x3)] [] (I0, J0, mj_R2)
      else
        K 218 [(0, .ref 0), (2, .int x2), (3, .int x3), (4, .int x4), (5, .int x5), (7, .int (0 : Int32))] [] (I0, J0, mj_R2))
    else
      (if x6 = 0 then
        (if x6 = 0 then
          K 36 [(0, .ref 0), (2, .int x2), (3, .int x3)] [] (I0, J0, mj_R2)
        else
          K 218 [(0, .ref 0), (2, .int x2), (3, .int x3), (4, .int x4), (5, .int x5), (7, .int (0 : Int32))] [] (I0, J0, mj_R2))
      else
        (vp_in x7 10 ∧ ((if (I0 33 x7.toNatClampNeg) = x4 then
          K 171 [(0, .ref 0), (2, .int x2), (3, .int x3), (4, .int x4), (5, .int x5), (6, .int (0 : Int32)), (7, .int (x7 + (1 : Int32)))] [] (I0, J0, mj_R2)
        else
          K 171 [(0, .ref 0), (2, .int x2), (3, .int x3), (4, .int x4), (5, .int x5), (6, .int (1 : Int32)), (7, .int (x7 + (1 : Int32)))] [] (I0, J0, mj_R2))))))) :
    mj_go mj_S2 mt_71 cal Q K 171 [(0, .ref 0), (2, .int x2), (3, .int x3), (4, .int x4), (5, .int x5), (6, .int x6), (7, .int x7)] [] (I0, J0, mj_R2) := h
set_option maxRecDepth 100000 in
set_option maxHeartbeats 8000000 in
theorem s71_218 {cal : Nat → List Value → mj_H → mj_R → Prop} {Q : mj_R → Prop} {K : Nat → mj_K} {I0 : Nat → Nat → Int32} {J0 : Nat → Nat → Int64} (x2 : Int32) (x3 : Int32) (x4 : Int32) (x5 : Int32) (x7 : Int32)
    (h : (vp_in (I0 0 12) 2 ∧ ((if (I0 2 (I0 0 12).toNatClampNeg) ≤ x7 then
      (if x4 = x2 then
        (vp_in (x3 + (1 : Int32)) 10 ∧ (K 307 [(0, .ref 0), (2, .int x2), (3, .int x3), (7, .int (0 : Int32))] [] ((mj_up I0 33 (x3 + (1 : Int32)).toNatClampNeg x4), J0, mj_R2)))
      else
        (if (x3 + (2 : Int32)) ≤ (9 : Int32) then
          (vp_in (x3 + (1 : Int32)) 10 ∧ ((vp_in (x3 + (1 : Int32)) 10 ∧ (K 36 [(0, .ref 0), (2, .int x2), (3, .int (x3 + (1 : Int32)))] [] ((mj_up (mj_up I0 33 (x3 + (1 : Int32)).toNatClampNeg x4) 35 (x3 + (1 : Int32)).toNatClampNeg (0 : Int32)), J0, mj_R2)))))
        else
          K 36 [(0, .ref 0), (2, .int x2), (3, .int x3)] [] (I0, J0, mj_R2)))
    else
      (if (10 : Int32) ≤ (x3 + (1 : Int32)) then
        (vp_in (((4 : Int32) * x3) + x7) 40 ∧ ((vp_in (((4 : Int32) * x5) + x7) 192 ∧ ((vp_in (((4 : Int32) * (9 : Int32)) + x7) 40 ∧ (K 218 [(0, .ref 0), (2, .int x2), (3, .int x3), (4, .int x4), (5, .int x5), (7, .int (x7 + (1 : Int32)))] [] ((mj_up I0 34 (((4 : Int32) * (9 : Int32)) + x7).toNatClampNeg ((I0 34 (((4 : Int32) * x3) + x7).toNatClampNeg) + (I0 16 (((4 : Int32) * x5) + x7).toNatClampNeg))), J0, mj_R2)))))))
      else
        (vp_in (((4 : Int32) * x3) + x7) 40 ∧ ((vp_in (((4 : Int32) * x5) + x7) 192 ∧ ((vp_in (((4 : Int32) * (x3 + (1 : Int32))) + x7) 40 ∧ (K 218 [(0, .ref 0), (2, .int x2), (3, .int x3), (4, .int x4), (5, .int x5), (7, .int (x7 + (1 : Int32)))] [] ((mj_up I0 34 (((4 : Int32) * (x3 + (1 : Int32))) + x7).toNatClampNeg ((I0 34 (((4 : Int32) * x3) + x7).toNatClampNeg) + (I0 16 (((4 : Int32) * x5) + x7).toNatClampNeg))), J0, mj_R2)))))))))))) :
    mj_go mj_S2 mt_71 cal Q K 218 [(0, .ref 0), (2, .int x2), (3, .int x3), (4, .int x4), (5, .int x5), (7, .int x7)] [] (I0, J0, mj_R2) := h
set_option maxRecDepth 100000 in
set_option maxHeartbeats 8000000 in
theorem s71_307 {cal : Nat → List Value → mj_H → mj_R → Prop} {Q : mj_R → Prop} {K : Nat → mj_K} {I0 : Nat → Nat → Int32} {J0 : Nat → Nat → Int64} (x2 : Int32) (x3 : Int32) (x7 : Int32)
    (h : (vp_in (I0 0 12) 2 ∧ ((if (I0 2 (I0 0 12).toNatClampNeg) ≤ x7 then
      (True ∧ ∃ (I1 : Nat → Nat → Int32) (J1 : Nat → Nat → Int64), cal 72 [.ref 0, .int (x3 + (2 : Int32))] (I0, J0, mj_R2) (.null, (I1, J1, mj_R2)) ∧ (K 36 [(0, .ref 0), (2, .int x2), (3, .int x3)] [] (I1, J1, mj_R2)))
    else
      (vp_in (((4 : Int32) * (x3 + (1 : Int32))) + x7) 40 ∧ ((True ∧ ∃ (r2 : Int32) (I2 : Nat → Nat → Int32) (J2 : Nat → Nat → Int64), cal 58 [.ref 0, .int x7, .int (I0 34 (((4 : Int32) * (x3 + (1 : Int32))) + x7).toNatClampNeg)] (I0, J0, mj_R2) (.int r2, (I2, J2, mj_R2)) ∧ ((vp_in x7 4 ∧ (K 307 [(0, .ref 0), (2, .int x2), (3, .int x3), (7, .int (x7 + (1 : Int32)))] [] ((mj_up I2 32 x7.toNatClampNeg r2), J2, mj_R2))))))))))) :
    mj_go mj_S2 mt_71 cal Q K 307 [(0, .ref 0), (2, .int x2), (3, .int x3), (7, .int x7)] [] (I0, J0, mj_R2) := h
-- UnbeatenHouseModel.gathers(I)V (('c', 0), 'I')
set_option maxRecDepth 100000 in
set_option maxHeartbeats 8000000 in
theorem e72 {cal : Nat → List Value → mj_H → mj_R → Prop} {Q : mj_R → Prop} {K : Nat → mj_K} {I0 : Nat → Nat → Int32} {J0 : Nat → Nat → Int64} (x1 : Int32)
    (h : K 2 [(0, .ref 0), (1, .int x1), (2, .int (0 : Int32))] [] (I0, J0, mj_R2)) :
    mj_if (Nat.ble (mj_sz [.ref 0, .int x1]) mt_72.2.2) (mj_sg mj_S2 mt_72 cal Q K 100 0 (mj_a0 0 [.ref 0, .int x1]) [] (I0, J0, mj_R2)) := h
set_option maxRecDepth 100000 in
set_option maxHeartbeats 8000000 in
theorem s72_2 {cal : Nat → List Value → mj_H → mj_R → Prop} {Q : mj_R → Prop} {K : Nat → mj_K} {I0 : Nat → Nat → Int32} {J0 : Nat → Nat → Int64} (x1 : Int32) (x2 : Int32)
    (h : (if (I0 0 48) ≤ x2 then
      K 29 [(0, .ref 0), (1, .int x1), (2, .int (0 : Int32)), (3, .int (0 : Int32))] [] (I0, J0, mj_R2)
    else
      (True ∧ ∃ (r1 : Int32) (I1 : Nat → Nat → Int32) (J1 : Nat → Nat → Int64), cal 73 [.ref 0, .int x2] (I0, J0, mj_R2) (.int r1, (I1, J1, mj_R2)) ∧ ((if r1 = 0 then
        K 2 [(0, .ref 0), (1, .int x1), (2, .int (x2 + (1 : Int32)))] [] (I1, J1, mj_R2)
      else
        Q (.null, (I1, J1, mj_R2))))))) :
    mj_go mj_S2 mt_72 cal Q K 2 [(0, .ref 0), (1, .int x1), (2, .int x2)] [] (I0, J0, mj_R2) := h
set_option maxRecDepth 100000 in
set_option maxHeartbeats 8000000 in
theorem s72_29 {cal : Nat → List Value → mj_H → mj_R → Prop} {Q : mj_R → Prop} {K : Nat → mj_K} {I0 : Nat → Nat → Int32} {J0 : Nat → Nat → Int64} (x1 : Int32) (x2 : Int32) (x3 : Int32)
    (h : (if (I0 0 48) ≤ x3 then
      K 65 [(0, .ref 0), (1, .int x1), (2, .int x2), (3, .int (0 : Int32))] [] (I0, J0, mj_R2)
    else
      (True ∧ ∃ (r1 : Int32) (I1 : Nat → Nat → Int32) (J1 : Nat → Nat → Int64), cal 74 [.ref 0, .int x3] (I0, J0, mj_R2) (.int r1, (I1, J1, mj_R2)) ∧ ((if r1 = 0 then
        (True ∧ ∃ (I2 : Nat → Nat → Int32) (J2 : Nat → Nat → Int64), cal 75 [.ref 0, .int x2, .int x3] (I1, J1, mj_R2) (.null, (I2, J2, mj_R2)) ∧ (K 29 [(0, .ref 0), (1, .int x1), (2, .int (x2 + (1 : Int32))), (3, .int (x3 + (1 : Int32)))] [] (I2, J2, mj_R2)))
      else
        K 29 [(0, .ref 0), (1, .int x1), (2, .int x2), (3, .int (x3 + (1 : Int32)))] [] (I1, J1, mj_R2)))))) :
    mj_go mj_S2 mt_72 cal Q K 29 [(0, .ref 0), (1, .int x1), (2, .int x2), (3, .int x3)] [] (I0, J0, mj_R2) := h
set_option maxRecDepth 100000 in
set_option maxHeartbeats 8000000 in
theorem s72_65 {cal : Nat → List Value → mj_H → mj_R → Prop} {Q : mj_R → Prop} {K : Nat → mj_K} {I0 : Nat → Nat → Int32} {J0 : Nat → Nat → Int64} (x1 : Int32) (x2 : Int32) (x3 : Int32)
    (h : (vp_in (I0 0 12) 2 ∧ ((if (I0 2 (I0 0 12).toNatClampNeg) ≤ x3 then
      (vp_in x2 8192 ∧ (K 109 [(0, .ref 0), (2, .int x2), (3, .int (0 : Int32))] [] ((mj_up I0 30 x2.toNatClampNeg x1), J0, mj_R2)))
    else
      (vp_in x3 4 ∧ ((vp_in (((4 : Int32) * x2) + x3) 32768 ∧ (K 65 [(0, .ref 0), (1, .int x1), (2, .int x2), (3, .int (x3 + (1 : Int32)))] [] ((mj_up I0 29 (((4 : Int32) * x2) + x3).toNatClampNeg (I0 32 x3.toNatClampNeg)), J0, mj_R2))))))))) :
    mj_go mj_S2 mt_72 cal Q K 65 [(0, .ref 0), (1, .int x1), (2, .int x2), (3, .int x3)] [] (I0, J0, mj_R2) := h
set_option maxRecDepth 100000 in
set_option maxHeartbeats 8000000 in
theorem s72_109 {cal : Nat → List Value → mj_H → mj_R → Prop} {Q : mj_R → Prop} {K : Nat → mj_K} {I0 : Nat → Nat → Int32} {J0 : Nat → Nat → Int64} (x2 : Int32) (x3 : Int32)
    (h : (if (10 : Int32) ≤ x3 then
      Q (.null, ((mj_up I0 0 48 (x2 + (1 : Int32))), J0, mj_R2))
    else
      (vp_in x3 10 ∧ ((vp_in (((10 : Int32) * x2) + x3) 81920 ∧ (K 109 [(0, .ref 0), (2, .int x2), (3, .int (x3 + (1 : Int32)))] [] ((mj_up I0 31 (((10 : Int32) * x2) + x3).toNatClampNeg (I0 33 x3.toNatClampNeg)), J0, mj_R2))))))) :
    mj_go mj_S2 mt_72 cal Q K 109 [(0, .ref 0), (2, .int x2), (3, .int x3)] [] (I0, J0, mj_R2) := h
-- UnbeatenHouseModel.isLost(I)Z (('c', 0), 'I')
set_option maxRecDepth 100000 in
set_option maxHeartbeats 8000000 in
theorem e73 {cal : Nat → List Value → mj_H → mj_R → Prop} {Q : mj_R → Prop} {K : Nat → mj_K} {I0 : Nat → Nat → Int32} {J0 : Nat → Nat → Int64} (x1 : Int32)
    (h : K 2 [(0, .ref 0), (1, .int x1), (2, .int (0 : Int32))] [] (I0, J0, mj_R2)) :
    mj_if (Nat.ble (mj_sz [.ref 0, .int x1]) mt_73.2.2) (mj_sg mj_S2 mt_73 cal Q K 100 0 (mj_a0 0 [.ref 0, .int x1]) [] (I0, J0, mj_R2)) := h
set_option maxRecDepth 100000 in
set_option maxHeartbeats 8000000 in
theorem s73_2 {cal : Nat → List Value → mj_H → mj_R → Prop} {Q : mj_R → Prop} {K : Nat → mj_K} {I0 : Nat → Nat → Int32} {J0 : Nat → Nat → Int64} (x1 : Int32) (x2 : Int32)
    (h : (vp_in (I0 0 12) 2 ∧ ((if (I0 2 (I0 0 12).toNatClampNeg) ≤ x2 then
      (((1 : Int32) = 0 ∨ (1 : Int32) = 1) ∧ Q (.int (1 : Int32), (I0, J0, mj_R2)))
    else
      (vp_in (((4 : Int32) * x1) + x2) 32768 ∧ ((vp_in x2 4 ∧ ((if (I0 29 (((4 : Int32) * x1) + x2).toNatClampNeg) ≤ (I0 32 x2.toNatClampNeg) then
        K 2 [(0, .ref 0), (1, .int x1), (2, .int (x2 + (1 : Int32)))] [] (I0, J0, mj_R2)
      else
        (((0 : Int32) = 0 ∨ (0 : Int32) = 1) ∧ Q (.int (0 : Int32), (I0, J0, mj_R2)))))))))))) :
    mj_go mj_S2 mt_73 cal Q K 2 [(0, .ref 0), (1, .int x1), (2, .int x2)] [] (I0, J0, mj_R2) := h
-- UnbeatenHouseModel.isWorse(I)Z (('c', 0), 'I')
set_option maxRecDepth 100000 in
set_option maxHeartbeats 8000000 in
theorem e74 {cal : Nat → List Value → mj_H → mj_R → Prop} {Q : mj_R → Prop} {K : Nat → mj_K} {I0 : Nat → Nat → Int32} {J0 : Nat → Nat → Int64} (x1 : Int32)
    (h : K 2 [(0, .ref 0), (1, .int x1), (2, .int (0 : Int32))] [] (I0, J0, mj_R2)) :
    mj_if (Nat.ble (mj_sz [.ref 0, .int x1]) mt_74.2.2) (mj_sg mj_S2 mt_74 cal Q K 100 0 (mj_a0 0 [.ref 0, .int x1]) [] (I0, J0, mj_R2)) := h
set_option maxRecDepth 100000 in
set_option maxHeartbeats 8000000 in
theorem s74_2 {cal : Nat → List Value → mj_H → mj_R → Prop} {Q : mj_R → Prop} {K : Nat → mj_K} {I0 : Nat → Nat → Int32} {J0 : Nat → Nat → Int64} (x1 : Int32) (x2 : Int32)
    (h : (vp_in (I0 0 12) 2 ∧ ((if (I0 2 (I0 0 12).toNatClampNeg) ≤ x2 then
      (((1 : Int32) = 0 ∨ (1 : Int32) = 1) ∧ Q (.int (1 : Int32), (I0, J0, mj_R2)))
    else
      (vp_in (((4 : Int32) * x1) + x2) 32768 ∧ ((vp_in x2 4 ∧ ((if (I0 32 x2.toNatClampNeg) ≤ (I0 29 (((4 : Int32) * x1) + x2).toNatClampNeg) then
        K 2 [(0, .ref 0), (1, .int x1), (2, .int (x2 + (1 : Int32)))] [] (I0, J0, mj_R2)
      else
        (((0 : Int32) = 0 ∨ (0 : Int32) = 1) ∧ Q (.int (0 : Int32), (I0, J0, mj_R2)))))))))))) :
    mj_go mj_S2 mt_74 cal Q K 2 [(0, .ref 0), (1, .int x1), (2, .int x2)] [] (I0, J0, mj_R2) := h
-- UnbeatenHouseModel.lays(II)V (('c', 0), 'I', 'I')
set_option maxRecDepth 100000 in
set_option maxHeartbeats 8000000 in
theorem e75 {cal : Nat → List Value → mj_H → mj_R → Prop} {Q : mj_R → Prop} {K : Nat → mj_K} {I0 : Nat → Nat → Int32} {J0 : Nat → Nat → Int64} (x1 : Int32) (x2 : Int32)
    (h : K 2 [(0, .ref 0), (1, .int x1), (2, .int x2), (3, .int (0 : Int32))] [] (I0, J0, mj_R2)) :
    mj_if (Nat.ble (mj_sz [.ref 0, .int x1, .int x2]) mt_75.2.2) (mj_sg mj_S2 mt_75 cal Q K 100 0 (mj_a0 0 [.ref 0, .int x1, .int x2]) [] (I0, J0, mj_R2)) := h
set_option maxRecDepth 100000 in
set_option maxHeartbeats 8000000 in
theorem s75_2 {cal : Nat → List Value → mj_H → mj_R → Prop} {Q : mj_R → Prop} {K : Nat → mj_K} {I0 : Nat → Nat → Int32} {J0 : Nat → Nat → Int64} (x1 : Int32) (x2 : Int32) (x3 : Int32)
    (h : (if (4 : Int32) ≤ x3 then
      (vp_in x2 8192 ∧ ((vp_in x1 8192 ∧ (K 47 [(0, .ref 0), (1, .int x1), (2, .int x2), (3, .int (0 : Int32))] [] ((mj_up I0 30 x1.toNatClampNeg (I0 30 x2.toNatClampNeg)), J0, mj_R2)))))
    else
      (vp_in (((4 : Int32) * x2) + x3) 32768 ∧ ((vp_in (((4 : Int32) * x1) + x3) 32768 ∧ (K 2 [(0, .ref 0), (1, .int x1), (2, .int x2), (3, .int (x3 + (1 : Int32)))] [] ((mj_up I0 29 (((4 : Int32) * x1) + x3).toNatClampNeg (I0 29 (((4 : Int32) * x2) + x3).toNatClampNeg)), J0, mj_R2))))))) :
    mj_go mj_S2 mt_75 cal Q K 2 [(0, .ref 0), (1, .int x1), (2, .int x2), (3, .int x3)] [] (I0, J0, mj_R2) := h
set_option maxRecDepth 100000 in
set_option maxHeartbeats 8000000 in
theorem s75_47 {cal : Nat → List Value → mj_H → mj_R → Prop} {Q : mj_R → Prop} {K : Nat → mj_K} {I0 : Nat → Nat → Int32} {J0 : Nat → Nat → Int64} (x1 : Int32) (x2 : Int32) (x3 : Int32)
    (h : (if (10 : Int32) ≤ x3 then
      Q (.null, (I0, J0, mj_R2))
    else
      (vp_in (((10 : Int32) * x2) + x3) 81920 ∧ ((vp_in (((10 : Int32) * x1) + x3) 81920 ∧ (K 47 [(0, .ref 0), (1, .int x1), (2, .int x2), (3, .int (x3 + (1 : Int32)))] [] ((mj_up I0 31 (((10 : Int32) * x1) + x3).toNatClampNeg (I0 31 (((10 : Int32) * x2) + x3).toNatClampNeg)), J0, mj_R2))))))) :
    mj_go mj_S2 mt_75 cal Q K 47 [(0, .ref 0), (1, .int x1), (2, .int x2), (3, .int x3)] [] (I0, J0, mj_R2) := h
-- UnbeatenHouseModel.sets()V (('c', 0),)
set_option maxRecDepth 100000 in
set_option maxHeartbeats 8000000 in
theorem e76 {cal : Nat → List Value → mj_H → mj_R → Prop} {Q : mj_R → Prop} {K : Nat → mj_K} {I0 : Nat → Nat → Int32} {J0 : Nat → Nat → Int64}
    (h : K 2 [(0, .ref 0), (1, .int (0 : Int32))] [] (I0, J0, mj_R2)) :
    mj_if (Nat.ble (mj_sz [.ref 0]) mt_76.2.2) (mj_sg mj_S2 mt_76 cal Q K 100 0 (mj_a0 0 [.ref 0]) [] (I0, J0, mj_R2)) := h
set_option maxRecDepth 100000 in
set_option maxHeartbeats 8000000 in
theorem s76_2 {cal : Nat → List Value → mj_H → mj_R → Prop} {Q : mj_R → Prop} {K : Nat → mj_K} {I0 : Nat → Nat → Int32} {J0 : Nat → Nat → Int64} (x1 : Int32)
    (h : (vp_in (I0 0 12) 2 ∧ ((if ((1 : Int32) <<< ((I0 6 (I0 0 12).toNatClampNeg) &&& 31)) ≤ x1 then
      Q (.null, (I0, J0, mj_R2))
    else
      K 26 [(0, .ref 0), (1, .int x1), (2, .int (1 : Int32)), (3, .int (0 : Int32))] [] ((mj_up I0 0 56 x1), J0, mj_R2))))) :
    mj_go mj_S2 mt_76 cal Q K 2 [(0, .ref 0), (1, .int x1)] [] (I0, J0, mj_R2) := h
set_option maxRecDepth 100000 in
set_option maxHeartbeats 8000000 in
theorem s76_26 {cal : Nat → List Value → mj_H → mj_R → Prop} {Q : mj_R → Prop} {K : Nat → mj_K} {I0 : Nat → Nat → Int32} {J0 : Nat → Nat → Int64} (x1 : Int32) (x2 : Int32) (x3 : Int32)
    (h : (vp_in (I0 0 12) 2 ∧ ((if (I0 7 (I0 0 12).toNatClampNeg) ≤ x3 then
      K 92 [(0, .ref 0), (1, .int x1), (2, .int x2)] [] (I0, J0, mj_R2)
    else
      (if x2 = 0 then
        K 92 [(0, .ref 0), (1, .int x1), (2, .int x2)] [] (I0, J0, mj_R2)
      else
        (vp_in (((12 : Int32) * (I0 0 12)) + x3) 24 ∧ ((vp_in (((12 : Int32) * (I0 0 12)) + x3) 24 ∧ ((True ∧ ∃ (r1 : Int64) (I1 : Nat → Nat → Int32) (J1 : Nat → Nat → Int64), cal 77 [.ref 0, .int (I0 19 (((12 : Int32) * (I0 0 12)) + x3).toNatClampNeg), .int (I0 20 (((12 : Int32) * (I0 0 12)) + x3).toNatClampNeg)] (I0, J0, mj_R2) (.long r1, (I1, J1, mj_R2)) ∧ ((if (lg_cmp r1 (1 : Int64)) = 0 then
          K 26 [(0, .ref 0), (1, .int x1), (2, .int (1 : Int32)), (3, .int (x3 + (1 : Int32)))] [] (I1, J1, mj_R2)
        else
          K 26 [(0, .ref 0), (1, .int x1), (2, .int (0 : Int32)), (3, .int (x3 + (1 : Int32)))] [] (I1, J1, mj_R2))))))))))))) :
    mj_go mj_S2 mt_76 cal Q K 26 [(0, .ref 0), (1, .int x1), (2, .int x2), (3, .int x3)] [] (I0, J0, mj_R2) := h
set_option maxRecDepth 100000 in
set_option maxHeartbeats 8000000 in
theorem s76_92 {cal : Nat → List Value → mj_H → mj_R → Prop} {Q : mj_R → Prop} {K : Nat → mj_K} {I0 : Nat → Nat → Int32} {J0 : Nat → Nat → Int64} (x1 : Int32) (x2 : Int32)
    (h : (if x2 = 0 then
      K 2 [(0, .ref 0), (1, .int (x1 + (1 : Int32)))] [] (I0, J0, mj_R2)
    else
      K 101 [(0, .ref 0), (1, .int x1), (3, .int (0 : Int32))] [] (I0, J0, mj_R2))) :
    mj_go mj_S2 mt_76 cal Q K 92 [(0, .ref 0), (1, .int x1), (2, .int x2)] [] (I0, J0, mj_R2) := h
set_option maxRecDepth 100000 in
set_option maxHeartbeats 8000000 in
theorem s76_101 {cal : Nat → List Value → mj_H → mj_R → Prop} {Q : mj_R → Prop} {K : Nat → mj_K} {I0 : Nat → Nat → Int32} {J0 : Nat → Nat → Int64} (x1 : Int32) (x3 : Int32)
    (h : (vp_in (I0 0 12) 2 ∧ ((if (I0 2 (I0 0 12).toNatClampNeg) ≤ x3 then
      (True ∧ ∃ (I1 : Nat → Nat → Int32) (J1 : Nat → Nat → Int64), cal 72 [.ref 0, .int x1] (I0, J0, mj_R2) (.null, (I1, J1, mj_R2)) ∧ (K 2 [(0, .ref 0), (1, .int (x1 + (1 : Int32)))] [] (I1, J1, mj_R2)))
    else
      (True ∧ ∃ (r2 : Int32) (I2 : Nat → Nat → Int32) (J2 : Nat → Nat → Int64), cal 79 [.ref 0, .int x3] (I0, J0, mj_R2) (.int r2, (I2, J2, mj_R2)) ∧ ((True ∧ ∃ (r3 : Int32) (I3 : Nat → Nat → Int32) (J3 : Nat → Nat → Int64), cal 58 [.ref 0, .int x3, .int r2] (I2, J2, mj_R2) (.int r3, (I3, J3, mj_R2)) ∧ ((vp_in x3 4 ∧ (K 101 [(0, .ref 0), (1, .int x1), (3, .int (x3 + (1 : Int32)))] [] ((mj_up I3 32 x3.toNatClampNeg r3), J3, mj_R2))))))))))) :
    mj_go mj_S2 mt_76 cal Q K 101 [(0, .ref 0), (1, .int x1), (3, .int x3)] [] (I0, J0, mj_R2) := h
-- UnbeatenHouseModel.works(II)J (('c', 0), 'I', 'I')
set_option maxRecDepth 100000 in
set_option maxHeartbeats 8000000 in
theorem e77 {cal : Nat → List Value → mj_H → mj_R → Prop} {Q : mj_R → Prop} {K : Nat → mj_K} {I0 : Nat → Nat → Int32} {J0 : Nat → Nat → Int64} (x1 : Int32) (x2 : Int32)
    (h : K 14 [(0, .ref 0), (2, .int x2), (3, .int (0 : Int32)), (4, .int (((900 : Int32) * (I0 0 12)) + x1))] [] (I0, J0, mj_R2)) :
    mj_if (Nat.ble (mj_sz [.ref 0, .int x1, .int x2]) mt_77.2.2) (mj_sg mj_S2 mt_77 cal Q K 100 0 (mj_a0 0 [.ref 0, .int x1, .int x2]) [] (I0, J0, mj_R2)) := h
set_option maxRecDepth 100000 in
set_option maxHeartbeats 8000000 in
theorem s77_14 {cal : Nat → List Value → mj_H → mj_R → Prop} {Q : mj_R → Prop} {K : Nat → mj_K} {I0 : Nat → Nat → Int32} {J0 : Nat → Nat → Int64} (x2 : Int32) (x3 : Int32) (x4 : Int32)
    (h : (if (((900 : Int32) * (I0 0 12)) + x2) ≤ x4 then
      (vp_in (0 : Int32) 950 ∧ (Q (.long (J0 36 (0 : Int32).toNatClampNeg), (I0, J0, mj_R2))))
    else
      (vp_in x4 1800 ∧ ((if (4 : Int32) < (I0 21 x4.toNatClampNeg) then
        (if (I0 21 x4.toNatClampNeg) = (16 : Int32) then
          (vp_in (x3 - (1 : Int32)) 950 ∧ ((vp_in (x3 - (1 : Int32)) 950 ∧ (K 14 [(0, .ref 0), (2, .int x2), (3, .int x3), (4, .int (x4 + (1 : Int32)))] [] (I0, (mj_up J0 36 (x3 - (1 : Int32)).toNatClampNeg ((1 : Int64) - (J0 36 (x3 - (1 : Int32)).toNatClampNeg))), mj_R2)))))
        else
          (vp_in ((x3 + (-1 : Int32)) - (1 : Int32)) 950 ∧ ((vp_in (x3 + (-1 : Int32)) 950 ∧ ((True ∧ ∃ (r1 : Int64) (I1 : Nat → Nat → Int32) (J1 : Nat → Nat → Int64), cal 80 [.int (I0 21 x4.toNatClampNeg), .long (J0 36 ((x3 + (-1 : Int32)) - (1 : Int32)).toNatClampNeg), .long (J0 36 (x3 + (-1 : Int32)).toNatClampNeg)] (I0, J0, mj_R2) (.long r1, (I1, J1, mj_R2)) ∧ ((vp_in ((x3 + (-1 : Int32)) - (1 : Int32)) 950 ∧ (K 14 [(0, .ref 0), (2, .int x2), (3, .int (x3 + (-1 : Int32))), (4, .int (x4 + (1 : Int32)))] [] (I1, (mj_up J1 36 ((x3 + (-1 : Int32)) - (1 : Int32)).toNatClampNeg r1), mj_R2))))))))))
      else
        (vp_in x4 1800 ∧ ((True ∧ ∃ (r2 : Int64) (I2 : Nat → Nat → Int32) (J2 : Nat → Nat → Int64), cal 78 [.ref 0, .int (I0 21 x4.toNatClampNeg), .int (I0 22 x4.toNatClampNeg)] (I0, J0, mj_R2) (.long r2, (I2, J2, mj_R2)) ∧ ((vp_in x3 950 ∧ (K 14 [(0, .ref 0), (2, .int x2), (3, .int (x3 + (1 : Int32))), (4, .int (x4 + (1 : Int32)))] [] (I2, (mj_up J2 36 x3.toNatClampNeg r2), mj_R2)))))))))))) :
    mj_go mj_S2 mt_77 cal Q K 14 [(0, .ref 0), (2, .int x2), (3, .int x3), (4, .int x4)] [] (I0, J0, mj_R2) := h
-- UnbeatenHouseModel.leaf(II)J (('c', 0), 'I', 'I')
set_option maxRecDepth 100000 in
set_option maxHeartbeats 8000000 in
theorem e78 {cal : Nat → List Value → mj_H → mj_R → Prop} {Q : mj_R → Prop} {K : Nat → mj_K} {I0 : Nat → Nat → Int32} {J0 : Nat → Nat → Int64} (x1 : Int32) (x2 : Int32)
    (h : (if x1 = (0 : Int32) then
      Q (.long x2.toInt64, (I0, J0, mj_R2))
    else (if x1 = (1 : Int32) then
      (True ∧ ∃ (r1 : Int32) (I1 : Nat → Nat → Int32) (J1 : Nat → Nat → Int64), cal 63 [.long (I0 0 56).toInt64] (I0, J0, mj_R2) (.int r1, (I1, J1, mj_R2)) ∧ (Q (.long r1.toInt64, (I1, J1, mj_R2))))
    else (if x1 = (2 : Int32) then
      (True ∧ ∃ (r2 : Int32) (I2 : Nat → Nat → Int32) (J2 : Nat → Nat → Int64), cal 79 [.ref 0, .int x2] (I0, J0, mj_R2) (.int r2, (I2, J2, mj_R2)) ∧ (Q (.long r2.toInt64, (I2, J2, mj_R2))))
    else (if x1 = (3 : Int32) then
      Q (.long (1 : Int64), (I0, J0, mj_R2))
    else Q (.long (((I0 0 56) >>> (x2 &&& 31)) &&& (1 : Int32)).toInt64, (I0, J0, mj_R2))))))) :
    mj_if (Nat.ble (mj_sz [.ref 0, .int x1, .int x2]) mt_78.2.2) (mj_sg mj_S2 mt_78 cal Q K 100 0 (mj_a0 0 [.ref 0, .int x1, .int x2]) [] (I0, J0, mj_R2)) := h
-- UnbeatenHouseModel.setHas(I)I (('c', 0), 'I')
set_option maxRecDepth 100000 in
set_option maxHeartbeats 8000000 in
theorem e79 {cal : Nat → List Value → mj_H → mj_R → Prop} {Q : mj_R → Prop} {K : Nat → mj_K} {I0 : Nat → Nat → Int32} {J0 : Nat → Nat → Int64} (x1 : Int32)
    (h : K 4 [(0, .ref 0), (1, .int x1), (2, .int (0 : Int32)), (3, .int (0 : Int32))] [] (I0, J0, mj_R2)) :
    mj_if (Nat.ble (mj_sz [.ref 0, .int x1]) mt_79.2.2) (mj_sg mj_S2 mt_79 cal Q K 100 0 (mj_a0 0 [.ref 0, .int x1]) [] (I0, J0, mj_R2)) := h
set_option maxRecDepth 100000 in
set_option maxHeartbeats 8000000 in
theorem s79_4 {cal : Nat → List Value → mj_H → mj_R → Prop} {Q : mj_R → Prop} {K : Nat → mj_K} {I0 : Nat → Nat → Int32} {J0 : Nat → Nat → Int64} (x1 : Int32) (x2 : Int32) (x3 : Int32)
    (h : (vp_in (I0 0 12) 2 ∧ ((if (I0 6 (I0 0 12).toNatClampNeg) ≤ x3 then
      Q (.int x2, (I0, J0, mj_R2))
    else
      (if (((I0 0 56) >>> (x3 &&& 31)) &&& (1 : Int32)) = (1 : Int32) then
        (vp_in (((4 : Int32) * (((12 : Int32) * (I0 0 12)) + x3)) + x1) 96 ∧ (K 4 [(0, .ref 0), (1, .int x1), (2, .int (x2 + (I0 18 (((4 : Int32) * (((12 : Int32) * (I0 0 12)) + x3)) + x1).toNatClampNeg))), (3, .int (x3 + (1 : Int32)))] [] (I0, J0, mj_R2)))
      else
        K 4 [(0, .ref 0), (1, .int x1), (2, .int (x2 + (0 : Int32))), (3, .int (x3 + (1 : Int32)))] [] (I0, J0, mj_R2)))))) :
    mj_go mj_S2 mt_79 cal Q K 4 [(0, .ref 0), (1, .int x1), (2, .int x2), (3, .int x3)] [] (I0, J0, mj_R2) := h
-- UnbeatenHouseModel.two(IJJ)J ('I', 'J', 'J')
set_option maxRecDepth 100000 in
set_option maxHeartbeats 8000000 in
theorem e80 {cal : Nat → List Value → mj_H → mj_R → Prop} {Q : mj_R → Prop} {K : Nat → mj_K} {I0 : Nat → Nat → Int32} {J0 : Nat → Nat → Int64} (x0 : Int32) (x1 : Int64) (x3 : Int64)
    (h : (if x0 = (5 : Int32) then
      (True ∧ ∃ (r1 : Int64) (I1 : Nat → Nat → Int32) (J1 : Nat → Nat → Int64), cal 81 [.long (x1 + x3)] (I0, J0, mj_R2) (.long r1, (I1, J1, mj_R2)) ∧ (Q (.long r1, (I1, J1, mj_R2))))
    else (if x0 = (6 : Int32) then
      (True ∧ ∃ (r2 : Int64) (I2 : Nat → Nat → Int32) (J2 : Nat → Nat → Int64), cal 81 [.long (x1 - x3)] (I0, J0, mj_R2) (.long r2, (I2, J2, mj_R2)) ∧ (Q (.long r2, (I2, J2, mj_R2))))
    else (if x0 = (7 : Int32) then
      (True ∧ ∃ (r3 : Int64) (I3 : Nat → Nat → Int32) (J3 : Nat → Nat → Int64), cal 81 [.long (x1 * x3)] (I0, J0, mj_R2) (.long r3, (I3, J3, mj_R2)) ∧ (Q (.long r3, (I3, J3, mj_R2))))
    else (if x0 = (8 : Int32) then
      (True ∧ ∃ (r4 : Int64) (I4 : Nat → Nat → Int32) (J4 : Nat → Nat → Int64), cal 82 [.long x1, .long x3] (I0, J0, mj_R2) (.long r4, (I4, J4, mj_R2)) ∧ (Q (.long r4, (I4, J4, mj_R2))))
    else (if x0 = (9 : Int32) then
      (if (lg_cmp x1 x3) < 0 then
        Q (.long x1, (I0, J0, mj_R2))
      else
        Q (.long x3, (I0, J0, mj_R2)))
    else (if x0 = (10 : Int32) then
      (if (lg_cmp x1 x3) ≤ 0 then
        Q (.long x3, (I0, J0, mj_R2))
      else
        Q (.long x1, (I0, J0, mj_R2)))
    else (if x0 = (11 : Int32) then
      (if (lg_cmp x1 x3) < 0 then
        Q (.long (1 : Int64), (I0, J0, mj_R2))
      else
        Q (.long (0 : Int64), (I0, J0, mj_R2)))
    else (if x0 = (12 : Int32) then
      (if (lg_cmp x1 x3) ≤ 0 then
        Q (.long (0 : Int64), (I0, J0, mj_R2))
      else
        Q (.long (1 : Int64), (I0, J0, mj_R2)))
    else (if x0 = (13 : Int32) then
      (if (lg_cmp x1 x3) = 0 then
        Q (.long (1 : Int64), (I0, J0, mj_R2))
      else
        Q (.long (0 : Int64), (I0, J0, mj_R2)))
    else (if x0 = (14 : Int32) then
      Q (.long (x1 * x3), (I0, J0, mj_R2))
    else (if (lg_cmp (x1 + x3) (0 : Int64)) ≤ 0 then
        Q (.long (0 : Int64), (I0, J0, mj_R2))
      else
        Q (.long (1 : Int64), (I0, J0, mj_R2)))))))))))))) :
    mj_if (Nat.ble (mj_sz [.int x0, .long x1, .long x3]) mt_80.2.2) (mj_sg mj_S2 mt_80 cal Q K 100 0 (mj_a0 0 [.int x0, .long x1, .long x3]) [] (I0, J0, mj_R2)) := h
-- UnbeatenHouseModel.held(J)J ('J',)
set_option maxRecDepth 100000 in
set_option maxHeartbeats 8000000 in
theorem e81 {cal : Nat → List Value → mj_H → mj_R → Prop} {Q : mj_R → Prop} {K : Nat → mj_K} {I0 : Nat → Nat → Int32} {J0 : Nat → Nat → Int64} (x0 : Int64)
    (h : (if (lg_cmp x0 (1000000000 : Int64)) ≤ 0 then
      (if (lg_cmp x0 (-1000000000 : Int64)) < 0 then
        Q (.long (-1000000000 : Int64), (I0, J0, mj_R2))
      else
        Q (.long x0, (I0, J0, mj_R2)))
    else
      Q (.long (1000000000 : Int64), (I0, J0, mj_R2)))) :
    mj_if (Nat.ble (mj_sz [.long x0]) mt_81.2.2) (mj_sg mj_S2 mt_81 cal Q K 100 0 (mj_a0 0 [.long x0]) [] (I0, J0, mj_R2)) := h
-- UnbeatenHouseModel.over(JJ)J ('J', 'J')
set_option maxRecDepth 100000 in
set_option maxHeartbeats 8000000 in
theorem e82 {cal : Nat → List Value → mj_H → mj_R → Prop} {Q : mj_R → Prop} {K : Nat → mj_K} {I0 : Nat → Nat → Int32} {J0 : Nat → Nat → Int64} (x0 : Int64) (x2 : Int64)
    (h : (if (lg_cmp x2 (0 : Int64)) = 0 then
      Q (.long (0 : Int64), (I0, J0, mj_R2))
    else
      (¬ x2 = 0 ∧ ((¬ x2 = 0 ∧ ((if (lg_cmp (x0 - x0 / x2 * x2) (0 : Int64)) = 0 then
        Q (.long (x0 / x2), (I0, J0, mj_R2))
      else
        (if (lg_cmp x0 (0 : Int64)) < 0 then
          (if (lg_cmp x2 (0 : Int64)) < 0 then
            Q (.long (x0 / x2), (I0, J0, mj_R2))
          else
            Q (.long ((x0 / x2) - (1 : Int64)), (I0, J0, mj_R2)))
        else
          (if (lg_cmp x2 (0 : Int64)) < 0 then
            Q (.long ((x0 / x2) - (1 : Int64)), (I0, J0, mj_R2))
          else
            Q (.long (x0 / x2), (I0, J0, mj_R2))))))))))) :
    mj_if (Nat.ble (mj_sz [.long x0, .long x2]) mt_82.2.2) (mj_sg mj_S2 mt_82 cal Q K 100 0 (mj_a0 0 [.long x0, .long x2]) [] (I0, J0, mj_R2)) := h
-- UnbeatenHouseModel.isAhead(II)Z (('c', 0), 'I', 'I')
set_option maxRecDepth 100000 in
set_option maxHeartbeats 8000000 in
theorem e83 {cal : Nat → List Value → mj_H → mj_R → Prop} {Q : mj_R → Prop} {K : Nat → mj_K} {I0 : Nat → Nat → Int32} {J0 : Nat → Nat → Int64} (x1 : Int32) (x2 : Int32)
    (h : K 2 [(0, .ref 0), (1, .int x1), (2, .int x2), (3, .int (0 : Int32))] [] (I0, J0, mj_R2)) :
    mj_if (Nat.ble (mj_sz [.ref 0, .int x1, .int x2]) mt_83.2.2) (mj_sg mj_S2 mt_83 cal Q K 100 0 (mj_a0 0 [.ref 0, .int x1, .int x2]) [] (I0, J0, mj_R2)) := h
set_option maxRecDepth 100000 in
set_option maxHeartbeats 8000000 in
theorem s83_2 {cal : Nat → List Value → mj_H → mj_R → Prop} {Q : mj_R → Prop} {K : Nat → mj_K} {I0 : Nat → Nat → Int32} {J0 : Nat → Nat → Int64} (x1 : Int32) (x2 : Int32) (x3 : Int32)
    (h : (vp_in (I0 0 12) 2 ∧ ((if (I0 2 (I0 0 12).toNatClampNeg) ≤ x3 then
      (((0 : Int32) = 0 ∨ (0 : Int32) = 1) ∧ Q (.int (0 : Int32), (I0, J0, mj_R2)))
    else
      (vp_in (((4 : Int32) * x1) + x3) 32768 ∧ ((vp_in (((4 : Int32) * x2) + x3) 32768 ∧ ((if (I0 29 (((4 : Int32) * x1) + x3).toNatClampNeg) = (I0 29 (((4 : Int32) * x2) + x3).toNatClampNeg) then
        K 2 [(0, .ref 0), (1, .int x1), (2, .int x2), (3, .int (x3 + (1 : Int32)))] [] (I0, J0, mj_R2)
      else
        (vp_in (((4 : Int32) * x1) + x3) 32768 ∧ ((vp_in (((4 : Int32) * x2) + x3) 32768 ∧ ((if (I0 29 (((4 : Int32) * x2) + x3).toNatClampNeg) ≤ (I0 29 (((4 : Int32) * x1) + x3).toNatClampNeg) then
          (((0 : Int32) = 0 ∨ (0 : Int32) = 1) ∧ Q (.int (0 : Int32), (I0, J0, mj_R2)))
        else
          (((1 : Int32) = 0 ∨ (1 : Int32) = 1) ∧ Q (.int (1 : Int32), (I0, J0, mj_R2))))))))))))))))) :
    mj_go mj_S2 mt_83 cal Q K 2 [(0, .ref 0), (1, .int x1), (2, .int x2), (3, .int x3)] [] (I0, J0, mj_R2) := h
-- UnbeatenHouseModel.loss(II)I (('c', 0), 'I', 'I')
set_option maxRecDepth 100000 in
set_option maxHeartbeats 8000000 in
theorem e84 {cal : Nat → List Value → mj_H → mj_R → Prop} {Q : mj_R → Prop} {K : Nat → mj_K} {I0 : Nat → Nat → Int32} {J0 : Nat → Nat → Int64} (x1 : Int32) (x2 : Int32)
    (h : (True ∧ ∃ (r1 : Int32) (I1 : Nat → Nat → Int32) (J1 : Nat → Nat → Int64), cal 85 [.ref 0, .int x1] (I0, J0, mj_R2) (.int r1, (I1, J1, mj_R2)) ∧ ((if r1 = 0 then
      Q (.int (-2000000000 : Int32), (I1, J1, mj_R2))
    else
      (True ∧ ∃ (r2 : Int32) (I2 : Nat → Nat → Int32) (J2 : Nat → Nat → Int64), cal 48 [.ref 0, .int x2] (I1, J1, mj_R2) (.int r2, (I2, J2, mj_R2)) ∧ ((if r2 = 0 then
        Q (.int (-2000000000 : Int32), (I2, J2, mj_R2))
      else
        (vp_in (((4 : Int32) * x1) + x2) 400 ∧ (Q (.int (I2 37 (((4 : Int32) * x1) + x2).toNatClampNeg), (I2, J2, mj_R2))))))))))) :
    mj_if (Nat.ble (mj_sz [.ref 0, .int x1, .int x2]) mt_84.2.2) (mj_sg mj_S2 mt_84 cal Q K 100 0 (mj_a0 0 [.ref 0, .int x1, .int x2]) [] (I0, J0, mj_R2)) := h
-- UnbeatenHouseModel.isFront(I)Z (('c', 0), 'I')
set_option maxRecDepth 100000 in
set_option maxHeartbeats 8000000 in
theorem e85 {cal : Nat → List Value → mj_H → mj_R → Prop} {Q : mj_R → Prop} {K : Nat → mj_K} {I0 : Nat → Nat → Int32} {J0 : Nat → Nat → Int64} (x1 : Int32)
    (h : (if x1 < 0 then
      (((0 : Int32) = 0 ∨ (0 : Int32) = 1) ∧ Q (.int (0 : Int32), (I0, J0, mj_R2)))
    else
      (if (I0 0 58) ≤ x1 then
        (((0 : Int32) = 0 ∨ (0 : Int32) = 1) ∧ Q (.int (0 : Int32), (I0, J0, mj_R2)))
      else
        (((1 : Int32) = 0 ∨ (1 : Int32) = 1) ∧ Q (.int (1 : Int32), (I0, J0, mj_R2)))))) :
    mj_if (Nat.ble (mj_sz [.ref 0, .int x1]) mt_85.2.2) (mj_sg mj_S2 mt_85 cal Q K 100 0 (mj_a0 0 [.ref 0, .int x1]) [] (I0, J0, mj_R2)) := h
-- UnbeatenHouseModel.who(I)I (('c', 0), 'I')
set_option maxRecDepth 100000 in
set_option maxHeartbeats 8000000 in
theorem e86 {cal : Nat → List Value → mj_H → mj_R → Prop} {Q : mj_R → Prop} {K : Nat → mj_K} {I0 : Nat → Nat → Int32} {J0 : Nat → Nat → Int64} (x1 : Int32)
    (h : (True ∧ ∃ (r1 : Int32) (I1 : Nat → Nat → Int32) (J1 : Nat → Nat → Int64), cal 85 [.ref 0, .int x1] (I0, J0, mj_R2) (.int r1, (I1, J1, mj_R2)) ∧ ((if r1 = 0 then
      Q (.int (-1 : Int32), (I1, J1, mj_R2))
    else
      (vp_in x1 100 ∧ (Q (.int (I1 38 x1.toNatClampNeg), (I1, J1, mj_R2)))))))) :
    mj_if (Nat.ble (mj_sz [.ref 0, .int x1]) mt_86.2.2) (mj_sg mj_S2 mt_86 cal Q K 100 0 (mj_a0 0 [.ref 0, .int x1]) [] (I0, J0, mj_R2)) := h
-- UnbeatenHouseModel.knot(II)I (('c', 0), 'I', 'I')
set_option maxRecDepth 100000 in
set_option maxHeartbeats 8000000 in
theorem e87 {cal : Nat → List Value → mj_H → mj_R → Prop} {Q : mj_R → Prop} {K : Nat → mj_K} {I0 : Nat → Nat → Int32} {J0 : Nat → Nat → Int64} (x1 : Int32) (x2 : Int32)
    (h : (True ∧ ∃ (r1 : Int32) (I1 : Nat → Nat → Int32) (J1 : Nat → Nat → Int64), cal 85 [.ref 0, .int x1] (I0, J0, mj_R2) (.int r1, (I1, J1, mj_R2)) ∧ ((if r1 = 0 then
      Q (.int (-1 : Int32), (I1, J1, mj_R2))
    else
      (if (I1 0 59) = (1 : Int32) then
        (if x2 < 0 then
          Q (.int (-1 : Int32), (I1, J1, mj_R2))
        else
          (vp_in x1 100 ∧ ((if (I1 38 x1.toNatClampNeg) ≤ x2 then
            Q (.int (-1 : Int32), (I1, J1, mj_R2))
          else
            (vp_in (((10 : Int32) * x1) + x2) 1000 ∧ (Q (.int (I1 39 (((10 : Int32) * x1) + x2).toNatClampNeg), (I1, J1, mj_R2))))))))
      else
        Q (.int (-1 : Int32), (I1, J1, mj_R2))))))) :
    mj_if (Nat.ble (mj_sz [.ref 0, .int x1, .int x2]) mt_87.2.2) (mj_sg mj_S2 mt_87 cal Q K 100 0 (mj_a0 0 [.ref 0, .int x1, .int x2]) [] (I0, J0, mj_R2)) := h
-- UnbeatenHouseModel.grid(I)Z (('c', 0), 'I')
set_option maxRecDepth 100000 in
set_option maxHeartbeats 8000000 in
theorem e88 {cal : Nat → List Value → mj_H → mj_R → Prop} {Q : mj_R → Prop} {K : Nat → mj_K} {I0 : Nat → Nat → Int32} {J0 : Nat → Nat → Int64} (x1 : Int32)
    (h : (True ∧ ∃ (r1 : Int32) (I1 : Nat → Nat → Int32) (J1 : Nat → Nat → Int64), cal 49 [.int x1, .int (1 : Int32), .int (12 : Int32)] (I0, J0, mj_R2) (.int r1, (I1, J1, mj_R2)) ∧ ((if r1 = 0 then
      (((0 : Int32) = 0 ∨ (0 : Int32) = 1) ∧ Q (.int (0 : Int32), (I1, J1, mj_R2)))
    else
      (((1 : Int32) = 0 ∨ (1 : Int32) = 1) ∧ Q (.int (1 : Int32), ((mj_up I1 0 63 x1), J1, mj_R2))))))) :
    mj_if (Nat.ble (mj_sz [.ref 0, .int x1]) mt_88.2.2) (mj_sg mj_S2 mt_88 cal Q K 100 0 (mj_a0 0 [.ref 0, .int x1]) [] (I0, J0, mj_R2)) := h
-- UnbeatenHouseModel.corner(I)I (('c', 0), 'I')
set_option maxRecDepth 100000 in
set_option maxHeartbeats 8000000 in
theorem e89 {cal : Nat → List Value → mj_H → mj_R → Prop} {Q : mj_R → Prop} {K : Nat → mj_K} {I0 : Nat → Nat → Int32} {J0 : Nat → Nat → Int64} (x1 : Int32)
    (h : (True ∧ ∃ (r1 : Int32) (I1 : Nat → Nat → Int32) (J1 : Nat → Nat → Int64), cal 85 [.ref 0, .int x1] (I0, J0, mj_R2) (.int r1, (I1, J1, mj_R2)) ∧ ((if r1 = 0 then
      Q (.int (-1 : Int32), (I1, J1, mj_R2))
    else
      K 14 [(0, .ref 0), (1, .int x1), (2, .int (0 : Int32)), (3, .int (0 : Int32))] [] (I1, J1, mj_R2))))) :
    mj_if (Nat.ble (mj_sz [.ref 0, .int x1]) mt_89.2.2) (mj_sg mj_S2 mt_89 cal Q K 100 0 (mj_a0 0 [.ref 0, .int x1]) [] (I0, J0, mj_R2)) := h
set_option maxRecDepth 100000 in
set_option maxHeartbeats 8000000 in
theorem s89_14 {cal : Nat → List Value → mj_H → mj_R → Prop} {Q : mj_R → Prop} {K : Nat → mj_K} {I0 : Nat → Nat → Int32} {J0 : Nat → Nat → Int64} (x1 : Int32) (x2 : Int32) (x3 : Int32)
    (h : (True ∧ ∃ (r1 : Int32) (I1 : Nat → Nat → Int32) (J1 : Nat → Nat → Int64), cal 90 [.ref 0] (I0, J0, mj_R2) (.int r1, (I1, J1, mj_R2)) ∧ ((if r1 ≤ x3 then
      Q (.int x2, (I1, J1, mj_R2))
    else
      (True ∧ ∃ (r2 : Int32) (I2 : Nat → Nat → Int32) (J2 : Nat → Nat → Int64), cal 91 [.ref 0, .int x3] (I1, J1, mj_R2) (.int r2, (I2, J2, mj_R2)) ∧ ((if r2 = 0 then
        K 14 [(0, .ref 0), (1, .int x1), (2, .int (x2 + (0 : Int32))), (3, .int (x3 + (1 : Int32)))] [] (I2, J2, mj_R2)
      else
        (True ∧ ∃ (r3 : Int32) (I3 : Nat → Nat → Int32) (J3 : Nat → Nat → Int64), cal 92 [.ref 0, .int x1] (I2, J2, mj_R2) (.int r3, (I3, J3, mj_R2)) ∧ ((if r3 = 0 then
          K 14 [(0, .ref 0), (1, .int x1), (2, .int (x2 + (0 : Int32))), (3, .int (x3 + (1 : Int32)))] [] (I3, J3, mj_R2)
        else
          K 14 [(0, .ref 0), (1, .int x1), (2, .int (x2 + (1 : Int32))), (3, .int (x3 + (1 : Int32)))] [] (I3, J3, mj_R2))))))))))) :
    mj_go mj_S2 mt_89 cal Q K 14 [(0, .ref 0), (1, .int x1), (2, .int x2), (3, .int x3)] [] (I0, J0, mj_R2) := h
-- UnbeatenHouseModel.numbers()I (('c', 0),)
set_option maxRecDepth 100000 in
set_option maxHeartbeats 8000000 in
theorem e90 {cal : Nat → List Value → mj_H → mj_R → Prop} {Q : mj_R → Prop} {K : Nat → mj_K} {I0 : Nat → Nat → Int32} {J0 : Nat → Nat → Int64}
    (h : K 4 [(0, .ref 0), (1, .int (1 : Int32)), (2, .int (1 : Int32))] [] (I0, J0, mj_R2)) :
    mj_if (Nat.ble (mj_sz [.ref 0]) mt_90.2.2) (mj_sg mj_S2 mt_90 cal Q K 100 0 (mj_a0 0 [.ref 0]) [] (I0, J0, mj_R2)) := h
set_option maxRecDepth 100000 in
set_option maxHeartbeats 8000000 in
theorem s90_4 {cal : Nat → List Value → mj_H → mj_R → Prop} {Q : mj_R → Prop} {K : Nat → mj_K} {I0 : Nat → Nat → Int32} {J0 : Nat → Nat → Int64} (x1 : Int32) (x2 : Int32)
    (h : (vp_in (I0 0 12) 2 ∧ ((if (I0 2 (I0 0 12).toNatClampNeg) ≤ x2 then
      (vp_in (I0 0 12) 2 ∧ ((if (I0 2 (I0 0 12).toNatClampNeg) = 0 then
        Q (.int (0 : Int32), (I0, J0, mj_R2))
      else
        Q (.int x1, (I0, J0, mj_R2)))))
    else
      K 4 [(0, .ref 0), (1, .int (x1 * ((I0 0 63) + (1 : Int32)))), (2, .int (x2 + (1 : Int32)))] [] (I0, J0, mj_R2))))) :
    mj_go mj_S2 mt_90 cal Q K 4 [(0, .ref 0), (1, .int x1), (2, .int x2)] [] (I0, J0, mj_R2) := h
-- UnbeatenHouseModel.isWeighing(I)Z (('c', 0), 'I')
set_option maxRecDepth 100000 in
set_option maxHeartbeats 8000000 in
theorem e91 {cal : Nat → List Value → mj_H → mj_R → Prop} {Q : mj_R → Prop} {K : Nat → mj_K} {I0 : Nat → Nat → Int32} {J0 : Nat → Nat → Int64} (x1 : Int32)
    (h : (vp_in (I0 0 12) 2 ∧ (K 20 [(0, .ref 0), (2, .int x1), (3, .int (I0 0 63)), (4, .int ((I0 2 (I0 0 12).toNatClampNeg) - (2 : Int32)))] [] (I0, J0, mj_R2)))) :
    mj_if (Nat.ble (mj_sz [.ref 0, .int x1]) mt_91.2.2) (mj_sg mj_S2 mt_91 cal Q K 100 0 (mj_a0 0 [.ref 0, .int x1]) [] (I0, J0, mj_R2)) := h
set_option maxRecDepth 100000 in
set_option maxHeartbeats 8000000 in
theorem s91_20 {cal : Nat → List Value → mj_H → mj_R → Prop} {Q : mj_R → Prop} {K : Nat → mj_K} {I0 : Nat → Nat → Int32} {J0 : Nat → Nat → Int64} (x2 : Int32) (x3 : Int32) (x4 : Int32)
    (h : (if x4 < 0 then
      (vp_in (I0 0 12) 2 ∧ ((vp_in ((I0 2 (I0 0 12).toNatClampNeg) - (1 : Int32)) 4 ∧ ((if x3 < 0 then
        (((0 : Int32) = 0 ∨ (0 : Int32) = 1) ∧ Q (.int (0 : Int32), ((mj_up I0 40 ((I0 2 (I0 0 12).toNatClampNeg) - (1 : Int32)).toNatClampNeg x3), J0, mj_R2)))
      else
        (((1 : Int32) = 0 ∨ (1 : Int32) = 1) ∧ Q (.int (1 : Int32), ((mj_up I0 40 ((I0 2 (I0 0 12).toNatClampNeg) - (1 : Int32)).toNatClampNeg x3), J0, mj_R2))))))))
    else
      (¬ ((I0 0 63) + (1 : Int32)) = 0 ∧ ((vp_in x4 4 ∧ ((vp_in x4 4 ∧ ((¬ ((I0 0 63) + (1 : Int32)) = 0 ∧ (K 20 [(0, .ref 0), (2, .int (x2 / ((I0 0 63) + (1 : Int32)))), (3, .int (x3 - ((mj_up I0 40 x4.toNatClampNeg (x2 - x2 / ((I0 0 63) + (1 : Int32)) * ((I0 0 63) + (1 : Int32)))) 40 x4.toNatClampNeg))), (4, .int (x4 + (-1 : Int32)))] [] ((mj_up I0 40 x4.toNatClampNeg (x2 - x2 / ((I0 0 63) + (1 : Int32)) * ((I0 0 63) + (1 : Int32)))), J0, mj_R2))))))))))) :
    mj_go mj_S2 mt_91 cal Q K 20 [(0, .ref 0), (2, .int x2), (3, .int x3), (4, .int x4)] [] (I0, J0, mj_R2) := h
-- UnbeatenHouseModel.isFirst(I)Z (('c', 0), 'I')
set_option maxRecDepth 100000 in
set_option maxHeartbeats 8000000 in
theorem e92 {cal : Nat → List Value → mj_H → mj_R → Prop} {Q : mj_R → Prop} {K : Nat → mj_K} {I0 : Nat → Nat → Int32} {J0 : Nat → Nat → Int64} (x1 : Int32)
    (h : K 2 [(0, .ref 0), (1, .int x1), (2, .int (0 : Int32))] [] (I0, J0, mj_R2)) :
    mj_if (Nat.ble (mj_sz [.ref 0, .int x1]) mt_92.2.2) (mj_sg mj_S2 mt_92 cal Q K 100 0 (mj_a0 0 [.ref 0, .int x1]) [] (I0, J0, mj_R2)) := h
set_option maxRecDepth 100000 in
set_option maxHeartbeats 8000000 in
theorem s92_2 {cal : Nat → List Value → mj_H → mj_R → Prop} {Q : mj_R → Prop} {K : Nat → mj_K} {I0 : Nat → Nat → Int32} {J0 : Nat → Nat → Int64} (x1 : Int32) (x2 : Int32)
    (h : (if (I0 0 58) ≤ x2 then
      (((1 : Int32) = 0 ∨ (1 : Int32) = 1) ∧ Q (.int (1 : Int32), (I0, J0, mj_R2)))
    else
      (True ∧ ∃ (r1 : Int32) (I1 : Nat → Nat → Int32) (J1 : Nat → Nat → Int64), cal 93 [.ref 0, .int x2] (I0, J0, mj_R2) (.int r1, (I1, J1, mj_R2)) ∧ ((True ∧ ∃ (r2 : Int32) (I2 : Nat → Nat → Int32) (J2 : Nat → Nat → Int64), cal 93 [.ref 0, .int x1] (I1, J1, mj_R2) (.int r2, (I2, J2, mj_R2)) ∧ ((if r2 ≤ r1 then
        K 2 [(0, .ref 0), (1, .int x1), (2, .int (x2 + (1 : Int32)))] [] (I2, J2, mj_R2)
      else
        (((0 : Int32) = 0 ∨ (0 : Int32) = 1) ∧ Q (.int (0 : Int32), (I2, J2, mj_R2)))))))))) :
    mj_go mj_S2 mt_92 cal Q K 2 [(0, .ref 0), (1, .int x1), (2, .int x2)] [] (I0, J0, mj_R2) := h
-- UnbeatenHouseModel.worth(I)I (('c', 0), 'I')
set_option maxRecDepth 100000 in
set_option maxHeartbeats 8000000 in
theorem e93 {cal : Nat → List Value → mj_H → mj_R → Prop} {Q : mj_R → Prop} {K : Nat → mj_K} {I0 : Nat → Nat → Int32} {J0 : Nat → Nat → Int64} (x1 : Int32)
    (h : K 4 [(0, .ref 0), (1, .int x1), (2, .int (0 : Int32)), (3, .int (0 : Int32))] [] (I0, J0, mj_R2)) :
    mj_if (Nat.ble (mj_sz [.ref 0, .int x1]) mt_93.2.2) (mj_sg mj_S2 mt_93 cal Q K 100 0 (mj_a0 0 [.ref 0, .int x1]) [] (I0, J0, mj_R2)) := h
set_option maxRecDepth 100000 in
set_option maxHeartbeats 8000000 in
theorem s93_4 {cal : Nat → List Value → mj_H → mj_R → Prop} {Q : mj_R → Prop} {K : Nat → mj_K} {I0 : Nat → Nat → Int32} {J0 : Nat → Nat → Int64} (x1 : Int32) (x2 : Int32) (x3 : Int32)
    (h : (vp_in (I0 0 12) 2 ∧ ((if (I0 2 (I0 0 12).toNatClampNeg) ≤ x3 then
      Q (.int x2, (I0, J0, mj_R2))
    else
      (vp_in x3 4 ∧ ((vp_in (((4 : Int32) * x1) + x3) 400 ∧ (K 4 [(0, .ref 0), (1, .int x1), (2, .int (x2 + ((I0 40 x3.toNatClampNeg) * (I0 37 (((4 : Int32) * x1) + x3).toNatClampNeg)))), (3, .int (x3 + (1 : Int32)))] [] (I0, J0, mj_R2))))))))) :
    mj_go mj_S2 mt_93 cal Q K 4 [(0, .ref 0), (1, .int x1), (2, .int x2), (3, .int x3)] [] (I0, J0, mj_R2) := h
-- UnbeatenHouseModel.weight(II)I (('c', 0), 'I', 'I')
set_option maxRecDepth 100000 in
set_option maxHeartbeats 8000000 in
theorem e94 {cal : Nat → List Value → mj_H → mj_R → Prop} {Q : mj_R → Prop} {K : Nat → mj_K} {I0 : Nat → Nat → Int32} {J0 : Nat → Nat → Int64} (x1 : Int32) (x2 : Int32)
    (h : (True ∧ ∃ (r1 : Int32) (I1 : Nat → Nat → Int32) (J1 : Nat → Nat → Int64), cal 85 [.ref 0, .int x1] (I0, J0, mj_R2) (.int r1, (I1, J1, mj_R2)) ∧ ((if r1 = 0 then
      Q (.int (-1 : Int32), (I1, J1, mj_R2))
    else
      (True ∧ ∃ (r2 : Int32) (I2 : Nat → Nat → Int32) (J2 : Nat → Nat → Int64), cal 48 [.ref 0, .int x2] (I1, J1, mj_R2) (.int r2, (I2, J2, mj_R2)) ∧ ((if r2 = 0 then
        Q (.int (-1 : Int32), (I2, J2, mj_R2))
      else
        K 20 [(0, .ref 0), (1, .int x1), (2, .int x2), (3, .int (0 : Int32))] [] (I2, J2, mj_R2)))))))) :
    mj_if (Nat.ble (mj_sz [.ref 0, .int x1, .int x2]) mt_94.2.2) (mj_sg mj_S2 mt_94 cal Q K 100 0 (mj_a0 0 [.ref 0, .int x1, .int x2]) [] (I0, J0, mj_R2)) := h
set_option maxRecDepth 100000 in
set_option maxHeartbeats 8000000 in
theorem s94_20 {cal : Nat → List Value → mj_H → mj_R → Prop} {Q : mj_R → Prop} {K : Nat → mj_K} {I0 : Nat → Nat → Int32} {J0 : Nat → Nat → Int64} (x1 : Int32) (x2 : Int32) (x3 : Int32)
    (h : (True ∧ ∃ (r1 : Int32) (I1 : Nat → Nat → Int32) (J1 : Nat → Nat → Int64), cal 90 [.ref 0] (I0, J0, mj_R2) (.int r1, (I1, J1, mj_R2)) ∧ ((if r1 ≤ x3 then
      Q (.int (-1 : Int32), (I1, J1, mj_R2))
    else
      (True ∧ ∃ (r2 : Int32) (I2 : Nat → Nat → Int32) (J2 : Nat → Nat → Int64), cal 91 [.ref 0, .int x3] (I1, J1, mj_R2) (.int r2, (I2, J2, mj_R2)) ∧ ((if r2 = 0 then
        K 20 [(0, .ref 0), (1, .int x1), (2, .int x2), (3, .int (x3 + (1 : Int32)))] [] (I2, J2, mj_R2)
      else
        (True ∧ ∃ (r3 : Int32) (I3 : Nat → Nat → Int32) (J3 : Nat → Nat → Int64), cal 92 [.ref 0, .int x1] (I2, J2, mj_R2) (.int r3, (I3, J3, mj_R2)) ∧ ((if r3 = 0 then
          K 20 [(0, .ref 0), (1, .int x1), (2, .int x2), (3, .int (x3 + (1 : Int32)))] [] (I3, J3, mj_R2)
        else
          (vp_in x2 4 ∧ (Q (.int (I3 40 x2.toNatClampNeg), (I3, J3, mj_R2)))))))))))))) :
    mj_go mj_S2 mt_94 cal Q K 20 [(0, .ref 0), (1, .int x1), (2, .int x2), (3, .int x3)] [] (I0, J0, mj_R2) := h
-- UnbeatenHouseModel.near(I)I (('c', 0), 'I')
set_option maxRecDepth 100000 in
set_option maxHeartbeats 8000000 in
theorem e95 {cal : Nat → List Value → mj_H → mj_R → Prop} {Q : mj_R → Prop} {K : Nat → mj_K} {I0 : Nat → Nat → Int32} {J0 : Nat → Nat → Int64} (x1 : Int32)
    (h : (True ∧ ∃ (r1 : Int32) (I1 : Nat → Nat → Int32) (J1 : Nat → Nat → Int64), cal 49 [.int x1, .int (0 : Int32), .int (9999 : Int32)] (I0, J0, mj_R2) (.int r1, (I1, J1, mj_R2)) ∧ ((if r1 = 0 then
      Q (.int (-1 : Int32), (I1, J1, mj_R2))
    else
      (if (I1 0 58) = (-1 : Int32) then
        Q (.int (-1 : Int32), (I1, J1, mj_R2))
      else
        (if (I1 0 58) ≤ (16 : Int32) then
          K 32 [(0, .ref 0), (1, .int x1), (2, .int (0 : Int32))] [] (I1, J1, mj_R2)
        else
          Q (.int (-1 : Int32), (I1, J1, mj_R2)))))))) :
    mj_if (Nat.ble (mj_sz [.ref 0, .int x1]) mt_95.2.2) (mj_sg mj_S2 mt_95 cal Q K 100 0 (mj_a0 0 [.ref 0, .int x1]) [] (I0, J0, mj_R2)) := h
set_option maxRecDepth 100000 in
set_option maxHeartbeats 8000000 in
theorem s95_32 {cal : Nat → List Value → mj_H → mj_R → Prop} {Q : mj_R → Prop} {K : Nat → mj_K} {I0 : Nat → Nat → Int32} {J0 : Nat → Nat → Int64} (x1 : Int32) (x2 : Int32)
    (h : (if (I0 0 58) < x2 then
      Q (.int (-1 : Int32), (I0, J0, mj_R2))
    else
      K 42 [(0, .ref 0), (1, .int x1), (2, .int x2), (3, .int (0 : Int32))] [] (I0, J0, mj_R2))) :
    mj_go mj_S2 mt_95 cal Q K 32 [(0, .ref 0), (1, .int x1), (2, .int x2)] [] (I0, J0, mj_R2) := h
set_option maxRecDepth 100000 in
set_option maxHeartbeats 8000000 in
theorem s95_42 {cal : Nat → List Value → mj_H → mj_R → Prop} {Q : mj_R → Prop} {K : Nat → mj_K} {I0 : Nat → Nat → Int32} {J0 : Nat → Nat → Int64} (x1 : Int32) (x2 : Int32) (x3 : Int32)
    (h : (if x2 ≤ x3 then
      K 62 [(0, .ref 0), (1, .int x1), (2, .int x2), (3, .int (1 : Int32))] [] (I0, J0, mj_R2)
    else
      (vp_in x3 16 ∧ (K 42 [(0, .ref 0), (1, .int x1), (2, .int x2), (3, .int (x3 + (1 : Int32)))] [] ((mj_up I0 42 x3.toNatClampNeg x3), J0, mj_R2))))) :
    mj_go mj_S2 mt_95 cal Q K 42 [(0, .ref 0), (1, .int x1), (2, .int x2), (3, .int x3)] [] (I0, J0, mj_R2) := h
set_option maxRecDepth 100000 in
set_option maxHeartbeats 8000000 in
theorem s95_62 {cal : Nat → List Value → mj_H → mj_R → Prop} {Q : mj_R → Prop} {K : Nat → mj_K} {I0 : Nat → Nat → Int32} {J0 : Nat → Nat → Int64} (x1 : Int32) (x2 : Int32) (x3 : Int32)
    (h : (if x3 = 0 then
      K 32 [(0, .ref 0), (1, .int x1), (2, .int (x2 + (1 : Int32)))] [] (I0, J0, mj_R2)
    else
      (if x2 ≤ 0 then
        (if (I0 0 58) = 0 then
          (True ∧ ∃ (I1 : Nat → Nat → Int32) (J1 : Nat → Nat → Int64), cal 98 [.ref 0, .int x2] (I0, J0, mj_R2) (.null, (I1, J1, mj_R2)) ∧ (Q (.int x2, (I1, J1, mj_R2))))
        else
          K 96 [(0, .ref 0), (1, .int x1), (2, .int x2)] [] (I0, J0, mj_R2))
      else
        (True ∧ ∃ (r2 : Int32) (I2 : Nat → Nat → Int32) (J2 : Nat → Nat → Int64), cal 96 [.ref 0, .int x2] (I0, J0, mj_R2) (.int r2, (I2, J2, mj_R2)) ∧ ((if x1 < r2 then
          K 96 [(0, .ref 0), (1, .int x1), (2, .int x2)] [] (I2, J2, mj_R2)
        else
          (True ∧ ∃ (I3 : Nat → Nat → Int32) (J3 : Nat → Nat → Int64), cal 98 [.ref 0, .int x2] (I2, J2, mj_R2) (.null, (I3, J3, mj_R2)) ∧ (Q (.int x2, (I3, J3, mj_R2)))))))))) :
    mj_go mj_S2 mt_95 cal Q K 62 [(0, .ref 0), (1, .int x1), (2, .int x2), (3, .int x3)] [] (I0, J0, mj_R2) := h
set_option maxRecDepth 100000 in
set_option maxHeartbeats 8000000 in
theorem s95_96 {cal : Nat → List Value → mj_H → mj_R → Prop} {Q : mj_R → Prop} {K : Nat → mj_K} {I0 : Nat → Nat → Int32} {J0 : Nat → Nat → Int64} (x1 : Int32) (x2 : Int32)
    (h : (if x2 ≤ 0 then
      K 62 [(0, .ref 0), (1, .int x1), (2, .int x2), (3, .int (0 : Int32))] [] (I0, J0, mj_R2)
    else
      (True ∧ ∃ (r1 : Int32) (I1 : Nat → Nat → Int32) (J1 : Nat → Nat → Int64), cal 99 [.ref 0, .int x2] (I0, J0, mj_R2) (.int r1, (I1, J1, mj_R2)) ∧ ((if r1 = 0 then
        K 62 [(0, .ref 0), (1, .int x1), (2, .int x2), (3, .int (0 : Int32))] [] (I1, J1, mj_R2)
      else
        K 62 [(0, .ref 0), (1, .int x1), (2, .int x2), (3, .int (1 : Int32))] [] (I1, J1, mj_R2)))))) :
    mj_go mj_S2 mt_95 cal Q K 96 [(0, .ref 0), (1, .int x1), (2, .int x2)] [] (I0, J0, mj_R2) := h
-- UnbeatenHouseModel.apart(I)I (('c', 0), 'I')
set_option maxRecDepth 100000 in
set_option maxHeartbeats 8000000 in
theorem e96 {cal : Nat → List Value → mj_H → mj_R → Prop} {Q : mj_R → Prop} {K : Nat → mj_K} {I0 : Nat → Nat → Int32} {J0 : Nat → Nat → Int64} (x1 : Int32)
    (h : K 4 [(0, .ref 0), (1, .int x1), (2, .int (0 : Int32)), (3, .int (0 : Int32))] [] (I0, J0, mj_R2)) :
    mj_if (Nat.ble (mj_sz [.ref 0, .int x1]) mt_96.2.2) (mj_sg mj_S2 mt_96 cal Q K 100 0 (mj_a0 0 [.ref 0, .int x1]) [] (I0, J0, mj_R2)) := h
set_option maxRecDepth 100000 in
set_option maxHeartbeats 8000000 in
theorem s96_4 {cal : Nat → List Value → mj_H → mj_R → Prop} {Q : mj_R → Prop} {K : Nat → mj_K} {I0 : Nat → Nat → Int32} {J0 : Nat → Nat → Int64} (x1 : Int32) (x2 : Int32) (x3 : Int32)
    (h : (if (I0 0 58) ≤ x3 then
      Q (.int x2, (I0, J0, mj_R2))
    else
      K 18 [(0, .ref 0), (1, .int x1), (2, .int x2), (3, .int x3), (4, .int (-1 : Int32)), (5, .int (0 : Int32))] [] (I0, J0, mj_R2))) :
    mj_go mj_S2 mt_96 cal Q K 4 [(0, .ref 0), (1, .int x1), (2, .int x2), (3, .int x3)] [] (I0, J0, mj_R2) := h
set_option maxRecDepth 100000 in
set_option maxHeartbeats 8000000 in
theorem s96_18 {cal : Nat → List Value → mj_H → mj_R → Prop} {Q : mj_R → Prop} {K : Nat → mj_K} {I0 : Nat → Nat → Int32} {J0 : Nat → Nat → Int64} (x1 : Int32) (x2 : Int32) (x3 : Int32) (x4 : Int32) (x5 : Int32)
    (h : (if x1 ≤ x5 then
      (if x4 ≤ x2 then
        K 4 [(0, .ref 0), (1, .int x1), (2, .int x2), (3, .int (x3 + (1 : Int32)))] [] (I0, J0, mj_R2)
      else
        K 4 [(0, .ref 0), (1, .int x1), (2, .int x4), (3, .int (x3 + (1 : Int32)))] [] (I0, J0, mj_R2))
    else
      (if x4 = (-1 : Int32) then
        K 47 [(0, .ref 0), (1, .int x1), (2, .int x2), (3, .int x3), (5, .int x5)] [] (I0, J0, mj_R2)
      else
        (vp_in x5 16 ∧ ((True ∧ ∃ (r1 : Int32) (I1 : Nat → Nat → Int32) (J1 : Nat → Nat → Int64), cal 97 [.ref 0, .int (I0 42 x5.toNatClampNeg), .int x3] (I0, J0, mj_R2) (.int r1, (I1, J1, mj_R2)) ∧ ((if x4 ≤ r1 then
          K 18 [(0, .ref 0), (1, .int x1), (2, .int x2), (3, .int x3), (4, .int x4), (5, .int (x5 + (1 : Int32)))] [] (I1, J1, mj_R2)
        else
          K 47 [(0, .ref 0), (1, .int x1), (2, .int x2), (3, .int x3), (5, .int x5)] [] (I1, J1, mj_R2))))))))) :
    mj_go mj_S2 mt_96 cal Q K 18 [(0, .ref 0), (1, .int x1), (2, .int x2), (3, .int x3), (4, .int x4), (5, .int x5)] [] (I0, J0, mj_R2) := h
set_option maxRecDepth 100000 in
set_option maxHeartbeats 8000000 in
theorem s96_47 {cal : Nat → List Value → mj_H → mj_R → Prop} {Q : mj_R → Prop} {K : Nat → mj_K} {I0 : Nat → Nat → Int32} {J0 : Nat → Nat → Int64} (x1 : Int32) (x2 : Int32) (x3 : Int32) (x5 : Int32)
    (h : (vp_in x5 16 ∧ ((True ∧ ∃ (r1 : Int32) (I1 : Nat → Nat → Int32) (J1 : Nat → Nat → Int64), cal 97 [.ref 0, .int (I0 42 x5.toNatClampNeg), .int x3] (I0, J0, mj_R2) (.int r1, (I1, J1, mj_R2)) ∧ (K 18 [(0, .ref 0), (1, .int x1), (2, .int x2), (3, .int x3), (4, .int r1), (5, .int (x5 + (1 : Int32)))] [] (I1, J1, mj_R2)))))) :
    mj_go mj_S2 mt_96 cal Q K 47 [(0, .ref 0), (1, .int x1), (2, .int x2), (3, .int x3), (5, .int x5)] [] (I0, J0, mj_R2) := h
-- UnbeatenHouseModel.more(II)I (('c', 0), 'I', 'I')
set_option maxRecDepth 100000 in
set_option maxHeartbeats 8000000 in
theorem e97 {cal : Nat → List Value → mj_H → mj_R → Prop} {Q : mj_R → Prop} {K : Nat → mj_K} {I0 : Nat → Nat → Int32} {J0 : Nat → Nat → Int64} (x1 : Int32) (x2 : Int32)
    (h : K 5 [(0, .ref 0), (1, .int x1), (2, .int x2), (3, .int (0 : Int32)), (4, .int (0 : Int32))] [] (I0, J0, mj_R2)) :
    mj_if (Nat.ble (mj_sz [.ref 0, .int x1, .int x2]) mt_97.2.2) (mj_sg mj_S2 mt_97 cal Q K 100 0 (mj_a0 0 [.ref 0, .int x1, .int x2]) [] (I0, J0, mj_R2)) := h
set_option maxRecDepth 100000 in
set_option maxHeartbeats 8000000 in
theorem s97_5 {cal : Nat → List Value → mj_H → mj_R → Prop} {Q : mj_R → Prop} {K : Nat → mj_K} {I0 : Nat → Nat → Int32} {J0 : Nat → Nat → Int64} (x1 : Int32) (x2 : Int32) (x3 : Int32) (x4 : Int32)
    (h : (vp_in (I0 0 12) 2 ∧ ((if (I0 2 (I0 0 12).toNatClampNeg) ≤ x4 then
      Q (.int x3, (I0, J0, mj_R2))
    else
      (vp_in (((4 : Int32) * x1) + x4) 400 ∧ ((vp_in (((4 : Int32) * x2) + x4) 400 ∧ ((if ((I0 37 (((4 : Int32) * x1) + x4).toNatClampNeg) - (I0 37 (((4 : Int32) * x2) + x4).toNatClampNeg)) ≤ x3 then
        K 5 [(0, .ref 0), (1, .int x1), (2, .int x2), (3, .int x3), (4, .int (x4 + (1 : Int32)))] [] (I0, J0, mj_R2)
      else
        (vp_in (((4 : Int32) * x1) + x4) 400 ∧ ((vp_in (((4 : Int32) * x2) + x4) 400 ∧ (K 5 [(0, .ref 0), (1, .int x1), (2, .int x2), (3, .int ((I0 37 (((4 : Int32) * x1) + x4).toNatClampNeg) - (I0 37 (((4 : Int32) * x2) + x4).toNatClampNeg))), (4, .int (x4 + (1 : Int32)))] [] (I0, J0, mj_R2)))))))))))))) :
    mj_go mj_S2 mt_97 cal Q K 5 [(0, .ref 0), (1, .int x1), (2, .int x2), (3, .int x3), (4, .int x4)] [] (I0, J0, mj_R2) := h
-- UnbeatenHouseModel.keeps(I)V (('c', 0), 'I')
set_option maxRecDepth 100000 in
set_option maxHeartbeats 8000000 in
theorem e98 {cal : Nat → List Value → mj_H → mj_R → Prop} {Q : mj_R → Prop} {K : Nat → mj_K} {I0 : Nat → Nat → Int32} {J0 : Nat → Nat → Int64} (x1 : Int32)
    (h : K 7 [(0, .ref 0), (1, .int x1), (2, .int (0 : Int32))] [] ((mj_up I0 0 65 x1), J0, mj_R2)) :
    mj_if (Nat.ble (mj_sz [.ref 0, .int x1]) mt_98.2.2) (mj_sg mj_S2 mt_98 cal Q K 100 0 (mj_a0 0 [.ref 0, .int x1]) [] (I0, J0, mj_R2)) := h
set_option maxRecDepth 100000 in
set_option maxHeartbeats 8000000 in
theorem s98_7 {cal : Nat → List Value → mj_H → mj_R → Prop} {Q : mj_R → Prop} {K : Nat → mj_K} {I0 : Nat → Nat → Int32} {J0 : Nat → Nat → Int64} (x1 : Int32) (x2 : Int32)
    (h : (if x1 ≤ x2 then
      Q (.null, (I0, J0, mj_R2))
    else
      (vp_in x2 16 ∧ ((vp_in x2 16 ∧ (K 7 [(0, .ref 0), (1, .int x1), (2, .int (x2 + (1 : Int32)))] [] ((mj_up I0 41 x2.toNatClampNeg (I0 42 x2.toNatClampNeg)), J0, mj_R2))))))) :
    mj_go mj_S2 mt_98 cal Q K 7 [(0, .ref 0), (1, .int x1), (2, .int x2)] [] (I0, J0, mj_R2) := h
-- UnbeatenHouseModel.nextPick(I)Z (('c', 0), 'I')
set_option maxRecDepth 100000 in
set_option maxHeartbeats 8000000 in
theorem e99 {cal : Nat → List Value → mj_H → mj_R → Prop} {Q : mj_R → Prop} {K : Nat → mj_K} {I0 : Nat → Nat → Int32} {J0 : Nat → Nat → Int64} (x1 : Int32)
    (h : K 4 [(0, .ref 0), (1, .int x1), (2, .int (x1 - (1 : Int32)))] [] (I0, J0, mj_R2)) :
    mj_if (Nat.ble (mj_sz [.ref 0, .int x1]) mt_99.2.2) (mj_sg mj_S2 mt_99 cal Q K 100 0 (mj_a0 0 [.ref 0, .int x1]) [] (I0, J0, mj_R2)) := h
set_option maxRecDepth 100000 in
set_option maxHeartbeats 8000000 in
theorem s99_4 {cal : Nat → List Value → mj_H → mj_R → Prop} {Q : mj_R → Prop} {K : Nat → mj_K} {I0 : Nat → Nat → Int32} {J0 : Nat → Nat → Int64} (x1 : Int32) (x2 : Int32)
    (h : (if x2 < 0 then
      K 31 [(0, .ref 0), (1, .int x1), (2, .int x2)] [] (I0, J0, mj_R2)
    else
      (vp_in x2 16 ∧ ((if (I0 42 x2.toNatClampNeg) = (((I0 0 58) - x1) + x2) then
        K 4 [(0, .ref 0), (1, .int x1), (2, .int (x2 + (-1 : Int32)))] [] (I0, J0, mj_R2)
      else
        K 31 [(0, .ref 0), (1, .int x1), (2, .int x2)] [] (I0, J0, mj_R2)))))) :
    mj_go mj_S2 mt_99 cal Q K 4 [(0, .ref 0), (1, .int x1), (2, .int x2)] [] (I0, J0, mj_R2) := h
set_option maxRecDepth 100000 in
set_option maxHeartbeats 8000000 in
theorem s99_31 {cal : Nat → List Value → mj_H → mj_R → Prop} {Q : mj_R → Prop} {K : Nat → mj_K} {I0 : Nat → Nat → Int32} {J0 : Nat → Nat → Int64} (x1 : Int32) (x2 : Int32)
    (h : (if x2 < 0 then
      (((0 : Int32) = 0 ∨ (0 : Int32) = 1) ∧ Q (.int (0 : Int32), (I0, J0, mj_R2)))
    else
      (vp_in x2 16 ∧ ((vp_in x2 16 ∧ (K 51 [(0, .ref 0), (1, .int x1), (3, .int (x2 + (1 : Int32)))] [] ((mj_up I0 42 x2.toNatClampNeg ((I0 42 x2.toNatClampNeg) + (1 : Int32))), J0, mj_R2))))))) :
    mj_go mj_S2 mt_99 cal Q K 31 [(0, .ref 0), (1, .int x1), (2, .int x2)] [] (I0, J0, mj_R2) := h
set_option maxRecDepth 100000 in
set_option maxHeartbeats 8000000 in
theorem s99_51 {cal : Nat → List Value → mj_H → mj_R → Prop} {Q : mj_R → Prop} {K : Nat → mj_K} {I0 : Nat → Nat → Int32} {J0 : Nat → Nat → Int64} (x1 : Int32) (x3 : Int32)
    (h : (if x1 ≤ x3 then
      (((1 : Int32) = 0 ∨ (1 : Int32) = 1) ∧ Q (.int (1 : Int32), (I0, J0, mj_R2)))
    else
      (vp_in (x3 - (1 : Int32)) 16 ∧ ((vp_in x3 16 ∧ (K 51 [(0, .ref 0), (1, .int x1), (3, .int (x3 + (1 : Int32)))] [] ((mj_up I0 42 x3.toNatClampNeg ((I0 42 (x3 - (1 : Int32)).toNatClampNeg) + (1 : Int32))), J0, mj_R2))))))) :
    mj_go mj_S2 mt_99 cal Q K 51 [(0, .ref 0), (1, .int x1), (3, .int x3)] [] (I0, J0, mj_R2) := h
-- UnbeatenHouseModel.standIns(I)I (('c', 0), 'I')
set_option maxRecDepth 100000 in
set_option maxHeartbeats 8000000 in
theorem e100 {cal : Nat → List Value → mj_H → mj_R → Prop} {Q : mj_R → Prop} {K : Nat → mj_K} {I0 : Nat → Nat → Int32} {J0 : Nat → Nat → Int64} (x1 : Int32)
    (h : (True ∧ ∃ (r1 : Int32) (I1 : Nat → Nat → Int32) (J1 : Nat → Nat → Int64), cal 49 [.int x1, .int (1 : Int32), .int (4 : Int32)] (I0, J0, mj_R2) (.int r1, (I1, J1, mj_R2)) ∧ ((if r1 = 0 then
      Q (.int (-1 : Int32), (I1, J1, mj_R2))
    else
      (if (I1 0 58) < x1 then
        Q (.int (-1 : Int32), (I1, J1, mj_R2))
      else
        (if (I1 0 58) ≤ (24 : Int32) then
          K 30 [(0, .ref 0), (1, .int x1), (2, .int (0 : Int32))] [] (I1, J1, mj_R2)
        else
          Q (.int (-1 : Int32), (I1, J1, mj_R2)))))))) :
    mj_if (Nat.ble (mj_sz [.ref 0, .int x1]) mt_100.2.2) (mj_sg mj_S2 mt_100 cal Q K 100 0 (mj_a0 0 [.ref 0, .int x1]) [] (I0, J0, mj_R2)) := h
set_option maxRecDepth 100000 in
set_option maxHeartbeats 8000000 in
theorem s100_30 {cal : Nat → List Value → mj_H → mj_R → Prop} {Q : mj_R → Prop} {K : Nat → mj_K} {I0 : Nat → Nat → Int32} {J0 : Nat → Nat → Int64} (x1 : Int32) (x2 : Int32)
    (h : (if x1 ≤ x2 then
      K 52 [(0, .ref 0), (1, .int x1), (2, .int (-1 : Int32)), (3, .int (1 : Int32))] [] (I0, J0, mj_R2)
    else
      (vp_in x2 16 ∧ (K 30 [(0, .ref 0), (1, .int x1), (2, .int (x2 + (1 : Int32)))] [] ((mj_up I0 42 x2.toNatClampNeg x2), J0, mj_R2))))) :
    mj_go mj_S2 mt_100 cal Q K 30 [(0, .ref 0), (1, .int x1), (2, .int x2)] [] (I0, J0, mj_R2) := h
set_option maxRecDepth 100000 in
set_option maxHeartbeats 8000000 in
theorem s100_52 {cal : Nat → List Value → mj_H → mj_R → Prop} {Q : mj_R → Prop} {K : Nat → mj_K} {I0 : Nat → Nat → Int32} {J0 : Nat → Nat → Int64} (x1 : Int32) (x2 : Int32) (x3 : Int32)
    (h : (if x3 = 0 then
      Q (.int x2, (I0, J0, mj_R2))
    else
      (True ∧ ∃ (r1 : Int32) (I1 : Nat → Nat → Int32) (J1 : Nat → Nat → Int64), cal 96 [.ref 0, .int x1] (I0, J0, mj_R2) (.int r1, (I1, J1, mj_R2)) ∧ ((if x2 = (-1 : Int32) then
        K 74 [(0, .ref 0), (1, .int x1), (4, .int r1)] [] (I1, J1, mj_R2)
      else
        (if x2 ≤ r1 then
          (True ∧ ∃ (r2 : Int32) (I2 : Nat → Nat → Int32) (J2 : Nat → Nat → Int64), cal 99 [.ref 0, .int x1] (I1, J1, mj_R2) (.int r2, (I2, J2, mj_R2)) ∧ (K 52 [(0, .ref 0), (1, .int x1), (2, .int x2), (3, .int r2)] [] (I2, J2, mj_R2)))
        else
          K 74 [(0, .ref 0), (1, .int x1), (4, .int r1)] [] (I1, J1, mj_R2))))))) :
    mj_go mj_S2 mt_100 cal Q K 52 [(0, .ref 0), (1, .int x1), (2, .int x2), (3, .int x3)] [] (I0, J0, mj_R2) := h
set_option maxRecDepth 100000 in
set_option maxHeartbeats 8000000 in
theorem s100_74 {cal : Nat → List Value → mj_H → mj_R → Prop} {Q : mj_R → Prop} {K : Nat → mj_K} {I0 : Nat → Nat → Int32} {J0 : Nat → Nat → Int64} (x1 : Int32) (x4 : Int32)
    (h : (True ∧ ∃ (I1 : Nat → Nat → Int32) (J1 : Nat → Nat → Int64), cal 98 [.ref 0, .int x1] (I0, J0, mj_R2) (.null, (I1, J1, mj_R2)) ∧ ((True ∧ ∃ (r2 : Int32) (I2 : Nat → Nat → Int32) (J2 : Nat → Nat → Int64), cal 99 [.ref 0, .int x1] (I1, J1, mj_R2) (.int r2, (I2, J2, mj_R2)) ∧ (K 52 [(0, .ref 0), (1, .int x1), (2, .int x4), (3, .int r2)] [] (I2, J2, mj_R2)))))) :
    mj_go mj_S2 mt_100 cal Q K 74 [(0, .ref 0), (1, .int x1), (4, .int x4)] [] (I0, J0, mj_R2) := h
-- UnbeatenHouseModel.kept(I)I (('c', 0), 'I')
set_option maxRecDepth 100000 in
set_option maxHeartbeats 8000000 in
theorem e101 {cal : Nat → List Value → mj_H → mj_R → Prop} {Q : mj_R → Prop} {K : Nat → mj_K} {I0 : Nat → Nat → Int32} {J0 : Nat → Nat → Int64} (x1 : Int32)
    (h : (if x1 < 0 then
      Q (.int (-1 : Int32), (I0, J0, mj_R2))
    else
      (if (I0 0 65) ≤ x1 then
        Q (.int (-1 : Int32), (I0, J0, mj_R2))
      else
        (vp_in x1 16 ∧ (Q (.int (I0 41 x1.toNatClampNeg), (I0, J0, mj_R2))))))) :
    mj_if (Nat.ble (mj_sz [.ref 0, .int x1]) mt_101.2.2) (mj_sg mj_S2 mt_101 cal Q K 100 0 (mj_a0 0 [.ref 0, .int x1]) [] (I0, J0, mj_R2)) := h
-- UnbeatenHouseModel.cost(IIIZ)I (('c', 0), 'I', 'I', 'I', 'I')
set_option maxRecDepth 100000 in
set_option maxHeartbeats 8000000 in
theorem e102 {cal : Nat → List Value → mj_H → mj_R → Prop} {Q : mj_R → Prop} {K : Nat → mj_K} {I0 : Nat → Nat → Int32} {J0 : Nat → Nat → Int64} (x1 : Int32) (x2 : Int32) (x3 : Int32) (x4 : Int32)
    (h : (True ∧ ∃ (r1 : Int32) (I1 : Nat → Nat → Int32) (J1 : Nat → Nat → Int64), cal 85 [.ref 0, .int x1] (I0, J0, mj_R2) (.int r1, (I1, J1, mj_R2)) ∧ ((if r1 = 0 then
      Q (.int (-1 : Int32), (I1, J1, mj_R2))
    else
      (True ∧ ∃ (r2 : Int32) (I2 : Nat → Nat → Int32) (J2 : Nat → Nat → Int64), cal 48 [.ref 0, .int x2] (I1, J1, mj_R2) (.int r2, (I2, J2, mj_R2)) ∧ ((if r2 = 0 then
        Q (.int (-1 : Int32), (I2, J2, mj_R2))
      else
        (True ∧ ∃ (r3 : Int32) (I3 : Nat → Nat → Int32) (J3 : Nat → Nat → Int64), cal 48 [.ref 0, .int x3] (I2, J2, mj_R2) (.int r3, (I3, J3, mj_R2)) ∧ ((if r3 = 0 then
          Q (.int (-1 : Int32), (I3, J3, mj_R2))
        else
          (if x2 = x3 then
            Q (.int (-1 : Int32), (I3, J3, mj_R2))
          else
            K 40 [(0, .ref 0), (1, .int x1), (2, .int x2), (3, .int x3), (4, .int x4), (5, .int (-1 : Int32)), (6, .int (1 : Int32)), (7, .int (0 : Int32))] [] (I3, J3, mj_R2)))))))))))) :
    mj_if (Nat.ble (mj_sz [.ref 0, .int x1, .int x2, .int x3, .int x4]) mt_102.2.2) (mj_sg mj_S2 mt_102 cal Q K 100 0 (mj_a0 0 [.ref 0, .int x1, .int x2, .int x3, .int x4]) [] (I0, J0, mj_R2)) := h
set_option maxRecDepth 100000 in
set_option maxHeartbeats 8000000 in
theorem s102_40 {cal : Nat → List Value → mj_H → mj_R → Prop} {Q : mj_R → Prop} {K : Nat → mj_K} {I0 : Nat → Nat → Int32} {J0 : Nat → Nat → Int64} (x1 : Int32) (x2 : Int32) (x3 : Int32) (x4 : Int32) (x5 : Int32) (x6 : Int32) (x7 : Int32)
    (h : (if (I0 0 58) ≤ x7 then
      (if x5 = (-1 : Int32) then
        Q (.int (-1 : Int32), (I0, J0, mj_R2))
      else
        (True ∧ ∃ (r1 : Int32) (I1 : Nat → Nat → Int32) (J1 : Nat → Nat → Int64), cal 103 [.int x5, .int x6] (I0, J0, mj_R2) (.int r1, (I1, J1, mj_R2)) ∧ ((if x4 = 0 then
          (¬ r1 = 0 ∧ (Q (.int (x6 / r1), (I1, J1, mj_R2))))
        else
          (¬ r1 = 0 ∧ (Q (.int (x5 / r1), (I1, J1, mj_R2))))))))
    else
      (vp_in (((4 : Int32) * x1) + x2) 400 ∧ ((vp_in (((4 : Int32) * x7) + x2) 400 ∧ ((vp_in (((4 : Int32) * x7) + x3) 400 ∧ ((vp_in (((4 : Int32) * x1) + x3) 400 ∧ ((if ((I0 37 (((4 : Int32) * x1) + x2).toNatClampNeg) - (I0 37 (((4 : Int32) * x7) + x2).toNatClampNeg)) ≤ 0 then
        K 40 [(0, .ref 0), (1, .int x1), (2, .int x2), (3, .int x3), (4, .int x4), (5, .int x5), (6, .int x6), (7, .int (x7 + (1 : Int32)))] [] (I0, J0, mj_R2)
      else
        (if ((I0 37 (((4 : Int32) * x7) + x3).toNatClampNeg) - (I0 37 (((4 : Int32) * x1) + x3).toNatClampNeg)) ≤ 0 then
          K 40 [(0, .ref 0), (1, .int x1), (2, .int x2), (3, .int x3), (4, .int x4), (5, .int x5), (6, .int x6), (7, .int (x7 + (1 : Int32)))] [] (I0, J0, mj_R2)
        else
          (if x5 = (-1 : Int32) then
            K 137 [(0, .ref 0), (1, .int x1), (2, .int x2), (3, .int x3), (4, .int x4), (7, .int x7), (8, .int ((I0 37 (((4 : Int32) * x1) + x2).toNatClampNeg) - (I0 37 (((4 : Int32) * x7) + x2).toNatClampNeg))), (9, .int ((I0 37 (((4 : Int32) * x7) + x3).toNatClampNeg) - (I0 37 (((4 : Int32) * x1) + x3).toNatClampNeg)))] [] (I0, J0, mj_R2)
          else
            (if (lg_cmp (((I0 37 (((4 : Int32) * x7) + x3).toNatClampNeg) - (I0 37 (((4 : Int32) * x1) + x3).toNatClampNeg)).toInt64 * x6.toInt64) (x5.toInt64 * ((I0 37 (((4 : Int32) * x1) + x2).toNatClampNeg) - (I0 37 (((4 : Int32) * x7) + x2).toNatClampNeg)).toInt64)) < 0 then
              K 137 [(0, .ref 0), (1, .int x1), (2, .int x2), (3, .int x3), (4, .int x4), (7, .int x7), (8, .int ((I0 37 (((4 : Int32) * x1) + x2).toNatClampNeg) - (I0 37 (((4 : Int32) * x7) + x2).toNatClampNeg))), (9, .int ((I0 37 (((4 : Int32) * x7) + x3).toNatClampNeg) - (I0 37 (((4 : Int32) * x1) + x3).toNatClampNeg)))] [] (I0, J0, mj_R2)
            else
              K 40 [(0, .ref 0), (1, .int x1), (2, .int x2), (3, .int x3), (4, .int x4), (5, .int x5), (6, .int x6), (7, .int (x7 + (1 : Int32)))] [] (I0, J0, mj_R2))))))))))))))) :
    mj_go mj_S2 mt_102 cal Q K 40 [(0, .ref 0), (1, .int x1), (2, .int x2), (3, .int x3), (4, .int x4), (5, .int x5), (6, .int x6), (7, .int x7)] [] (I0, J0, mj_R2) := h
set_option maxRecDepth 100000 in
set_option maxHeartbeats 8000000 in
theorem s102_137 {cal : Nat → List Value → mj_H → mj_R → Prop} {Q : mj_R → Prop} {K : Nat → mj_K} {I0 : Nat → Nat → Int32} {J0 : Nat → Nat → Int64} (x1 : Int32) (x2 : Int32) (x3 : Int32) (x4 : Int32) (x7 : Int32) (x8 : Int32) (x9 : Int32)
    (h : K 40 [(0, .ref 0), (1, .int x1), (2, .int x2), (3, .int x3), (4, .int x4), (5, .int x9), (6, .int x8), (7, .int (x7 + (1 : Int32)))] [] (I0, J0, mj_R2)) :
    mj_go mj_S2 mt_102 cal Q K 137 [(0, .ref 0), (1, .int x1), (2, .int x2), (3, .int x3), (4, .int x4), (7, .int x7), (8, .int x8), (9, .int x9)] [] (I0, J0, mj_R2) := h
-- UnbeatenHouseModel.common(II)I ('I', 'I')
set_option maxRecDepth 100000 in
set_option maxHeartbeats 8000000 in
theorem e103 {cal : Nat → List Value → mj_H → mj_R → Prop} {Q : mj_R → Prop} {K : Nat → mj_K} {I0 : Nat → Nat → Int32} {J0 : Nat → Nat → Int64} (x0 : Int32) (x1 : Int32)
    (h : K 4 [(2, .int x0), (3, .int x1)] [] (I0, J0, mj_R2)) :
    mj_if (Nat.ble (mj_sz [.int x0, .int x1]) mt_103.2.2) (mj_sg mj_S2 mt_103 cal Q K 100 0 (mj_a0 0 [.int x0, .int x1]) [] (I0, J0, mj_R2)) := h
set_option maxRecDepth 100000 in
set_option maxHeartbeats 8000000 in
theorem s103_4 {cal : Nat → List Value → mj_H → mj_R → Prop} {Q : mj_R → Prop} {K : Nat → mj_K} {I0 : Nat → Nat → Int32} {J0 : Nat → Nat → Int64} (x2 : Int32) (x3 : Int32)
    (h : (if x3 ≤ 0 then
      Q (.int x2, (I0, J0, mj_R2))
    else
      (¬ x3 = 0 ∧ (K 4 [(2, .int x3), (3, .int (x2 - x2 / x3 * x3))] [] (I0, J0, mj_R2))))) :
    mj_go mj_S2 mt_103 cal Q K 4 [(2, .int x2), (3, .int x3)] [] (I0, J0, mj_R2) := h
-- UnbeatenHouseModel.hole(I)I (('c', 0), 'I')
set_option maxRecDepth 100000 in
set_option maxHeartbeats 8000000 in
theorem e104 {cal : Nat → List Value → mj_H → mj_R → Prop} {Q : mj_R → Prop} {K : Nat → mj_K} {I0 : Nat → Nat → Int32} {J0 : Nat → Nat → Int64} (x1 : Int32)
    (h : (if (I0 0 58) = (-1 : Int32) then
      Q (.int (-1 : Int32), (I0, J0, mj_R2))
    else
      (True ∧ ∃ (r1 : Int32) (I1 : Nat → Nat → Int32) (J1 : Nat → Nat → Int64), cal 48 [.ref 0, .int x1] (I0, J0, mj_R2) (.int r1, (I1, J1, mj_R2)) ∧ ((if r1 = 0 then
        Q (.int (-1 : Int32), (I1, J1, mj_R2))
      else
        K 22 [(0, .ref 0), (1, .int x1), (2, .int (0 : Int32)), (3, .int (0 : Int32))] [] (I1, J1, mj_R2)))))) :
    mj_if (Nat.ble (mj_sz [.ref 0, .int x1]) mt_104.2.2) (mj_sg mj_S2 mt_104 cal Q K 100 0 (mj_a0 0 [.ref 0, .int x1]) [] (I0, J0, mj_R2)) := h
set_option maxRecDepth 100000 in
set_option maxHeartbeats 8000000 in
theorem s104_22 {cal : Nat → List Value → mj_H → mj_R → Prop} {Q : mj_R → Prop} {K : Nat → mj_K} {I0 : Nat → Nat → Int32} {J0 : Nat → Nat → Int64} (x1 : Int32) (x2 : Int32) (x3 : Int32)
    (h : (if (I0 0 58) ≤ x3 then
      Q (.int x2, (I0, J0, mj_R2))
    else
      K 36 [(0, .ref 0), (1, .int x1), (2, .int x2), (3, .int x3), (4, .int (-1 : Int32)), (5, .int (0 : Int32))] [] (I0, J0, mj_R2))) :
    mj_go mj_S2 mt_104 cal Q K 22 [(0, .ref 0), (1, .int x1), (2, .int x2), (3, .int x3)] [] (I0, J0, mj_R2) := h
set_option maxRecDepth 100000 in
set_option maxHeartbeats 8000000 in
theorem s104_36 {cal : Nat → List Value → mj_H → mj_R → Prop} {Q : mj_R → Prop} {K : Nat → mj_K} {I0 : Nat → Nat → Int32} {J0 : Nat → Nat → Int64} (x1 : Int32) (x2 : Int32) (x3 : Int32) (x4 : Int32) (x5 : Int32)
    (h : (if (I0 0 58) ≤ x5 then
      (if x4 ≤ x2 then
        K 22 [(0, .ref 0), (1, .int x1), (2, .int x2), (3, .int (x3 + (1 : Int32)))] [] (I0, J0, mj_R2)
      else
        K 22 [(0, .ref 0), (1, .int x1), (2, .int x4), (3, .int (x3 + (1 : Int32)))] [] (I0, J0, mj_R2))
    else
      (vp_in (((4 : Int32) * x5) + x1) 400 ∧ ((vp_in (((4 : Int32) * x3) + x1) 400 ∧ ((if ((I0 37 (((4 : Int32) * x5) + x1).toNatClampNeg) - (I0 37 (((4 : Int32) * x3) + x1).toNatClampNeg)) ≤ 0 then
        K 36 [(0, .ref 0), (1, .int x1), (2, .int x2), (3, .int x3), (4, .int x4), (5, .int (x5 + (1 : Int32)))] [] (I0, J0, mj_R2)
      else
        (if x4 = (-1 : Int32) then
          K 36 [(0, .ref 0), (1, .int x1), (2, .int x2), (3, .int x3), (4, .int ((I0 37 (((4 : Int32) * x5) + x1).toNatClampNeg) - (I0 37 (((4 : Int32) * x3) + x1).toNatClampNeg))), (5, .int (x5 + (1 : Int32)))] [] (I0, J0, mj_R2)
        else
          (if x4 ≤ ((I0 37 (((4 : Int32) * x5) + x1).toNatClampNeg) - (I0 37 (((4 : Int32) * x3) + x1).toNatClampNeg)) then
            K 36 [(0, .ref 0), (1, .int x1), (2, .int x2), (3, .int x3), (4, .int x4), (5, .int (x5 + (1 : Int32)))] [] (I0, J0, mj_R2)
          else
            K 36 [(0, .ref 0), (1, .int x1), (2, .int x2), (3, .int x3), (4, .int ((I0 37 (((4 : Int32) * x5) + x1).toNatClampNeg) - (I0 37 (((4 : Int32) * x3) + x1).toNatClampNeg))), (5, .int (x5 + (1 : Int32)))] [] (I0, J0, mj_R2)))))))))) :
    mj_go mj_S2 mt_104 cal Q K 36 [(0, .ref 0), (1, .int x1), (2, .int x2), (3, .int x3), (4, .int x4), (5, .int x5)] [] (I0, J0, mj_R2) := h
-- UnbeatenHouseModel.rather(II)I (('c', 0), 'I', 'I')
set_option maxRecDepth 100000 in
set_option maxHeartbeats 8000000 in
theorem e105 {cal : Nat → List Value → mj_H → mj_R → Prop} {Q : mj_R → Prop} {K : Nat → mj_K} {I0 : Nat → Nat → Int32} {J0 : Nat → Nat → Int64} (x1 : Int32) (x2 : Int32)
    (h : (True ∧ ∃ (r1 : Int32) (I1 : Nat → Nat → Int32) (J1 : Nat → Nat → Int64), cal 51 [.ref 0, .int x1] (I0, J0, mj_R2) (.int r1, (I1, J1, mj_R2)) ∧ ((if r1 = 0 then
      Q (.int (-1 : Int32), (I1, J1, mj_R2))
    else
      (True ∧ ∃ (r2 : Int32) (I2 : Nat → Nat → Int32) (J2 : Nat → Nat → Int64), cal 51 [.ref 0, .int x2] (I1, J1, mj_R2) (.int r2, (I2, J2, mj_R2)) ∧ ((if r2 = 0 then
        Q (.int (-1 : Int32), (I2, J2, mj_R2))
      else
        (if x1 = x2 then
          Q (.int (-1 : Int32), (I2, J2, mj_R2))
        else
          (True ∧ ∃ (r3 : Int32) (I3 : Nat → Nat → Int32) (J3 : Nat → Nat → Int64), cal 56 [.ref 0, .int x1] (I2, J2, mj_R2) (.int r3, (I3, J3, mj_R2)) ∧ ((if r3 = 0 then
            (True ∧ ∃ (r4 : Int32) (I4 : Nat → Nat → Int32) (J4 : Nat → Nat → Int64), cal 56 [.ref 0, .int x2] (I3, J3, mj_R2) (.int r4, (I4, J4, mj_R2)) ∧ ((if r4 = 0 then
              (if (I4 0 68) = (12 : Int32) then
                Q (.int (-1 : Int32), (I4, J4, mj_R2))
              else
                (vp_in (I4 0 68) 12 ∧ ((vp_in (I4 0 68) 12 ∧ (Q (.int ((I4 0 68) + (1 : Int32)), ((mj_up (mj_up (mj_up I4 43 (I4 0 68).toNatClampNeg x1) 44 (I4 0 68).toNatClampNeg x2) 0 68 ((I4 0 68) + (1 : Int32))), J4, mj_R2)))))))
            else
              Q (.int (-1 : Int32), (I4, J4, mj_R2)))))
          else
            Q (.int (-1 : Int32), (I3, J3, mj_R2))))))))))))) :
    mj_if (Nat.ble (mj_sz [.ref 0, .int x1, .int x2]) mt_105.2.2) (mj_sg mj_S2 mt_105 cal Q K 100 0 (mj_a0 0 [.ref 0, .int x1, .int x2]) [] (I0, J0, mj_R2)) := h
-- UnbeatenHouseModel.unsay()I (('c', 0),)
set_option maxRecDepth 100000 in
set_option maxHeartbeats 8000000 in
theorem e106 {cal : Nat → List Value → mj_H → mj_R → Prop} {Q : mj_R → Prop} {K : Nat → mj_K} {I0 : Nat → Nat → Int32} {J0 : Nat → Nat → Int64}
    (h : (if (I0 0 68) = 0 then
      Q (.int (-1 : Int32), (I0, J0, mj_R2))
    else
      Q (.int ((I0 0 68) - (1 : Int32)), ((mj_up I0 0 68 ((I0 0 68) - (1 : Int32))), J0, mj_R2)))) :
    mj_if (Nat.ble (mj_sz [.ref 0]) mt_106.2.2) (mj_sg mj_S2 mt_106 cal Q K 100 0 (mj_a0 0 [.ref 0]) [] (I0, J0, mj_R2)) := h
-- UnbeatenHouseModel.agree()I (('c', 0),)
set_option maxRecDepth 100000 in
set_option maxHeartbeats 8000000 in
theorem e107 {cal : Nat → List Value → mj_H → mj_R → Prop} {Q : mj_R → Prop} {K : Nat → mj_K} {I0 : Nat → Nat → Int32} {J0 : Nat → Nat → Int64}
    (h : (vp_in (I0 0 12) 2 ∧ ((if (I0 2 (I0 0 12).toNatClampNeg) = 0 then
      Q (.int (-1 : Int32), (I0, J0, mj_R2))
    else
      K 18 [(0, .ref 0), (1, .int (0 : Int32)), (2, .int (0 : Int32))] [] (I0, J0, mj_R2))))) :
    mj_if (Nat.ble (mj_sz [.ref 0]) mt_107.2.2) (mj_sg mj_S2 mt_107 cal Q K 100 0 (mj_a0 0 [.ref 0]) [] (I0, J0, mj_R2)) := h
set_option maxRecDepth 100000 in
set_option maxHeartbeats 8000000 in
theorem s107_18 {cal : Nat → List Value → mj_H → mj_R → Prop} {Q : mj_R → Prop} {K : Nat → mj_K} {I0 : Nat → Nat → Int32} {J0 : Nat → Nat → Int64} (x1 : Int32) (x2 : Int32)
    (h : (True ∧ ∃ (r1 : Int32) (I1 : Nat → Nat → Int32) (J1 : Nat → Nat → Int64), cal 90 [.ref 0] (I0, J0, mj_R2) (.int r1, (I1, J1, mj_R2)) ∧ ((if r1 ≤ x2 then
      Q (.int x1, (I1, J1, mj_R2))
    else
      (True ∧ ∃ (r2 : Int32) (I2 : Nat → Nat → Int32) (J2 : Nat → Nat → Int64), cal 91 [.ref 0, .int x2] (I1, J1, mj_R2) (.int r2, (I2, J2, mj_R2)) ∧ ((if r2 = 0 then
        K 18 [(0, .ref 0), (1, .int (x1 + (0 : Int32))), (2, .int (x2 + (1 : Int32)))] [] (I2, J2, mj_R2)
      else
        (True ∧ ∃ (r3 : Int32) (I3 : Nat → Nat → Int32) (J3 : Nat → Nat → Int64), cal 108 [.ref 0] (I2, J2, mj_R2) (.int r3, (I3, J3, mj_R2)) ∧ ((if r3 = 0 then
          K 18 [(0, .ref 0), (1, .int (x1 + (0 : Int32))), (2, .int (x2 + (1 : Int32)))] [] (I3, J3, mj_R2)
        else
          K 18 [(0, .ref 0), (1, .int (x1 + (1 : Int32))), (2, .int (x2 + (1 : Int32)))] [] (I3, J3, mj_R2))))))))))) :
    mj_go mj_S2 mt_107 cal Q K 18 [(0, .ref 0), (1, .int x1), (2, .int x2)] [] (I0, J0, mj_R2) := h
-- UnbeatenHouseModel.agrees()Z (('c', 0),)
set_option maxRecDepth 100000 in
set_option maxHeartbeats 8000000 in
theorem e108 {cal : Nat → List Value → mj_H → mj_R → Prop} {Q : mj_R → Prop} {K : Nat → mj_K} {I0 : Nat → Nat → Int32} {J0 : Nat → Nat → Int64}
    (h : (True ∧ ∃ (r1 : Int32) (I1 : Nat → Nat → Int32) (J1 : Nat → Nat → Int64), cal 109 [.ref 0] (I0, J0, mj_R2) (.int r1, (I1, J1, mj_R2)) ∧ ((if r1 = (((1 : Int32) <<< ((I1 0 68) &&& 31)) - (1 : Int32)) then
      (((1 : Int32) = 0 ∨ (1 : Int32) = 1) ∧ Q (.int (1 : Int32), (I1, J1, mj_R2)))
    else
      (((0 : Int32) = 0 ∨ (0 : Int32) = 1) ∧ Q (.int (0 : Int32), (I1, J1, mj_R2))))))) :
    mj_if (Nat.ble (mj_sz [.ref 0]) mt_108.2.2) (mj_sg mj_S2 mt_108 cal Q K 100 0 (mj_a0 0 [.ref 0]) [] (I0, J0, mj_R2)) := h
-- UnbeatenHouseModel.agreed()I (('c', 0),)
set_option maxRecDepth 100000 in
set_option maxHeartbeats 8000000 in
theorem e109 {cal : Nat → List Value → mj_H → mj_R → Prop} {Q : mj_R → Prop} {K : Nat → mj_K} {I0 : Nat → Nat → Int32} {J0 : Nat → Nat → Int64}
    (h : K 4 [(0, .ref 0), (1, .int (0 : Int32)), (2, .int (0 : Int32))] [] (I0, J0, mj_R2)) :
    mj_if (Nat.ble (mj_sz [.ref 0]) mt_109.2.2) (mj_sg mj_S2 mt_109 cal Q K 100 0 (mj_a0 0 [.ref 0]) [] (I0, J0, mj_R2)) := h
set_option maxRecDepth 100000 in
set_option maxHeartbeats 8000000 in
theorem s109_4 {cal : Nat → List Value → mj_H → mj_R → Prop} {Q : mj_R → Prop} {K : Nat → mj_K} {I0 : Nat → Nat → Int32} {J0 : Nat → Nat → Int64} (x1 : Int32) (x2 : Int32)
    (h : (if (I0 0 68) ≤ x2 then
      Q (.int x1, (I0, J0, mj_R2))
    else
      (vp_in x2 12 ∧ ((True ∧ ∃ (r1 : Int32) (I1 : Nat → Nat → Int32) (J1 : Nat → Nat → Int64), cal 56 [.ref 0, .int (I0 43 x2.toNatClampNeg)] (I0, J0, mj_R2) (.int r1, (I1, J1, mj_R2)) ∧ ((if r1 = 0 then
        (vp_in x2 12 ∧ ((True ∧ ∃ (r2 : Int32) (I2 : Nat → Nat → Int32) (J2 : Nat → Nat → Int64), cal 56 [.ref 0, .int (I1 44 x2.toNatClampNeg)] (I1, J1, mj_R2) (.int r2, (I2, J2, mj_R2)) ∧ ((if r2 = 0 then
          (vp_in x2 12 ∧ ((True ∧ ∃ (r3 : Int32) (I3 : Nat → Nat → Int32) (J3 : Nat → Nat → Int64), cal 110 [.ref 0, .int (I2 43 x2.toNatClampNeg)] (I2, J2, mj_R2) (.int r3, (I3, J3, mj_R2)) ∧ ((vp_in x2 12 ∧ ((True ∧ ∃ (r4 : Int32) (I4 : Nat → Nat → Int32) (J4 : Nat → Nat → Int64), cal 110 [.ref 0, .int (I3 44 x2.toNatClampNeg)] (I3, J3, mj_R2) (.int r4, (I4, J4, mj_R2)) ∧ ((if r4 < r3 then
            K 4 [(0, .ref 0), (1, .int (x1 ||| (0 : Int32))), (2, .int (x2 + (1 : Int32)))] [] (I4, J4, mj_R2)
          else
            K 4 [(0, .ref 0), (1, .int (x1 ||| ((1 : Int32) <<< (x2 &&& 31)))), (2, .int (x2 + (1 : Int32)))] [] (I4, J4, mj_R2))))))))))
        else
          K 4 [(0, .ref 0), (1, .int (x1 ||| ((1 : Int32) <<< (x2 &&& 31)))), (2, .int (x2 + (1 : Int32)))] [] (I2, J2, mj_R2))))))
      else
        K 4 [(0, .ref 0), (1, .int (x1 ||| ((1 : Int32) <<< (x2 &&& 31)))), (2, .int (x2 + (1 : Int32)))] [] (I1, J1, mj_R2)))))))) :
    mj_go mj_S2 mt_109 cal Q K 4 [(0, .ref 0), (1, .int x1), (2, .int x2)] [] (I0, J0, mj_R2) := h
-- UnbeatenHouseModel.rowWorth(I)I (('c', 0), 'I')
set_option maxRecDepth 100000 in
set_option maxHeartbeats 8000000 in
theorem e110 {cal : Nat → List Value → mj_H → mj_R → Prop} {Q : mj_R → Prop} {K : Nat → mj_K} {I0 : Nat → Nat → Int32} {J0 : Nat → Nat → Int64} (x1 : Int32)
    (h : K 4 [(0, .ref 0), (1, .int x1), (2, .int (0 : Int32)), (3, .int (0 : Int32))] [] (I0, J0, mj_R2)) :
    mj_if (Nat.ble (mj_sz [.ref 0, .int x1]) mt_110.2.2) (mj_sg mj_S2 mt_110 cal Q K 100 0 (mj_a0 0 [.ref 0, .int x1]) [] (I0, J0, mj_R2)) := h
set_option maxRecDepth 100000 in
set_option maxHeartbeats 8000000 in
theorem s110_4 {cal : Nat → List Value → mj_H → mj_R → Prop} {Q : mj_R → Prop} {K : Nat → mj_K} {I0 : Nat → Nat → Int32} {J0 : Nat → Nat → Int64} (x1 : Int32) (x2 : Int32) (x3 : Int32)
    (h : (vp_in (I0 0 12) 2 ∧ ((if (I0 2 (I0 0 12).toNatClampNeg) ≤ x3 then
      Q (.int x2, (I0, J0, mj_R2))
    else
      (vp_in x3 4 ∧ ((True ∧ ∃ (r1 : Int32) (I1 : Nat → Nat → Int32) (J1 : Nat → Nat → Int64), cal 57 [.ref 0, .int x1, .int x3] (I0, J0, mj_R2) (.int r1, (I1, J1, mj_R2)) ∧ (K 4 [(0, .ref 0), (1, .int x1), (2, .int (x2 + ((I0 40 x3.toNatClampNeg) * r1))), (3, .int (x3 + (1 : Int32)))] [] (I1, J1, mj_R2))))))))) :
    mj_go mj_S2 mt_110 cal Q K 4 [(0, .ref 0), (1, .int x1), (2, .int x2), (3, .int x3)] [] (I0, J0, mj_R2) := h
-- UnbeatenHouseModel.could()J (('c', 0),)
set_option maxRecDepth 100000 in
set_option maxHeartbeats 8000000 in
theorem e111 {cal : Nat → List Value → mj_H → mj_R → Prop} {Q : mj_R → Prop} {K : Nat → mj_K} {I0 : Nat → Nat → Int32} {J0 : Nat → Nat → Int64}
    (h : (True ∧ ∃ (I1 : Nat → Nat → Int32) (J1 : Nat → Nat → Int64), cal 112 [.ref 0] (I0, J0, mj_R2) (.null, (I1, J1, mj_R2)) ∧ (K 8 [(0, .ref 0), (1, .long (0 : Int64)), (3, .int (0 : Int32))] [] (I1, J1, mj_R2)))) :
    mj_if (Nat.ble (mj_sz [.ref 0]) mt_111.2.2) (mj_sg mj_S2 mt_111 cal Q K 100 0 (mj_a0 0 [.ref 0]) [] (I0, J0, mj_R2)) := h
set_option maxRecDepth 100000 in
set_option maxHeartbeats 8000000 in
theorem s111_8 {cal : Nat → List Value → mj_H → mj_R → Prop} {Q : mj_R → Prop} {K : Nat → mj_K} {I0 : Nat → Nat → Int32} {J0 : Nat → Nat → Int64} (x1 : Int64) (x3 : Int32)
    (h : (if (I0 0 71) ≤ x3 then
      Q (.long x1, (I0, J0, mj_R2))
    else
      (vp_in x3 456 ∧ (K 8 [(0, .ref 0), (1, .long (x1 ||| (J0 46 x3.toNatClampNeg))), (3, .int (x3 + (1 : Int32)))] [] (I0, J0, mj_R2))))) :
    mj_go mj_S2 mt_111 cal Q K 8 [(0, .ref 0), (1, .long x1), (3, .int x3)] [] (I0, J0, mj_R2) := h
-- UnbeatenHouseModel.gathersAgreeing()V (('c', 0),)
set_option maxRecDepth 100000 in
set_option maxHeartbeats 8000000 in
theorem e112 {cal : Nat → List Value → mj_H → mj_R → Prop} {Q : mj_R → Prop} {K : Nat → mj_K} {I0 : Nat → Nat → Int32} {J0 : Nat → Nat → Int64}
    (h : (True ∧ ∃ (r1 : Int64) (I1 : Nat → Nat → Int32) (J1 : Nat → Nat → Int64), cal 60 [.ref 0] (I0, J0, mj_R2) (.long r1, (I1, J1, mj_R2)) ∧ (K 12 [(0, .ref 0), (1, .long r1), (3, .int (0 : Int32))] [] ((mj_up I1 0 71 (0 : Int32)), J1, mj_R2)))) :
    mj_if (Nat.ble (mj_sz [.ref 0]) mt_112.2.2) (mj_sg mj_S2 mt_112 cal Q K 100 0 (mj_a0 0 [.ref 0]) [] (I0, J0, mj_R2)) := h
set_option maxRecDepth 100000 in
set_option maxHeartbeats 8000000 in
theorem s112_12 {cal : Nat → List Value → mj_H → mj_R → Prop} {Q : mj_R → Prop} {K : Nat → mj_K} {I0 : Nat → Nat → Int32} {J0 : Nat → Nat → Int64} (x1 : Int64) (x3 : Int32)
    (h : (True ∧ ∃ (r1 : Int32) (I1 : Nat → Nat → Int32) (J1 : Nat → Nat → Int64), cal 90 [.ref 0] (I0, J0, mj_R2) (.int r1, (I1, J1, mj_R2)) ∧ ((if r1 ≤ x3 then
      Q (.null, (I1, J1, mj_R2))
    else
      (True ∧ ∃ (r2 : Int32) (I2 : Nat → Nat → Int32) (J2 : Nat → Nat → Int64), cal 91 [.ref 0, .int x3] (I1, J1, mj_R2) (.int r2, (I2, J2, mj_R2)) ∧ ((if r2 = 0 then
        K 12 [(0, .ref 0), (1, .long x1), (3, .int (x3 + (1 : Int32)))] [] (I2, J2, mj_R2)
      else
        (True ∧ ∃ (r3 : Int32) (I3 : Nat → Nat → Int32) (J3 : Nat → Nat → Int64), cal 108 [.ref 0] (I2, J2, mj_R2) (.int r3, (I3, J3, mj_R2)) ∧ ((if r3 = 0 then
          K 12 [(0, .ref 0), (1, .long x1), (3, .int (x3 + (1 : Int32)))] [] (I3, J3, mj_R2)
        else
          K 47 [(0, .ref 0), (1, .long x1), (3, .int x3), (4, .int (0 : Int32)), (5, .long (0 : Int64)), (7, .int (0 : Int32))] [] (I3, J3, mj_R2))))))))))) :
    mj_go mj_S2 mt_112 cal Q K 12 [(0, .ref 0), (1, .long x1), (3, .int x3)] [] (I0, J0, mj_R2) := h
set_option maxRecDepth 100000 in
set_option maxHeartbeats 8000000 in
theorem s112_47 {cal : Nat → List Value → mj_H → mj_R → Prop} {Q : mj_R → Prop} {K : Nat → mj_K} {I0 : Nat → Nat → Int32} {J0 : Nat → Nat → Int64} (x1 : Int64) (x3 : Int32) (x4 : Int32) (x5 : Int64) (x7 : Int32)
    (h : (vp_in (I0 0 12) 2 ∧ ((if (I0 3 (I0 0 12).toNatClampNeg) ≤ x7 then
      (vp_in (I0 0 71) 456 ∧ (K 12 [(0, .ref 0), (1, .long x1), (3, .int (x3 + (1 : Int32)))] [] ((mj_up I0 0 71 ((I0 0 71) + (1 : Int32))), (mj_up J0 46 (I0 0 71).toNatClampNeg x5), mj_R2)))
    else
      (if (lg_cmp ((x1 >>> (x7.toInt64 &&& 63)) &&& (1 : Int64)) (0 : Int64)) = 0 then
        K 141 [(0, .ref 0), (1, .long x1), (3, .int x3), (4, .int x4), (5, .long x5), (7, .int x7)] [] (I0, J0, mj_R2)
      else
        (True ∧ ∃ (r1 : Int32) (I1 : Nat → Nat → Int32) (J1 : Nat → Nat → Int64), cal 110 [.ref 0, .int x7] (I0, J0, mj_R2) (.int r1, (I1, J1, mj_R2)) ∧ ((vp_in (((40 : Int32) * (I1 0 71)) + x7) 18240 ∧ ((if (lg_cmp x5 (0 : Int64)) = 0 then
          K 121 [(0, .ref 0), (1, .long x1), (3, .int x3), (4, .int r1), (5, .long (0 : Int64)), (7, .int x7), (8, .int r1)] [] ((mj_up I1 45 (((40 : Int32) * (I1 0 71)) + x7).toNatClampNeg r1), J1, mj_R2)
        else
          (if x4 ≤ r1 then
            K 121 [(0, .ref 0), (1, .long x1), (3, .int x3), (4, .int x4), (5, .long x5), (7, .int x7), (8, .int r1)] [] ((mj_up I1 45 (((40 : Int32) * (I1 0 71)) + x7).toNatClampNeg r1), J1, mj_R2)
          else
            K 121 [(0, .ref 0), (1, .long x1), (3, .int x3), (4, .int r1), (5, .long (0 : Int64)), (7, .int x7), (8, .int r1)] [] ((mj_up I1 45 (((40 : Int32) * (I1 0 71)) + x7).toNatClampNeg r1), J1, mj_R2)))))))))))) :
    mj_go mj_S2 mt_112 cal Q K 47 [(0, .ref 0), (1, .long x1), (3, .int x3), (4, .int x4), (5, .long x5), (7, .int x7)] [] (I0, J0, mj_R2) := h
set_option maxRecDepth 100000 in
set_option maxHeartbeats 8000000 in
theorem s112_121 {cal : Nat → List Value → mj_H → mj_R → Prop} {Q : mj_R → Prop} {K : Nat → mj_K} {I0 : Nat → Nat → Int32} {J0 : Nat → Nat → Int64} (x1 : Int64) (x3 : Int32) (x4 : Int32) (x5 : Int64) (x7 : Int32) (x8 : Int32)
    (h : (if x8 = x4 then
      K 141 [(0, .ref 0), (1, .long x1), (3, .int x3), (4, .int x4), (5, .long (x5 ||| ((1 : Int64) <<< (x7.toInt64 &&& 63)))), (7, .int x7)] [] (I0, J0, mj_R2)
    else
      K 141 [(0, .ref 0), (1, .long x1), (3, .int x3), (4, .int x4), (5, .long (x5 ||| (0 : Int64))), (7, .int x7)] [] (I0, J0, mj_R2))) :
    mj_go mj_S2 mt_112 cal Q K 121 [(0, .ref 0), (1, .long x1), (3, .int x3), (4, .int x4), (5, .long x5), (7, .int x7), (8, .int x8)] [] (I0, J0, mj_R2) := h
set_option maxRecDepth 100000 in
set_option maxHeartbeats 8000000 in
theorem s112_141 {cal : Nat → List Value → mj_H → mj_R → Prop} {Q : mj_R → Prop} {K : Nat → mj_K} {I0 : Nat → Nat → Int32} {J0 : Nat → Nat → Int64} (x1 : Int64) (x3 : Int32) (x4 : Int32) (x5 : Int64) (x7 : Int32)
    (h : K 47 [(0, .ref 0), (1, .long x1), (3, .int x3), (4, .int x4), (5, .long x5), (7, .int (x7 + (1 : Int32)))] [] (I0, J0, mj_R2)) :
    mj_go mj_S2 mt_112 cal Q K 141 [(0, .ref 0), (1, .long x1), (3, .int x3), (4, .int x4), (5, .long x5), (7, .int x7)] [] (I0, J0, mj_R2) := h
-- UnbeatenHouseModel.question(I)I (('c', 0), 'I')
set_option maxRecDepth 100000 in
set_option maxHeartbeats 8000000 in
theorem e113 {cal : Nat → List Value → mj_H → mj_R → Prop} {Q : mj_R → Prop} {K : Nat → mj_K} {I0 : Nat → Nat → Int32} {J0 : Nat → Nat → Int64} (x1 : Int32)
    (h : (True ∧ ∃ (r1 : Int32) (I1 : Nat → Nat → Int32) (J1 : Nat → Nat → Int64), cal 49 [.int x1, .int (0 : Int32), .int (2 : Int32)] (I0, J0, mj_R2) (.int r1, (I1, J1, mj_R2)) ∧ ((if r1 = 0 then
      Q (.int (-1 : Int32), (I1, J1, mj_R2))
    else
      (True ∧ ∃ (r2 : Int64) (I2 : Nat → Nat → Int32) (J2 : Nat → Nat → Int64), cal 60 [.ref 0] (I1, J1, mj_R2) (.long r2, (I2, J2, mj_R2)) ∧ ((True ∧ ∃ (I3 : Nat → Nat → Int32) (J3 : Nat → Nat → Int64), cal 112 [.ref 0] (I2, J2, mj_R2) (.null, (I3, J3, mj_R2)) ∧ (K 32 [(0, .ref 0), (1, .int x1), (2, .long r2), (4, .int (-1 : Int32)), (5, .int (-1 : Int32)), (6, .int (-1 : Int32)), (7, .int (0 : Int32))] [] (I3, J3, mj_R2))))))))) :
    mj_if (Nat.ble (mj_sz [.ref 0, .int x1]) mt_113.2.2) (mj_sg mj_S2 mt_113 cal Q K 100 0 (mj_a0 0 [.ref 0, .int x1]) [] (I0, J0, mj_R2)) := h
set_option maxRecDepth 100000 in
set_option maxHeartbeats 8000000 in
theorem s113_32 {cal : Nat → List Value → mj_H → mj_R → Prop} {Q : mj_R → Prop} {K : Nat → mj_K} {I0 : Nat → Nat → Int32} {J0 : Nat → Nat → Int64} (x1 : Int32) (x2 : Int64) (x4 : Int32) (x5 : Int32) (x6 : Int32) (x7 : Int32)
    (h : (vp_in (I0 0 12) 2 ∧ ((if (I0 3 (I0 0 12).toNatClampNeg) ≤ x7 then
      (if x1 = 0 then
        Q (.int x4, (I0, J0, mj_R2))
      else
        (if x1 = (1 : Int32) then
          Q (.int x5, (I0, J0, mj_R2))
        else
          Q (.int x6, (I0, J0, mj_R2))))
    else
      K 52 [(0, .ref 0), (1, .int x1), (2, .long x2), (4, .int x4), (5, .int x5), (6, .int x6), (7, .int x7), (8, .int (x7 + (1 : Int32)))] [] (I0, J0, mj_R2))))) :
    mj_go mj_S2 mt_113 cal Q K 32 [(0, .ref 0), (1, .int x1), (2, .long x2), (4, .int x4), (5, .int x5), (6, .int x6), (7, .int x7)] [] (I0, J0, mj_R2) := h
set_option maxRecDepth 100000 in
set_option maxHeartbeats 8000000 in
theorem s113_52 {cal : Nat → List Value → mj_H → mj_R → Prop} {Q : mj_R → Prop} {K : Nat → mj_K} {I0 : Nat → Nat → Int32} {J0 : Nat → Nat → Int64} (x1 : Int32) (x2 : Int64) (x4 : Int32) (x5 : Int32) (x6 : Int32) (x7 : Int32) (x8 : Int32)
    (h : (vp_in (I0 0 12) 2 ∧ ((if (I0 3 (I0 0 12).toNatClampNeg) ≤ x8 then
      K 32 [(0, .ref 0), (1, .int x1), (2, .long x2), (4, .int x4), (5, .int x5), (6, .int x6), (7, .int (x7 + (1 : Int32)))] [] (I0, J0, mj_R2)
    else
      (if (lg_cmp (((x2 >>> (x7.toInt64 &&& 63)) &&& (x2 >>> (x8.toInt64 &&& 63))) &&& (1 : Int64)) (0 : Int64)) = 0 then
        K 52 [(0, .ref 0), (1, .int x1), (2, .long x2), (4, .int x4), (5, .int x5), (6, .int x6), (7, .int x7), (8, .int (x8 + (1 : Int32)))] [] (I0, J0, mj_R2)
      else
        (True ∧ ∃ (r1 : Int32) (I1 : Nat → Nat → Int32) (J1 : Nat → Nat → Int64), cal 114 [.ref 0, .int x7, .int x8] (I0, J0, mj_R2) (.int r1, (I1, J1, mj_R2)) ∧ ((True ∧ ∃ (r2 : Int32) (I2 : Nat → Nat → Int32) (J2 : Nat → Nat → Int64), cal 114 [.ref 0, .int x8, .int x7] (I1, J1, mj_R2) (.int r2, (I2, J2, mj_R2)) ∧ ((if r1 ≤ r2 then
          K 121 [(0, .ref 0), (1, .int x1), (2, .long x2), (4, .int x4), (5, .int x5), (6, .int x6), (7, .int x7), (8, .int x8), (11, .int r2)] [] (I2, J2, mj_R2)
        else
          K 121 [(0, .ref 0), (1, .int x1), (2, .long x2), (4, .int x4), (5, .int x5), (6, .int x6), (7, .int x7), (8, .int x8), (11, .int r1)] [] (I2, J2, mj_R2))))))))))) :
    mj_go mj_S2 mt_113 cal Q K 52 [(0, .ref 0), (1, .int x1), (2, .long x2), (4, .int x4), (5, .int x5), (6, .int x6), (7, .int x7), (8, .int x8)] [] (I0, J0, mj_R2) := h
set_option maxRecDepth 100000 in
set_option maxHeartbeats 8000000 in
theorem s113_121 {cal : Nat → List Value → mj_H → mj_R → Prop} {Q : mj_R → Prop} {K : Nat → mj_K} {I0 : Nat → Nat → Int32} {J0 : Nat → Nat → Int64} (x1 : Int32) (x2 : Int64) (x4 : Int32) (x5 : Int32) (x6 : Int32) (x7 : Int32) (x8 : Int32) (x11 : Int32)
    (h : (if x6 = (-1 : Int32) then
      K 137 [(0, .ref 0), (1, .int x1), (2, .long x2), (7, .int x7), (8, .int x8), (11, .int x11)] [] (I0, J0, mj_R2)
    else
      (if x11 < x6 then
        K 137 [(0, .ref 0), (1, .int x1), (2, .long x2), (7, .int x7), (8, .int x8), (11, .int x11)] [] (I0, J0, mj_R2)
      else
        K 52 [(0, .ref 0), (1, .int x1), (2, .long x2), (4, .int x4), (5, .int x5), (6, .int x6), (7, .int x7), (8, .int (x8 + (1 : Int32)))] [] (I0, J0, mj_R2)))) :
    mj_go mj_S2 mt_113 cal Q K 121 [(0, .ref 0), (1, .int x1), (2, .long x2), (4, .int x4), (5, .int x5), (6, .int x6), (7, .int x7), (8, .int x8), (11, .int x11)] [] (I0, J0, mj_R2) := h
set_option maxRecDepth 100000 in
set_option maxHeartbeats 8000000 in
theorem s113_137 {cal : Nat → List Value → mj_H → mj_R → Prop} {Q : mj_R → Prop} {K : Nat → mj_K} {I0 : Nat → Nat → Int32} {J0 : Nat → Nat → Int64} (x1 : Int32) (x2 : Int64) (x7 : Int32) (x8 : Int32) (x11 : Int32)
    (h : K 52 [(0, .ref 0), (1, .int x1), (2, .long x2), (4, .int x7), (5, .int x8), (6, .int x11), (7, .int x7), (8, .int (x8 + (1 : Int32)))] [] (I0, J0, mj_R2)) :
    mj_go mj_S2 mt_113 cal Q K 137 [(0, .ref 0), (1, .int x1), (2, .long x2), (7, .int x7), (8, .int x8), (11, .int x11)] [] (I0, J0, mj_R2) := h
-- UnbeatenHouseModel.leaves(II)I (('c', 0), 'I', 'I')
set_option maxRecDepth 100000 in
set_option maxHeartbeats 8000000 in
theorem e114 {cal : Nat → List Value → mj_H → mj_R → Prop} {Q : mj_R → Prop} {K : Nat → mj_K} {I0 : Nat → Nat → Int32} {J0 : Nat → Nat → Int64} (x1 : Int32) (x2 : Int32)
    (h : K 5 [(0, .ref 0), (1, .int x1), (2, .int x2), (3, .long (0 : Int64)), (5, .int (0 : Int32))] [] (I0, J0, mj_R2)) :
    mj_if (Nat.ble (mj_sz [.ref 0, .int x1, .int x2]) mt_114.2.2) (mj_sg mj_S2 mt_114 cal Q K 100 0 (mj_a0 0 [.ref 0, .int x1, .int x2]) [] (I0, J0, mj_R2)) := h
set_option maxRecDepth 100000 in
set_option maxHeartbeats 8000000 in
theorem s114_5 {cal : Nat → List Value → mj_H → mj_R → Prop} {Q : mj_R → Prop} {K : Nat → mj_K} {I0 : Nat → Nat → Int32} {J0 : Nat → Nat → Int64} (x1 : Int32) (x2 : Int32) (x3 : Int64) (x5 : Int32)
    (h : (if (I0 0 71) ≤ x5 then
      (True ∧ ∃ (r1 : Int32) (I1 : Nat → Nat → Int32) (J1 : Nat → Nat → Int64), cal 63 [.long x3] (I0, J0, mj_R2) (.int r1, (I1, J1, mj_R2)) ∧ (Q (.int r1, (I1, J1, mj_R2))))
    else
      (vp_in (((40 : Int32) * x5) + x1) 18240 ∧ ((vp_in (((40 : Int32) * x5) + x2) 18240 ∧ ((if (I0 45 (((40 : Int32) * x5) + x2).toNatClampNeg) < (I0 45 (((40 : Int32) * x5) + x1).toNatClampNeg) then
        K 5 [(0, .ref 0), (1, .int x1), (2, .int x2), (3, .long (x3 ||| (0 : Int64))), (5, .int (x5 + (1 : Int32)))] [] (I0, J0, mj_R2)
      else
        (vp_in x5 456 ∧ (K 5 [(0, .ref 0), (1, .int x1), (2, .int x2), (3, .long (x3 ||| (J0 46 x5.toNatClampNeg))), (5, .int (x5 + (1 : Int32)))] [] (I0, J0, mj_R2)))))))))) :
    mj_go mj_S2 mt_114 cal Q K 5 [(0, .ref 0), (1, .int x1), (2, .int x2), (3, .long x3), (5, .int x5)] [] (I0, J0, mj_R2) := h
-- UnbeatenHouseModel.quarrel()I (('c', 0),)
set_option maxRecDepth 100000 in
set_option maxHeartbeats 8000000 in
theorem e115 {cal : Nat → List Value → mj_H → mj_R → Prop} {Q : mj_R → Prop} {K : Nat → mj_K} {I0 : Nat → Nat → Int32} {J0 : Nat → Nat → Int64}
    (h : K 4 [(0, .ref 0), (1, .int (0 : Int32)), (2, .int (0 : Int32))] [] (I0, J0, mj_R2)) :
    mj_if (Nat.ble (mj_sz [.ref 0]) mt_115.2.2) (mj_sg mj_S2 mt_115 cal Q K 100 0 (mj_a0 0 [.ref 0]) [] (I0, J0, mj_R2)) := h
set_option maxRecDepth 100000 in
set_option maxHeartbeats 8000000 in
theorem s115_4 {cal : Nat → List Value → mj_H → mj_R → Prop} {Q : mj_R → Prop} {K : Nat → mj_K} {I0 : Nat → Nat → Int32} {J0 : Nat → Nat → Int64} (x1 : Int32) (x2 : Int32)
    (h : (True ∧ ∃ (r1 : Int32) (I1 : Nat → Nat → Int32) (J1 : Nat → Nat → Int64), cal 90 [.ref 0] (I0, J0, mj_R2) (.int r1, (I1, J1, mj_R2)) ∧ ((if r1 ≤ x2 then
      K 46 [(0, .ref 0), (1, .int x1), (2, .int (0 : Int32)), (3, .int (1 : Int32))] [] (I1, J1, mj_R2)
    else
      (True ∧ ∃ (r2 : Int32) (I2 : Nat → Nat → Int32) (J2 : Nat → Nat → Int64), cal 91 [.ref 0, .int x2] (I1, J1, mj_R2) (.int r2, (I2, J2, mj_R2)) ∧ ((if r2 = 0 then
        K 4 [(0, .ref 0), (1, .int x1), (2, .int (x2 + (1 : Int32)))] [] (I2, J2, mj_R2)
      else
        (True ∧ ∃ (r3 : Int32) (I3 : Nat → Nat → Int32) (J3 : Nat → Nat → Int64), cal 109 [.ref 0] (I2, J2, mj_R2) (.int r3, (I3, J3, mj_R2)) ∧ ((vp_in x1 456 ∧ (K 4 [(0, .ref 0), (1, .int (x1 + (1 : Int32))), (2, .int (x2 + (1 : Int32)))] [] ((mj_up I3 47 x1.toNatClampNeg r3), J3, mj_R2)))))))))))) :
    mj_go mj_S2 mt_115 cal Q K 4 [(0, .ref 0), (1, .int x1), (2, .int x2)] [] (I0, J0, mj_R2) := h
set_option maxRecDepth 100000 in
set_option maxHeartbeats 8000000 in
theorem s115_46 {cal : Nat → List Value → mj_H → mj_R → Prop} {Q : mj_R → Prop} {K : Nat → mj_K} {I0 : Nat → Nat → Int32} {J0 : Nat → Nat → Int64} (x1 : Int32) (x2 : Int32) (x3 : Int32)
    (h : (if ((1 : Int32) <<< ((I0 0 68) &&& 31)) ≤ x3 then
      Q (.int x2, (I0, J0, mj_R2))
    else
      (True ∧ ∃ (r1 : Int32) (I1 : Nat → Nat → Int32) (J1 : Nat → Nat → Int64), cal 116 [.ref 0, .int x1, .int x3] (I0, J0, mj_R2) (.int r1, (I1, J1, mj_R2)) ∧ ((if r1 = 0 then
        (if x2 = 0 then
          K 89 [(0, .ref 0), (1, .int x1), (2, .int x2), (3, .int x3), (4, .int (-1 : Int32))] [] (I1, J1, mj_R2)
        else
          (True ∧ ∃ (r2 : Int32) (I2 : Nat → Nat → Int32) (J2 : Nat → Nat → Int64), cal 63 [.long x3.toInt64] (I1, J1, mj_R2) (.int r2, (I2, J2, mj_R2)) ∧ ((True ∧ ∃ (r3 : Int32) (I3 : Nat → Nat → Int32) (J3 : Nat → Nat → Int64), cal 63 [.long x2.toInt64] (I2, J2, mj_R2) (.int r3, (I3, J3, mj_R2)) ∧ (K 89 [(0, .ref 0), (1, .int x1), (2, .int x2), (3, .int x3), (4, .int (r2 - r3))] [] (I3, J3, mj_R2))))))
      else
        K 46 [(0, .ref 0), (1, .int x1), (2, .int x2), (3, .int (x3 + (1 : Int32)))] [] (I1, J1, mj_R2)))))) :
    mj_go mj_S2 mt_115 cal Q K 46 [(0, .ref 0), (1, .int x1), (2, .int x2), (3, .int x3)] [] (I0, J0, mj_R2) := h
set_option maxRecDepth 100000 in
set_option maxHeartbeats 8000000 in
theorem s115_89 {cal : Nat → List Value → mj_H → mj_R → Prop} {Q : mj_R → Prop} {K : Nat → mj_K} {I0 : Nat → Nat → Int32} {J0 : Nat → Nat → Int64} (x1 : Int32) (x2 : Int32) (x3 : Int32) (x4 : Int32)
    (h : (if x4 < 0 then
      K 46 [(0, .ref 0), (1, .int x1), (2, .int x3), (3, .int (x3 + (1 : Int32)))] [] (I0, J0, mj_R2)
    else
      (if x4 = 0 then
        (if ((x3 &&& (x3 ^^^ x2)) &&& (-(x3 ^^^ x2))) = 0 then
          K 46 [(0, .ref 0), (1, .int x1), (2, .int x2), (3, .int (x3 + (1 : Int32)))] [] (I0, J0, mj_R2)
        else
          K 46 [(0, .ref 0), (1, .int x1), (2, .int x3), (3, .int (x3 + (1 : Int32)))] [] (I0, J0, mj_R2))
      else
        K 46 [(0, .ref 0), (1, .int x1), (2, .int x2), (3, .int (x3 + (1 : Int32)))] [] (I0, J0, mj_R2)))) :
    mj_go mj_S2 mt_115 cal Q K 89 [(0, .ref 0), (1, .int x1), (2, .int x2), (3, .int x3), (4, .int x4)] [] (I0, J0, mj_R2) := h
-- UnbeatenHouseModel.isAgreed(II)Z (('c', 0), 'I', 'I')
set_option maxRecDepth 100000 in
set_option maxHeartbeats 8000000 in
theorem e116 {cal : Nat → List Value → mj_H → mj_R → Prop} {Q : mj_R → Prop} {K : Nat → mj_K} {I0 : Nat → Nat → Int32} {J0 : Nat → Nat → Int64} (x1 : Int32) (x2 : Int32)
    (h : K 2 [(0, .ref 0), (1, .int x1), (2, .int x2), (3, .int (0 : Int32))] [] (I0, J0, mj_R2)) :
    mj_if (Nat.ble (mj_sz [.ref 0, .int x1, .int x2]) mt_116.2.2) (mj_sg mj_S2 mt_116 cal Q K 100 0 (mj_a0 0 [.ref 0, .int x1, .int x2]) [] (I0, J0, mj_R2)) := h
set_option maxRecDepth 100000 in
set_option maxHeartbeats 8000000 in
theorem s116_2 {cal : Nat → List Value → mj_H → mj_R → Prop} {Q : mj_R → Prop} {K : Nat → mj_K} {I0 : Nat → Nat → Int32} {J0 : Nat → Nat → Int64} (x1 : Int32) (x2 : Int32) (x3 : Int32)
    (h : (if x1 ≤ x3 then
      (((0 : Int32) = 0 ∨ (0 : Int32) = 1) ∧ Q (.int (0 : Int32), (I0, J0, mj_R2)))
    else
      (vp_in x3 456 ∧ ((if ((I0 47 x3.toNatClampNeg) &&& x2) = x2 then
        (((1 : Int32) = 0 ∨ (1 : Int32) = 1) ∧ Q (.int (1 : Int32), (I0, J0, mj_R2)))
      else
        K 2 [(0, .ref 0), (1, .int x1), (2, .int x2), (3, .int (x3 + (1 : Int32)))] [] (I0, J0, mj_R2)))))) :
    mj_go mj_S2 mt_116 cal Q K 2 [(0, .ref 0), (1, .int x1), (2, .int x2), (3, .int x3)] [] (I0, J0, mj_R2) := h
-- UnbeatenHouseModel.stop(I)I (('c', 0), 'I')
set_option maxRecDepth 100000 in
set_option maxHeartbeats 8000000 in
theorem e117 {cal : Nat → List Value → mj_H → mj_R → Prop} {Q : mj_R → Prop} {K : Nat → mj_K} {I0 : Nat → Nat → Int32} {J0 : Nat → Nat → Int64} (x1 : Int32)
    (h : (True ∧ ∃ (r1 : Int32) (I1 : Nat → Nat → Int32) (J1 : Nat → Nat → Int64), cal 49 [.int x1, .int (0 : Int32), .int (9999 : Int32)] (I0, J0, mj_R2) (.int r1, (I1, J1, mj_R2)) ∧ ((if r1 = 0 then
      Q (.int (-1 : Int32), (I1, J1, mj_R2))
    else
      (True ∧ ∃ (r2 : Int64) (I2 : Nat → Nat → Int32) (J2 : Nat → Nat → Int64), cal 60 [.ref 0] (I1, J1, mj_R2) (.long r2, (I2, J2, mj_R2)) ∧ ((True ∧ ∃ (I3 : Nat → Nat → Int32) (J3 : Nat → Nat → Int64), cal 112 [.ref 0] (I2, J2, mj_R2) (.null, (I3, J3, mj_R2)) ∧ (K 25 [(0, .ref 0), (1, .int x1), (2, .long r2), (4, .int (0 : Int32))] [] (I3, J3, mj_R2))))))))) :
    mj_if (Nat.ble (mj_sz [.ref 0, .int x1]) mt_117.2.2) (mj_sg mj_S2 mt_117 cal Q K 100 0 (mj_a0 0 [.ref 0, .int x1]) [] (I0, J0, mj_R2)) := h
set_option maxRecDepth 100000 in
set_option maxHeartbeats 8000000 in
theorem s117_25 {cal : Nat → List Value → mj_H → mj_R → Prop} {Q : mj_R → Prop} {K : Nat → mj_K} {I0 : Nat → Nat → Int32} {J0 : Nat → Nat → Int64} (x1 : Int32) (x2 : Int64) (x4 : Int32)
    (h : (vp_in (I0 0 12) 2 ∧ ((if (I0 3 (I0 0 12).toNatClampNeg) ≤ x4 then
      Q (.int (-1 : Int32), (I0, J0, mj_R2))
    else
      (if (I0 0 71) ≤ 0 then
        Q (.int (-1 : Int32), (I0, J0, mj_R2))
      else
        (if (lg_cmp ((x2 >>> (x4.toInt64 &&& 63)) &&& (1 : Int64)) (1 : Int64)) = 0 then
          K 64 [(0, .ref 0), (1, .int x1), (2, .long x2), (4, .int x4), (5, .int (1 : Int32))] [] (I0, J0, mj_R2)
        else
          K 64 [(0, .ref 0), (1, .int x1), (2, .long x2), (4, .int x4), (5, .int (0 : Int32))] [] (I0, J0, mj_R2))))))) :
    mj_go mj_S2 mt_117 cal Q K 25 [(0, .ref 0), (1, .int x1), (2, .long x2), (4, .int x4)] [] (I0, J0, mj_R2) := h
set_option maxRecDepth 100000 in
set_option maxHeartbeats 8000000 in
theorem s117_64 {cal : Nat → List Value → mj_H → mj_R → Prop} {Q : mj_R → Prop} {K : Nat → mj_K} {I0 : Nat → Nat → Int32} {J0 : Nat → Nat → Int64} (x1 : Int32) (x2 : Int64) (x4 : Int32) (x5 : Int32)
    (h : K 67 [(0, .ref 0), (1, .int x1), (2, .long x2), (4, .int x4), (5, .int x5), (6, .int (0 : Int32))] [] (I0, J0, mj_R2)) :
    mj_go mj_S2 mt_117 cal Q K 64 [(0, .ref 0), (1, .int x1), (2, .long x2), (4, .int x4), (5, .int x5)] [] (I0, J0, mj_R2) := h
set_option maxRecDepth 100000 in
set_option maxHeartbeats 8000000 in
theorem s117_67 {cal : Nat → List Value → mj_H → mj_R → Prop} {Q : mj_R → Prop} {K : Nat → mj_K} {I0 : Nat → Nat → Int32} {J0 : Nat → Nat → Int64} (x1 : Int32) (x2 : Int64) (x4 : Int32) (x5 : Int32) (x6 : Int32)
    (h : (if (I0 0 71) ≤ x6 then
      K 201 [(0, .ref 0), (1, .int x1), (2, .long x2), (4, .int x4), (5, .int x5)] [] (I0, J0, mj_R2)
    else
      (if x5 = 0 then
        K 201 [(0, .ref 0), (1, .int x1), (2, .long x2), (4, .int x4), (5, .int x5)] [] (I0, J0, mj_R2)
      else
        (vp_in (((40 : Int32) * x6) + x4) 18240 ∧ (K 99 [(0, .ref 0), (1, .int x1), (2, .long x2), (4, .int x4), (6, .int x6), (7, .int (I0 45 (((40 : Int32) * x6) + x4).toNatClampNeg)), (8, .int (0 : Int32))] [] (I0, J0, mj_R2)))))) :
    mj_go mj_S2 mt_117 cal Q K 67 [(0, .ref 0), (1, .int x1), (2, .long x2), (4, .int x4), (5, .int x5), (6, .int x6)] [] (I0, J0, mj_R2) := h
set_option maxRecDepth 100000 in
set_option maxHeartbeats 8000000 in
theorem s117_99 {cal : Nat → List Value → mj_H → mj_R → Prop} {Q : mj_R → Prop} {K : Nat → mj_K} {I0 : Nat → Nat → Int32} {J0 : Nat → Nat → Int64} (x1 : Int32) (x2 : Int64) (x4 : Int32) (x6 : Int32) (x7 : Int32) (x8 : Int32)
    (h : (vp_in (I0 0 12) 2 ∧ ((if (I0 3 (I0 0 12).toNatClampNeg) ≤ x8 then
      (vp_in (((40 : Int32) * x6) + x4) 18240 ∧ ((if (x7 + (x1 * (I0 0 63))) < (I0 45 (((40 : Int32) * x6) + x4).toNatClampNeg) then
        K 67 [(0, .ref 0), (1, .int x1), (2, .long x2), (4, .int x4), (5, .int (0 : Int32)), (6, .int (x6 + (1 : Int32)))] [] (I0, J0, mj_R2)
      else
        K 67 [(0, .ref 0), (1, .int x1), (2, .long x2), (4, .int x4), (5, .int (1 : Int32)), (6, .int (x6 + (1 : Int32)))] [] (I0, J0, mj_R2))))
    else
      (if (lg_cmp ((x2 >>> (x8.toInt64 &&& 63)) &&& (1 : Int64)) (1 : Int64)) = 0 then
        (vp_in (((40 : Int32) * x6) + x8) 18240 ∧ ((if x7 ≤ (I0 45 (((40 : Int32) * x6) + x8).toNatClampNeg) then
          K 99 [(0, .ref 0), (1, .int x1), (2, .long x2), (4, .int x4), (6, .int x6), (7, .int x7), (8, .int (x8 + (1 : Int32)))] [] (I0, J0, mj_R2)
        else
          (vp_in (((40 : Int32) * x6) + x8) 18240 ∧ (K 99 [(0, .ref 0), (1, .int x1), (2, .long x2), (4, .int x4), (6, .int x6), (7, .int (I0 45 (((40 : Int32) * x6) + x8).toNatClampNeg)), (8, .int (x8 + (1 : Int32)))] [] (I0, J0, mj_R2))))))
      else
        K 99 [(0, .ref 0), (1, .int x1), (2, .long x2), (4, .int x4), (6, .int x6), (7, .int x7), (8, .int (x8 + (1 : Int32)))] [] (I0, J0, mj_R2)))))) :
    mj_go mj_S2 mt_117 cal Q K 99 [(0, .ref 0), (1, .int x1), (2, .long x2), (4, .int x4), (6, .int x6), (7, .int x7), (8, .int x8)] [] (I0, J0, mj_R2) := h
set_option maxRecDepth 100000 in
set_option maxHeartbeats 8000000 in
theorem s117_201 {cal : Nat → List Value → mj_H → mj_R → Prop} {Q : mj_R → Prop} {K : Nat → mj_K} {I0 : Nat → Nat → Int32} {J0 : Nat → Nat → Int64} (x1 : Int32) (x2 : Int64) (x4 : Int32) (x5 : Int32)
    (h : (if x5 = 0 then
      K 25 [(0, .ref 0), (1, .int x1), (2, .long x2), (4, .int (x4 + (1 : Int32)))] [] (I0, J0, mj_R2)
    else
      Q (.int x4, (I0, J0, mj_R2)))) :
    mj_go mj_S2 mt_117 cal Q K 201 [(0, .ref 0), (1, .int x1), (2, .long x2), (4, .int x4), (5, .int x5)] [] (I0, J0, mj_R2) := h
-- UnbeatenHouseModel.person(IIIII)Z (('c', 0), 'I', 'I', 'I', 'I', 'I')
set_option maxRecDepth 100000 in
set_option maxHeartbeats 8000000 in
theorem e118 {cal : Nat → List Value → mj_H → mj_R → Prop} {Q : mj_R → Prop} {K : Nat → mj_K} {I0 : Nat → Nat → Int32} {J0 : Nat → Nat → Int64} (x1 : Int32) (x2 : Int32) (x3 : Int32) (x4 : Int32) (x5 : Int32)
    (h : (True ∧ ∃ (r1 : Int32) (I1 : Nat → Nat → Int32) (J1 : Nat → Nat → Int64), cal 119 [.int x1] (I0, J0, mj_R2) (.int r1, (I1, J1, mj_R2)) ∧ ((if r1 = 0 then
      (((0 : Int32) = 0 ∨ (0 : Int32) = 1) ∧ Q (.int (0 : Int32), (I1, J1, mj_R2)))
    else
      (True ∧ ∃ (r2 : Int32) (I2 : Nat → Nat → Int32) (J2 : Nat → Nat → Int64), cal 49 [.int x2, .int (0 : Int32), .int (9 : Int32)] (I1, J1, mj_R2) (.int r2, (I2, J2, mj_R2)) ∧ ((if r2 = 0 then
        (((0 : Int32) = 0 ∨ (0 : Int32) = 1) ∧ Q (.int (0 : Int32), (I2, J2, mj_R2)))
      else
        (True ∧ ∃ (r3 : Int32) (I3 : Nat → Nat → Int32) (J3 : Nat → Nat → Int64), cal 49 [.int x3, .int (0 : Int32), .int (9 : Int32)] (I2, J2, mj_R2) (.int r3, (I3, J3, mj_R2)) ∧ ((if r3 = 0 then
          (((0 : Int32) = 0 ∨ (0 : Int32) = 1) ∧ Q (.int (0 : Int32), (I3, J3, mj_R2)))
        else
          (True ∧ ∃ (r4 : Int32) (I4 : Nat → Nat → Int32) (J4 : Nat → Nat → Int64), cal 49 [.int x4, .int (0 : Int32), .int (9 : Int32)] (I3, J3, mj_R2) (.int r4, (I4, J4, mj_R2)) ∧ ((if r4 = 0 then
            (((0 : Int32) = 0 ∨ (0 : Int32) = 1) ∧ Q (.int (0 : Int32), (I4, J4, mj_R2)))
          else
            (True ∧ ∃ (r5 : Int32) (I5 : Nat → Nat → Int32) (J5 : Nat → Nat → Int64), cal 49 [.int x5, .int (0 : Int32), .int (9 : Int32)] (I4, J4, mj_R2) (.int r5, (I5, J5, mj_R2)) ∧ ((if r5 = 0 then
              (((0 : Int32) = 0 ∨ (0 : Int32) = 1) ∧ Q (.int (0 : Int32), (I5, J5, mj_R2)))
            else
              (vp_in (I5 0 12) 2 ∧ ((if (1 : Int32) ≤ (I5 2 (I5 0 12).toNatClampNeg) then
                K 72 [(0, .ref 0), (1, .int x1), (2, .int x2), (3, .int x3), (4, .int x4), (5, .int x5), (6, .int (I5 2 (I5 0 12).toNatClampNeg))] [] (I5, J5, mj_R2)
              else
                (if x2 ≤ 0 then
                  K 72 [(0, .ref 0), (1, .int x1), (2, .int x2), (3, .int x3), (4, .int x4), (5, .int x5), (6, .int (I5 2 (I5 0 12).toNatClampNeg))] [] (I5, J5, mj_R2)
                else
                  (((0 : Int32) = 0 ∨ (0 : Int32) = 1) ∧ Q (.int (0 : Int32), (I5, J5, mj_R2))))))))))))))))))))))) :
    mj_if (Nat.ble (mj_sz [.ref 0, .int x1, .int x2, .int x3, .int x4, .int x5]) mt_118.2.2) (mj_sg mj_S2 mt_118 cal Q K 100 0 (mj_a0 0 [.ref 0, .int x1, .int x2, .int x3, .int x4, .int x5]) [] (I0, J0, mj_R2)) := h
set_option maxRecDepth 100000 in
set_option maxHeartbeats 8000000 in
theorem s118_72 {cal : Nat → List Value → mj_H → mj_R → Prop} {Q : mj_R → Prop} {K : Nat → mj_K} {I0 : Nat → Nat → Int32} {J0 : Nat → Nat → Int64} (x1 : Int32) (x2 : Int32) (x3 : Int32) (x4 : Int32) (x5 : Int32) (x6 : Int32)
    (h : (if (2 : Int32) ≤ x6 then
      K 82 [(0, .ref 0), (1, .int x1), (2, .int x2), (3, .int x3), (4, .int x4), (5, .int x5), (6, .int x6)] [] (I0, J0, mj_R2)
    else
      (if x3 ≤ 0 then
        K 82 [(0, .ref 0), (1, .int x1), (2, .int x2), (3, .int x3), (4, .int x4), (5, .int x5), (6, .int x6)] [] (I0, J0, mj_R2)
      else
        (((0 : Int32) = 0 ∨ (0 : Int32) = 1) ∧ Q (.int (0 : Int32), (I0, J0, mj_R2)))))) :
    mj_go mj_S2 mt_118 cal Q K 72 [(0, .ref 0), (1, .int x1), (2, .int x2), (3, .int x3), (4, .int x4), (5, .int x5), (6, .int x6)] [] (I0, J0, mj_R2) := h
set_option maxRecDepth 100000 in
set_option maxHeartbeats 8000000 in
theorem s118_82 {cal : Nat → List Value → mj_H → mj_R → Prop} {Q : mj_R → Prop} {K : Nat → mj_K} {I0 : Nat → Nat → Int32} {J0 : Nat → Nat → Int64} (x1 : Int32) (x2 : Int32) (x3 : Int32) (x4 : Int32) (x5 : Int32) (x6 : Int32)
    (h : (if (3 : Int32) ≤ x6 then
      K 93 [(0, .ref 0), (1, .int x1), (2, .int x2), (3, .int x3), (4, .int x4), (5, .int x5), (6, .int x6)] [] (I0, J0, mj_R2)
    else
      (if x4 ≤ 0 then
        K 93 [(0, .ref 0), (1, .int x1), (2, .int x2), (3, .int x3), (4, .int x4), (5, .int x5), (6, .int x6)] [] (I0, J0, mj_R2)
      else
        (((0 : Int32) = 0 ∨ (0 : Int32) = 1) ∧ Q (.int (0 : Int32), (I0, J0, mj_R2)))))) :
    mj_go mj_S2 mt_118 cal Q K 82 [(0, .ref 0), (1, .int x1), (2, .int x2), (3, .int x3), (4, .int x4), (5, .int x5), (6, .int x6)] [] (I0, J0, mj_R2) := h
set_option maxRecDepth 100000 in
set_option maxHeartbeats 8000000 in
theorem s118_93 {cal : Nat → List Value → mj_H → mj_R → Prop} {Q : mj_R → Prop} {K : Nat → mj_K} {I0 : Nat → Nat → Int32} {J0 : Nat → Nat → Int64} (x1 : Int32) (x2 : Int32) (x3 : Int32) (x4 : Int32) (x5 : Int32) (x6 : Int32)
    (h : (if (4 : Int32) ≤ x6 then
      K 106 [(0, .ref 0), (1, .int x1), (2, .int x2), (3, .int x3), (4, .int x4), (5, .int x5)] [] (I0, J0, mj_R2)
    else
      (if x5 ≤ 0 then
        K 106 [(0, .ref 0), (1, .int x1), (2, .int x2), (3, .int x3), (4, .int x4), (5, .int x5)] [] (I0, J0, mj_R2)
      else
        (((0 : Int32) = 0 ∨ (0 : Int32) = 1) ∧ Q (.int (0 : Int32), (I0, J0, mj_R2)))))) :
    mj_go mj_S2 mt_118 cal Q K 93 [(0, .ref 0), (1, .int x1), (2, .int x2), (3, .int x3), (4, .int x4), (5, .int x5), (6, .int x6)] [] (I0, J0, mj_R2) := h
set_option maxRecDepth 100000 in
set_option maxHeartbeats 8000000 in
theorem s118_106 {cal : Nat → List Value → mj_H → mj_R → Prop} {Q : mj_R → Prop} {K : Nat → mj_K} {I0 : Nat → Nat → Int32} {J0 : Nat → Nat → Int64} (x1 : Int32) (x2 : Int32) (x3 : Int32) (x4 : Int32) (x5 : Int32)
    (h : (vp_in ((4 : Int32) * x1) 24 ∧ ((vp_in (((4 : Int32) * x1) + (1 : Int32)) 24 ∧ ((vp_in (((4 : Int32) * x1) + (2 : Int32)) 24 ∧ ((vp_in (((4 : Int32) * x1) + (3 : Int32)) 24 ∧ (K 150 [] [] ((mj_up (mj_up (mj_up (mj_up I0 48 ((4 : Int32) * x1).toNatClampNeg x2) 48 (((4 : Int32) * x1) + (1 : Int32)).toNatClampNeg x3) 48 (((4 : Int32) * x1) + (2 : Int32)).toNatClampNeg x4) 48 (((4 : Int32) * x1) + (3 : Int32)).toNatClampNeg x5), J0, mj_R2)))))))))) :
    mj_go mj_S2 mt_118 cal Q K 106 [(0, .ref 0), (1, .int x1), (2, .int x2), (3, .int x3), (4, .int x4), (5, .int x5)] [] (I0, J0, mj_R2) := h
set_option maxRecDepth 100000 in
set_option maxHeartbeats 8000000 in
theorem s118_150 {cal : Nat → List Value → mj_H → mj_R → Prop} {Q : mj_R → Prop} {K : Nat → mj_K} {I0 : Nat → Nat → Int32} {J0 : Nat → Nat → Int64}
    (h : (((1 : Int32) = 0 ∨ (1 : Int32) = 1) ∧ Q (.int (1 : Int32), (I0, J0, mj_R2)))) :
    mj_go mj_S2 mt_118 cal Q K 150 [] [] (I0, J0, mj_R2) := h
-- UnbeatenHouseModel.isPerson(I)Z ('I',)
set_option maxRecDepth 100000 in
set_option maxHeartbeats 8000000 in
theorem e119 {cal : Nat → List Value → mj_H → mj_R → Prop} {Q : mj_R → Prop} {K : Nat → mj_K} {I0 : Nat → Nat → Int32} {J0 : Nat → Nat → Int64} (x0 : Int32)
    (h : (if x0 < 0 then
      (((0 : Int32) = 0 ∨ (0 : Int32) = 1) ∧ Q (.int (0 : Int32), (I0, J0, mj_R2)))
    else
      (if (6 : Int32) ≤ x0 then
        (((0 : Int32) = 0 ∨ (0 : Int32) = 1) ∧ Q (.int (0 : Int32), (I0, J0, mj_R2)))
      else
        (((1 : Int32) = 0 ∨ (1 : Int32) = 1) ∧ Q (.int (1 : Int32), (I0, J0, mj_R2)))))) :
    mj_if (Nat.ble (mj_sz [.int x0]) mt_119.2.2) (mj_sg mj_S2 mt_119 cal Q K 100 0 (mj_a0 0 [.int x0]) [] (I0, J0, mj_R2)) := h
-- UnbeatenHouseModel.bar(IIZ)Z (('c', 0), 'I', 'I', 'I')
set_option maxRecDepth 100000 in
set_option maxHeartbeats 8000000 in
theorem e120 {cal : Nat → List Value → mj_H → mj_R → Prop} {Q : mj_R → Prop} {K : Nat → mj_K} {I0 : Nat → Nat → Int32} {J0 : Nat → Nat → Int64} (x1 : Int32) (x2 : Int32) (x3 : Int32)
    (h : (True ∧ ∃ (r1 : Int32) (I1 : Nat → Nat → Int32) (J1 : Nat → Nat → Int64), cal 119 [.int x1] (I0, J0, mj_R2) (.int r1, (I1, J1, mj_R2)) ∧ ((if r1 = 0 then
      (((0 : Int32) = 0 ∨ (0 : Int32) = 1) ∧ Q (.int (0 : Int32), (I1, J1, mj_R2)))
    else
      (True ∧ ∃ (r2 : Int32) (I2 : Nat → Nat → Int32) (J2 : Nat → Nat → Int64), cal 51 [.ref 0, .int x2] (I1, J1, mj_R2) (.int r2, (I2, J2, mj_R2)) ∧ ((if r2 = 0 then
        (((0 : Int32) = 0 ∨ (0 : Int32) = 1) ∧ Q (.int (0 : Int32), (I2, J2, mj_R2)))
      else
        (if x3 = 0 then
          (vp_in x1 6 ∧ ((vp_in x1 6 ∧ ((((1 : Int32) = 0 ∨ (1 : Int32) = 1) ∧ Q (.int (1 : Int32), (I2, (mj_up J2 49 x1.toNatClampNeg ((J2 49 x1.toNatClampNeg) &&& (((1 : Int64) <<< (x2.toInt64 &&& 63)) ^^^ (-1 : Int64)))), mj_R2)))))))
        else
          (vp_in x1 6 ∧ ((vp_in x1 6 ∧ ((((1 : Int32) = 0 ∨ (1 : Int32) = 1) ∧ Q (.int (1 : Int32), (I2, (mj_up J2 49 x1.toNatClampNeg ((J2 49 x1.toNatClampNeg) ||| ((1 : Int64) <<< (x2.toInt64 &&& 63)))), mj_R2))))))))))))))) :
    mj_if (Nat.ble (mj_sz [.ref 0, .int x1, .int x2, .int x3]) mt_120.2.2) (mj_sg mj_S2 mt_120 cal Q K 100 0 (mj_a0 0 [.ref 0, .int x1, .int x2, .int x3]) [] (I0, J0, mj_R2)) := h
-- UnbeatenHouseModel.choose(I)I (('c', 0), 'I')
set_option maxRecDepth 100000 in
set_option maxHeartbeats 8000000 in
theorem e121 {cal : Nat → List Value → mj_H → mj_R → Prop} {Q : mj_R → Prop} {K : Nat → mj_K} {I0 : Nat → Nat → Int32} {J0 : Nat → Nat → Int64} (x1 : Int32)
    (h : (True ∧ ∃ (r1 : Int32) (I1 : Nat → Nat → Int32) (J1 : Nat → Nat → Int64), cal 49 [.int x1, .int (0 : Int32), .int (3 : Int32)] (I0, J0, mj_R2) (.int r1, (I1, J1, mj_R2)) ∧ ((if r1 = 0 then
      Q (.int (-1 : Int32), (I1, J1, mj_R2))
    else
      (True ∧ ∃ (r2 : Int32) (I2 : Nat → Nat → Int32) (J2 : Nat → Nat → Int64), cal 122 [.ref 0] (I1, J1, mj_R2) (.int r2, (I2, J2, mj_R2)) ∧ ((if r2 = 0 then
        Q (.int (-1 : Int32), (I2, J2, mj_R2))
      else
        (True ∧ ∃ (r3 : Int64) (I3 : Nat → Nat → Int32) (J3 : Nat → Nat → Int64), cal 124 [.ref 0] (I2, J2, mj_R2) (.long r3, (I3, J3, mj_R2)) ∧ ((True ∧ ∃ (r4 : Int32) (I4 : Nat → Nat → Int32) (J4 : Nat → Nat → Int64), cal 125 [.ref 0, .int x1, .long r3] (I3, J3, mj_R2) (.int r4, (I4, J4, mj_R2)) ∧ (Q (.int r4, (I4, J4, mj_R2))))))))))))) :
    mj_if (Nat.ble (mj_sz [.ref 0, .int x1]) mt_121.2.2) (mj_sg mj_S2 mt_121 cal Q K 100 0 (mj_a0 0 [.ref 0, .int x1]) [] (I0, J0, mj_R2)) := h
-- UnbeatenHouseModel.voters()I (('c', 0),)
set_option maxRecDepth 100000 in
set_option maxHeartbeats 8000000 in
theorem e122 {cal : Nat → List Value → mj_H → mj_R → Prop} {Q : mj_R → Prop} {K : Nat → mj_K} {I0 : Nat → Nat → Int32} {J0 : Nat → Nat → Int64}
    (h : K 4 [(0, .ref 0), (1, .int (0 : Int32)), (2, .int (0 : Int32))] [] (I0, J0, mj_R2)) :
    mj_if (Nat.ble (mj_sz [.ref 0]) mt_122.2.2) (mj_sg mj_S2 mt_122 cal Q K 100 0 (mj_a0 0 [.ref 0]) [] (I0, J0, mj_R2)) := h
set_option maxRecDepth 100000 in
set_option maxHeartbeats 8000000 in
theorem s122_4 {cal : Nat → List Value → mj_H → mj_R → Prop} {Q : mj_R → Prop} {K : Nat → mj_K} {I0 : Nat → Nat → Int32} {J0 : Nat → Nat → Int64} (x1 : Int32) (x2 : Int32)
    (h : (if (6 : Int32) ≤ x2 then
      Q (.int x1, (I0, J0, mj_R2))
    else
      (True ∧ ∃ (r1 : Int32) (I1 : Nat → Nat → Int32) (J1 : Nat → Nat → Int64), cal 123 [.ref 0, .int x2] (I0, J0, mj_R2) (.int r1, (I1, J1, mj_R2)) ∧ ((if r1 = 0 then
        K 4 [(0, .ref 0), (1, .int (x1 + (0 : Int32))), (2, .int (x2 + (1 : Int32)))] [] (I1, J1, mj_R2)
      else
        K 4 [(0, .ref 0), (1, .int (x1 + (1 : Int32))), (2, .int (x2 + (1 : Int32)))] [] (I1, J1, mj_R2)))))) :
    mj_go mj_S2 mt_122 cal Q K 4 [(0, .ref 0), (1, .int x1), (2, .int x2)] [] (I0, J0, mj_R2) := h
-- UnbeatenHouseModel.votes(I)Z (('c', 0), 'I')
set_option maxRecDepth 100000 in
set_option maxHeartbeats 8000000 in
theorem e123 {cal : Nat → List Value → mj_H → mj_R → Prop} {Q : mj_R → Prop} {K : Nat → mj_K} {I0 : Nat → Nat → Int32} {J0 : Nat → Nat → Int64} (x1 : Int32)
    (h : (vp_in ((4 : Int32) * x1) 24 ∧ ((vp_in (((4 : Int32) * x1) + (1 : Int32)) 24 ∧ ((vp_in (((4 : Int32) * x1) + (2 : Int32)) 24 ∧ ((vp_in (((4 : Int32) * x1) + (3 : Int32)) 24 ∧ ((if ((((I0 48 ((4 : Int32) * x1).toNatClampNeg) + (I0 48 (((4 : Int32) * x1) + (1 : Int32)).toNatClampNeg)) + (I0 48 (((4 : Int32) * x1) + (2 : Int32)).toNatClampNeg)) + (I0 48 (((4 : Int32) * x1) + (3 : Int32)).toNatClampNeg)) ≤ 0 then
      (((0 : Int32) = 0 ∨ (0 : Int32) = 1) ∧ Q (.int (0 : Int32), (I0, J0, mj_R2)))
    else
      (((1 : Int32) = 0 ∨ (1 : Int32) = 1) ∧ Q (.int (1 : Int32), (I0, J0, mj_R2))))))))))))) :
    mj_if (Nat.ble (mj_sz [.ref 0, .int x1]) mt_123.2.2) (mj_sg mj_S2 mt_123 cal Q K 100 0 (mj_a0 0 [.ref 0, .int x1]) [] (I0, J0, mj_R2)) := h
-- UnbeatenHouseModel.candidates()J (('c', 0),)
set_option maxRecDepth 100000 in
set_option maxHeartbeats 8000000 in
theorem e124 {cal : Nat → List Value → mj_H → mj_R → Prop} {Q : mj_R → Prop} {K : Nat → mj_K} {I0 : Nat → Nat → Int32} {J0 : Nat → Nat → Int64}
    (h : (True ∧ ∃ (r1 : Int64) (I1 : Nat → Nat → Int32) (J1 : Nat → Nat → Int64), cal 60 [.ref 0] (I0, J0, mj_R2) (.long r1, (I1, J1, mj_R2)) ∧ (K 7 [(0, .ref 0), (1, .long r1), (3, .int (0 : Int32))] [] (I1, J1, mj_R2)))) :
    mj_if (Nat.ble (mj_sz [.ref 0]) mt_124.2.2) (mj_sg mj_S2 mt_124 cal Q K 100 0 (mj_a0 0 [.ref 0]) [] (I0, J0, mj_R2)) := h
set_option maxRecDepth 100000 in
set_option maxHeartbeats 8000000 in
theorem s124_7 {cal : Nat → List Value → mj_H → mj_R → Prop} {Q : mj_R → Prop} {K : Nat → mj_K} {I0 : Nat → Nat → Int32} {J0 : Nat → Nat → Int64} (x1 : Int64) (x3 : Int32)
    (h : (if (6 : Int32) ≤ x3 then
      Q (.long x1, (I0, J0, mj_R2))
    else
      (vp_in x3 6 ∧ (K 7 [(0, .ref 0), (1, .long (x1 &&& ((J0 49 x3.toNatClampNeg) ^^^ (-1 : Int64)))), (3, .int (x3 + (1 : Int32)))] [] (I0, J0, mj_R2))))) :
    mj_go mj_S2 mt_124 cal Q K 7 [(0, .ref 0), (1, .long x1), (3, .int x3)] [] (I0, J0, mj_R2) := h
-- UnbeatenHouseModel.chosenBy(IJ)I (('c', 0), 'I', 'J')
set_option maxRecDepth 100000 in
set_option maxHeartbeats 8000000 in
theorem e125 {cal : Nat → List Value → mj_H → mj_R → Prop} {Q : mj_R → Prop} {K : Nat → mj_K} {I0 : Nat → Nat → Int32} {J0 : Nat → Nat → Int64} (x1 : Int32) (x2 : Int64)
    (h : K 9 [(0, .ref 0), (1, .int x1), (2, .long x2), (4, .int (-1 : Int32)), (5, .int (0 : Int32)), (6, .int (0 : Int32))] [] (I0, J0, mj_R2)) :
    mj_if (Nat.ble (mj_sz [.ref 0, .int x1, .long x2]) mt_125.2.2) (mj_sg mj_S2 mt_125 cal Q K 100 0 (mj_a0 0 [.ref 0, .int x1, .long x2]) [] (I0, J0, mj_R2)) := h
set_option maxRecDepth 100000 in
set_option maxHeartbeats 8000000 in
theorem s125_9 {cal : Nat → List Value → mj_H → mj_R → Prop} {Q : mj_R → Prop} {K : Nat → mj_K} {I0 : Nat → Nat → Int32} {J0 : Nat → Nat → Int64} (x1 : Int32) (x2 : Int64) (x4 : Int32) (x5 : Int32) (x6 : Int32)
    (h : (vp_in (I0 0 12) 2 ∧ ((if (I0 3 (I0 0 12).toNatClampNeg) ≤ x6 then
      Q (.int x4, (I0, J0, mj_R2))
    else
      (if (lg_cmp ((x2 >>> (x6.toInt64 &&& 63)) &&& (1 : Int64)) (0 : Int64)) = 0 then
        K 9 [(0, .ref 0), (1, .int x1), (2, .long x2), (4, .int x4), (5, .int x5), (6, .int (x6 + (1 : Int32)))] [] (I0, J0, mj_R2)
      else
        (True ∧ ∃ (r1 : Int32) (I1 : Nat → Nat → Int32) (J1 : Nat → Nat → Int64), cal 126 [.ref 0, .int x1, .int x6, .long x2] (I0, J0, mj_R2) (.int r1, (I1, J1, mj_R2)) ∧ ((if r1 = (-2000000000 : Int32) then
          K 9 [(0, .ref 0), (1, .int x1), (2, .long x2), (4, .int x4), (5, .int x5), (6, .int (x6 + (1 : Int32)))] [] (I1, J1, mj_R2)
        else
          (if x4 = (-1 : Int32) then
            K 71 [(0, .ref 0), (1, .int x1), (2, .long x2), (6, .int x6), (7, .int r1)] [] (I1, J1, mj_R2)
          else
            (if r1 < x5 then
              K 71 [(0, .ref 0), (1, .int x1), (2, .long x2), (6, .int x6), (7, .int r1)] [] (I1, J1, mj_R2)
            else
              K 9 [(0, .ref 0), (1, .int x1), (2, .long x2), (4, .int x4), (5, .int x5), (6, .int (x6 + (1 : Int32)))] [] (I1, J1, mj_R2))))))))))) :
    mj_go mj_S2 mt_125 cal Q K 9 [(0, .ref 0), (1, .int x1), (2, .long x2), (4, .int x4), (5, .int x5), (6, .int x6)] [] (I0, J0, mj_R2) := h
set_option maxRecDepth 100000 in
set_option maxHeartbeats 8000000 in
theorem s125_71 {cal : Nat → List Value → mj_H → mj_R → Prop} {Q : mj_R → Prop} {K : Nat → mj_K} {I0 : Nat → Nat → Int32} {J0 : Nat → Nat → Int64} (x1 : Int32) (x2 : Int64) (x6 : Int32) (x7 : Int32)
    (h : K 9 [(0, .ref 0), (1, .int x1), (2, .long x2), (4, .int x6), (5, .int x7), (6, .int (x6 + (1 : Int32)))] [] (I0, J0, mj_R2)) :
    mj_go mj_S2 mt_125 cal Q K 71 [(0, .ref 0), (1, .int x1), (2, .long x2), (6, .int x6), (7, .int x7)] [] (I0, J0, mj_R2) := h
-- UnbeatenHouseModel.against(IIJ)I (('c', 0), 'I', 'I', 'J')
set_option maxRecDepth 100000 in
set_option maxHeartbeats 8000000 in
theorem e126 {cal : Nat → List Value → mj_H → mj_R → Prop} {Q : mj_R → Prop} {K : Nat → mj_K} {I0 : Nat → Nat → Int32} {J0 : Nat → Nat → Int64} (x1 : Int32) (x2 : Int32) (x3 : Int64)
    (h : K 12 [(0, .ref 0), (1, .int x1), (2, .int x2), (3, .long x3), (5, .int (0 : Int32)), (6, .int (0 : Int32)), (7, .int (0 : Int32)), (8, .int (0 : Int32))] [] (I0, J0, mj_R2)) :
    mj_if (Nat.ble (mj_sz [.ref 0, .int x1, .int x2, .long x3]) mt_126.2.2) (mj_sg mj_S2 mt_126 cal Q K 100 0 (mj_a0 0 [.ref 0, .int x1, .int x2, .long x3]) [] (I0, J0, mj_R2)) := h
set_option maxRecDepth 100000 in
set_option maxHeartbeats 8000000 in
theorem s126_12 {cal : Nat → List Value → mj_H → mj_R → Prop} {Q : mj_R → Prop} {K : Nat → mj_K} {I0 : Nat → Nat → Int32} {J0 : Nat → Nat → Int64} (x1 : Int32) (x2 : Int32) (x3 : Int64) (x5 : Int32) (x6 : Int32) (x7 : Int32) (x8 : Int32)
    (h : (if (6 : Int32) ≤ x8 then
      (if (3 : Int32) ≤ x1 then
        K 116 [(0, .ref 0), (2, .int x2), (3, .long x3), (8, .int (0 : Int32))] [] (I0, J0, mj_R2)
      else
        (if x1 = 0 then
          Q (.int (-x5), (I0, J0, mj_R2))
        else
          (if x1 = (1 : Int32) then
            Q (.int x6, (I0, J0, mj_R2))
          else
            Q (.int x7, (I0, J0, mj_R2)))))
    else
      (True ∧ ∃ (r1 : Int32) (I1 : Nat → Nat → Int32) (J1 : Nat → Nat → Int64), cal 123 [.ref 0, .int x8] (I0, J0, mj_R2) (.int r1, (I1, J1, mj_R2)) ∧ ((if r1 = 0 then
        K 79 [(0, .ref 0), (1, .int x1), (2, .int x2), (3, .long x3), (5, .int x5), (6, .int x6), (7, .int x7), (8, .int x8)] [] (I1, J1, mj_R2)
      else
        (True ∧ ∃ (r2 : Int32) (I2 : Nat → Nat → Int32) (J2 : Nat → Nat → Int64), cal 127 [.ref 0, .int x8, .int x2, .long x3] (I1, J1, mj_R2) (.int r2, (I2, J2, mj_R2)) ∧ ((if r2 = 0 then
          K 56 [(0, .ref 0), (1, .int x1), (2, .int x2), (3, .long x3), (5, .int (x5 + (1 : Int32))), (6, .int x6), (7, .int x7), (8, .int x8), (9, .int r2)] [] (I2, J2, mj_R2)
        else
          K 56 [(0, .ref 0), (1, .int x1), (2, .int x2), (3, .long x3), (5, .int (x5 + (0 : Int32))), (6, .int x6), (7, .int x7), (8, .int x8), (9, .int r2)] [] (I2, J2, mj_R2))))))))) :
    mj_go mj_S2 mt_126 cal Q K 12 [(0, .ref 0), (1, .int x1), (2, .int x2), (3, .long x3), (5, .int x5), (6, .int x6), (7, .int x7), (8, .int x8)] [] (I0, J0, mj_R2) := h
set_option maxRecDepth 100000 in
set_option maxHeartbeats 8000000 in
theorem s126_56 {cal : Nat → List Value → mj_H → mj_R → Prop} {Q : mj_R → Prop} {K : Nat → mj_K} {I0 : Nat → Nat → Int32} {J0 : Nat → Nat → Int64} (x1 : Int32) (x2 : Int32) (x3 : Int64) (x5 : Int32) (x6 : Int32) (x7 : Int32) (x8 : Int32) (x9 : Int32)
    (h : (if x9 ≤ x7 then
      K 79 [(0, .ref 0), (1, .int x1), (2, .int x2), (3, .long x3), (5, .int x5), (6, .int (x6 + x9)), (7, .int x7), (8, .int x8)] [] (I0, J0, mj_R2)
    else
      K 79 [(0, .ref 0), (1, .int x1), (2, .int x2), (3, .long x3), (5, .int x5), (6, .int (x6 + x9)), (7, .int x9), (8, .int x8)] [] (I0, J0, mj_R2))) :
    mj_go mj_S2 mt_126 cal Q K 56 [(0, .ref 0), (1, .int x1), (2, .int x2), (3, .long x3), (5, .int x5), (6, .int x6), (7, .int x7), (8, .int x8), (9, .int x9)] [] (I0, J0, mj_R2) := h
set_option maxRecDepth 100000 in
set_option maxHeartbeats 8000000 in
theorem s126_79 {cal : Nat → List Value → mj_H → mj_R → Prop} {Q : mj_R → Prop} {K : Nat → mj_K} {I0 : Nat → Nat → Int32} {J0 : Nat → Nat → Int64} (x1 : Int32) (x2 : Int32) (x3 : Int64) (x5 : Int32) (x6 : Int32) (x7 : Int32) (x8 : Int32)
    (h : K 12 [(0, .ref 0), (1, .int x1), (2, .int x2), (3, .long x3), (5, .int x5), (6, .int x6), (7, .int x7), (8, .int (x8 + (1 : Int32)))] [] (I0, J0, mj_R2)) :
    mj_go mj_S2 mt_126 cal Q K 79 [(0, .ref 0), (1, .int x1), (2, .int x2), (3, .long x3), (5, .int x5), (6, .int x6), (7, .int x7), (8, .int x8)] [] (I0, J0, mj_R2) := h
set_option maxRecDepth 100000 in
set_option maxHeartbeats 8000000 in
theorem s126_116 {cal : Nat → List Value → mj_H → mj_R → Prop} {Q : mj_R → Prop} {K : Nat → mj_K} {I0 : Nat → Nat → Int32} {J0 : Nat → Nat → Int64} (x2 : Int32) (x3 : Int64) (x8 : Int32)
    (h : (vp_in (I0 0 12) 2 ∧ ((if (I0 3 (I0 0 12).toNatClampNeg) ≤ x8 then
      Q (.int (0 : Int32), (I0, J0, mj_R2))
    else
      (if x8 = x2 then
        K 116 [(0, .ref 0), (2, .int x2), (3, .long x3), (8, .int (x8 + (1 : Int32)))] [] (I0, J0, mj_R2)
      else
        (if (lg_cmp ((x3 >>> (x8.toInt64 &&& 63)) &&& (1 : Int64)) (1 : Int64)) = 0 then
          (True ∧ ∃ (r1 : Int32) (I1 : Nat → Nat → Int32) (J1 : Nat → Nat → Int64), cal 130 [.ref 0, .int x2, .int x8] (I0, J0, mj_R2) (.int r1, (I1, J1, mj_R2)) ∧ ((if r1 = 0 then
            Q (.int (-2000000000 : Int32), (I1, J1, mj_R2))
          else
            K 116 [(0, .ref 0), (2, .int x2), (3, .long x3), (8, .int (x8 + (1 : Int32)))] [] (I1, J1, mj_R2))))
        else
          K 116 [(0, .ref 0), (2, .int x2), (3, .long x3), (8, .int (x8 + (1 : Int32)))] [] (I0, J0, mj_R2))))))) :
    mj_go mj_S2 mt_126 cal Q K 116 [(0, .ref 0), (2, .int x2), (3, .long x3), (8, .int x8)] [] (I0, J0, mj_R2) := h
-- UnbeatenHouseModel.placeOf(IIJ)I (('c', 0), 'I', 'I', 'J')
set_option maxRecDepth 100000 in
set_option maxHeartbeats 8000000 in
theorem e127 {cal : Nat → List Value → mj_H → mj_R → Prop} {Q : mj_R → Prop} {K : Nat → mj_K} {I0 : Nat → Nat → Int32} {J0 : Nat → Nat → Int64} (x1 : Int32) (x2 : Int32) (x3 : Int64)
    (h : K 6 [(0, .ref 0), (1, .int x1), (2, .int x2), (3, .long x3), (5, .int (0 : Int32)), (6, .int (0 : Int32))] [] (I0, J0, mj_R2)) :
    mj_if (Nat.ble (mj_sz [.ref 0, .int x1, .int x2, .long x3]) mt_127.2.2) (mj_sg mj_S2 mt_127 cal Q K 100 0 (mj_a0 0 [.ref 0, .int x1, .int x2, .long x3]) [] (I0, J0, mj_R2)) := h
set_option maxRecDepth 100000 in
set_option maxHeartbeats 8000000 in
theorem s127_6 {cal : Nat → List Value → mj_H → mj_R → Prop} {Q : mj_R → Prop} {K : Nat → mj_K} {I0 : Nat → Nat → Int32} {J0 : Nat → Nat → Int64} (x1 : Int32) (x2 : Int32) (x3 : Int64) (x5 : Int32) (x6 : Int32)
    (h : (vp_in (I0 0 12) 2 ∧ ((if (I0 3 (I0 0 12).toNatClampNeg) ≤ x6 then
      Q (.int x5, (I0, J0, mj_R2))
    else
      (if (lg_cmp ((x3 >>> (x6.toInt64 &&& 63)) &&& (1 : Int64)) (1 : Int64)) = 0 then
        (True ∧ ∃ (r1 : Int32) (I1 : Nat → Nat → Int32) (J1 : Nat → Nat → Int64), cal 128 [.ref 0, .int x1, .int x6, .int x2] (I0, J0, mj_R2) (.int r1, (I1, J1, mj_R2)) ∧ ((if r1 = 0 then
          K 6 [(0, .ref 0), (1, .int x1), (2, .int x2), (3, .long x3), (5, .int (x5 + (0 : Int32))), (6, .int (x6 + (1 : Int32)))] [] (I1, J1, mj_R2)
        else
          K 6 [(0, .ref 0), (1, .int x1), (2, .int x2), (3, .long x3), (5, .int (x5 + (1 : Int32))), (6, .int (x6 + (1 : Int32)))] [] (I1, J1, mj_R2))))
      else
        K 6 [(0, .ref 0), (1, .int x1), (2, .int x2), (3, .long x3), (5, .int (x5 + (0 : Int32))), (6, .int (x6 + (1 : Int32)))] [] (I0, J0, mj_R2)))))) :
    mj_go mj_S2 mt_127 cal Q K 6 [(0, .ref 0), (1, .int x1), (2, .int x2), (3, .long x3), (5, .int x5), (6, .int x6)] [] (I0, J0, mj_R2) := h
-- UnbeatenHouseModel.isBefore(III)Z (('c', 0), 'I', 'I', 'I')
set_option maxRecDepth 100000 in
set_option maxHeartbeats 8000000 in
theorem e128 {cal : Nat → List Value → mj_H → mj_R → Prop} {Q : mj_R → Prop} {K : Nat → mj_K} {I0 : Nat → Nat → Int32} {J0 : Nat → Nat → Int64} (x1 : Int32) (x2 : Int32) (x3 : Int32)
    (h : (True ∧ ∃ (r1 : Int32) (I1 : Nat → Nat → Int32) (J1 : Nat → Nat → Int64), cal 129 [.ref 0, .int x1, .int x2] (I0, J0, mj_R2) (.int r1, (I1, J1, mj_R2)) ∧ ((True ∧ ∃ (r2 : Int32) (I2 : Nat → Nat → Int32) (J2 : Nat → Nat → Int64), cal 129 [.ref 0, .int x1, .int x3] (I1, J1, mj_R2) (.int r2, (I2, J2, mj_R2)) ∧ ((if r1 < r2 then
      (((1 : Int32) = 0 ∨ (1 : Int32) = 1) ∧ Q (.int (1 : Int32), (I2, J2, mj_R2)))
    else
      (if r1 = r2 then
        (if x3 ≤ x2 then
          (((0 : Int32) = 0 ∨ (0 : Int32) = 1) ∧ Q (.int (0 : Int32), (I2, J2, mj_R2)))
        else
          (((1 : Int32) = 0 ∨ (1 : Int32) = 1) ∧ Q (.int (1 : Int32), (I2, J2, mj_R2))))
      else
        (((0 : Int32) = 0 ∨ (0 : Int32) = 1) ∧ Q (.int (0 : Int32), (I2, J2, mj_R2)))))))))) :
    mj_if (Nat.ble (mj_sz [.ref 0, .int x1, .int x2, .int x3]) mt_128.2.2) (mj_sg mj_S2 mt_128 cal Q K 100 0 (mj_a0 0 [.ref 0, .int x1, .int x2, .int x3]) [] (I0, J0, mj_R2)) := h
-- UnbeatenHouseModel.personWorth(II)I (('c', 0), 'I', 'I')
set_option maxRecDepth 100000 in
set_option maxHeartbeats 8000000 in
theorem e129 {cal : Nat → List Value → mj_H → mj_R → Prop} {Q : mj_R → Prop} {K : Nat → mj_K} {I0 : Nat → Nat → Int32} {J0 : Nat → Nat → Int64} (x1 : Int32) (x2 : Int32)
    (h : K 5 [(0, .ref 0), (1, .int x1), (2, .int x2), (3, .int (0 : Int32)), (4, .int (0 : Int32))] [] (I0, J0, mj_R2)) :
    mj_if (Nat.ble (mj_sz [.ref 0, .int x1, .int x2]) mt_129.2.2) (mj_sg mj_S2 mt_129 cal Q K 100 0 (mj_a0 0 [.ref 0, .int x1, .int x2]) [] (I0, J0, mj_R2)) := h
set_option maxRecDepth 100000 in
set_option maxHeartbeats 8000000 in
theorem s129_5 {cal : Nat → List Value → mj_H → mj_R → Prop} {Q : mj_R → Prop} {K : Nat → mj_K} {I0 : Nat → Nat → Int32} {J0 : Nat → Nat → Int64} (x1 : Int32) (x2 : Int32) (x3 : Int32) (x4 : Int32)
    (h : (vp_in (I0 0 12) 2 ∧ ((if (I0 2 (I0 0 12).toNatClampNeg) ≤ x4 then
      Q (.int x3, (I0, J0, mj_R2))
    else
      (vp_in (((4 : Int32) * x1) + x4) 24 ∧ ((True ∧ ∃ (r1 : Int32) (I1 : Nat → Nat → Int32) (J1 : Nat → Nat → Int64), cal 57 [.ref 0, .int x2, .int x4] (I0, J0, mj_R2) (.int r1, (I1, J1, mj_R2)) ∧ (K 5 [(0, .ref 0), (1, .int x1), (2, .int x2), (3, .int (x3 + ((I0 48 (((4 : Int32) * x1) + x4).toNatClampNeg) * r1))), (4, .int (x4 + (1 : Int32)))] [] (I1, J1, mj_R2))))))))) :
    mj_go mj_S2 mt_129 cal Q K 5 [(0, .ref 0), (1, .int x1), (2, .int x2), (3, .int x3), (4, .int x4)] [] (I0, J0, mj_R2) := h
-- UnbeatenHouseModel.wins(II)Z (('c', 0), 'I', 'I')
set_option maxRecDepth 100000 in
set_option maxHeartbeats 8000000 in
theorem e130 {cal : Nat → List Value → mj_H → mj_R → Prop} {Q : mj_R → Prop} {K : Nat → mj_K} {I0 : Nat → Nat → Int32} {J0 : Nat → Nat → Int64} (x1 : Int32) (x2 : Int32)
    (h : K 5 [(0, .ref 0), (1, .int x1), (2, .int x2), (3, .int (0 : Int32)), (4, .int (0 : Int32))] [] (I0, J0, mj_R2)) :
    mj_if (Nat.ble (mj_sz [.ref 0, .int x1, .int x2]) mt_130.2.2) (mj_sg mj_S2 mt_130 cal Q K 100 0 (mj_a0 0 [.ref 0, .int x1, .int x2]) [] (I0, J0, mj_R2)) := h
set_option maxRecDepth 100000 in
set_option maxHeartbeats 8000000 in
theorem s130_5 {cal : Nat → List Value → mj_H → mj_R → Prop} {Q : mj_R → Prop} {K : Nat → mj_K} {I0 : Nat → Nat → Int32} {J0 : Nat → Nat → Int64} (x1 : Int32) (x2 : Int32) (x3 : Int32) (x4 : Int32)
    (h : (if (6 : Int32) ≤ x4 then
      (True ∧ ∃ (r1 : Int32) (I1 : Nat → Nat → Int32) (J1 : Nat → Nat → Int64), cal 122 [.ref 0] (I0, J0, mj_R2) (.int r1, (I1, J1, mj_R2)) ∧ ((if ((2 : Int32) * x3) ≤ r1 then
        (((0 : Int32) = 0 ∨ (0 : Int32) = 1) ∧ Q (.int (0 : Int32), (I1, J1, mj_R2)))
      else
        (((1 : Int32) = 0 ∨ (1 : Int32) = 1) ∧ Q (.int (1 : Int32), (I1, J1, mj_R2))))))
    else
      (True ∧ ∃ (r2 : Int32) (I2 : Nat → Nat → Int32) (J2 : Nat → Nat → Int64), cal 123 [.ref 0, .int x4] (I0, J0, mj_R2) (.int r2, (I2, J2, mj_R2)) ∧ ((if r2 = 0 then
        K 5 [(0, .ref 0), (1, .int x1), (2, .int x2), (3, .int (x3 + (0 : Int32))), (4, .int (x4 + (1 : Int32)))] [] (I2, J2, mj_R2)
      else
        (True ∧ ∃ (r3 : Int32) (I3 : Nat → Nat → Int32) (J3 : Nat → Nat → Int64), cal 128 [.ref 0, .int x4, .int x1, .int x2] (I2, J2, mj_R2) (.int r3, (I3, J3, mj_R2)) ∧ ((if r3 = 0 then
          K 5 [(0, .ref 0), (1, .int x1), (2, .int x2), (3, .int (x3 + (0 : Int32))), (4, .int (x4 + (1 : Int32)))] [] (I3, J3, mj_R2)
        else
          K 5 [(0, .ref 0), (1, .int x1), (2, .int x2), (3, .int (x3 + (1 : Int32))), (4, .int (x4 + (1 : Int32)))] [] (I3, J3, mj_R2))))))))) :
    mj_go mj_S2 mt_130 cal Q K 5 [(0, .ref 0), (1, .int x1), (2, .int x2), (3, .int x3), (4, .int x4)] [] (I0, J0, mj_R2) := h
-- UnbeatenHouseModel.breaks(I)I (('c', 0), 'I')
set_option maxRecDepth 100000 in
set_option maxHeartbeats 8000000 in
theorem e131 {cal : Nat → List Value → mj_H → mj_R → Prop} {Q : mj_R → Prop} {K : Nat → mj_K} {I0 : Nat → Nat → Int32} {J0 : Nat → Nat → Int64} (x1 : Int32)
    (h : (True ∧ ∃ (r1 : Int32) (I1 : Nat → Nat → Int32) (J1 : Nat → Nat → Int64), cal 121 [.ref 0, .int x1] (I0, J0, mj_R2) (.int r1, (I1, J1, mj_R2)) ∧ ((if r1 = (-1 : Int32) then
      Q (.int (-1 : Int32), (I1, J1, mj_R2))
    else
      (True ∧ ∃ (r2 : Int64) (I2 : Nat → Nat → Int32) (J2 : Nat → Nat → Int64), cal 124 [.ref 0] (I1, J1, mj_R2) (.long r2, (I2, J2, mj_R2)) ∧ ((True ∧ ∃ (r3 : Int32) (I3 : Nat → Nat → Int32) (J3 : Nat → Nat → Int64), cal 125 [.ref 0, .int (3 : Int32), .long r2] (I2, J2, mj_R2) (.int r3, (I3, J3, mj_R2)) ∧ ((if r3 = (-1 : Int32) then
        K 45 [(0, .ref 0), (1, .int x1), (2, .int r1), (3, .long r2), (6, .int (0 : Int32))] [] (I3, J3, mj_R2)
      else
        (if r3 = r1 then
          K 45 [(0, .ref 0), (1, .int x1), (2, .int r1), (3, .long r2), (6, .int (0 : Int32))] [] (I3, J3, mj_R2)
        else
          K 45 [(0, .ref 0), (1, .int x1), (2, .int r1), (3, .long r2), (6, .int (1 : Int32))] [] (I3, J3, mj_R2))))))))))) :
    mj_if (Nat.ble (mj_sz [.ref 0, .int x1]) mt_131.2.2) (mj_sg mj_S2 mt_131 cal Q K 100 0 (mj_a0 0 [.ref 0, .int x1]) [] (I0, J0, mj_R2)) := h
set_option maxRecDepth 100000 in
set_option maxHeartbeats 8000000 in
theorem s131_45 {cal : Nat → List Value → mj_H → mj_R → Prop} {Q : mj_R → Prop} {K : Nat → mj_K} {I0 : Nat → Nat → Int32} {J0 : Nat → Nat → Int64} (x1 : Int32) (x2 : Int32) (x3 : Int64) (x6 : Int32)
    (h : (True ∧ ∃ (r1 : Int32) (I1 : Nat → Nat → Int32) (J1 : Nat → Nat → Int64), cal 63 [.long x3] (I0, J0, mj_R2) (.int r1, (I1, J1, mj_R2)) ∧ ((if r1 ≤ (1 : Int32) then
      K 60 [(0, .ref 0), (1, .int x1), (2, .int x2), (3, .long x3), (6, .int x6), (7, .int (0 : Int32))] [] (I1, J1, mj_R2)
    else
      K 60 [(0, .ref 0), (1, .int x1), (2, .int x2), (3, .long x3), (6, .int x6), (7, .int (1 : Int32))] [] (I1, J1, mj_R2))))) :
    mj_go mj_S2 mt_131 cal Q K 45 [(0, .ref 0), (1, .int x1), (2, .int x2), (3, .long x3), (6, .int x6)] [] (I0, J0, mj_R2) := h
set_option maxRecDepth 100000 in
set_option maxHeartbeats 8000000 in
theorem s131_60 {cal : Nat → List Value → mj_H → mj_R → Prop} {Q : mj_R → Prop} {K : Nat → mj_K} {I0 : Nat → Nat → Int32} {J0 : Nat → Nat → Int64} (x1 : Int32) (x2 : Int32) (x3 : Int64) (x6 : Int32) (x7 : Int32)
    (h : K 66 [(0, .ref 0), (1, .int x1), (2, .int x2), (3, .long x3), (6, .int x6), (7, .int x7), (8, .long (0 : Int64)), (10, .int (0 : Int32))] [] (I0, J0, mj_R2)) :
    mj_go mj_S2 mt_131 cal Q K 60 [(0, .ref 0), (1, .int x1), (2, .int x2), (3, .long x3), (6, .int x6), (7, .int x7)] [] (I0, J0, mj_R2) := h
set_option maxRecDepth 100000 in
set_option maxHeartbeats 8000000 in
theorem s131_66 {cal : Nat → List Value → mj_H → mj_R → Prop} {Q : mj_R → Prop} {K : Nat → mj_K} {I0 : Nat → Nat → Int32} {J0 : Nat → Nat → Int64} (x1 : Int32) (x2 : Int32) (x3 : Int64) (x6 : Int32) (x7 : Int32) (x8 : Int64) (x10 : Int32)
    (h : (vp_in (I0 0 12) 2 ∧ ((if (I0 3 (I0 0 12).toNatClampNeg) ≤ x10 then
      (if x7 = 0 then
        K 193 [(0, .ref 0), (1, .int x1), (2, .int x2), (6, .int (x6 ||| (0 : Int32))), (8, .long x8)] [] (I0, J0, mj_R2)
      else
        K 193 [(0, .ref 0), (1, .int x1), (2, .int x2), (6, .int (x6 ||| (2 : Int32))), (8, .long x8)] [] (I0, J0, mj_R2))
    else
      (if (lg_cmp ((x3 >>> (x10.toInt64 &&& 63)) &&& (1 : Int64)) (0 : Int64)) = 0 then
        K 66 [(0, .ref 0), (1, .int x1), (2, .int x2), (3, .long x3), (6, .int x6), (7, .int x7), (8, .long x8), (10, .int (x10 + (1 : Int32)))] [] (I0, J0, mj_R2)
      else
        (if x7 = 0 then
          K 122 [(0, .ref 0), (1, .int x1), (2, .int x2), (3, .long x3), (6, .int x6), (7, .int (0 : Int32)), (8, .long x8), (10, .int x10)] [] (I0, J0, mj_R2)
        else
          (if x10 = x2 then
            K 122 [(0, .ref 0), (1, .int x1), (2, .int x2), (3, .long x3), (6, .int x6), (7, .int (1 : Int32)), (8, .long x8), (10, .int x10)] [] (I0, J0, mj_R2)
          else
            (True ∧ ∃ (r1 : Int32) (I1 : Nat → Nat → Int32) (J1 : Nat → Nat → Int64), cal 130 [.ref 0, .int x10, .int x2] (I0, J0, mj_R2) (.int r1, (I1, J1, mj_R2)) ∧ ((if r1 = 0 then
              K 122 [(0, .ref 0), (1, .int x1), (2, .int x2), (3, .long x3), (6, .int x6), (7, .int (0 : Int32)), (8, .long x8), (10, .int x10)] [] (I1, J1, mj_R2)
            else
              K 122 [(0, .ref 0), (1, .int x1), (2, .int x2), (3, .long x3), (6, .int x6), (7, .int (1 : Int32)), (8, .long x8), (10, .int x10)] [] (I1, J1, mj_R2))))))))))) :
    mj_go mj_S2 mt_131 cal Q K 66 [(0, .ref 0), (1, .int x1), (2, .int x2), (3, .long x3), (6, .int x6), (7, .int x7), (8, .long x8), (10, .int x10)] [] (I0, J0, mj_R2) := h
set_option maxRecDepth 100000 in
set_option maxHeartbeats 8000000 in
theorem s131_122 {cal : Nat → List Value → mj_H → mj_R → Prop} {Q : mj_R → Prop} {K : Nat → mj_K} {I0 : Nat → Nat → Int32} {J0 : Nat → Nat → Int64} (x1 : Int32) (x2 : Int32) (x3 : Int64) (x6 : Int32) (x7 : Int32) (x8 : Int64) (x10 : Int32)
    (h : K 125 [(0, .ref 0), (1, .int x1), (2, .int x2), (3, .long x3), (6, .int x6), (7, .int x7), (8, .long x8), (10, .int x10), (11, .int (0 : Int32))] [] (I0, J0, mj_R2)) :
    mj_go mj_S2 mt_131 cal Q K 122 [(0, .ref 0), (1, .int x1), (2, .int x2), (3, .long x3), (6, .int x6), (7, .int x7), (8, .long x8), (10, .int x10)] [] (I0, J0, mj_R2) := h
set_option maxRecDepth 100000 in
set_option maxHeartbeats 8000000 in
theorem s131_125 {cal : Nat → List Value → mj_H → mj_R → Prop} {Q : mj_R → Prop} {K : Nat → mj_K} {I0 : Nat → Nat → Int32} {J0 : Nat → Nat → Int64} (x1 : Int32) (x2 : Int32) (x3 : Int64) (x6 : Int32) (x7 : Int32) (x8 : Int64) (x10 : Int32) (x11 : Int32)
    (h : (if (6 : Int32) ≤ x11 then
      K 66 [(0, .ref 0), (1, .int x1), (2, .int x2), (3, .long x3), (6, .int x6), (7, .int x7), (8, .long x8), (10, .int (x10 + (1 : Int32)))] [] (I0, J0, mj_R2)
    else
      (True ∧ ∃ (r1 : Int32) (I1 : Nat → Nat → Int32) (J1 : Nat → Nat → Int64), cal 123 [.ref 0, .int x11] (I0, J0, mj_R2) (.int r1, (I1, J1, mj_R2)) ∧ ((if r1 = 0 then
        K 125 [(0, .ref 0), (1, .int x1), (2, .int x2), (3, .long x3), (6, .int x6), (7, .int x7), (8, .long (x8 ||| (0 : Int64))), (10, .int x10), (11, .int (x11 + (1 : Int32)))] [] (I1, J1, mj_R2)
      else
        (True ∧ ∃ (r2 : Int32) (I2 : Nat → Nat → Int32) (J2 : Nat → Nat → Int64), cal 127 [.ref 0, .int x11, .int x10, .long x3] (I1, J1, mj_R2) (.int r2, (I2, J2, mj_R2)) ∧ ((if r2 = 0 then
          K 125 [(0, .ref 0), (1, .int x1), (2, .int x2), (3, .long x3), (6, .int x6), (7, .int x7), (8, .long (x8 ||| ((1 : Int64) <<< (x10.toInt64 &&& 63)))), (10, .int x10), (11, .int (x11 + (1 : Int32)))] [] (I2, J2, mj_R2)
        else
          K 125 [(0, .ref 0), (1, .int x1), (2, .int x2), (3, .long x3), (6, .int x6), (7, .int x7), (8, .long (x8 ||| (0 : Int64))), (10, .int x10), (11, .int (x11 + (1 : Int32)))] [] (I2, J2, mj_R2))))))))) :
    mj_go mj_S2 mt_131 cal Q K 125 [(0, .ref 0), (1, .int x1), (2, .int x2), (3, .long x3), (6, .int x6), (7, .int x7), (8, .long x8), (10, .int x10), (11, .int x11)] [] (I0, J0, mj_R2) := h
set_option maxRecDepth 100000 in
set_option maxHeartbeats 8000000 in
theorem s131_193 {cal : Nat → List Value → mj_H → mj_R → Prop} {Q : mj_R → Prop} {K : Nat → mj_K} {I0 : Nat → Nat → Int32} {J0 : Nat → Nat → Int64} (x1 : Int32) (x2 : Int32) (x6 : Int32) (x8 : Int64)
    (h : (True ∧ ∃ (r1 : Int32) (I1 : Nat → Nat → Int32) (J1 : Nat → Nat → Int64), cal 125 [.ref 0, .int x1, .long x8] (I0, J0, mj_R2) (.int r1, (I1, J1, mj_R2)) ∧ ((if r1 = x2 then
      Q (.int (x6 ||| (0 : Int32)), (I1, J1, mj_R2))
    else
      Q (.int (x6 ||| (4 : Int32)), (I1, J1, mj_R2)))))) :
    mj_go mj_S2 mt_131 cal Q K 193 [(0, .ref 0), (1, .int x1), (2, .int x2), (6, .int x6), (8, .long x8)] [] (I0, J0, mj_R2) := h
-- UnbeatenHouseModel.place(II)I (('c', 0), 'I', 'I')
set_option maxRecDepth 100000 in
set_option maxHeartbeats 8000000 in
theorem e132 {cal : Nat → List Value → mj_H → mj_R → Prop} {Q : mj_R → Prop} {K : Nat → mj_K} {I0 : Nat → Nat → Int32} {J0 : Nat → Nat → Int64} (x1 : Int32) (x2 : Int32)
    (h : (True ∧ ∃ (r1 : Int32) (I1 : Nat → Nat → Int32) (J1 : Nat → Nat → Int64), cal 119 [.int x1] (I0, J0, mj_R2) (.int r1, (I1, J1, mj_R2)) ∧ ((if r1 = 0 then
      Q (.int (-1 : Int32), (I1, J1, mj_R2))
    else
      (True ∧ ∃ (r2 : Int32) (I2 : Nat → Nat → Int32) (J2 : Nat → Nat → Int64), cal 123 [.ref 0, .int x1] (I1, J1, mj_R2) (.int r2, (I2, J2, mj_R2)) ∧ ((if r2 = 0 then
        Q (.int (-1 : Int32), (I2, J2, mj_R2))
      else
        (True ∧ ∃ (r3 : Int32) (I3 : Nat → Nat → Int32) (J3 : Nat → Nat → Int64), cal 51 [.ref 0, .int x2] (I2, J2, mj_R2) (.int r3, (I3, J3, mj_R2)) ∧ ((if r3 = 0 then
          Q (.int (-1 : Int32), (I3, J3, mj_R2))
        else
          (True ∧ ∃ (r4 : Int64) (I4 : Nat → Nat → Int32) (J4 : Nat → Nat → Int64), cal 124 [.ref 0] (I3, J3, mj_R2) (.long r4, (I4, J4, mj_R2)) ∧ ((if (lg_cmp ((r4 >>> (x2.toInt64 &&& 63)) &&& (1 : Int64)) (0 : Int64)) = 0 then
            Q (.int (-1 : Int32), (I4, J4, mj_R2))
          else
            (True ∧ ∃ (r5 : Int64) (I5 : Nat → Nat → Int32) (J5 : Nat → Nat → Int64), cal 124 [.ref 0] (I4, J4, mj_R2) (.long r5, (I5, J5, mj_R2)) ∧ ((True ∧ ∃ (r6 : Int32) (I6 : Nat → Nat → Int32) (J6 : Nat → Nat → Int64), cal 127 [.ref 0, .int x1, .int x2, .long r5] (I5, J5, mj_R2) (.int r6, (I6, J6, mj_R2)) ∧ (Q (.int r6, (I6, J6, mj_R2))))))))))))))))))) :
    mj_if (Nat.ble (mj_sz [.ref 0, .int x1, .int x2]) mt_132.2.2) (mj_sg mj_S2 mt_132 cal Q K 100 0 (mj_a0 0 [.ref 0, .int x1, .int x2]) [] (I0, J0, mj_R2)) := h
