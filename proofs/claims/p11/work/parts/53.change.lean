/-! change -/
theorem rlZ_c {W Hn Un : Nat} {I I' : Nat → Nat → Int32} {J J' : Nat → Nat → Int64} (h0 : I' 0 9 = I 0 9) (h4 : I' 4 = I 4) (h5 : ∀ j, 640 ≤ j → I' 5 j = I 5 j) (h9 : I' 9 = I 9) (h10 : I' 10 = I 10) (h44 : I' 44 = I 44) (h45 : I' 45 = I 45) (h46 : J' 46 = J 46) : rlZ W Hn Un I' J' = rlZ W Hn Un I J := by
  have e1 : hsu I' = hsu I := by
    funext w m n
    unfold hsu
    congr 1
    exact List.map_congr_left fun k _ => by rw [h5 _ (by omega)]
  have e2 : rb I' 10 = rb I 10 := by
    funext u
    cases u with
    | zero => rfl
    | succ u => show (I' 10 u).toNatClampNeg = (I 10 u).toNatClampNeg; rw [h10]
  have e3 : ruT I' = ruT I := by
    funext W Hn u m
    unfold ruT hsf cdC
    rw [e1, e2, h9, h10]
  have e4 : sC I' = sC I := by
    funext W Hn Un f m
    unfold sC aT
    rw [e1, e3, h4]
  unfold rlZ
  rw [e4, h0, h44, h45]
theorem Rl_rows {b W Rn Kn Tn Hn Un g : Nat} {I1 I2 I1' I2' : Nat → Nat → Int32} {J1 J2 J1' J2' : Nat → Nat → Int64} (h : Rl b W Rn Kn Tn Hn Un g I1 J1 I2 J2)
    (hI : ∀ q, q ≠ 5 → q ≠ 6 → q ≠ 24 → q ≠ 25 → q ≠ 26 → q ≠ 27 → I1' q = I1 q) (h5 : ∀ j, 320 ≤ j → I1' 5 j = I1 5 j) (hJ : ∀ q, q ≠ 24 → q ≠ 0 → J1' q = J1 q) (hI2 : ∀ q, q ≠ 11 → q ≠ 12 → I2' q = I2 q) (hJ2 : ∀ q, q ≠ 0 → J2' q = J2 q)
    (hR : tlR 1 b W Rn I1' I2') (hW : rlW W Rn I1' J1') (hC : rlC J1' J2') : Rl b W Rn Kn Tn Hn Un g I1' J1' I2' J2' := by
  obtain ⟨g1, ⟨t1, t2, t3, t4, t5, t6, t7⟩, g3, g4, g5, g6, g7, g8, g9, g10, g11, g12, g13⟩ := h
  have I1e : ∀ q, q ≠ 5 ∧ q ≠ 6 ∧ q ≠ 24 ∧ q ≠ 25 ∧ q ≠ 26 ∧ q ≠ 27 → I1' q = I1 q := fun q ⟨a, b, c, d, e, f⟩ => hI q a b c d e f
  have I2e : ∀ q, q ≠ 11 ∧ q ≠ 12 → I2' q = I2 q := fun q ⟨a, b⟩ => hI2 q a b
  have J1e : ∀ q, q ≠ 24 ∧ q ≠ 0 → J1' q = J1 q := fun q ⟨a, b⟩ => hJ q a b
  have e0 := I1e 0 (by decide)
  have f0 := I2e 0 (by decide)
  refine ⟨by rw [f0]; exact g1, ⟨?_, ?_, hR, ?_, ?_, ?_, ?_⟩, ?_, ?_, hW, ?_, ?_, ?_, ?_, ?_, hC, ?_, ?_⟩
  · unfold tlN at t1 ⊢
    rw [I1e (1 + 1) (by decide), I2e 2 (by decide), I2e 3 (by decide), I2e 4 (by decide), I2e 5 (by decide), I2e 6 (by decide), I2e 7 (by decide)]
    exact t1
  · unfold tlM at t2 ⊢
    rw [I1e (1 + 3) (by decide), I2e 9 (by decide)]
    exact t2
  · intro t ht
    obtain ⟨a1, a2, a3, a4⟩ := t4 t ht
    refine ⟨?_, ?_, ?_, fun w hw => ?_⟩
    · rw [I1e (1 + 6) (by decide), I2e 14 (by decide)]; exact a1
    · rw [I1e (1 + 7) (by decide), I2e 15 (by decide)]; exact a2
    · rw [I1e (1 + 6) (by decide), I1e (1 + 7) (by decide)]; exact a3
    · have e : I1' (1 + 4) (480 + 4 * t + w) = I1 (1 + 4) (480 + 4 * t + w) := h5 _ (by omega)
      rw [e, I2e 16 (by decide)]
      exact a4 w hw
  · intro k hk w hw
    have e : I1' (1 + 4) (640 + 4 * k + w) = I1 (1 + 4) (640 + 4 * k + w) := h5 _ (by omega)
    rw [e, I2e 18 (by decide)]
    exact t5 k hk w hw
  · unfold tlA at t6 ⊢
    rw [I1e (1 + 2) (by decide), hJ2 8 (by decide), hJ2 10 (by decide), hJ2 13 (by decide), hJ2 17 (by decide)]
    exact t6
  · have e : rb I1' (1 + 9) = rb I1 (1 + 9) := by
      funext u
      cases u with
      | zero => rfl
      | succ u => show (I1' (1 + 9) u).toNatClampNeg = (I1 (1 + 9) u).toNatClampNeg; rw [I1e (1 + 9) (by decide)]
    unfold tlU cdC cdR at t7 ⊢
    rw [e, I1e (1 + 9) (by decide), I1e (1 + 8) (by decide), I2e 19 (by decide), I2e 20 (by decide), I2e 21 (by decide), I2e 22 (by decide)]
    exact t7
  · unfold rlT at g3 ⊢
    rw [e0, f0, I1e 13 (by decide), I2e 1 (by decide)]
    exact g3
  · unfold rlF at g4 ⊢
    rw [f0, I1e 11 (by decide)]
    exact g4
  · unfold rlH at g6 ⊢
    rw [f0, I1e 38 (by decide), I1e 39 (by decide), I2e 37 (by decide), I2e 38 (by decide)]
    exact g6
  · unfold rlG at g7 ⊢
    rw [f0, I1e 51 (by decide), I1e 52 (by decide)]
    exact g7
  · unfold rlK at g8 ⊢
    rw [f0, I1e 47 (by decide), I1e 50 (by decide), I2e 41 (by decide)]
    exact g8
  · unfold rlS at g9 ⊢
    rw [f0, I1e 53 (by decide), I1e 54 (by decide), I1e 55 (by decide), I2e 43 (by decide), I2e 44 (by decide)]
    exact g9
  · unfold rlP at g10 ⊢
    rw [I1e 59 (by decide), I1e 60 (by decide), I2e 48 (by decide), J1e 61 (by decide), hJ2 49 (by decide)]
    exact g10
  · unfold rlO at g12 ⊢
    rw [I1e 12 (by decide)]
    exact g12
  · rw [rlZ_c (by rw [e0]) (I1e 4 (by decide)) (fun j hj => h5 j (by omega)) (I1e 9 (by decide)) (I1e 10 (by decide)) (I1e 44 (by decide)) (I1e 45 (by decide)) (J1e 46 (by decide))]
    exact g13
section S53
variable {D b W Rn Kn Tn Hn Un g : Nat} {I I1 I2 : Nat → Nat → Int32} {J J1 J2 : Nat → Nat → Int64}
theorem al_change {x y z : Int32} (h : Rl b W Rn Kn Tn Hn Un g I1 J1 I2 J2) : AI 198 62 [.int x, .int y, .int z] I1 J1 I2 J2 (Rl b W Rn Kn Tn Hn Un g) := by
  obtain ⟨a1, a2, -⟩ := h.N
  obtain ⟨w1, w2, w3, w4⟩ := h.W24
  have hB := h.rB
  obtain ⟨b1, b2, b3, b4, b5, b6⟩ := id hB
  rcases Classical.em (∃ j, j < Rn ∧ x = nI j) with p | p
  · rcases Classical.em (∃ j, j < W ∧ y = nI j) with q | q
    · obtain ⟨r, hr, rfl⟩ := p
      obtain ⟨w, hw, rfl⟩ := q
      have eis : (¬ z < -1 ∧ ¬ (9999 : Int32) < z) ↔ (¬ z < -1 ∧ z ≤ 9999) := and_congr Iff.rfl Int32.not_lt
      by_cases ok : ¬ z < -1 ∧ z ≤ 9999
      · -- what is written
        obtain ⟨I1a, hI1a⟩ : ∃ Ia, Ia = (if z = -1 then mj_up (mj_up I1 5 (160 + 4 * r + w) z) 6 (4 * r + w) 0 else mj_up I1 5 (160 + 4 * r + w) z) := ⟨_, rfl⟩
        obtain ⟨I2a, hI2a⟩ : ∃ Ia, Ia = (if z = -1 then mj_up (mj_up I2 12 (4 * (40 * b + r) + w) 0) 11 (4 * (40 * b + r) + w) z else mj_up I2 11 (4 * (40 * b + r) + w) z) := ⟨_, rfl⟩
        have f1 : ∀ q, q ≠ 5 → q ≠ 6 → I1a q = I1 q := fun q q5 q6 => by
          rw [hI1a]; split
          · rw [up_c q6, up_c q5]
          · rw [up_c q5]
        have f2 : ∀ q, q ≠ 11 → q ≠ 12 → I2a q = I2 q := fun q q5 q6 => by
          rw [hI2a]; split
          · rw [up_c q5, up_c q6]
          · rw [up_c q5]
        have z5 : I1a 5 (160 + 4 * r + w) = z := by
          rw [hI1a]; split
          · rw [up_c (by decide), up_s]
          · rw [up_s]
        have n5 : ∀ j, j ≠ 160 + 4 * r + w → I1a 5 j = I1 5 j := fun j hj => by
          rw [hI1a]; split
          · rw [up_c (by decide), up_j hj]
          · rw [up_j hj]
        have n6 : ∀ j, j ≠ 4 * r + w → I1a 6 j = I1 6 j := fun j hj => by
          rw [hI1a]; split
          · rw [up_j hj, up_c (by decide)]
          · rw [up_c (by decide)]
        have z11 : I2a 11 (4 * (40 * b + r) + w) = z := by
          rw [hI2a]; split
          · rw [up_s]
          · rw [up_s]
        have n11 : ∀ j, j ≠ 4 * (40 * b + r) + w → I2a 11 j = I2 11 j := fun j hj => by
          rw [hI2a]; split
          · rw [up_j hj, up_c (by decide)]
          · rw [up_j hj]
        have n12 : ∀ j, j ≠ 4 * (40 * b + r) + w → I2a 12 j = I2 12 j := fun j hj => by
          rw [hI2a]; split
          · rw [up_c (by decide), up_j hj]
          · rw [up_c (by decide)]
        have hzamt : z = -1 ∨ amt z := by
          by_cases e : z = -1
          · exact Or.inl e
          · have z0 : ¬ z < 0 := fun q => by
              have h1 := Int32.lt_iff_toInt_lt.mp q
              have h2 : ¬ z.toInt < (-1 : Int32).toInt := fun u => ok.1 (Int32.lt_iff_toInt_lt.mpr u)
              have h3 : (-1 : Int32).toInt = -1 := by decide
              have h4 : (0 : Int32).toInt = 0 := by decide
              rw [h3] at h2
              rw [h4] at h1
              refine e (Int32.toInt_inj.mp ?_)
              rw [h3]
              omega
            obtain ⟨n, hn, rfl⟩ := nI_of2 (n := 9999) (by decide) z0 ok.2
            exact Or.inr ⟨n, hn, rfl⟩
        have hTR : tlR 1 b W Rn I1a I2a := by
          intro i hi u hu
          show I2a 11 _ = I1a 5 _ ∧ (I1a 5 _ = -1 ∨ amt (I1a 5 _)) ∧ I2a 12 _ = I1a 6 _ ∧ amt (I1a 6 _)
          obtain ⟨t1, t2, t3, t4⟩ := h.2.1.2.2.1 i hi u hu
          by_cases e : i = r ∧ u = w
          · obtain ⟨rfl, rfl⟩ := e
            rw [z11, z5]
            refine ⟨rfl, hzamt, ?_⟩
            rw [hI1a, hI2a]
            by_cases e1 : z = -1
            · rw [if_pos e1, if_pos e1, up_c (by decide), up_s, up_s]
              exact ⟨rfl, 0, by omega, rfl⟩
            · rw [if_neg e1, if_neg e1, up_c (by decide), up_c (by decide)]
              exact ⟨t3, t4⟩
          · rw [n11 _ (by omega), n5 _ (by omega), n12 _ (by omega), n6 _ (by omega)]
            exact ⟨t1, t2, t3, t4⟩
        have a0' : I1a 2 0 = nI W := by rw [f1 2 (by decide) (by decide)]; exact a1
        have a1' : I1a 2 1 = nI Rn := by rw [f1 2 (by decide) (by decide)]; exact a2
        obtain ⟨I1c, J1c, hc, hW, fI, fJ⟩ := c_take (D := 895) (I := I1a) (J := J1) a0' w4 a1' w2
        obtain ⟨old, hold⟩ : ∃ o, o = J1 24 6 := ⟨_, rfl⟩
        obtain ⟨J1d, hJ1d⟩ : ∃ Jd, Jd = mj_up (mj_up J1c 0 14 (old &&& ((J1c 24 6) ^^^ (-1 : Int64)))) 0 15 ((J1c 24 6) &&& (old ^^^ (-1 : Int64))) := ⟨_, rfl⟩
        obtain ⟨J2d, hJ2d⟩ : ∃ Jd, Jd = mj_up (mj_up J2 0 46 (old &&& ((J1c 24 6) ^^^ (-1 : Int64)))) 0 47 ((J1c 24 6) &&& (old ^^^ (-1 : Int64))) := ⟨_, rfl⟩
        have hd24 : J1d 24 = J1c 24 := by rw [hJ1d, up_c (by decide), up_c (by decide)]
        have hRl : Rl b W Rn Kn Tn Hn Un g I1c J1d I2a J2d := by
          refine Rl_rows h (fun q q5 q6 q24 q25 q26 q27 => ?_) (fun j hj => ?_) (fun q q24 q0 => ?_) f2 (fun q q0 => ?_) ?_ ?_ ?_
          · rw [fI q q24 q25 q26 q27, f1 q q5 q6]
          · rw [fI 5 (by decide) (by decide) (by decide) (by decide), n5 j (by omega)]
          · funext j
            rw [hJ1d, up_c q0, up_c q0, fJ q j (Or.inl q24)]
          · rw [hJ2d, up_c q0, up_c q0]
          · unfold tlR at hTR ⊢
            rw [fI (1 + 4) (by decide) (by decide) (by decide) (by decide), fI (1 + 5) (by decide) (by decide) (by decide) (by decide)]
            exact hTR
          · unfold rlW at hW ⊢
            rw [hd24]
            exact hW
          · constructor
            · rw [hJ1d, hJ2d, up_j (by decide), up_s, up_j (by decide), up_s]
            · rw [hJ1d, hJ2d, up_s, up_s]
        refine ⟨nI (pcL (old &&& ((J1c 24 6) ^^^ (-1 : Int64)))) + nI (pcL ((J1c 24 6) &&& (old ^^^ (-1 : Int64)))), I1c, J1d, I2a, J2d, mj_mk (D := 899) (e198 _ _ _ ?_), mj_mk (D := 899) (e62 _ _ _ ?_), hRl⟩
        · refine ⟨trivial, _, _, _, c_there (k := 1) a2 w2 (by omega), if_tf (fun _ => ?_) (fun f => absurd ⟨r, hr, rfl⟩ f)⟩
          refine ⟨trivial, _, _, _, c_there (k := 0) a1 (by omega) (by omega), if_tf (fun _ => ?_) (fun f => absurd ⟨w, hw, rfl⟩ f)⟩
          rw [if_neg ok.1, if_pos ok.2]
          refine ⟨trivial, _, _, _, c_slot (k := 1), vp_in_nI (by omega) (by decide), ?_⟩
          rw [nI_clamp (by omega), ix4, nI_clamp (by omega), Nat.mul_one]
          have key : E1 198 899 (fun q => q = (.int (nI (pcL (old &&& ((J1c 24 6) ^^^ (-1 : Int64)))) + nI (pcL ((J1c 24 6) &&& (old ^^^ (-1 : Int64))))), (I1c, J1d, mj_R1))) 81 [(0, .ref 0), (4, .long old)] I1a J1 := by
            refine mj_on (s198_81 _ ?_)
            refine ⟨trivial, _, _, hc, ?_⟩
            rw [← hJ1d]
            refine ⟨trivial, _, _, _, c_bcL, ?_⟩
            refine ⟨trivial, _, _, _, c_bcL, ?_⟩
            rw [hJ1d, up_s]
          rw [← hold]
          refine if_i (fun e => ⟨vp_in_nI (by omega) (by decide), ?_⟩) (fun e => ?_)
          · rw [hI1a, if_pos e] at key; exact key
          · rw [hI1a, if_neg e] at key; exact key
        · refine ⟨trivial, _, _, _, r_isRow hB, if_tf (fun _ => ?_) (fun f => absurd ⟨r, hr, rfl⟩ f)⟩
          refine ⟨trivial, _, _, _, r_isWish hB, if_tf (fun _ => ?_) (fun f => absurd ⟨w, hw, rfl⟩ f)⟩
          refine ⟨trivial, _, _, _, r_is, if_tf (fun _ => ?_) (fun f => absurd (eis.mpr ok) f)⟩
          refine ⟨trivial, _, _, _, h.rfront, trivial, _, _, _, r_rowAt hB, ?_⟩
          have hfront : C2 (895 + 4) 60 [.ref 0] I2a J2 (.long (J1c 24 6)) I2a J2 := by
            have e := hRl.rfront (D := 895)
            rw [hd24] at e
            have hB2 := hRl.rB
            have e2 := r_rowFront (D := 895) (J := J2) hB2
            rw [hRl.front, hd24] at e2
            exact e2
          have key : ∀ I0, (mj_up I0 11 (4 * (40 * b + r) + w) z = I2a) → E2 62 899 (fun q => q = (.int (nI (pcL (old &&& ((J1c 24 6) ^^^ (-1 : Int64)))) + nI (pcL ((J1c 24 6) &&& (old ^^^ (-1 : Int64))))), (I2a, J2d, mj_R2))) 56 [(0, .ref 0), (3, .int z), (4, .long old), (6, .int (nI (4 * (40 * b + r) + w)))] I0 J2 := by
            intro I0 hI0
            refine mj_on (s62_56 _ _ _ ?_)
            rw [nI_clamp (by omega), hI0]
            refine ⟨vp_in_nI (by omega) (by decide), trivial, _, _, _, hfront, ?_⟩
            rw [← hJ2d]
            refine ⟨trivial, _, _, _, r_bits, trivial, _, _, _, r_bits, ?_⟩
            rw [hJ2d, up_s]
          rw [← hold, nI_clamp (by omega)]
          refine if_i (fun e => ⟨vp_in_nI (by omega) (by decide), ?_⟩) (fun e => ?_)
          · refine key _ ?_
            rw [hI2a, if_pos e]
          · refine key _ ?_
            rw [hI2a, if_neg e]
      · refine AI.same (-1) (mj_mk (D := 899) (e198 _ _ _ ?_)) (mj_mk (D := 899) (e62 _ _ _ ?_)) h
        · refine ⟨trivial, _, _, _, c_there (k := 1) a2 w2 (by omega), if_tf (fun _ => ?_) (fun f => absurd ⟨r, hr, rfl⟩ f)⟩
          refine ⟨trivial, _, _, _, c_there (k := 0) a1 (by omega) (by omega), if_tf (fun _ => ?_) (fun f => absurd ⟨w, hw, rfl⟩ f)⟩
          exact if_i (fun _ => rfl) (fun c => if_i (fun d => absurd ⟨c, d⟩ ok) (fun _ => rfl))
        · refine ⟨trivial, _, _, _, r_isRow hB, if_tf (fun _ => ?_) (fun f => absurd ⟨r, hr, rfl⟩ f)⟩
          refine ⟨trivial, _, _, _, r_isWish hB, if_tf (fun _ => ?_) (fun f => absurd ⟨w, hw, rfl⟩ f)⟩
          exact ⟨trivial, _, _, _, r_is, if_tf (fun f => absurd (eis.mp f) ok) (fun _ => rfl)⟩
    · refine AI.same (-1) (mj_mk (D := 899) (e198 _ _ _ ?_)) (mj_mk (D := 899) (e62 _ _ _ ?_)) h
      · refine ⟨trivial, _, _, _, c_there (k := 1) a2 w2 (by omega), if_tf (fun _ => ?_) (fun f => absurd p f)⟩
        exact ⟨trivial, _, _, _, c_there (k := 0) a1 (by omega) (by omega), if_tf (fun f => absurd f q) (fun _ => rfl)⟩
      · refine ⟨trivial, _, _, _, r_isRow hB, if_tf (fun _ => ?_) (fun f => absurd p f)⟩
        exact ⟨trivial, _, _, _, r_isWish hB, if_tf (fun f => absurd f q) (fun _ => rfl)⟩
  · refine AI.same (-1) (mj_mk (D := 899) (e198 _ _ _ ?_)) (mj_mk (D := 899) (e62 _ _ _ ?_)) h
    · exact ⟨trivial, _, _, _, c_there (k := 1) a2 w2 (by omega), if_tf (fun f => absurd f p) (fun _ => rfl)⟩
    · exact ⟨trivial, _, _, _, r_isRow hB, if_tf (fun f => absurd f p) (fun _ => rfl)⟩
end S53
