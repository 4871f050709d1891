/-! front of kind 0, the reference -/
section S87
variable {D b W Rn Kn Tn Hn Un g : Nat} {I I1 I2 : Nat → Nat → Int32} {J J1 J2 : Nat → Nat → Int64}
theorem rB_h (h : rB I2 b W Rn) (e : mkI ([37, 38, 39] ++ sc2) ([(0, 58), (0, 59)] ++ sl2) I = mkI ([37, 38, 39] ++ sc2) ([(0, 58), (0, 59)] ++ sl2) I2) : rB I b W Rn := by
  obtain ⟨b1, b2, b3, b4, b5, b6⟩ := h
  exact ⟨by rw [km_at e rfl]; exact b1, b2, by rw [km_at e rfl]; exact b3, b4, by rw [km_at e rfl]; exact b5, b6⟩
def kpt (W : Nat) (I1 I : Nat → Nat → Int32) (L : List Nat) : Prop := I 0 48 = nI L.length ∧ ∀ r x, L[r]? = some x → (∀ w, w < W → I 29 (4 * r + w) = I1 25 (4 * x + w)) ∧ I 30 r = nI x
theorem r_front0 {x2 x3 : Int32} (h : Rl b W Rn Kn Tn Hn Un g I1 J1 I2 J2) (hW : W ≠ 0) : ∃ r I' J', C2 900 70 [.ref 0, .int 0, .int x2, .int x3] I2 J2 (.int r) I' J' ∧ r = nI (blL (J1 24 6) Rn).length ∧ J' = J2 ∧ I' 0 58 = nI (blL (J1 24 6) Rn).length ∧ I' 0 59 = 0 ∧ (∀ r x, (blL (J1 24 6) Rn)[r]? = some x → (∀ w, w < W → I' 37 (4 * r + w) = I1 25 (4 * x + w)) ∧ I' 38 r = nI x) ∧ mkI ([37, 38, 39] ++ sc2) ([(0, 58), (0, 59)] ++ sl2) I' = mkI ([37, 38, 39] ++ sc2) ([(0, 58), (0, 59)] ++ sl2) I2 := by
  have hB := h.rB
  obtain ⟨b1, b2, b3, b4, b5, b6⟩ := id hB
  refine mj_cI (D := 899) (e70 _ _ _ ?_)
  have k0 : k2 (mj_up I2 0 48 0) = k2 I2 := k2_up rfl
  have h0 := Rl_same (I1' := I1) (J1' := J1) (J2' := J2) h rfl rfl k0 rfl
  have rf := h0.rfront (D := 895)
  obtain ⟨C, hC⟩ : ∃ C, C = J1 24 6 := ⟨_, rfl⟩
  rw [← hC] at rf ⊢
  obtain ⟨Q, hQ⟩ : ∃ Q, Q = qI mj_R2 (fun r I' J' => r = nI (blL C Rn).length ∧ J' = J2 ∧ I' 0 58 = nI (blL C Rn).length ∧ I' 0 59 = 0 ∧ (∀ r x, (blL C Rn)[r]? = some x → (∀ w, w < W → I' 37 (4 * r + w) = I1 25 (4 * x + w)) ∧ I' 38 r = nI x) ∧ mkI ([37, 38, 39] ++ sc2) ([(0, 58), (0, 59)] ++ sl2) I' = mkI ([37, 38, 39] ++ sc2) ([(0, 58), (0, 59)] ++ sl2) I2) := ⟨_, rfl⟩
  rw [← hQ]
  obtain ⟨l1, l2⟩ := blL_ok (C := C) (n := Rn)
  refine ⟨trivial, _, _, _, r_is, if_tf (fun _ => ?_) (fun q => absurd ⟨by decide, by decide⟩ q)⟩
  rw [b1, nI_clamp (by omega), b3, if_neg (nI_ne0 (by omega) (by omega)), if_neg (by decide)]
  refine ⟨vp_in_nI b2 (by decide), mj_on (s70_73 _ _ _ ?_)⟩
  rw [if_pos rfl]
  refine ⟨trivial, _, _, _, rf, ?_⟩
  -- the rows laid out
  have shown : ∀ I, k2 I = k2 I2 → kpt W I1 I (blL C Rn) → E2 70 899 Q 192 [(0, .ref 0), (1, .int 0), (2, .int x2), (3, .int x3)] I J2 := fun I hk hp => by
    refine mj_on (s70_192 _ _ _ ?_)
    rw [if_neg (by decide), if_neg (by decide)]
    refine mj_on (s70_212 _ ?_)
    rw [hp.1, show (100 : Int32) = nI 100 from rfl]
    refine if_le (by omega) (by decide) (fun _ => ?_) (fun q => absurd q (by omega))
    refine lp_up (n := (blL C Rn).length) (fun k => ∀ I, mkI ([37, 38, 39] ++ sc2) ([(0, 58), (0, 59)] ++ sl2) I = mkI ([37, 38, 39] ++ sc2) ([(0, 58), (0, 59)] ++ sl2) I2 → kpt W I1 I (blL C Rn) → I 0 58 = nI (blL C Rn).length → I 0 59 = 0 → (∀ r x, r < k → (blL C Rn)[r]? = some x → (∀ w, w < W → I 37 (4 * r + w) = I1 25 (4 * x + w)) ∧ I 38 r = nI x) → E2 70 899 Q 240 [(0, .ref 0), (1, .int 0), (4, .int (nI k))] I J2) (fun k hk2 ih I m1 m2 m3 m4 m5 => ?_) 0 (Nat.zero_le _) _ (by rw [mkI_up rfl, mkI_up rfl]; exact mkI_k2 hk) ⟨by rw [up_j (by decide), up_j (by decide)]; exact hp.1, fun r x q => by rw [up_c (by decide), up_c (by decide)]; exact hp.2 r x q⟩ (by rw [up_s]) (by rw [up_j (by decide), up_s]) (fun r x q => absurd q (Nat.not_lt_zero r))
    refine mj_on (s70_240 _ _ ?_)
    rw [m2.1]
    refine if_le (by omega) (by omega) (fun c => ?_) (fun c => ?_)
    · obtain rfl : k = (blL C Rn).length := by omega
      rw [hQ]
      exact ⟨_, _, _, rfl, rfl, rfl, m3, m4, fun r x q => m5 r x (by have := (List.getElem?_eq_some_iff.mp q).1; omega) q, m1⟩
    have go : E2 70 899 Q 336 [(0, .ref 0), (1, .int 0), (4, .int (nI k)), (5, .int (nI k)), (6, .int 0)] I J2 := by
      refine r_placeRow (rB_h hB m1) (by omega) (by omega) fun I' hpl => ?_
      obtain ⟨p1, p2, p3, p4, p5, p6, p7⟩ := hpl
      have f0 := p1 0 (by decide) (by decide) (by decide)
      refine ih c I' ?_ ⟨by rw [f0]; exact m2.1, fun r x q => by rw [p1 29 (by decide) (by decide) (by decide), p1 30 (by decide) (by decide) (by decide)]; exact m2.2 r x q⟩ (by rw [f0]; exact m3) (by rw [f0]; exact m4) (fun r x q1 q2 => ?_)
      · rw [← m1]
        refine mkI_of fun q j q1 _ => ?_
        rw [p1 q (fun z => by rw [z] at q1; cases q1) (fun z => by rw [z] at q1; cases q1) (fun z => by rw [z] at q1; cases q1)]
      · by_cases z : r = k
        · subst z
          obtain ⟨y1, y2⟩ := m2.2 r x q2
          exact ⟨fun w hw => by rw [p2 w hw]; exact y1 w hw, by rw [p4]; exact y2⟩
        · obtain ⟨y1, y2⟩ := m5 r x (by omega) q2
          exact ⟨fun w hw => by rw [p3 _ (by omega)]; exact y1 w hw, by rw [p5 r z]; exact y2⟩
    refine mj_on (s70_256 _ _ _ _ ?_)
    rw [if_pos (show (0 : Int32) ≤ 0 by decide)]
    exact if_i (fun _ => go) (fun _ => go)
  refine lp_up (n := Rn) (fun i => ∀ I, k2 I = k2 I2 → kpt W I1 I (blL C i) → E2 70 899 Q 91 [(0, .ref 0), (1, .int 0), (2, .int x2), (3, .int x3), (4, .long C), (6, .int (nI i))] I J2) (fun i hi ih I hk hp => ?_) 0 (Nat.zero_le _) _ k0 ⟨by rw [up_s]; rfl, fun r x q => by cases q⟩
  have hI := Rl_same (I1' := I1) (J1' := J1) (J2' := J2) h rfl rfl hk rfl
  obtain ⟨q1, q2, q3, q4, q5, q6⟩ := hI.rB
  obtain ⟨i1, i2⟩ := blL_ok (C := C) (n := i)
  refine mj_on (s70_91 _ _ _ _ _ ?_)
  rw [q1, nI_clamp (by omega), q5, nI_1]
  refine ⟨vp_in_nI b2 (by decide), if_le (by omega) (by omega) (fun c => ?_) (fun c => if_i (fun d => ?_) (fun d => ?_))⟩
  · obtain rfl : i = Rn := by omega
    exact shown I hk hp
  · have z := ih c I hk
    rw [blL_f ((sb_0 (by omega)).mp d)] at z
    exact z hp
  have d : lbit C i := Classical.byContradiction fun q => d ((sb_0 (by omega)).mpr q)
  refine lp_up (n := W) (fun w => ∀ I, k2 I = k2 I2 → kpt W I1 I (blL C i) → (∀ u, u < w → I 29 (4 * (blL C i).length + u) = I1 25 (4 * i + u)) → E2 70 899 Q 123 [(0, .ref 0), (1, .int 0), (2, .int x2), (3, .int x3), (4, .long C), (6, .int (nI i)), (7, .int (nI w))] I J2) (fun w hw ih2 I hk hp hw2 => ?_) 0 (Nat.zero_le _) I hk hp (fun u q => absurd q (Nat.not_lt_zero u))
  have hI := Rl_same (I1' := I1) (J1' := J1) (J2' := J2) h rfl rfl hk rfl
  obtain ⟨q1, q2, q3, q4, q5, q6⟩ := hI.rB
  refine mj_on (s70_123 _ _ _ _ _ _ ?_)
  rw [q1, nI_clamp (by omega), q3, hp.1, nI_1, nI_1, nI_1, ix4', nI_clamp (by omega), nI_clamp (by omega)]
  refine ⟨vp_in_nI b2 (by decide), if_le (by omega) (by omega) (fun e => ⟨vp_in_nI (by omega) (by decide), ?_⟩) (fun e => ⟨trivial, _, _, _, r_rowLoss (D := 897) hI.rB (by omega) e, vp_in_nI (by omega) (by decide), ?_⟩)⟩
  · obtain rfl : w = W := by omega
    refine ih c _ (by rw [k2_up rfl, k2_up rfl]; exact hk) ?_
    rw [blL_t d]
    refine ⟨by rw [up_s, List.length_append]; rfl, fun r x hr => ?_⟩
    rw [up_c (by decide), up_c (by decide), up_c (by decide)]
    rcases app_at hr with ⟨z1, z2⟩ | ⟨rfl, rfl⟩
    · obtain ⟨y1, y2⟩ := hp.2 r x z2
      exact ⟨y1, by rw [up_j (by omega)]; exact y2⟩
    · exact ⟨hw2, up_s⟩
  · rw [hI.ls c e]
    refine ih2 e _ (by rw [k2_up rfl]; exact hk) ⟨by rw [up_c (by decide)]; exact hp.1, fun r x hr => ?_⟩ (fun u hu => ?_)
    · have hr2 := (List.getElem?_eq_some_iff.mp hr).1
      obtain ⟨y1, y2⟩ := hp.2 r x hr
      exact ⟨fun v hv => by rw [up_j (by omega)]; exact y1 v hv, by rw [up_c (by decide)]; exact y2⟩
    · by_cases z : u = w
      · rw [z, up_s]
      · rw [up_j (by omega)]; exact hw2 u (by omega)
end S87
