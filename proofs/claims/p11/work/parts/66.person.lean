/-! person, bar -/
theorem leI {a b : Nat} (ha : a < 2 ^ 31) (hb : b < 2 ^ 31) : nI a ≤ nI b ↔ a ≤ b := by
  rw [Int32.le_iff_toInt_le, nI_toInt ha, nI_toInt hb]
  omega
theorem up4_at {F : Nat → Nat → Int32} {c p q w : Nat} {x y z u : Int32} (hw : w < 4) : mj_up (mj_up (mj_up (mj_up F c (4 * p) x) c (4 * p + 1) y) c (4 * p + 2) z) c (4 * p + 3) u c (4 * q + w) = if q = p then (if w = 0 then x else if w = 1 then y else if w = 2 then z else u) else F c (4 * q + w) := by
  by_cases e : q = p
  · subst e
    rw [if_pos rfl]
    rcases (by omega : w = 0 ∨ w = 1 ∨ w = 2 ∨ w = 3) with rfl | rfl | rfl | rfl
    · rw [up_j (by omega), up_j (by omega), up_j (by omega), Nat.add_zero, up_s]; rfl
    · rw [up_j (by omega), up_j (by omega), up_s]; rfl
    · rw [up_j (by omega), up_s]; rfl
    · rw [up_s]; rfl
  · rw [if_neg e, up_j (by omega), up_j (by omega), up_j (by omega), up_j (by omega)]
theorem up4_c {F : Nat → Nat → Int32} {c k p j : Nat} {x y z u : Int32} (h : k ≠ c) : mj_up (mj_up (mj_up (mj_up F c (4 * p) x) c (4 * p + 1) y) c (4 * p + 2) z) c (4 * p + 3) u k j = F k j := by
  rw [up_c h, up_c h, up_c h, up_c h]
section S66
variable {D b W Rn Kn Tn Hn Un g : Nat} {I I1 I2 : Nat → Nat → Int32} {J J1 J2 : Nat → Nat → Int64}
theorem c_isOne {x : Int32} : C1 (D + 1) 275 [.int x] I J (.int (tf (∃ j, j < 6 ∧ x = nI j))) I J := by
  refine mj_mk (e275 _ ?_)
  rw [show (6 : Int32) = nI 6 from rfl]
  refine if_rg (by decide) (fun j hj e => mzT ⟨j, hj, e⟩) (fun q => mzF fun ⟨j, hj, e⟩ => q j hj e)
theorem r_isPerson {x : Int32} : C2 (D + 1) 119 [.int x] I J (.int (tf (∃ j, j < 6 ∧ x = nI j))) I J := by
  refine mj_mk (e119 _ ?_)
  rw [show (6 : Int32) = nI 6 from rfl]
  refine if_rg (by decide) (fun j hj e => mzT ⟨j, hj, e⟩) (fun q => mzF fun ⟨j, hj, e⟩ => q j hj e)
/-- a weight of the wish w -/
def wtk (W w : Nat) (x : Int32) : Prop := ∃ n, n ≤ 9 ∧ x = nI n ∧ (W ≤ w → n = 0)
theorem wtk_ref {W w : Nat} {x : Int32} (h1 : ¬ x < 0 ∧ ¬ 9 < x) (h2 : W ≤ w → x ≤ 0) : wtk W w x := by
  obtain ⟨n, hn, rfl⟩ := nI_of2 (n := 9) (by decide) h1.1 (Int32.not_lt.mp h1.2)
  exact ⟨n, hn, rfl, fun q => Nat.le_zero.mp ((leI (a := n) (b := 0) (by omega) (by decide)).mp (h2 q))⟩
theorem wtk_of {W w : Nat} {x : Int32} (h : wtk W w x) : (¬ x < 0 ∧ ¬ 9 < x) ∧ (W ≤ w → x ≤ 0) := by
  obtain ⟨n, hn, rfl, hw⟩ := h
  exact ⟨⟨nI_pos (by omega), Int32.not_lt.mpr ((leI (a := n) (b := 9) (by omega) (by decide)).mpr hn)⟩, fun q => by rw [hw q]; decide⟩
theorem c_isWeight {w : Nat} {x : Int32} (hW : W ≤ 4) (hw : w < 4) : C1 (D + 1) 276 [.int x, .int (nI w), .int (nI W)] I J (.int (tf (wtk W w x))) I J := by
  refine mj_mk (e276 _ _ _ ?_)
  refine if_i (fun c => mzF fun q => (wtk_of q).1.1 c) (fun c => if_le (by omega) (by omega) (fun d => if_i (fun f => mzF fun q => absurd ((wtk_of q).2 d) (Int32.not_le.mpr f)) (fun f => mzT ?_)) (fun d => if_i (fun f => mzF fun q => (wtk_of q).1.2 f) (fun f => mzT (wtk_ref ⟨c, f⟩ fun z => ?_))))
  · have f := Int32.not_lt.mp f
    refine wtk_ref ⟨c, fun z => ?_⟩ (fun _ => f)
    exact absurd (Int32.lt_of_lt_of_le z f) (by decide)
  · exact absurd z (by omega)
theorem al_person {x1 x2 x3 x4 x5 : Int32} (h : Rl b W Rn Kn Tn Hn Un g I1 J1 I2 J2) : AI 274 118 [.int x1, .int x2, .int x3, .int x4, .int x5] I1 J1 I2 J2 (Rl b W Rn Kn Tn Hn Un g) := by
  obtain ⟨a1, a2, -⟩ := h.N
  have hB := h.rB
  obtain ⟨b1, b2, b3, b4, b5, b6⟩ := id hB
  have hv0 : vp_in 0 6 := vp_in_nI (n := 0) (by decide) (by decide)
  by_cases all : (∃ j, j < 6 ∧ x1 = nI j) ∧ wtk W 0 x2 ∧ wtk W 1 x3 ∧ wtk W 2 x4 ∧ wtk W 3 x5
  · obtain ⟨h0, k2', k3, k4, k5⟩ := id all
    obtain ⟨p, hp, rfl⟩ := h0
    obtain ⟨n2, m2, rfl, z2⟩ := id k2'
    obtain ⟨n3, m3, rfl, z3⟩ := id k3
    obtain ⟨n4, m4, rfl, z4⟩ := id k4
    obtain ⟨n5, m5, rfl, z5⟩ := id k5
    obtain ⟨f, hf⟩ : ∃ f : Nat → Nat, f = fun w => if w = 0 then n2 else if w = 1 then n3 else if w = 2 then n4 else n5 := ⟨_, rfl⟩
    have hff : ∀ w, w < 4 → (if w = 0 then nI n2 else if w = 1 then nI n3 else if w = 2 then nI n4 else nI n5) = nI (f w) ∧ f w ≤ 9 ∧ (W ≤ w → f w = 0) := fun w hw => by
      rw [hf]
      rcases (by omega : w = 0 ∨ w = 1 ∨ w = 2 ∨ w = 3) with rfl | rfl | rfl | rfl
      · exact ⟨rfl, m2, z2⟩
      · exact ⟨rfl, m3, z3⟩
      · exact ⟨rfl, m4, z4⟩
      · exact ⟨rfl, m5, z5⟩
    have hz : (((nI n2 ||| nI n3) ||| nI n4) ||| nI n5) = nI (n2 ||| n3 ||| n4 ||| n5) := by rw [nx_or, nx_or, nx_or]
    have hz0 : (((nI n2 ||| nI n3) ||| nI n4) ||| nI n5) = 0 ↔ ∀ w, w < 4 → f w = 0 := by
      rw [hz]
      have hl : ∀ {x y : Nat}, x < 16 → y < 16 → x ||| y < 16 := fun h1 h2 => Nat.or_lt_two_pow (n := 4) h1 h2
      have hb : n2 ||| n3 ||| n4 ||| n5 < 16 := hl (hl (hl (by omega) (by omega)) (by omega)) (by omega)
      rw [show (0 : Int32) = nI 0 from rfl, nI_eq (by omega) (by decide), Nat.or_eq_zero_iff, Nat.or_eq_zero_iff, Nat.or_eq_zero_iff, hf]
      constructor
      · rintro ⟨⟨⟨q1, q2⟩, q3⟩, q4⟩ w hw
        rcases (by omega : w = 0 ∨ w = 1 ∨ w = 2 ∨ w = 3) with rfl | rfl | rfl | rfl
        · exact q1
        · exact q2
        · exact q3
        · exact q4
      · exact fun q => ⟨⟨⟨q 0 (by decide), q 1 (by decide)⟩, q 2 (by decide)⟩, q 3 (by decide)⟩
    have ix : ∀ (j : Nat), j < 4 → nI p * 4 + nI j = nI (4 * p + j) ∧ vp_in (nI (4 * p + j)) 24 := fun j hj => ⟨ix4 _ _, vp_in_nI (by omega) (by decide)⟩
    obtain ⟨F1, hF1⟩ : ∃ F1, F1 = mj_up (mj_up (mj_up (mj_up I1 59 (4 * p) (nI n2)) 59 (4 * p + 1) (nI n3)) 59 (4 * p + 2) (nI n4)) 59 (4 * p + 3) (nI n5) := ⟨_, rfl⟩
    obtain ⟨F2, hF2⟩ : ∃ F2, F2 = mj_up (mj_up (mj_up (mj_up I2 48 (4 * p) (nI n2)) 48 (4 * p + 1) (nI n3)) 48 (4 * p + 2) (nI n4)) 48 (4 * p + 3) (nI n5) := ⟨_, rfl⟩
    have at1 : ∀ q w, w < 4 → F1 59 (4 * q + w) = if q = p then nI (f w) else I1 59 (4 * q + w) := fun q w hw => by rw [hF1, up4_at hw, (hff w hw).1]
    have at2 : ∀ q w, w < 4 → F2 48 (4 * q + w) = if q = p then nI (f w) else I2 48 (4 * q + w) := fun q w hw => by rw [hF2, up4_at hw, (hff w hw).1]
    have c1 : ∀ k j, k ≠ 59 → F1 k j = I1 k j := fun k j hk => by rw [hF1, up4_c hk]
    have rl : ∀ v : Int32, ((v = 0 ∧ ∀ w, w < 4 → f w = 0) ∨ (v = 1 ∧ ∃ w, w < 4 ∧ f w ≠ 0)) → Rl b W Rn Kn Tn Hn Un g (mj_up F1 60 p v) J1 F2 J2 := fun v hv => by
      refine Rl_P h ?_ rfl ?_ rfl ?_
      · rw [mkI_up rfl, hF1, mkI_up rfl, mkI_up rfl, mkI_up rfl, mkI_up rfl]
      · rw [hF2, mkI_up rfl, mkI_up rfl, mkI_up rfl, mkI_up rfl]
      · intro q hq
        obtain ⟨o1, o2, o3⟩ := h.2.2.2.2.2.2.2.2.2.1 q hq
        by_cases e : q = p
        · subst e
          refine ⟨o1, fun w hw => ⟨f w, (hff w hw).2.1, by rw [at2 q w hw, if_pos rfl], (hff w hw).2.2⟩, ?_⟩
          rw [up_s]
          rcases hv with ⟨rfl, hv⟩ | ⟨rfl, w, hw, hv⟩
          · exact Or.inl ⟨rfl, fun w hw => by rw [at2 q w hw, if_pos rfl, hv w hw]⟩
          · refine Or.inr ⟨rfl, fun w hw => by rw [up_c (by decide), at1 q w hw, at2 q w hw, if_pos rfl, if_pos rfl], w, hw, ?_⟩
            rw [at2 q w hw, if_pos rfl]
            have := (hff w hw).2.1
            exact fun z => hv ((nI_eq (by omega) (by decide)).mp z)
        · have o2' : ∀ w, w < 4 → F2 48 (4 * q + w) = I2 48 (4 * q + w) := fun w hw => by rw [at2 q w hw, if_neg e]
          have o1' : ∀ w, w < 4 → mj_up F1 60 p v 59 (4 * q + w) = I1 59 (4 * q + w) := fun w hw => by rw [up_c (by decide), at1 q w hw, if_neg e]
          refine ⟨o1, fun w hw => by rw [o2' w hw]; exact o2 w hw, ?_⟩
          rw [up_j e, c1 60 q (by decide)]
          rcases o3 with ⟨y1, y2⟩ | ⟨y1, y2, w, y3, y4⟩
          · exact Or.inl ⟨y1, fun w hw => by rw [o2' w hw]; exact y2 w hw⟩
          · exact Or.inr ⟨y1, fun w hw => by rw [o2' w hw, o1' w hw]; exact y2 w hw, w, y3, by rw [o2' w y3]; exact y4⟩
    have rf : C2 900 118 [.ref 0, .int (nI p), .int (nI n2), .int (nI n3), .int (nI n4), .int (nI n5)] I2 J2 (.int 1) F2 J2 := by
      obtain ⟨g2, y2⟩ := wtk_of k2'
      obtain ⟨g3, y3⟩ := wtk_of k3
      obtain ⟨g4, y4⟩ := wtk_of k4
      obtain ⟨g5, y5⟩ := wtk_of k5
      refine mj_mk (D := 899) (e118 _ _ _ _ _ ?_)
      refine ⟨trivial, _, _, _, r_isPerson, if_tf (fun _ => ?_) (fun q => absurd ⟨p, hp, rfl⟩ q)⟩
      refine ⟨trivial, _, _, _, r_is, if_tf (fun _ => ?_) (fun q => absurd g2 q)⟩
      refine ⟨trivial, _, _, _, r_is, if_tf (fun _ => ?_) (fun q => absurd g3 q)⟩
      refine ⟨trivial, _, _, _, r_is, if_tf (fun _ => ?_) (fun q => absurd g4 q)⟩
      refine ⟨trivial, _, _, _, r_is, if_tf (fun _ => ?_) (fun q => absurd g5 q)⟩
      rw [b1, nI_clamp (by omega), b3]
      refine ⟨vp_in_nI b2 (by decide), ?_⟩
      have go4 : E2 118 899 (fun q => q = (.int 1, (F2, J2, mj_R2))) 106 [(0, .ref 0), (1, .int (nI p)), (2, .int (nI n2)), (3, .int (nI n3)), (4, .int (nI n4)), (5, .int (nI n5))] I2 J2 := by
        refine mj_on (s118_106 _ _ _ _ _ ?_)
        rw [show (4 : Int32) * nI p = nI (4 * p) from pk_mul 4 p, show (1 : Int32) = nI 1 from rfl, show (2 : Int32) = nI 2 from rfl, show (3 : Int32) = nI 3 from rfl, nI_add, nI_add, nI_add, nI_clamp (by omega), nI_clamp (by omega), nI_clamp (by omega), nI_clamp (by omega), ← hF2]
        exact ⟨vp_in_nI (by omega) (by decide), vp_in_nI (by omega) (by decide), vp_in_nI (by omega) (by decide), vp_in_nI (by omega) (by decide), mj_on (s118_150 ⟨Or.inr rfl, rfl⟩)⟩
      have go3 : E2 118 899 (fun q => q = (.int 1, (F2, J2, mj_R2))) 93 [(0, .ref 0), (1, .int (nI p)), (2, .int (nI n2)), (3, .int (nI n3)), (4, .int (nI n4)), (5, .int (nI n5)), (6, .int (nI W))] I2 J2 :=
        mj_on (s118_93 _ _ _ _ _ _ (if_le (a := 4) (by decide) (by omega) (fun z => go4) (fun z => if_i (fun _ => go4) (fun y => absurd (y5 (by omega)) y))))
      have go2 : E2 118 899 (fun q => q = (.int 1, (F2, J2, mj_R2))) 82 [(0, .ref 0), (1, .int (nI p)), (2, .int (nI n2)), (3, .int (nI n3)), (4, .int (nI n4)), (5, .int (nI n5)), (6, .int (nI W))] I2 J2 :=
        mj_on (s118_82 _ _ _ _ _ _ (if_le (a := 3) (by decide) (by omega) (fun z => go3) (fun z => if_i (fun _ => go3) (fun y => absurd (y4 (by omega)) y))))
      have go1 : E2 118 899 (fun q => q = (.int 1, (F2, J2, mj_R2))) 72 [(0, .ref 0), (1, .int (nI p)), (2, .int (nI n2)), (3, .int (nI n3)), (4, .int (nI n4)), (5, .int (nI n5)), (6, .int (nI W))] I2 J2 :=
        mj_on (s118_72 _ _ _ _ _ _ (if_le (a := 2) (by decide) (by omega) (fun z => go2) (fun z => if_i (fun _ => go2) (fun y => absurd (y3 (by omega)) y))))
      exact if_le (a := 1) (by decide) (by omega) (fun z => go1) (fun z => if_i (fun _ => go1) (fun y => absurd (y2 (by omega)) y))
    have cl : ∃ v : Int32, C1 900 274 [.ref 0, .int (nI p), .int (nI n2), .int (nI n3), .int (nI n4), .int (nI n5)] I1 J1 (.int 1) (mj_up F1 60 p v) J1 ∧ ((v = 0 ∧ ∀ w, w < 4 → f w = 0) ∨ (v = 1 ∧ ∃ w, w < 4 ∧ f w ≠ 0)) := by
      have main : ∀ v : Int32, (E1 274 899 (fun q => q = (.int 1, (mj_up F1 60 p v, J1, mj_R1))) 119 [(0, .ref 0), (1, .int (nI p)), (2, .int (nI n2)), (3, .int (nI n3)), (4, .int (nI n4)), (5, .int (nI n5))] F1 J1) → C1 900 274 [.ref 0, .int (nI p), .int (nI n2), .int (nI n3), .int (nI n4), .int (nI n5)] I1 J1 (.int 1) (mj_up F1 60 p v) J1 := fun v e => by
        refine mj_mk (D := 899) (e274 _ _ _ _ _ ?_)
        rw [show ((0 : Int32)).toNatClampNeg = 0 from rfl, a1]
        refine ⟨hv0, trivial, _, _, _, c_isOne, if_tf (fun _ => ?_) (fun q => absurd ⟨p, hp, rfl⟩ q)⟩
        refine ⟨trivial, _, _, _, c_isWeight (w := 0) b4 (by decide), if_tf (fun _ => ?_) (fun q => absurd k2' q)⟩
        refine ⟨trivial, _, _, _, c_isWeight (w := 1) b4 (by decide), if_tf (fun _ => ?_) (fun q => absurd k3 q)⟩
        refine ⟨trivial, _, _, _, c_isWeight (w := 2) b4 (by decide), if_tf (fun _ => ?_) (fun q => absurd k4 q)⟩
        refine ⟨trivial, _, _, _, c_isWeight (w := 3) b4 (by decide), if_tf (fun _ => ?_) (fun q => absurd k5 q)⟩
        rw [ix4m, show (1 : Int32) = nI 1 from rfl, show (2 : Int32) = nI 2 from rfl, show (3 : Int32) = nI 3 from rfl, nI_add, nI_add, nI_add, nI_clamp (by omega), nI_clamp (by omega), nI_clamp (by omega), nI_clamp (by omega), ← hF1]
        exact ⟨vp_in_nI (by omega) (by decide), vp_in_nI (by omega) (by decide), vp_in_nI (by omega) (by decide), vp_in_nI (by omega) (by decide), e⟩
      by_cases z : ∀ w, w < 4 → f w = 0
      · refine ⟨0, main 0 (mj_on (s274_119 _ _ _ _ _ ?_)), Or.inl ⟨rfl, z⟩⟩
        rw [if_pos (hz0.mpr z), nar_0, nI_clamp (by omega)]
        exact ⟨vp_in_nI hp (by decide), Or.inr rfl, rfl⟩
      · refine ⟨1, main 1 (mj_on (s274_119 _ _ _ _ _ ?_)), Or.inr ⟨rfl, ?_⟩⟩
        · rw [if_neg (fun q => z (hz0.mp q)), nar_1, nI_clamp (by omega)]
          exact ⟨vp_in_nI hp (by decide), Or.inr rfl, rfl⟩
        · refine Classical.byContradiction fun q => z fun w hw => Classical.byContradiction fun y => q ⟨w, hw, y⟩
    obtain ⟨v, hc, hv⟩ := cl
    exact ⟨_, _, _, _, _, hc, rf, rl v hv⟩
  · refine AI.same 0 (mj_mk (D := 899) (e274 _ _ _ _ _ ?_)) (mj_mk (D := 899) (e118 _ _ _ _ _ ?_)) h
    · rw [show ((0 : Int32)).toNatClampNeg = 0 from rfl, a1]
      refine ⟨hv0, trivial, _, _, _, c_isOne, if_tf (fun q1 => ?_) (fun _ => ⟨Or.inl rfl, rfl⟩)⟩
      refine ⟨trivial, _, _, _, c_isWeight (w := 0) b4 (by decide), if_tf (fun q2 => ?_) (fun _ => ⟨Or.inl rfl, rfl⟩)⟩
      refine ⟨trivial, _, _, _, c_isWeight (w := 1) b4 (by decide), if_tf (fun q3 => ?_) (fun _ => ⟨Or.inl rfl, rfl⟩)⟩
      refine ⟨trivial, _, _, _, c_isWeight (w := 2) b4 (by decide), if_tf (fun q4 => ?_) (fun _ => ⟨Or.inl rfl, rfl⟩)⟩
      refine ⟨trivial, _, _, _, c_isWeight (w := 3) b4 (by decide), if_tf (fun q5 => ?_) (fun _ => ⟨Or.inl rfl, rfl⟩)⟩
      exact absurd ⟨q1, q2, q3, q4, q5⟩ all
    · refine ⟨trivial, _, _, _, r_isPerson, if_tf (fun q1 => ?_) (fun _ => ⟨Or.inl rfl, rfl⟩)⟩
      refine ⟨trivial, _, _, _, r_is, if_tf (fun q2 => ?_) (fun _ => ⟨Or.inl rfl, rfl⟩)⟩
      refine ⟨trivial, _, _, _, r_is, if_tf (fun q3 => ?_) (fun _ => ⟨Or.inl rfl, rfl⟩)⟩
      refine ⟨trivial, _, _, _, r_is, if_tf (fun q4 => ?_) (fun _ => ⟨Or.inl rfl, rfl⟩)⟩
      refine ⟨trivial, _, _, _, r_is, if_tf (fun q5 => ?_) (fun _ => ⟨Or.inl rfl, rfl⟩)⟩
      rw [b1, nI_clamp (by omega), b3]
      refine ⟨vp_in_nI b2 (by decide), ?_⟩
      have go : ∀ (w1 : W ≤ 0 → x2 ≤ 0), E2 118 899 (fun q => q = (.int 0, (I2, J2, mj_R2))) 72 [(0, .ref 0), (1, .int x1), (2, .int x2), (3, .int x3), (4, .int x4), (5, .int x5), (6, .int (nI W))] I2 J2 := fun w1 => by
        refine mj_on (s118_72 _ _ _ _ _ _ ?_)
        have go : ∀ (w2 : W ≤ 1 → x3 ≤ 0), E2 118 899 (fun q => q = (.int 0, (I2, J2, mj_R2))) 82 [(0, .ref 0), (1, .int x1), (2, .int x2), (3, .int x3), (4, .int x4), (5, .int x5), (6, .int (nI W))] I2 J2 := fun w2 => by
          refine mj_on (s118_82 _ _ _ _ _ _ ?_)
          have go : ∀ (w3 : W ≤ 2 → x4 ≤ 0), E2 118 899 (fun q => q = (.int 0, (I2, J2, mj_R2))) 93 [(0, .ref 0), (1, .int x1), (2, .int x2), (3, .int x3), (4, .int x4), (5, .int x5), (6, .int (nI W))] I2 J2 := fun w3 => by
            refine mj_on (s118_93 _ _ _ _ _ _ ?_)
            have no : ∀ w4 : W ≤ 3 → x5 ≤ 0, False := fun w4 => all ⟨q1, wtk_ref q2 w1, wtk_ref q3 w2, wtk_ref q4 w3, wtk_ref q5 w4⟩
            exact if_le (a := 4) (by decide) (by omega) (fun z => (no fun y => by omega).elim) (fun z => if_i (fun y => (no fun _ => y).elim) (fun _ => ⟨Or.inl rfl, rfl⟩))
          exact if_le (a := 3) (by decide) (by omega) (fun z => go fun y => by omega) (fun z => if_i (fun y => go fun _ => y) (fun _ => ⟨Or.inl rfl, rfl⟩))
        exact if_le (a := 2) (by decide) (by omega) (fun z => go fun y => by omega) (fun z => if_i (fun y => go fun _ => y) (fun _ => ⟨Or.inl rfl, rfl⟩))
      exact if_le (a := 1) (by decide) (by omega) (fun z => go fun y => by omega) (fun z => if_i (fun y => go fun _ => y) (fun _ => ⟨Or.inl rfl, rfl⟩))
theorem al_bar {x1 x2 x3 : Int32} (h : Rl b W Rn Kn Tn Hn Un g I1 J1 I2 J2) : AI 277 120 [.int x1, .int x2, .int x3] I1 J1 I2 J2 (Rl b W Rn Kn Tn Hn Un g) := by
  obtain ⟨a1, a2, -⟩ := h.N
  have hB := h.rB
  obtain ⟨b1, b2, b3, b4, b5, b6⟩ := id hB
  by_cases all : (∃ j, j < 6 ∧ x1 = nI j) ∧ ∃ j, j < Rn ∧ x2 = nI j
  · obtain ⟨⟨p, hp, rfl⟩, ⟨r, hr, rfl⟩⟩ := id all
    have rl : ∀ v : Int64, Rl b W Rn Kn Tn Hn Un g I1 (mj_up J1 61 p v) I2 (mj_up J2 49 p v) := fun v => by
      refine Rl_P h rfl (mkJ_up rfl) rfl (mkJ_up rfl) fun q hq => ?_
      obtain ⟨o1, o2, o3⟩ := h.2.2.2.2.2.2.2.2.2.1 q hq
      refine ⟨?_, o2, o3⟩
      by_cases e : q = p
      · rw [e]
        show mj_up J2 49 p v 49 p = mj_up J1 61 p v 61 p
        simp [mj_up]
      · show mj_up J2 49 p v 49 q = mj_up J1 61 p v 61 q
        simp [mj_up, e, o1]
    have e49 : J2 49 p = J1 61 p := (h.2.2.2.2.2.2.2.2.2.1 p hp).1
    have hv : vp_in (nI p) 6 := vp_in_nI hp (by decide)
    by_cases c : x3 = 0
    · refine ⟨1, I1, mj_up J1 61 p ((J1 61 p) &&& (((1 : Int64) <<< ((nI r).toInt64 &&& 63)) ^^^ (-1))), I2, mj_up J2 49 p ((J1 61 p) &&& (((1 : Int64) <<< ((nI r).toInt64 &&& 63)) ^^^ (-1))), mj_mk (D := 899) (e277 _ _ _ ?_), mj_mk (D := 899) (e120 _ _ _ ?_), rl _⟩
      · refine ⟨trivial, _, _, _, c_isOne, if_tf (fun _ => ?_) (fun q => absurd ⟨p, hp, rfl⟩ q)⟩
        refine ⟨trivial, _, _, _, c_there (k := 1) a2 b6 (by decide), if_tf (fun _ => ?_) (fun q => absurd ⟨r, hr, rfl⟩ q)⟩
        rw [if_pos c, nI_clamp (by omega)]
        exact ⟨hv, hv, Or.inr rfl, rfl⟩
      · refine ⟨trivial, _, _, _, r_isPerson, if_tf (fun _ => ?_) (fun q => absurd ⟨p, hp, rfl⟩ q)⟩
        refine ⟨trivial, _, _, _, r_isRow hB, if_tf (fun _ => ?_) (fun q => absurd ⟨r, hr, rfl⟩ q)⟩
        rw [if_pos c, nI_clamp (by omega), e49]
        exact ⟨hv, hv, Or.inr rfl, rfl⟩
    · refine ⟨1, I1, mj_up J1 61 p ((J1 61 p) ||| ((1 : Int64) <<< ((nI r).toInt64 &&& 63))), I2, mj_up J2 49 p ((J1 61 p) ||| ((1 : Int64) <<< ((nI r).toInt64 &&& 63))), mj_mk (D := 899) (e277 _ _ _ ?_), mj_mk (D := 899) (e120 _ _ _ ?_), rl _⟩
      · refine ⟨trivial, _, _, _, c_isOne, if_tf (fun _ => ?_) (fun q => absurd ⟨p, hp, rfl⟩ q)⟩
        refine ⟨trivial, _, _, _, c_there (k := 1) a2 b6 (by decide), if_tf (fun _ => ?_) (fun q => absurd ⟨r, hr, rfl⟩ q)⟩
        rw [if_neg c, nI_clamp (by omega)]
        exact ⟨hv, hv, Or.inr rfl, rfl⟩
      · refine ⟨trivial, _, _, _, r_isPerson, if_tf (fun _ => ?_) (fun q => absurd ⟨p, hp, rfl⟩ q)⟩
        refine ⟨trivial, _, _, _, r_isRow hB, if_tf (fun _ => ?_) (fun q => absurd ⟨r, hr, rfl⟩ q)⟩
        rw [if_neg c, nI_clamp (by omega), e49]
        exact ⟨hv, hv, Or.inr rfl, rfl⟩
  · refine AI.same 0 (mj_mk (D := 899) (e277 _ _ _ ?_)) (mj_mk (D := 899) (e120 _ _ _ ?_)) h
    · refine ⟨trivial, _, _, _, c_isOne, if_tf (fun q1 => ?_) (fun _ => ⟨Or.inl rfl, rfl⟩)⟩
      exact ⟨trivial, _, _, _, c_there (k := 1) a2 b6 (by decide), if_tf (fun q2 => absurd ⟨q1, q2⟩ all) (fun _ => ⟨Or.inl rfl, rfl⟩)⟩
    · refine ⟨trivial, _, _, _, r_isPerson, if_tf (fun q1 => ?_) (fun _ => ⟨Or.inl rfl, rfl⟩)⟩
      exact ⟨trivial, _, _, _, r_isRow hB, if_tf (fun q2 => absurd ⟨q1, q2⟩ all) (fun _ => ⟨Or.inl rfl, rfl⟩)⟩
end S66
