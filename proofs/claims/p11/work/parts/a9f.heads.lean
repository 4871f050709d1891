/-! the head of a statement, on both sides -/
/-- a statement is read alike -/
def STO (n : Nat) (x : Nat → Nat) (d : Nat) (B1 B2 : (Nat → Nat → Int32)) (BJ : (Nat → Nat → Int64)) (D D' mc p : Nat) (J1 : (Nat → Nat → Int64)) (I1 I2 : (Nat → Nat → Int32)) (J2 : (Nat → Nat → Int64)) : Prop := ∃ I1' I2' J2', C1 (D + 9) 143 [.ref 11] I1 J1 .null I1' J1 ∧ (∀ r, E2 17 (D' + 6) (fun y => y = r) 296 [(0, .ref 0)] I2' J2' → mj_Cl mj_S2 mj_CD (D' + 7) 17 [.ref 0] (I2, J2, mj_R2) r) ∧ ((∃ W Rn Kn Tn Hn Un S F p' a' t' v' l' o', RS n x d B1 B2 BJ W Rn Kn Tn Hn Un S F mc p' a' t' v' l' o' I1' I2' J2' ∧ p < p') ∨ DS d B1 B2 BJ I1' I2' J2')
section Sa9f
variable {n d W Rn Kn Tn Hn Un S F mc : Nat} {x : Nat → Nat} {B1 B2 : Nat → Nat → Int32} {BJ : Nat → Nat → Int64}
variable {D D' E p a t v : Nat} {l : List Nat} {o : Int} {I1 I2 : Nat → Nat → Int32} {J1 J2 : Nat → Nat → Int64}
theorem RS_lx {I1' I2' : (Nat → Nat → Int32)} {J2' : (Nat → Nat → Int64)} {p' a' t' v' : Nat} {l' : List Nat} {o' : Int} (h : RS n x d B1 B2 BJ W Rn Kn Tn Hn Un S F mc p a t v l o I1 I2 J2) (e1 : lxF I1 I1') (e2 : lxg I2 I2') (e3 : lxgJ J2 J2') (hk : tkR n x p' a' t' v' l' o' I1' I2' J2') (hp : p ≤ p') : RS n x d B1 B2 BJ W Rn Kn Tn Hn Un S F mc p' a' t' v' l' o' I1' I2' J2' := by
  obtain ⟨-, hA, hD, hS, hF, hm⟩ := h
  exact ⟨hk, tfA_lx hA e1 e2 e3, TD_lx hD e1 e2 e3, by omega, by omega, by rw [e1 14 0 (by decide)]; exact hm.1, by rw [e1 11 9 (by decide)]; exact hm.2⟩
theorem RS_DS {I1' I2' : (Nat → Nat → Int32)} {J2' : (Nat → Nat → Int64)} (h : RS n x d B1 B2 BJ W Rn Kn Tn Hn Un S F mc p a t v l o I1 I2 J2) (e1 : lxF I1 I1') (e2 : lxg I2 I2') (e3 : lxgJ J2 J2') (hd : ∃ k p, tkD k p I1' I2') : DS d B1 B2 BJ I1' I2' J2' := DS_mk h.2.1 (TD_DSB h.2.2.1 (RS_S h)) e1 e2 e3 hd
theorem bl_st {k : Nat} (h : RS n x d B1 B2 BJ W Rn Kn Tn Hn Un S F mc p a t v l o I1 I2 J2) (hk : 1 ≤ k) (hk6 : k ≤ 6) : ∃ I1' I2', C1 (D + 1) 144 [.ref 11, .int (nI k)] I1 J1 .null I1' J1 ∧ C2 (D' + 1) 16 [.ref 0, .int (nI k), .int (I2 0 4)] I2 J2 .null I2' J2 ∧ DS d B1 B2 BJ I1' I2' J2 ∧ I2' 0 8 = nI k := by
  obtain ⟨I1', I2', k1, k2, k3, k4, k5⟩ := bl_both (D := D) (D' := D') (J1 := J1) (k := k) h.1 hk hk6
  exact ⟨I1', I2', k1, k2, RS_DS h (lxh_F k3) (fun q j z => k4 q j (by omega)) lxgJ_rf ⟨_, _, k5⟩, k5.2.2.2.2.2.2.1⟩
theorem adv_st (h : RS n x d B1 B2 BJ W Rn Kn Tn Hn Un S F mc p a t v l o I1 I2 J2) (h0 : t ≠ 0) : ∃ I1' I2' J2', C1 (D + 3) 139 [.ref 11] I1 J1 .null I1' J1 ∧ C2 (D' + 2) 13 [.ref 0] I2 J2 .null I2' J2' ∧ lxF I1 I1' ∧ ((∃ p' a' t' v' l' o', RS n x d B1 B2 BJ W Rn Kn Tn Hn Un S F mc p' a' t' v' l' o' I1' I2' J2' ∧ p < p') ∨ DS d B1 B2 BJ I1' I2' J2') := by
  obtain ⟨I1', I2', J2', k1, k2, k3, k4, k5, k6⟩ := adv_ta (D := D) (D' := D') (J1 := J1) h.1 h0
  refine ⟨I1', I2', J2', k1, k2, lxf_F k3, ?_⟩
  rcases k6 with ⟨p', a', t', v', l', o', q1, q2, -⟩ | ⟨p', q1⟩
  · exact Or.inl ⟨p', a', t', v', l', o', RS_lx h (lxf_F k3) k4 k5 q1 (by omega), q2⟩
  · exact Or.inr (RS_DS h (lxf_F k3) k4 k5 ⟨_, _, q1⟩)
theorem cnt_both {y1 y2 : Int32} {f e : Prop} (h : RS n x d B1 B2 BJ W Rn Kn Tn Hn Un S F mc p a t v l o I1 I2 J2) (t3 : t = 3) (h1 : y1 = tf f) (h2 : y2 = tf e) : ∃ I1' I2' J2', C2 (D' + 3) 20 [.ref 0, .int y1, .int y2] I2 J2 .null I2' J2' ∧ ((f ∧ C1 (D + 3) 144 [.ref 11, .int 5] I1 J1 .null I1' J1 ∧ DS d B1 B2 BJ I1' I2' J2') ∨ (¬ f ∧ e ∧ C1 (D + 3) 144 [.ref 11, .int 6] I1 J1 .null I1' J1 ∧ DS d B1 B2 BJ I1' I2' J2') ∨ (¬ f ∧ ¬ e ∧ C1 (D + 3) 139 [.ref 11] I1 J1 .null I1' J1 ∧ lxF I1 I1' ∧ ((∃ p' a' t' v' l' o', RS n x d B1 B2 BJ W Rn Kn Tn Hn Un S F mc p' a' t' v' l' o' I1' I2' J2' ∧ p < p') ∨ DS d B1 B2 BJ I1' I2' J2'))) := by
  have r8 := r_8 h.1
  rw [h1, h2]
  by_cases hf : f
  · obtain ⟨I1', I2', k1, k2, k3, k4⟩ := bl_st (D := D + 2) (D' := D' + 1) (J1 := J1) (k := 5) h (by decide) (by decide)
    have beh : E2 20 (D' + 2) (fun y => y = (.null, (I2', J2, mj_R2))) 27 [(0, .ref 0)] I2' J2 := by
      refine mj_on (s20_27 ?_)
      rw [if_neg (DS_8 k3).1]
    refine ⟨I1', I2', J2, mj_mk (e20 _ _ ?_), Or.inl ⟨hf, k1, k3⟩⟩
    rw [tf_t hf, if_neg (by decide)]
    refine ⟨trivial, _, _, k2, ?_⟩
    refine mj_on (s20_13 _ ?_)
    exact if_tf (fun _ => ⟨trivial, _, _, r_blD k4 (by decide) (by decide), beh⟩) (fun _ => beh)
  · by_cases he : e
    · obtain ⟨I1', I2', k1, k2, k3, k4⟩ := bl_st (D := D + 2) (D' := D' + 1) (J1 := J1) (k := 6) h (by decide) (by decide)
      refine ⟨I1', I2', J2, mj_mk (e20 _ _ ?_), Or.inr (Or.inl ⟨hf, he, k1, k3⟩)⟩
      rw [tf_f hf, tf_t he, if_pos rfl]
      refine mj_on (s20_13 _ ?_)
      rw [if_neg (by decide)]
      refine ⟨trivial, _, _, k2, ?_⟩
      refine mj_on (s20_27 ?_)
      rw [if_neg (DS_8 k3).1]
    · obtain ⟨I1', I2', J2', k1, k2, k3, k4⟩ := adv_st (D := D) (D' := D') (J1 := J1) h (by omega)
      refine ⟨I1', I2', J2', mj_mk (e20 _ _ ?_), Or.inr (Or.inr ⟨hf, he, k1, k3, k4⟩)⟩
      rw [tf_f hf, tf_f he, if_pos rfl]
      refine mj_on (s20_13 _ ?_)
      rw [if_pos rfl]
      refine mj_on (s20_27 ?_)
      rw [if_pos r8]
      exact ⟨trivial, _, _, k2, rfl⟩
-- the class' head
def erl (k W Rn Tn Hn : Nat) : Prop := k = 0 ∧ 0 < Rn + Tn + Hn ∨ (k = 1 ∨ k = 3 ∨ k = 4) ∧ W = 0
theorem c145 {k : Nat} (hD : TD d W Rn Kn Tn Hn Un S F I1 I2 J2) (hk : k ≤ 5) : C1 (D + 1) 145 [.ref 11, .int (nI k)] I1 J1 (.int (tf (erl k W Rn Tn Hn))) I1 J1 := by
  obtain ⟨⟨n0, n1, n2, n3, n4, n5⟩, -, hd, b0, b1, b2, b3, b4, b5⟩ := TD_N hD
  refine mj_mk (e145 _ ?_)
  obtain ⟨P, hP⟩ : ∃ P : Prop, P = erl k W Rn Tn Hn := ⟨_, rfl⟩
  rw [← hP]
  have e57 : (k = 1 ∨ k = 3 ∨ k = 4) → E1 145 D (fun y => y = (.int (tf P), (I1, J1, mj_R1))) 57 [(0, .ref 11)] I1 J1 := fun hk3 => by
    refine mj_on (s145_57 ?_)
    rw [z_c, n0]
    refine ⟨vp_in_nI (n := 0) (by decide) (by decide), if_i (fun z => mzT ?_) (fun z => mzF ?_)⟩
    · rw [hP]
      exact Or.inr ⟨hk3, (nI_eq (b := 0) (by omega) (by decide)).mp z⟩
    · rw [hP]
      rintro (⟨q, -⟩ | ⟨-, q⟩)
      · omega
      · exact z (by rw [q]; rfl)
  have v1 : vp_in (1 : Int32) 6 := vp_in_nI (n := 1) (by decide) (by decide)
  have v3 : vp_in (3 : Int32) 6 := vp_in_nI (n := 3) (by decide) (by decide)
  have v4 : vp_in (4 : Int32) 6 := vp_in_nI (n := 4) (by decide) (by decide)
  refine if_i (fun z => ⟨v1, v3, v4, ?_⟩) (fun z0 => if_i (fun z => e57 (Or.inl ((nI_eq (b := 1) (by omega) (by decide)).mp z))) (fun z1 => if_i (fun z => e57 (Or.inr (Or.inl ((nI_eq (b := 3) (by omega) (by decide)).mp z)))) (fun z3 => if_i (fun z => e57 (Or.inr (Or.inr ((nI_eq (b := 4) (by omega) (by decide)).mp z)))) (fun z4 => mzF ?_))))
  · have k0 := (nI_eq (b := 0) (by omega) (by decide)).mp z
    rw [show ((1 : Int32)).toNatClampNeg = 1 from rfl, show ((3 : Int32)).toNatClampNeg = 3 from rfl, show ((4 : Int32)).toNatClampNeg = 4 from rfl, n1, n3, n4, nI_add, nI_add]
    refine if_i (fun q => mzF ?_) (fun q => mzT ?_)
    · have q := (nI_leI (b := 0) (by omega) (by decide)).mp q
      rw [hP]
      rintro (⟨-, w⟩ | ⟨w, -⟩) <;> omega
    · rw [hP]
      refine Or.inl ⟨k0, Classical.byContradiction fun w => q ((nI_leI (b := 0) (by omega) (by decide)).mpr (by omega))⟩
  · rw [hP]
    rintro (⟨q, -⟩ | ⟨q, -⟩)
    · exact z0 (by rw [q]; rfl)
    · rcases q with rfl | rfl | rfl
      · exact z1 rfl
      · exact z3 rfl
      · exact z4 rfl
theorem own_n {k : Nat} (h : tkR n x p a t v l o I1 I2 J2) (hk : k < 17) (ho : o = (k : Nat)) : I1 11 7 = nI k := (own_eq h hk rfl).mpr ho
theorem c143_full {k N M : Nat} {Ia : (Nat → Nat → Int32)} {Ja : (Nat → Nat → Int64)} (h7 : I1 11 7 = nI k) (hk : k ≤ 5) (hN : I1 15 k = nI N) (hM : mj_most k = nI M) (hM2 : M < 100) (e : N = M) (c : C1 D 144 [.ref 11, .int 5] I1 J1 .null Ia Ja) : C1 (D + 1) 143 [.ref 11] I1 J1 .null Ia Ja := by
  refine mj_mk (e143 ?_)
  have vk : vp_in (nI k) 6 := vp_in_nI (by omega) (by decide)
  rw [h7, if_neg (nI_pos (by omega)), if_pos (show nI k ≤ (5 : Int32) from (nI_leI (b := 5) (by omega) (by decide)).mpr hk), nI_clamp (by omega), hN, hM]
  exact ⟨vk, vk, if_lt (by omega) (by omega) (fun z => absurd z (by omega)) (fun _ => ⟨trivial, _, _, c, rfl⟩)⟩
theorem c143_early {k N M : Nat} {Ia : (Nat → Nat → Int32)} {Ja : (Nat → Nat → Int64)} (h7 : I1 11 7 = nI k) (hk : k ≤ 5) (hN : I1 15 k = nI N) (hM : mj_most k = nI M) (hM2 : M < 100) (e : N < M) (c1 : C1 D 145 [.ref 11, .int (nI k)] I1 J1 (.int 1) I1 J1) (c : C1 D 144 [.ref 11, .int 6] I1 J1 .null Ia Ja) : C1 (D + 1) 143 [.ref 11] I1 J1 .null Ia Ja := by
  refine mj_mk (e143 ?_)
  have vk : vp_in (nI k) 6 := vp_in_nI (by omega) (by decide)
  rw [h7, if_neg (nI_pos (by omega)), if_pos (show nI k ≤ (5 : Int32) from (nI_leI (b := 5) (by omega) (by decide)).mpr hk), nI_clamp (by omega), hN, hM]
  refine ⟨vk, vk, if_lt (by omega) (by omega) (fun _ => ⟨trivial, _, _, _, c1, ?_⟩) (fun z => absurd z (by omega))⟩
  rw [if_neg (by decide)]
  exact ⟨trivial, _, _, c, rfl⟩
def cgo (D k : Nat) (I : (Nat → Nat → Int32)) (J : (Nat → Nat → Int64)) (I' : (Nat → Nat → Int32)) (J' : (Nat → Nat → Int64)) : Prop := (k = 0 ∧ C1 D 146 [.ref 11] I J .null I' J') ∨ (k = 1 ∧ C1 D 170 [.ref 11] I J .null I' J') ∨ (k = 2 ∧ C1 D 147 [.ref 11, .int 2] I J .null I' J') ∨ (k = 3 ∧ C1 D 152 [.ref 11] I J .null I' J') ∨ (k = 4 ∧ C1 D 171 [.ref 11] I J .null I' J') ∨ (k = 5 ∧ ∃ Ia Ja, C1 D 157 [.ref 11] I J .null Ia Ja ∧ C1 D 169 [.ref 14] Ia Ja .null I' J')
theorem c143_go {k N M : Nat} {Ia Ib : (Nat → Nat → Int32)} {Ja Jb : (Nat → Nat → Int64)} (h7 : I1 11 7 = nI k) (hk : k ≤ 5) (hN : I1 15 k = nI N) (hM : mj_most k = nI M) (hM2 : M < 100) (e : N < M) (c1 : C1 D 145 [.ref 11, .int (nI k)] I1 J1 (.int 0) I1 J1) (c2 : C1 D 139 [.ref 11] I1 J1 .null Ia Ja) (c3 : cgo D k Ia Ja Ib Jb) : C1 (D + 1) 143 [.ref 11] I1 J1 .null Ib Jb := by
  refine mj_mk (e143 ?_)
  have vk : vp_in (nI k) 6 := vp_in_nI (by omega) (by decide)
  rw [h7, if_neg (nI_pos (by omega)), if_pos (show nI k ≤ (5 : Int32) from (nI_leI (b := 5) (by omega) (by decide)).mpr hk), nI_clamp (by omega), hN, hM]
  refine ⟨vk, vk, if_lt (by omega) (by omega) (fun _ => ⟨trivial, _, _, _, c1, ?_⟩) (fun z => absurd z (by omega))⟩
  rw [if_pos rfl]
  refine ⟨trivial, _, _, c2, ?_⟩
  rcases c3 with ⟨rfl, c⟩ | ⟨rfl, c⟩ | ⟨rfl, c⟩ | ⟨rfl, c⟩ | ⟨rfl, c⟩ | ⟨rfl, Ic, Jc, c, c'⟩
  · rw [if_pos (by decide)]
    exact ⟨trivial, _, _, c, rfl⟩
  · rw [if_neg (by decide), if_pos (by decide)]
    exact ⟨trivial, _, _, c, rfl⟩
  · rw [if_neg (by decide), if_neg (by decide), if_pos (by decide)]
    exact ⟨trivial, _, _, c, rfl⟩
  · rw [if_neg (by decide), if_neg (by decide), if_neg (by decide), if_pos (by decide)]
    exact ⟨trivial, _, _, c, rfl⟩
  · rw [if_neg (by decide), if_neg (by decide), if_neg (by decide), if_neg (by decide), if_pos (by decide)]
    exact ⟨trivial, _, _, c, rfl⟩
  · rw [if_neg (by decide), if_neg (by decide), if_neg (by decide), if_neg (by decide), if_neg (by decide), if_pos (by decide)]
    exact ⟨trivial, _, _, c, trivial, _, _, c', rfl⟩
-- the reference's heads
theorem r19_in {r : mj_R} {Ia : (Nat → Nat → Int32)} {Ja : (Nat → Nat → Int64)} (hD : TD d W Rn Kn Tn Hn Un S F I1 I2 J2) (c20 : C2 D 20 [.ref 0, .int (tf (W = 4)), .int (tf (0 < Rn + Tn + Hn))] I2 J2 .null Ia Ja) (k : E2 19 D (fun y => y = r) 59 [(0, .ref 0)] Ia Ja) : mj_Cl mj_S2 mj_CD (D + 1) 19 [.ref 0] (I2, J2, mj_R2) r := by
  obtain ⟨-, ⟨m0, m1, m2, m3, m4, m5⟩, hd, b0, b1, b2, b3, b4, b5⟩ := TD_N hD
  have h35 := hD.1
  have vd : vp_in (nI d) 2 := vp_in_nI hd (by decide)
  refine mj_mk (e19 ?_)
  rw [h35, nI_clamp (by omega), m0, m1, m3, m4, nI_add, nI_add]
  refine ⟨vd, if_i (fun z => ?_) (fun z => ?_)⟩
  · rw [tf_t ((nI_eq (b := 4) (by omega) (by decide)).mp z)] at c20
    refine ⟨vd, vd, vd, if_i (fun q => ?_) (fun q => ?_)⟩
    · have q := (nI_leI (b := 0) (by omega) (by decide)).mp q
      rw [tf_f (by omega)] at c20
      exact ⟨trivial, _, _, c20, k⟩
    · rw [tf_t (Classical.byContradiction fun w => q ((nI_leI (b := 0) (by omega) (by decide)).mpr (by omega)))] at c20
      exact ⟨trivial, _, _, c20, k⟩
  · rw [tf_f (show ¬ W = 4 from fun w => z (by rw [w]; rfl))] at c20
    refine ⟨vd, vd, vd, if_i (fun q => ?_) (fun q => ?_)⟩
    · have q := (nI_leI (b := 0) (by omega) (by decide)).mp q
      rw [tf_f (by omega)] at c20
      exact ⟨trivial, _, _, c20, k⟩
    · rw [tf_t (Classical.byContradiction fun w => q ((nI_leI (b := 0) (by omega) (by decide)).mpr (by omega)))] at c20
      exact ⟨trivial, _, _, c20, k⟩
theorem r27_in {r : mj_R} {Ia : (Nat → Nat → Int32)} {Ja : (Nat → Nat → Int64)} (hD : TD d W Rn Kn Tn Hn Un S F I1 I2 J2) (c20 : C2 D 20 [.ref 0, .int (tf (Rn = 40)), .int (tf (W = 0))] I2 J2 .null Ia Ja) (k : E2 27 D (fun y => y = r) 40 [(0, .ref 0)] Ia Ja) : mj_Cl mj_S2 mj_CD (D + 1) 27 [.ref 0] (I2, J2, mj_R2) r := by
  obtain ⟨-, ⟨m0, m1, m2, m3, m4, m5⟩, hd, b0, b1, b2, b3, b4, b5⟩ := TD_N hD
  have h35 := hD.1
  have vd : vp_in (nI d) 2 := vp_in_nI hd (by decide)
  refine mj_mk (e27 ?_)
  rw [h35, nI_clamp (by omega), m0, m1]
  refine ⟨vd, if_i (fun z => ?_) (fun z => ?_)⟩
  · rw [tf_t ((nI_eq (b := 40) (by omega) (by decide)).mp z)] at c20
    refine ⟨vd, if_i (fun q => ?_) (fun q => ?_)⟩
    · rw [tf_t ((nI_eq (b := 0) (by omega) (by decide)).mp q)] at c20
      exact ⟨trivial, _, _, c20, k⟩
    · rw [tf_f (show ¬ W = 0 from fun w => q (by rw [w]; rfl))] at c20
      exact ⟨trivial, _, _, c20, k⟩
  · rw [tf_f (show ¬ Rn = 40 from fun w => z (by rw [w]; rfl))] at c20
    refine ⟨vd, if_i (fun q => ?_) (fun q => ?_)⟩
    · rw [tf_t ((nI_eq (b := 0) (by omega) (by decide)).mp q)] at c20
      exact ⟨trivial, _, _, c20, k⟩
    · rw [tf_f (show ¬ W = 0 from fun w => q (by rw [w]; rfl))] at c20
      exact ⟨trivial, _, _, c20, k⟩
theorem r30_in {r : mj_R} {Ia : (Nat → Nat → Int32)} {Ja : (Nat → Nat → Int64)} (hD : TD d W Rn Kn Tn Hn Un S F I1 I2 J2) (c20 : C2 D 20 [.ref 0, .int (tf (Tn = 24)), .int (tf (W = 0))] I2 J2 .null Ia Ja) (k : E2 30 D (fun y => y = r) 40 [(0, .ref 0)] Ia Ja) : mj_Cl mj_S2 mj_CD (D + 1) 30 [.ref 0] (I2, J2, mj_R2) r := by
  obtain ⟨-, ⟨m0, m1, m2, m3, m4, m5⟩, hd, b0, b1, b2, b3, b4, b5⟩ := TD_N hD
  have h35 := hD.1
  have vd : vp_in (nI d) 2 := vp_in_nI hd (by decide)
  refine mj_mk (e30 ?_)
  rw [h35, nI_clamp (by omega), m0, m3]
  refine ⟨vd, if_i (fun z => ?_) (fun z => ?_)⟩
  · rw [tf_t ((nI_eq (b := 24) (by omega) (by decide)).mp z)] at c20
    refine ⟨vd, if_i (fun q => ?_) (fun q => ?_)⟩
    · rw [tf_t ((nI_eq (b := 0) (by omega) (by decide)).mp q)] at c20
      exact ⟨trivial, _, _, c20, k⟩
    · rw [tf_f (show ¬ W = 0 from fun w => q (by rw [w]; rfl))] at c20
      exact ⟨trivial, _, _, c20, k⟩
  · rw [tf_f (show ¬ Tn = 24 from fun w => z (by rw [w]; rfl))] at c20
    refine ⟨vd, if_i (fun q => ?_) (fun q => ?_)⟩
    · rw [tf_t ((nI_eq (b := 0) (by omega) (by decide)).mp q)] at c20
      exact ⟨trivial, _, _, c20, k⟩
    · rw [tf_f (show ¬ W = 0 from fun w => q (by rw [w]; rfl))] at c20
      exact ⟨trivial, _, _, c20, k⟩
theorem r32_in {r : mj_R} {Ia : (Nat → Nat → Int32)} {Ja : (Nat → Nat → Int64)} (hD : TD d W Rn Kn Tn Hn Un S F I1 I2 J2) (c20 : C2 D 20 [.ref 0, .int (tf (Hn = 12)), .int (tf (W = 0))] I2 J2 .null Ia Ja) (k : E2 32 D (fun y => y = r) 40 [(0, .ref 0)] Ia Ja) : mj_Cl mj_S2 mj_CD (D + 1) 32 [.ref 0] (I2, J2, mj_R2) r := by
  obtain ⟨-, ⟨m0, m1, m2, m3, m4, m5⟩, hd, b0, b1, b2, b3, b4, b5⟩ := TD_N hD
  have h35 := hD.1
  have vd : vp_in (nI d) 2 := vp_in_nI hd (by decide)
  refine mj_mk (e32 ?_)
  rw [h35, nI_clamp (by omega), m0, m4]
  refine ⟨vd, if_i (fun z => ?_) (fun z => ?_)⟩
  · rw [tf_t ((nI_eq (b := 12) (by omega) (by decide)).mp z)] at c20
    refine ⟨vd, if_i (fun q => ?_) (fun q => ?_)⟩
    · rw [tf_t ((nI_eq (b := 0) (by omega) (by decide)).mp q)] at c20
      exact ⟨trivial, _, _, c20, k⟩
    · rw [tf_f (show ¬ W = 0 from fun w => q (by rw [w]; rfl))] at c20
      exact ⟨trivial, _, _, c20, k⟩
  · rw [tf_f (show ¬ Hn = 12 from fun w => z (by rw [w]; rfl))] at c20
    refine ⟨vd, if_i (fun q => ?_) (fun q => ?_)⟩
    · rw [tf_t ((nI_eq (b := 0) (by omega) (by decide)).mp q)] at c20
      exact ⟨trivial, _, _, c20, k⟩
    · rw [tf_f (show ¬ W = 0 from fun w => q (by rw [w]; rfl))] at c20
      exact ⟨trivial, _, _, c20, k⟩
-- which statement it is
theorem r17_0 {r : mj_R} {Ia : (Nat → Nat → Int32)} {Ja : (Nat → Nat → Int64)} (h : tkR n x p a t v l o I1 I2 J2) (ho : o = (0 : Nat)) (c : C2 (D + 1) 19 [.ref 0] I2 J2 .null Ia Ja) (k : E2 17 (D + 1) (fun y => y = r) 296 [(0, .ref 0)] Ia Ja) : mj_Cl mj_S2 mj_CD (D + 2) 17 [.ref 0] (I2, J2, mj_R2) r :=
  mj_mk (e17 ⟨trivial, _, _, _, wd_r (w := 0) h (by decide), if_tf (fun _ => ⟨trivial, _, _, c, k⟩) (fun z => absurd ho z)⟩)
theorem r17_1 {r : mj_R} {Ia : (Nat → Nat → Int32)} {Ja : (Nat → Nat → Int64)} (h : tkR n x p a t v l o I1 I2 J2) (ho : o = (1 : Nat)) (c : C2 (D + 1) 27 [.ref 0] I2 J2 .null Ia Ja) (k : E2 17 (D + 1) (fun y => y = r) 296 [(0, .ref 0)] Ia Ja) : mj_Cl mj_S2 mj_CD (D + 2) 17 [.ref 0] (I2, J2, mj_R2) r :=
  mj_mk (e17 ⟨trivial, _, _, _, wd_r (w := 0) h (by decide), if_tf (fun z => absurd z (by omega)) (fun _ => ⟨trivial, _, _, _, wd_r (w := 1) h (by decide), if_tf (fun _ => ⟨trivial, _, _, c, k⟩) (fun z => absurd ho z)⟩)⟩)
theorem r17_2 {r : mj_R} {Ia : (Nat → Nat → Int32)} {Ja : (Nat → Nat → Int64)} (hD : TD d W Rn Kn Tn Hn Un S F I1 I2 J2) (h : tkR n x p a t v l o I1 I2 J2) (ho : o = (2 : Nat)) (c20 : C2 (D + 1) 20 [.ref 0, .int (tf (Kn = 10)), .int (tf False)] I2 J2 .null Ia Ja) (k : E2 17 (D + 1) (fun y => y = r) 68 [(0, .ref 0)] Ia Ja) : mj_Cl mj_S2 mj_CD (D + 2) 17 [.ref 0] (I2, J2, mj_R2) r := by
  obtain ⟨-, ⟨m0, m1, m2, m3, m4, m5⟩, hd, b0, b1, b2, b3, b4, b5⟩ := TD_N hD
  have h35 := hD.1
  have vd : vp_in (nI d) 2 := vp_in_nI hd (by decide)
  rw [tf_f id] at c20
  refine mj_mk (e17 ⟨trivial, _, _, _, wd_r (w := 0) h (by decide), if_tf (fun z => absurd z (by omega)) (fun _ => ⟨trivial, _, _, _, wd_r (w := 1) h (by decide), if_tf (fun z => absurd z (by omega)) (fun _ => ⟨trivial, _, _, _, wd_r (w := 2) h (by decide), if_tf (fun _ => ?_) (fun z => absurd ho z)⟩)⟩)⟩)
  rw [h35, nI_clamp (by omega), m2]
  refine ⟨vd, if_i (fun z => ?_) (fun z => ?_)⟩
  · rw [tf_t ((nI_eq (b := 10) (by omega) (by decide)).mp z)] at c20
    exact ⟨trivial, _, _, c20, k⟩
  · rw [tf_f (show ¬ Kn = 10 from fun w => z (by rw [w]; rfl))] at c20
    exact ⟨trivial, _, _, c20, k⟩
theorem r17_3 {r : mj_R} {Ia : (Nat → Nat → Int32)} {Ja : (Nat → Nat → Int64)} (h : tkR n x p a t v l o I1 I2 J2) (ho : o = (3 : Nat)) (c : C2 (D + 1) 30 [.ref 0] I2 J2 .null Ia Ja) (k : E2 17 (D + 1) (fun y => y = r) 296 [(0, .ref 0)] Ia Ja) : mj_Cl mj_S2 mj_CD (D + 2) 17 [.ref 0] (I2, J2, mj_R2) r :=
  mj_mk (e17 ⟨trivial, _, _, _, wd_r (w := 0) h (by decide), if_tf (fun z => absurd z (by omega)) (fun _ => ⟨trivial, _, _, _, wd_r (w := 1) h (by decide), if_tf (fun z => absurd z (by omega)) (fun _ => ⟨trivial, _, _, _, wd_r (w := 2) h (by decide), if_tf (fun z => absurd z (by omega)) (fun _ => ⟨trivial, _, _, _, wd_r (w := 3) h (by decide), if_tf (fun _ => ⟨trivial, _, _, c, k⟩) (fun z => absurd ho z)⟩)⟩)⟩)⟩)
theorem r17_4 {r : mj_R} {Ia : (Nat → Nat → Int32)} {Ja : (Nat → Nat → Int64)} (h : tkR n x p a t v l o I1 I2 J2) (ho : o = (4 : Nat)) (c : C2 (D + 1) 32 [.ref 0] I2 J2 .null Ia Ja) (k : E2 17 (D + 1) (fun y => y = r) 296 [(0, .ref 0)] Ia Ja) : mj_Cl mj_S2 mj_CD (D + 2) 17 [.ref 0] (I2, J2, mj_R2) r :=
  mj_mk (e17 ⟨trivial, _, _, _, wd_r (w := 0) h (by decide), if_tf (fun z => absurd z (by omega)) (fun _ => ⟨trivial, _, _, _, wd_r (w := 1) h (by decide), if_tf (fun z => absurd z (by omega)) (fun _ => ⟨trivial, _, _, _, wd_r (w := 2) h (by decide), if_tf (fun z => absurd z (by omega)) (fun _ => ⟨trivial, _, _, _, wd_r (w := 3) h (by decide), if_tf (fun z => absurd z (by omega)) (fun _ => ⟨trivial, _, _, _, wd_r (w := 4) h (by decide), if_tf (fun _ => ⟨trivial, _, _, c, k⟩) (fun z => absurd ho z)⟩)⟩)⟩)⟩)⟩)
theorem r17_5 {r : mj_R} {Ia : (Nat → Nat → Int32)} {Ja : (Nat → Nat → Int64)} (hD : TD d W Rn Kn Tn Hn Un S F I1 I2 J2) (h : tkR n x p a t v l o I1 I2 J2) (ho : o = (5 : Nat)) (c20 : C2 (D + 1) 20 [.ref 0, .int (tf (Un = 12)), .int (tf False)] I2 J2 .null Ia Ja) (k : E2 17 (D + 1) (fun y => y = r) 194 [(0, .ref 0)] Ia Ja) : mj_Cl mj_S2 mj_CD (D + 2) 17 [.ref 0] (I2, J2, mj_R2) r := by
  obtain ⟨-, ⟨m0, m1, m2, m3, m4, m5⟩, hd, b0, b1, b2, b3, b4, b5⟩ := TD_N hD
  have h35 := hD.1
  have vd : vp_in (nI d) 2 := vp_in_nI hd (by decide)
  rw [tf_f id] at c20
  refine mj_mk (e17 ⟨trivial, _, _, _, wd_r (w := 0) h (by decide), if_tf (fun z => absurd z (by omega)) (fun _ => ⟨trivial, _, _, _, wd_r (w := 1) h (by decide), if_tf (fun z => absurd z (by omega)) (fun _ => ⟨trivial, _, _, _, wd_r (w := 2) h (by decide), if_tf (fun z => absurd z (by omega)) (fun _ => ⟨trivial, _, _, _, wd_r (w := 3) h (by decide), if_tf (fun z => absurd z (by omega)) (fun _ => ⟨trivial, _, _, _, wd_r (w := 4) h (by decide), if_tf (fun z => absurd z (by omega)) (fun _ => ⟨trivial, _, _, _, wd_r (w := 5) h (by decide), if_tf (fun _ => ?_) (fun z => absurd ho z)⟩)⟩)⟩)⟩)⟩)⟩)
  rw [h35, nI_clamp (by omega), m5]
  refine ⟨vd, if_i (fun z => ?_) (fun z => ?_)⟩
  · rw [tf_t ((nI_eq (b := 12) (by omega) (by decide)).mp z)] at c20
    exact ⟨trivial, _, _, c20, k⟩
  · rw [tf_f (show ¬ Un = 12 from fun w => z (by rw [w]; rfl))] at c20
    exact ⟨trivial, _, _, c20, k⟩
theorem r17_n {r : mj_R} {Ia : (Nat → Nat → Int32)} {Ja : (Nat → Nat → Int64)} (h : tkR n x p a t v l o I1 I2 J2) (ho : ∀ w : Nat, w ≤ 5 → o ≠ (w : Nat)) (c : C2 (D + 1) 16 [.ref 0, .int 1, .int (I2 0 4)] I2 J2 .null Ia Ja) (k : E2 17 (D + 1) (fun y => y = r) 296 [(0, .ref 0)] Ia Ja) : mj_Cl mj_S2 mj_CD (D + 2) 17 [.ref 0] (I2, J2, mj_R2) r :=
  mj_mk (e17 ⟨trivial, _, _, _, wd_r (w := 0) h (by decide), if_tf (fun z => absurd z (ho 0 (by decide))) (fun _ => ⟨trivial, _, _, _, wd_r (w := 1) h (by decide), if_tf (fun z => absurd z (ho 1 (by decide))) (fun _ => ⟨trivial, _, _, _, wd_r (w := 2) h (by decide), if_tf (fun z => absurd z (ho 2 (by decide))) (fun _ => ⟨trivial, _, _, _, wd_r (w := 3) h (by decide), if_tf (fun z => absurd z (ho 3 (by decide))) (fun _ => ⟨trivial, _, _, _, wd_r (w := 4) h (by decide), if_tf (fun z => absurd z (ho 4 (by decide))) (fun _ => ⟨trivial, _, _, _, wd_r (w := 5) h (by decide), if_tf (fun z => absurd z (ho 5 (by decide))) (fun _ => ⟨trivial, _, _, c, k⟩)⟩)⟩)⟩)⟩)⟩)⟩)
theorem r21_D (h : ¬ I2 0 8 ≤ 0) : C2 (D + 1) 21 [.ref 0] I2 J2 (.long 0) I2 J2 := by
  refine mj_mk (e21 ?_)
  rw [if_neg h]
end Sa9f
