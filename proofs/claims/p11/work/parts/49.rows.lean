/-! rows: beats, leads, rows, unsure, maybe -/
/-- the first from i on, of k, with P; -1 without one -/
noncomputable def fs (P : Nat → Prop) : Nat → Nat → Int32
  | 0, _ => -1
  | k + 1, i => @ite _ (P i) (Classical.propDecidable _) (nI i) (fs P k (i + 1))
theorem fs_t {P : Nat → Prop} {n i : Nat} (hi : i < n) (h : P i) : fs P (n - i) i = nI i := by
  obtain ⟨k, e⟩ : ∃ k, n - i = k + 1 := ⟨n - i - 1, by omega⟩
  rw [e]
  exact @if_pos (P i) (Classical.propDecidable _) h _ _ _
theorem fs_f {P : Nat → Prop} {n i : Nat} (hi : i < n) (h : ¬ P i) : fs P (n - i) i = fs P (n - (i + 1)) (i + 1) := by
  obtain ⟨k, e⟩ : ∃ k, n - i = k + 1 := ⟨n - i - 1, by omega⟩
  rw [e, show n - (i + 1) = k by omega]
  exact @if_neg (P i) (Classical.propDecidable _) h _ _ _
theorem fs_e {P : Nat → Prop} {n i : Nat} (hi : n ≤ i) : fs P (n - i) i = -1 := by
  rw [show n - i = 0 by omega]
  rfl
theorem fs_iff {P Q : Nat → Prop} : ∀ {k i : Nat}, (∀ j, i ≤ j → j < i + k → (P j ↔ Q j)) → fs P k i = fs Q k i
  | 0, _, _ => rfl
  | k + 1, i, h => by
    have ih := fs_iff (P := P) (Q := Q) (k := k) (i := i + 1) fun j h1 h2 => h j (by omega) (by omega)
    have e : ∀ R : Nat → Prop, fs R (k + 1) i = @ite _ (R i) (Classical.propDecidable _) (nI i) (fs R k (i + 1)) := fun _ => rfl
    rw [e, e, ih, propext (h i (by omega) (by omega))]
theorem sh_sb : ∀ n, n < 64 → ((nI n).toInt64 &&& 63).toBitVec.smod 64 = BitVec.ofNat 64 n := by decide +kernel
theorem sb_v {x : Int64} {a : Nat} (ha : a < 64) : (x >>> ((nI a).toInt64 &&& 63)) &&& 1 = if x.toBitVec.getLsbD a then 1 else 0 := by
  have e : (x >>> ((nI a).toInt64 &&& 63)).toBitVec = x.toBitVec.sshiftRight a := by
    rw [Int64.toBitVec_shiftRight, sh_sb a ha]
    show x.toBitVec.sshiftRight (BitVec.ofNat 64 a).toNat = _
    rw [BitVec.toNat_ofNat, Nat.mod_eq_of_lt (Nat.lt_of_lt_of_le ha (by decide))]
  apply Int64.toBitVec_inj.mp
  rw [Int64.toBitVec_and, e]
  show x.toBitVec.sshiftRight a &&& 1#64 = _
  rw [BitVec.and_one_eq_setWidth_ofBool_getLsbD, BitVec.getLsbD_sshiftRight, Nat.add_zero]
  simp only [show ¬ (64 ≤ 0) by decide, decide_false, Bool.not_false, Bool.true_and, ha, if_true]
  cases x.toBitVec.getLsbD a <;> decide
theorem sb_1 {x : Int64} {a : Nat} (ha : a < 64) : lg_cmp ((x >>> ((nI a).toInt64 &&& 63)) &&& 1) 1 = 0 ↔ lbit x a := by
  rw [cmp0, sb_v ha]
  unfold lbit
  cases x.toBitVec.getLsbD a <;> decide
theorem sb_0 {x : Int64} {a : Nat} (ha : a < 64) : lg_cmp ((x >>> ((nI a).toInt64 &&& 63)) &&& 1) 0 = 0 ↔ ¬ lbit x a := by
  rw [cmp0, sb_v ha]
  unfold lbit
  cases x.toBitVec.getLsbD a <;> decide
theorem nm_iff {W : Nat} {f g f' g' : Nat → Int32} (h1 : ∀ w, w < W → f w = f' w) (h2 : ∀ w, w < W → g w = g' w) : nm W f g ↔ nm W f' g' :=
  forall_congr' fun w => forall_congr' fun hw => by rw [h1 w hw, h2 w hw]
theorem bt_iff {W : Nat} {f g f' g' : Nat → Int32} (h1 : ∀ w, w < W → f w = f' w) (h2 : ∀ w, w < W → g w = g' w) : bt W f g ↔ bt W f' g' :=
  and_congr (nm_iff h1 h2) (not_congr (nm_iff h2 h1))
theorem ub_iff {n : Nat} {as as' : Nat → Prop} {ou ou' : Nat → Nat → Prop} (h1 : ∀ r, r < n → (as r ↔ as' r)) (h2 : ∀ o r, o < n → r < n → (ou o r ↔ ou' o r)) {r : Nat} (hr : r < n) : ub n as ou r ↔ ub n as' ou' r := by
  unfold ub
  refine and_congr (not_congr (h1 r hr)) ⟨fun h o ho e a q => h o ho e (fun z => a ((h1 o ho).mp z)) ((h2 o r ho hr).mpr q), fun h o ho e a q => h o ho e (fun z => a ((h1 o ho).mpr z)) ((h2 o r ho hr).mp q)⟩
section S49
variable {D b W Rn Kn Tn Hn Un g : Nat} {I I1 I2 : Nat → Nat → Int32} {J J1 J2 : Nat → Nat → Int64}
theorem Rl.asd (h : Rl b W Rn Kn Tn Hn Un g I1 J1 I2 J2) {r : Nat} (hr : r < Rn) : rA I2 b W r ↔ lbit (J1 24 5) r := by
  have hT := h.2.1.2.2.1
  obtain ⟨-, -, h3, -⟩ := h.2.2.2.2.1
  rw [h3 r hr]
  exact ⟨fun ⟨w, hw, e⟩ => ⟨w, hw, by rw [← (hT r hr w hw).1]; exact e⟩, fun ⟨w, hw, e⟩ => ⟨w, hw, by rw [(hT r hr w hw).1]; exact e⟩⟩
theorem Rl.ls (h : Rl b W Rn Kn Tn Hn Un g I1 J1 I2 J2) {r w : Nat} (hr : r < Rn) (hw : w < W) : rL I2 b r w = I1 25 (4 * r + w) := by
  have hT := h.2.1.2.2.1
  have hM := h.2.1.2.1
  obtain ⟨-, -, -, h4, -⟩ := h.2.2.2.2.1
  rw [(h4 r hr w hw).1]
  unfold rL
  rw [(hT r hr w hw).1, (hM w hw).1]
theorem Rl.btq (h : Rl b W Rn Kn Tn Hn Un g I1 J1 I2 J2) {o r : Nat} (ho : o < Rn) (hr : r < Rn) : bt W (rL I2 b o) (rL I2 b r) ↔ bt W (fun w => I1 25 (4 * o + w)) (fun w => I1 25 (4 * r + w)) :=
  bt_iff (fun w hw => h.ls ho hw) (fun w hw => h.ls hr hw)
theorem Rl.front (h : Rl b W Rn Kn Tn Hn Un g I1 J1 I2 J2) : bs Rn (ub Rn (rA I2 b W) (fun o r => bt W (rL I2 b o) (rL I2 b r))) = J1 24 6 := by
  rw [h.2.2.2.2.1.2.2.2.2]
  exact bs_iff fun r hr => ub_iff (fun o ho => h.asd ho) (fun o u ho hu => h.btq ho hu) hr
theorem Rl.rfront (h : Rl b W Rn Kn Tn Hn Un g I1 J1 I2 J2) : mj_Cl mj_S2 mj_CD (D + 4) 60 [.ref 0] (I2, J2, mj_R2) (.long (J1 24 6), (I2, J2, mj_R2)) := by
  have e := r_rowFront (D := D) (J := J2) h.rB
  rw [h.front] at e
  exact e
theorem Rl.beat (h : Rl b W Rn Kn Tn Hn Un g I1 J1 I2 J2) {x y : Nat} (hx : x < Rn) (hy : y < Rn) : mj_Cl mj_S2 mj_CD (D + 3) 55 [.ref 0, .int (nI x), .int (nI y)] (I2, J2, mj_R2) (.int (tf (¬ lbit (J1 24 5) x ∧ ¬ lbit (J1 24 5) y ∧ bt W (fun w => I1 25 (4 * x + w)) (fun w => I1 25 (4 * y + w)))), (I2, J2, mj_R2)) := by
  have hR := h.rB.2.2.2.2.2
  have e := r_doesBeat (D := D) (J := J2) h.rB (x := x) (y := y) (by omega) (by omega)
  rw [tf_iff (and_congr (not_congr (h.asd hx)) (and_congr (not_congr (h.asd hy)) (h.btq hx hy)))] at e
  exact e
theorem c_better (hr : I 24 0 = nI Rn) (hR : Rn ≤ 40) (hw : I 24 1 = nI W) (hW : W ≤ 4) {x y : Nat} (hx : x < Rn) (hy : y < Rn) : mj_Cl mj_S1 mj_CD (D + 3) 196 [.ref 24, .int (nI x), .int (nI y)] (I, J, mj_R1) (.int (tf (¬ lbit (J 24 5) x ∧ ¬ lbit (J 24 5) y ∧ bt W (fun w => I 25 (4 * x + w)) (fun w => I 25 (4 * y + w)))), (I, J, mj_R1)) := by
  refine mj_mk (e196 _ _ ?_)
  refine ⟨trivial, _, _, _, c_judged (n := Rn) hr hR, if_tf (fun c => ?_) (fun c => mzF fun q => c ((c_jud (by omega)).mpr q.1))⟩
  refine ⟨trivial, _, _, _, c_judged (n := Rn) hr hR, if_tf (fun d => ?_) (fun d => mzF fun q => d ((c_jud (by omega)).mpr q.2.1))⟩
  refine ⟨trivial, _, _, _, c_out_c hw hW (by omega) (by omega), if_tf (fun f => ?_) (fun f => mzF fun q => f q.2.2)⟩
  exact mzT ⟨(c_jud (by omega)).mp c, (c_jud (by omega)).mp d, f⟩
theorem Rl.W24 (h : Rl b W Rn Kn Tn Hn Un g I1 J1 I2 J2) : I1 24 0 = nI Rn ∧ Rn ≤ 40 ∧ I1 24 1 = nI W ∧ W ≤ 4 := by
  obtain ⟨h1, h2, -⟩ := h.2.2.2.2.1
  obtain ⟨-, -, -, c2, -, c3⟩ := h.rB
  exact ⟨h1, c3, h2, c2⟩
theorem al_rows (h : Rl b W Rn Kn Tn Hn Un g I1 J1 I2 J2) : AJ 200 59 [] I1 J1 I2 J2 (Rl b W Rn Kn Tn Hn Un g) :=
  ⟨J1 24 6, I1, J1, I2, J2, mj_mk (D := 899) (e200 rfl), mj_mk (D := 899) (e59 ⟨trivial, _, _, _, h.rfront (D := 895), rfl⟩), h⟩
theorem al_beats {x y : Int32} (h : Rl b W Rn Kn Tn Hn Un g I1 J1 I2 J2) : AI 195 54 [.int x, .int y] I1 J1 I2 J2 (Rl b W Rn Kn Tn Hn Un g) := by
  obtain ⟨a1, a2, -⟩ := h.N
  obtain ⟨w1, w2, w3, w4⟩ := h.W24
  have hB := h.rB
  rcases Classical.em (∃ j, j < Rn ∧ x = nI j) with p | p
  · rcases Classical.em (∃ j, j < Rn ∧ y = nI j) with q | q
    · obtain ⟨r, hr, rfl⟩ := p
      obtain ⟨u, hu, rfl⟩ := q
      refine AI.same (tf (¬ lbit (J1 24 5) r ∧ ¬ lbit (J1 24 5) u ∧ bt W (fun w => I1 25 (4 * r + w)) (fun w => I1 25 (4 * u + w)))) (mj_mk (D := 899) (e195 _ _ ?_)) (mj_mk (D := 899) (e54 _ _ ?_)) h
      · refine ⟨trivial, _, _, _, c_there (k := 1) a2 w2 (by omega), if_tf (fun _ => ?_) (fun f => absurd ⟨r, hr, rfl⟩ f)⟩
        refine ⟨trivial, _, _, _, c_there (k := 1) a2 w2 (by omega), if_tf (fun _ => ?_) (fun f => absurd ⟨u, hu, rfl⟩ f)⟩
        exact ⟨trivial, _, _, _, c_better w1 w2 w3 w4 hr hu, if_tf (fun f => mqT f) (fun f => mqF f)⟩
      · refine ⟨trivial, _, _, _, r_isRow hB, if_tf (fun _ => ?_) (fun f => absurd ⟨r, hr, rfl⟩ f)⟩
        refine ⟨trivial, _, _, _, r_isRow hB, if_tf (fun _ => ?_) (fun f => absurd ⟨u, hu, rfl⟩ f)⟩
        exact ⟨trivial, _, _, _, h.beat hr hu, if_tf (fun f => mqT f) (fun f => mqF f)⟩
    · refine AI.same (-1) (mj_mk (D := 899) (e195 _ _ ?_)) (mj_mk (D := 899) (e54 _ _ ?_)) h
      · refine ⟨trivial, _, _, _, c_there (k := 1) a2 w2 (by omega), if_tf (fun _ => ?_) (fun f => absurd p f)⟩
        exact ⟨trivial, _, _, _, c_there (k := 1) a2 w2 (by omega), if_tf (fun f => absurd f q) (fun _ => rfl)⟩
      · refine ⟨trivial, _, _, _, r_isRow hB, if_tf (fun _ => ?_) (fun f => absurd p f)⟩
        exact ⟨trivial, _, _, _, r_isRow hB, if_tf (fun f => absurd f q) (fun _ => rfl)⟩
  · refine AI.same (-1) (mj_mk (D := 899) (e195 _ _ ?_)) (mj_mk (D := 899) (e54 _ _ ?_)) h
    · exact ⟨trivial, _, _, _, c_there (k := 1) a2 w2 (by omega), if_tf (fun f => absurd f p) (fun _ => rfl)⟩
    · exact ⟨trivial, _, _, _, r_isRow hB, if_tf (fun f => absurd f p) (fun _ => rfl)⟩
theorem al_leads {x : Int32} (h : Rl b W Rn Kn Tn Hn Un g I1 J1 I2 J2) : AI 197 61 [.int x] I1 J1 I2 J2 (Rl b W Rn Kn Tn Hn Un g) := by
  obtain ⟨a1, a2, -⟩ := h.N
  obtain ⟨w1, w2, w3, w4⟩ := h.W24
  have hB := h.rB
  obtain ⟨b1, b2, b3, b4, b5, b6⟩ := id hB
  rcases Classical.em (∃ j, j < Rn ∧ x = nI j) with p | p
  · obtain ⟨r, hr, rfl⟩ := p
    obtain ⟨P, hP⟩ : ∃ P : Nat → Prop, P = fun o => lbit (J1 24 6) o ∧ ¬ lbit (J1 24 5) o ∧ ¬ lbit (J1 24 5) r ∧ bt W (fun w => I1 25 (4 * o + w)) (fun w => I1 25 (4 * r + w)) := ⟨_, rfl⟩
    refine AI.same (fs P (Rn - 0) 0) (mj_mk (D := 899) (e197 _ ?_)) (mj_mk (D := 899) (e61 _ ?_)) h
    · refine ⟨trivial, _, _, _, c_there (k := 1) a2 w2 (by omega), if_tf (fun _ => ?_) (fun f => absurd ⟨r, hr, rfl⟩ f)⟩
      refine lp_up (n := Rn) (fun i => E1 197 899 (fun q => q = (.int (fs P (Rn - i) i), (I1, J1, mj_R1))) 16 [(0, .ref 0), (1, .int (nI r)), (2, .int (nI i))] I1 J1) (fun i hi ih => ?_) 0 (Nat.zero_le _)
      refine mj_on (s197_16 _ _ ?_)
      rw [show ((1 : Int32)).toNatClampNeg = 1 from rfl, a2, nI_1]
      refine ⟨vp_in_nI (n := 1) (by decide) (by decide), if_le (by omega) (by omega) (fun c => by rw [fs_e c]) (fun c => ?_)⟩
      refine ⟨trivial, _, _, _, c_isIn (by omega), if_tf (fun d => ?_) (fun d => ?_)⟩
      · refine ⟨trivial, _, _, _, c_better w1 w2 w3 w4 c hr, if_tf (fun f => ?_) (fun f => ?_)⟩
        · rw [fs_t c (by rw [hP]; exact ⟨d, f⟩)]
        · rw [fs_f c (by rw [hP]; exact fun q => f q.2)]; exact ih c
      · rw [fs_f c (by rw [hP]; exact fun q => d q.1)]; exact ih c
    · refine ⟨trivial, _, _, _, r_isRow hB, if_tf (fun _ => ?_) (fun f => absurd ⟨r, hr, rfl⟩ f)⟩
      refine ⟨trivial, _, _, _, h.rfront, ?_⟩
      refine lp_up (n := Rn) (fun i => E2 61 899 (fun q => q = (.int (fs P (Rn - i) i), (I2, J2, mj_R2))) 18 [(0, .ref 0), (1, .int (nI r)), (2, .long (J1 24 6)), (4, .int (nI i))] I2 J2) (fun i hi ih => ?_) 0 (Nat.zero_le _)
      refine mj_on (s61_18 _ _ _ ?_)
      rw [b1, nI_clamp (by omega), b5, nI_1]
      refine ⟨vp_in_nI b2 (by decide), if_le (by omega) (by omega) (fun c => by rw [fs_e c]) (fun c => ?_)⟩
      refine if_i (fun d => ?_) (fun d => ?_)
      · have d := (sb_1 (by omega)).mp d
        refine ⟨trivial, _, _, _, h.beat c hr, if_tf (fun f => ?_) (fun f => ?_)⟩
        · rw [fs_t c (by rw [hP]; exact ⟨d, f⟩)]
        · rw [fs_f c (by rw [hP]; exact fun q => f q.2)]; exact ih c
      · have d : ¬ lbit (J1 24 6) i := fun q => d ((sb_1 (by omega)).mpr q)
        rw [fs_f c (by rw [hP]; exact fun q => d q.1)]; exact ih c
  · refine AI.same (-1) (mj_mk (D := 899) (e197 _ ?_)) (mj_mk (D := 899) (e61 _ ?_)) h
    · exact ⟨trivial, _, _, _, c_there (k := 1) a2 w2 (by omega), if_tf (fun f => absurd f p) (fun _ => rfl)⟩
    · exact ⟨trivial, _, _, _, r_isRow hB, if_tf (fun f => absurd f p) (fun _ => rfl)⟩
-- unsure, maybe
theorem Rl.ml (h : Rl b W Rn Kn Tn Hn Un g I1 J1 I2 J2) {r w : Nat} (hr : r < Rn) (hw : w < W) : C2 (D + 3) 67 [.ref 0, .int (nI r), .int (nI w)] I2 J2 (.int (I1 27 (4 * r + w))) I2 J2 ∧ C2 (D + 3) 68 [.ref 0, .int (nI r), .int (nI w)] I2 J2 (.int (I1 26 (4 * r + w))) I2 J2 := by
  have hB := h.rB
  have hR := h.rB.2.2.2.2.2
  have hT := (h.2.1.2.2.1 r hr w hw).2.2.1
  have hL := h.ls hr hw
  obtain ⟨-, -, -, h4, -⟩ := h.2.2.2.2.1
  obtain ⟨q1, q2, q3⟩ := h4 r hr w hw
  obtain ⟨b1, b2, b3, b4, b5, b6⟩ := id hB
  constructor
  · refine mj_mk (e67 _ _ ?_)
    refine ⟨trivial, _, _, _, r_rowLoss hB (by omega) hw, trivial, _, _, _, r_rowAt hB, vp_in_nI (by omega) (by decide), ?_⟩
    rw [nI_clamp (by omega), hT, hL, q1, q3]
  · refine mj_mk (e68 _ _ ?_)
    refine ⟨trivial, _, _, _, r_rowLoss hB (by omega) hw, trivial, _, _, _, r_rowAt hB, vp_in_nI (by omega) (by decide), ?_⟩
    rw [nI_clamp (by omega), hT, hL, q1, q2]
/-- 2, 1 or 0 -/
noncomputable def t2 (P Q : Prop) : Int32 := @ite _ P (Classical.propDecidable _) 2 (tf Q)
theorem t2_a {P Q : Prop} (h : P) : t2 P Q = 2 := @if_pos P (Classical.propDecidable _) h _ _ _
theorem t2_b {P Q : Prop} (h : ¬ P) : t2 P Q = tf Q := @if_neg P (Classical.propDecidable _) h _ _ _
theorem r_mayBeat (h : Rl b W Rn Kn Tn Hn Un g I1 J1 I2 J2) {x y : Nat} (hx : x < Rn) (hy : y < Rn) : C2 (D + 4) 66 [.ref 0, .int (nI x), .int (nI y)] I2 J2 (.int (t2 (bt W (fun w => I1 27 (4 * x + w)) (fun w => I1 26 (4 * y + w))) (bt W (fun w => I1 26 (4 * x + w)) (fun w => I1 27 (4 * y + w))))) I2 J2 := by
  have hB := h.rB
  obtain ⟨b1, b2, b3, b4, b5, b6⟩ := id hB
  have mx : ∀ {w}, w < W → _ := fun {w} hw => (h.ml (D := D) hx (w := w) hw)
  have my : ∀ {w}, w < W → _ := fun {w} hw => (h.ml (D := D) hy (w := w) hw)
  refine mj_mk (e66 _ _ ?_)
  have key := lp_up (n := W) (fun i => ∀ A B C E : Prop, (A ↔ ∀ w, w < i → I1 27 (4 * x + w) ≤ I1 26 (4 * y + w)) → (B ↔ ∃ w, w < i ∧ I1 27 (4 * x + w) < I1 26 (4 * y + w)) → (C ↔ ∀ w, w < i → I1 26 (4 * x + w) ≤ I1 27 (4 * y + w)) → (E ↔ ∃ w, w < i ∧ I1 26 (4 * x + w) < I1 27 (4 * y + w)) →
    E2 66 (D + 3) (fun q => q = (.int (t2 (bt W (fun w => I1 27 (4 * x + w)) (fun w => I1 26 (4 * y + w))) (bt W (fun w => I1 26 (4 * x + w)) (fun w => I1 27 (4 * y + w)))), (I2, J2, mj_R2))) 14 [(0, .ref 0), (1, .int (nI x)), (2, .int (nI y)), (3, .int (tf A)), (4, .int (tf B)), (5, .int (tf C)), (6, .int (tf E)), (7, .int (nI i))] I2 J2) (fun i hi ih A B C E hA hB' hC hE => ?_) 0 (Nat.zero_le _) True False True False
    ⟨fun _ w hw => absurd hw (Nat.not_lt_zero w), fun _ => trivial⟩ ⟨fun q => q.elim, fun ⟨w, hw, _⟩ => absurd hw (Nat.not_lt_zero w)⟩ ⟨fun _ w hw => absurd hw (Nat.not_lt_zero w), fun _ => trivial⟩ ⟨fun q => q.elim, fun ⟨w, hw, _⟩ => absurd hw (Nat.not_lt_zero w)⟩
  · rw [tf_t trivial, tf_f id] at key
    exact key
  refine mj_on (s66_14 _ _ _ _ _ _ _ ?_)
  rw [b1, nI_clamp (by omega), b3]
  refine ⟨vp_in_nI b2 (by decide), if_le (by omega) (by omega) (fun c => ?_) (fun c => ?_)⟩
  · obtain rfl : i = W := by omega
    have e1 : bt i (fun w => I1 27 (4 * x + w)) (fun w => I1 26 (4 * y + w)) ↔ A ∧ B := by rw [nbt, hA, hB']; rfl
    have e2 : bt i (fun w => I1 26 (4 * x + w)) (fun w => I1 27 (4 * y + w)) ↔ C ∧ E := by rw [nbt, hC, hE]; rfl
    have fin : ¬ (A ∧ B) → E2 66 (D + 3) (fun q => q = (.int (t2 (bt i (fun w => I1 27 (4 * x + w)) (fun w => I1 26 (4 * y + w))) (bt i (fun w => I1 26 (4 * x + w)) (fun w => I1 27 (4 * y + w)))), (I2, J2, mj_R2))) 161 [(5, .int (tf C)), (6, .int (tf E))] I2 J2 := by
      intro q
      refine mj_on (s66_161 _ _ ?_)
      rw [t2_b (fun z => q (e1.mp z))]
      exact if_tf (fun p1 => if_tf (fun p2 => mqT (e2.mpr ⟨p1, p2⟩)) (fun p2 => mqF fun z => p2 (e2.mp z).2)) (fun p1 => mqF fun z => p1 (e2.mp z).1)
    refine if_tf (fun p1 => if_tf (fun p2 => ?_) (fun p2 => fin fun z => p2 z.2)) (fun p1 => fin fun z => p1 z.1)
    rw [t2_a (e1.mpr ⟨p1, p2⟩)]
  -- one more wish: the four flags, one behind the other
  have s4 : ∀ A' B' C' : Prop, (A' ↔ ∀ w, w < i + 1 → I1 27 (4 * x + w) ≤ I1 26 (4 * y + w)) → (B' ↔ ∃ w, w < i + 1 ∧ I1 27 (4 * x + w) < I1 26 (4 * y + w)) → (C' ↔ ∀ w, w < i + 1 → I1 26 (4 * x + w) ≤ I1 27 (4 * y + w)) →
      E2 66 (D + 3) (fun q => q = (.int (t2 (bt W (fun w => I1 27 (4 * x + w)) (fun w => I1 26 (4 * y + w))) (bt W (fun w => I1 26 (4 * x + w)) (fun w => I1 27 (4 * y + w)))), (I2, J2, mj_R2))) 113 [(0, .ref 0), (1, .int (nI x)), (2, .int (nI y)), (3, .int (tf A')), (4, .int (tf B')), (5, .int (tf C')), (6, .int (tf E)), (7, .int (nI i))] I2 J2 := by
    intro A' B' C' hA' hB2 hC'
    refine mj_on (s66_113 _ _ _ _ _ _ _ ?_)
    rw [nI_1]
    refine if_tf (fun p => ?_) (fun p => ⟨trivial, _, _, _, (mx c).2, trivial, _, _, _, (my c).1, if_i (fun d => ?_) (fun d => ?_)⟩)
    · have z := ih c A' B' C' True hA' hB2 hC' ⟨fun _ => by obtain ⟨w, q1, q2⟩ := hE.mp p; exact ⟨w, by omega, q2⟩, fun _ => trivial⟩
      rw [tf_t trivial] at z
      exact z
    · have z := ih c A' B' C' False hA' hB2 hC' ⟨fun q => q.elim, fun ⟨w, q1, q2⟩ => by
        by_cases e : w = i
        · rw [e] at q2; exact absurd d (Int32.not_le.mpr q2)
        · exact p (hE.mpr ⟨w, by omega, q2⟩)⟩
      rw [tf_f id] at z
      exact z
    · have z := ih c A' B' C' True hA' hB2 hC' ⟨fun _ => ⟨i, by omega, Int32.not_le.mp d⟩, fun _ => trivial⟩
      rw [tf_t trivial] at z
      exact z
  have s3 : ∀ A' B' : Prop, (A' ↔ ∀ w, w < i + 1 → I1 27 (4 * x + w) ≤ I1 26 (4 * y + w)) → (B' ↔ ∃ w, w < i + 1 ∧ I1 27 (4 * x + w) < I1 26 (4 * y + w)) →
      E2 66 (D + 3) (fun q => q = (.int (t2 (bt W (fun w => I1 27 (4 * x + w)) (fun w => I1 26 (4 * y + w))) (bt W (fun w => I1 26 (4 * x + w)) (fun w => I1 27 (4 * y + w)))), (I2, J2, mj_R2))) 84 [(0, .ref 0), (1, .int (nI x)), (2, .int (nI y)), (3, .int (tf A')), (4, .int (tf B')), (5, .int (tf C)), (6, .int (tf E)), (7, .int (nI i))] I2 J2 := by
    intro A' B' hA' hB2
    refine mj_on (s66_84 _ _ _ _ _ _ _ ?_)
    refine if_tf (fun p => ⟨trivial, _, _, _, (mx c).2, trivial, _, _, _, (my c).1, if_i (fun d => ?_) (fun d => ?_)⟩) (fun p => ?_)
    · have z := s4 A' B' False hA' hB2 ⟨fun q => q.elim, fun q => absurd (q i (by omega)) (Int32.not_le.mpr d)⟩
      rw [tf_f id] at z
      exact z
    · have z := s4 A' B' True hA' hB2 ⟨fun _ w hw => by
        by_cases e : w = i
        · rw [e]; exact Int32.not_lt.mp d
        · exact hC.mp p w (by omega), fun _ => trivial⟩
      rw [tf_t trivial] at z
      exact z
    · have z := s4 A' B' False hA' hB2 ⟨fun q => q.elim, fun q => p (hC.mpr fun w hw => q w (by omega))⟩
      rw [tf_f id] at z
      exact z
  have s2 : ∀ A' : Prop, (A' ↔ ∀ w, w < i + 1 → I1 27 (4 * x + w) ≤ I1 26 (4 * y + w)) →
      E2 66 (D + 3) (fun q => q = (.int (t2 (bt W (fun w => I1 27 (4 * x + w)) (fun w => I1 26 (4 * y + w))) (bt W (fun w => I1 26 (4 * x + w)) (fun w => I1 27 (4 * y + w)))), (I2, J2, mj_R2))) 55 [(0, .ref 0), (1, .int (nI x)), (2, .int (nI y)), (3, .int (tf A')), (4, .int (tf B)), (5, .int (tf C)), (6, .int (tf E)), (7, .int (nI i))] I2 J2 := by
    intro A' hA'
    refine mj_on (s66_55 _ _ _ _ _ _ _ ?_)
    refine if_tf (fun p => ?_) (fun p => ⟨trivial, _, _, _, (mx c).1, trivial, _, _, _, (my c).2, if_i (fun d => ?_) (fun d => ?_)⟩)
    · have z := s3 A' True hA' ⟨fun _ => by obtain ⟨w, q1, q2⟩ := hB'.mp p; exact ⟨w, by omega, q2⟩, fun _ => trivial⟩
      rw [tf_t trivial] at z
      exact z
    · have z := s3 A' False hA' ⟨fun q => q.elim, fun ⟨w, q1, q2⟩ => by
        by_cases e : w = i
        · rw [e] at q2; exact absurd d (Int32.not_le.mpr q2)
        · exact p (hB'.mpr ⟨w, by omega, q2⟩)⟩
      rw [tf_f id] at z
      exact z
    · have z := s3 A' True hA' ⟨fun _ => ⟨i, by omega, Int32.not_le.mp d⟩, fun _ => trivial⟩
      rw [tf_t trivial] at z
      exact z
  refine if_tf (fun p => ⟨trivial, _, _, _, (mx c).1, trivial, _, _, _, (my c).2, if_i (fun d => ?_) (fun d => ?_)⟩) (fun p => ?_)
  · have z := s2 False ⟨fun q => q.elim, fun q => absurd (q i (by omega)) (Int32.not_le.mpr d)⟩
    rw [tf_f id] at z
    exact z
  · have z := s2 True ⟨fun _ w hw => by
      by_cases e : w = i
      · rw [e]; exact Int32.not_lt.mp d
      · exact hA.mp p w (by omega), fun _ => trivial⟩
    rw [tf_t trivial] at z
    exact z
  · have z := s2 False ⟨fun q => q.elim, fun q => p (hA.mpr fun w hw => q w (by omega))⟩
    rw [tf_f id] at z
    exact z
theorem al_maybe {x y : Int32} (h : Rl b W Rn Kn Tn Hn Un g I1 J1 I2 J2) : AI 202 65 [.int x, .int y] I1 J1 I2 J2 (Rl b W Rn Kn Tn Hn Un g) := by
  obtain ⟨w1, w2, w3, w4⟩ := h.W24
  have hB := h.rB
  have hj1 : ∀ {z : Int32} {r}, z = nI r → r < Rn → ((∃ j, j < Rn ∧ z = nI j ∧ ¬ lbit (J1 24 5) j) ↔ ¬ lbit (J1 24 5) r) := fun e hr => by rw [e]; exact c_jud hr
  rcases Classical.em (∃ j, j < Rn ∧ x = nI j) with p | p
  · rcases Classical.em (∃ j, j < Rn ∧ y = nI j) with q | q
    · obtain ⟨r, hr, rfl⟩ := p
      obtain ⟨u, hu, rfl⟩ := q
      obtain ⟨ans, ha0, ha1, ha2, ha3⟩ : ∃ v : Int32, (r = u → v = -1) ∧ (lbit (J1 24 5) r → v = -1) ∧ (lbit (J1 24 5) u → v = -1) ∧ (r ≠ u → ¬ lbit (J1 24 5) r → ¬ lbit (J1 24 5) u → v = t2 (bt W (fun w => I1 27 (4 * r + w)) (fun w => I1 26 (4 * u + w))) (bt W (fun w => I1 26 (4 * r + w)) (fun w => I1 27 (4 * u + w)))) := by
        by_cases e : r = u
        · exact ⟨-1, fun _ => rfl, fun _ => rfl, fun _ => rfl, fun q => absurd e q⟩
        rcases Classical.em (lbit (J1 24 5) r) with c | c
        · exact ⟨-1, fun _ => rfl, fun _ => rfl, fun _ => rfl, fun _ q => absurd c q⟩
        rcases Classical.em (lbit (J1 24 5) u) with d | d
        · exact ⟨-1, fun _ => rfl, fun _ => rfl, fun _ => rfl, fun _ _ q => absurd d q⟩
        · exact ⟨_, fun q => absurd q e, fun q => absurd q c, fun q => absurd q d, fun _ _ _ => rfl⟩
      refine AI.same ans (mj_mk (D := 899) (e202 _ _ ?_)) (mj_mk (D := 899) (e65 _ _ ?_)) h
      · refine ⟨trivial, _, _, _, c_judged (n := Rn) w1 w2, if_tf (fun c => ?_) (fun c => ?_)⟩
        · have c := (c_jud hr).mp c
          refine ⟨trivial, _, _, _, c_judged (n := Rn) w1 w2, if_tf (fun d => ?_) (fun d => ?_)⟩
          · have d := (c_jud hu).mp d
            refine if_eq (by omega) (by omega) (fun e => ?_) (fun e => ?_)
            · rw [ha0 e]
            · rw [ha3 e c d]
              refine ⟨trivial, _, _, _, c_out_b w3 w4 (by omega) (by omega), if_tf (fun f => ?_) (fun f => ?_)⟩
              · rw [t2_a f]
              · rw [t2_b f]
                exact ⟨trivial, _, _, _, c_out_a w3 w4 (by omega) (by omega), if_tf (fun z => mqT z) (fun z => mqF z)⟩
          · have d : lbit (J1 24 5) u := Classical.byContradiction fun z => d ((c_jud hu).mpr z)
            rw [ha2 d]
        · have c : lbit (J1 24 5) r := Classical.byContradiction fun z => c ((c_jud hr).mpr z)
          rw [ha1 c]
      · refine ⟨trivial, _, _, _, r_isRow hB, if_tf (fun _ => ?_) (fun f => absurd ⟨r, hr, rfl⟩ f)⟩
        refine ⟨trivial, _, _, _, r_isRow hB, if_tf (fun _ => ?_) (fun f => absurd ⟨u, hu, rfl⟩ f)⟩
        refine if_eq (by omega) (by omega) (fun e => ?_) (fun e => ?_)
        · rw [ha0 e]
        refine ⟨trivial, _, _, _, r_isAside hB (by omega), if_tf (fun c => ?_) (fun c => ?_)⟩
        · rw [ha1 ((h.asd hr).mp c)]
        have c := fun z => c ((h.asd hr).mpr z)
        refine ⟨trivial, _, _, _, r_isAside hB (by omega), if_tf (fun d => ?_) (fun d => ?_)⟩
        · rw [ha2 ((h.asd hu).mp d)]
        have d := fun z => d ((h.asd hu).mpr z)
        rw [ha3 e c d]
        exact ⟨trivial, _, _, _, r_mayBeat h hr hu, rfl⟩
    · refine AI.same (-1) (mj_mk (D := 899) (e202 _ _ ?_)) (mj_mk (D := 899) (e65 _ _ ?_)) h
      · refine ⟨trivial, _, _, _, c_judged (n := Rn) w1 w2, if_tf (fun c => ?_) (fun c => rfl)⟩
        exact ⟨trivial, _, _, _, c_judged (n := Rn) w1 w2, if_tf (fun ⟨j, hj, e, _⟩ => absurd ⟨j, hj, e⟩ q) (fun _ => rfl)⟩
      · refine ⟨trivial, _, _, _, r_isRow hB, if_tf (fun _ => ?_) (fun f => absurd p f)⟩
        exact ⟨trivial, _, _, _, r_isRow hB, if_tf (fun f => absurd f q) (fun _ => rfl)⟩
  · refine AI.same (-1) (mj_mk (D := 899) (e202 _ _ ?_)) (mj_mk (D := 899) (e65 _ _ ?_)) h
    · exact ⟨trivial, _, _, _, c_judged (n := Rn) w1 w2, if_tf (fun ⟨j, hj, e, _⟩ => absurd ⟨j, hj, e⟩ p) (fun _ => rfl)⟩
    · exact ⟨trivial, _, _, _, r_isRow hB, if_tf (fun f => absurd f p) (fun _ => rfl)⟩
end S49
