/-! choose, breaks, place -/
noncomputable def rz (I : Nat → Nat → Int32) (W Rn : Nat) (C : Int64) (p u : Nat) : Nat := @ite _ (vot I p) (Classical.propDecidable _) (rk I W Rn C p u) 0
noncomputable def smN (f : Nat → Nat) : Nat → Nat
  | 0 => 0
  | n + 1 => smN f n + f n
noncomputable def mxN (f : Nat → Nat) : Nat → Nat
  | 0 => 0
  | n + 1 => max (mxN f n) (f n)
theorem rz_t {I : Nat → Nat → Int32} {W Rn p u : Nat} {C : Int64} (h : vot I p) : rz I W Rn C p u = rk I W Rn C p u := @if_pos _ (Classical.propDecidable _) h _ _ _
theorem rz_f {I : Nat → Nat → Int32} {W Rn p u : Nat} {C : Int64} (h : ¬ vot I p) : rz I W Rn C p u = 0 := @if_neg _ (Classical.propDecidable _) h _ _ _
theorem smN_le {f : Nat → Nat} {B : Nat} (h : ∀ i, f i ≤ B) : ∀ n, smN f n ≤ B * n
  | 0 => Nat.le_refl _
  | n + 1 => by
    have := smN_le h n
    have := h n
    show smN f n + f n ≤ B * (n + 1)
    rw [Nat.mul_add]
    omega
theorem mxN_le {f : Nat → Nat} {B : Nat} (h : ∀ i, f i ≤ B) : ∀ n, mxN f n ≤ B
  | 0 => Nat.zero_le _
  | n + 1 => Nat.max_le.mpr ⟨mxN_le h n, h n⟩
/-- firsts, by law 0 -/
def fiP (I : Nat → Nat → Int32) (W Rn : Nat) (C : Int64) (u p : Nat) : Prop := vot I p ∧ rk I W Rn C p u = 0
noncomputable def blN (I : Nat → Nat → Int32) (W Rn : Nat) (C : Int64) (k u n : Nat) : Int32 :=
  if k = 0 then -(nI (ct n (fiP I W Rn C u))) else if k = 1 then nI (smN (fun p => rz I W Rn C p u) n) else nI (mxN (fun p => rz I W Rn C p u) n)
theorem nI_nm1 {n : Nat} (h : n < 2 ^ 31) : nI n ≠ -1 := fun e => by
  have := congrArg Int32.toInt e
  rw [nI_toInt h, show ((-1 : Int32)).toInt = -1 from rfl] at this
  omega
theorem ng_s {a : Nat} : -(nI a) - 1 = -(nI (a + 1)) ∧ -(nI a) - 0 = -(nI a) := by
  constructor
  · rw [← iI_nI, ← iI_nI, iI_neg, iI_neg, show (1 : Int32) = iI 1 from rfl, iI_sub]
    congr 1
    omega
  · rw [← iI_nI, iI_neg, show (0 : Int32) = iI 0 from rfl, iI_sub]
    congr 1
    omega
/-- the first of the least -/
noncomputable def pkN (v : Nat → Int32) (C : Int64) : Nat → Nat → Int32 → Int32 → Int32
  | 0, _, x, _ => x
  | m + 1, i, x, y => @ite _ (lbit C i ∧ (x = -1 ∨ v i < y)) (Classical.propDecidable _) (pkN v C m (i + 1) (nI i) (v i)) (pkN v C m (i + 1) x y)
section PK
variable {v : Nat → Int32} {C : Int64} {n i : Nat} {x y : Int32}
theorem pkN_t (hi : i < n) (h : lbit C i ∧ (x = -1 ∨ v i < y)) : pkN v C (n - i) i x y = pkN v C (n - (i + 1)) (i + 1) (nI i) (v i) := by
  rw [show n - i = n - (i + 1) + 1 by omega]
  exact @if_pos _ (Classical.propDecidable _) h _ _ _
theorem pkN_f (hi : i < n) (h : ¬ (lbit C i ∧ (x = -1 ∨ v i < y))) : pkN v C (n - i) i x y = pkN v C (n - (i + 1)) (i + 1) x y := by
  rw [show n - i = n - (i + 1) + 1 by omega]
  exact @if_neg _ (Classical.propDecidable _) h _ _ _
theorem pkN_e (hi : n ≤ i) : pkN v C (n - i) i x y = x := by
  rw [show n - i = 0 by omega]
  rfl
theorem pkN_no : ∀ {m i : Nat}, (∀ j, i ≤ j → ¬ lbit C j) → pkN v C m i x y = x
  | 0, _, _ => rfl
  | m + 1, i, h => by
    have e : pkN v C (m + 1) i x y = pkN v C m (i + 1) x y := @if_neg _ (Classical.propDecidable _) (fun q => h i (Nat.le_refl _) q.1) _ _ _
    rw [e]
    exact pkN_no fun j hj => h j (by omega)
theorem pkN_in : ∀ {m i : Nat} {x y : Int32}, pkN v C m i x y = x ∨ ∃ j, lbit C j ∧ pkN v C m i x y = nI j
  | 0, _, _, _ => Or.inl rfl
  | m + 1, i, x, y => by
    rcases Classical.em (lbit C i ∧ (x = -1 ∨ v i < y)) with q | q
    · have e : pkN v C (m + 1) i x y = pkN v C m (i + 1) (nI i) (v i) := @if_pos _ (Classical.propDecidable _) q _ _ _
      rw [e]
      rcases pkN_in (m := m) (i := i + 1) (x := nI i) (y := v i) with z | z
      · exact Or.inr ⟨i, q.1, z⟩
      · exact Or.inr z
    · have e : pkN v C (m + 1) i x y = pkN v C m (i + 1) x y := @if_neg _ (Classical.propDecidable _) q _ _ _
      rw [e]
      exact pkN_in
end PK
theorem fs_in {P : Nat → Prop} : ∀ {k i : Nat}, fs P k i = -1 ∨ ∃ j, P j ∧ fs P k i = nI j
  | 0, _ => Or.inl rfl
  | k + 1, i => by
    rcases Classical.em (P i) with q | q
    · exact Or.inr ⟨i, q, @if_pos _ (Classical.propDecidable _) q _ _ _⟩
    · have e : fs P (k + 1) i = fs P k (i + 1) := @if_neg _ (Classical.propDecidable _) q _ _ _
      rw [e]
      exact fs_in
def w3P (I : Nat → Nat → Int32) (W Rn : Nat) (C : Int64) (o : Nat) : Prop := lbit C o ∧ ∀ u, u < Rn → u ≠ o → lbit C u → wn I W o u
noncomputable def pkC (I : Nat → Nat → Int32) (W Rn : Nat) (C : Int64) (k : Nat) : Int32 := if k = 3 then fs (w3P I W Rn C) (40 - 0) 0 else pkN (fun u => blN I W Rn C k u 6) C (40 - 0) 0 (-1) 0
theorem pkC_in {I : Nat → Nat → Int32} {W Rn k : Nat} {C : Int64} : pkC I W Rn C k = -1 ∨ ∃ j, lbit C j ∧ pkC I W Rn C k = nI j := by
  unfold pkC
  by_cases e : k = 3
  · rw [if_pos e]
    rcases fs_in (P := w3P I W Rn C) (k := 40 - 0) (i := 0) with q | ⟨j, q1, q2⟩
    · exact Or.inl q
    · exact Or.inr ⟨j, q1.1, q2⟩
  · rw [if_neg e]
    exact pkN_in
section S68
variable {D b W Rn Kn Tn Hn Un g : Nat} {I I1 I2 : Nat → Nat → Int32} {J J1 J2 : Nat → Nat → Int64}
theorem rz_le {C : Int64} {u : Nat} (hR : Rn ≤ 40) (p : Nat) : rz I W Rn C p u ≤ 40 := by
  rcases Classical.em (vot I p) with q | q
  · rw [rz_t q]
    exact Nat.le_trans ct_le hR
  · rw [rz_f q]
    exact Nat.zero_le _
theorem c_blame {k u : Nat} {C : Int64} (h : Rl b W Rn Kn Tn Hn Un g I1 J1 I2 J2) (hg : gat I1 J1 W Rn 6 I J) (hC : ∀ i, lbit C i → i < Rn) (hk : k < 3) (hu : u < Rn) : C1 (D + 3) 285 [.ref 58, .int (nI k), .int (nI u), .long C] I J (.int (blN I1 W Rn C k u 6)) I J := by
  obtain ⟨g1, g2, g3, g4, g5⟩ := id hg
  have hR := h.rB.2.2.2.2.2
  obtain ⟨v, hv⟩ : ∃ v, v = blN I1 W Rn C k u 6 := ⟨_, rfl⟩
  rw [← hv]
  refine mj_mk (e285 _ _ _ ?_)
  have z0 : blN I1 W Rn C k u 0 = 0 := by
    unfold blN
    rcases (by omega : k = 0 ∨ k = 1 ∨ k = 2) with rfl | rfl | rfl
    · exact (by decide : -(nI 0) = 0)
    · rfl
    · rfl
  have key := lp_up (n := 6) (fun i => E1 285 (D + 2) (fun q => q = (.int v, (I, J, mj_R1))) 6 [(0, .ref 58), (1, .int (nI k)), (2, .int (nI u)), (3, .long C), (5, .int (blN I1 W Rn C k u i)), (6, .int (nI i))] I J) (fun i hi ih => ?_) 0 (Nat.zero_le _)
  · rw [z0] at key
    exact key
  refine mj_on (s285_6 _ _ _ _ _ ?_)
  rw [nI_1, nI_clamp (by omega), show (6 : Int32) = nI 6 from rfl, k1_at g1 (q := 60) rfl]
  refine if_le (by omega) (by omega) (fun c => ?_) (fun c => ⟨vp_in_nI (by omega) (by decide), if_i (fun d => ?_) (fun d => ⟨trivial, _, _, _, c_rank h hg hC c d hu, ?_⟩)⟩)
  · obtain rfl : i = 6 := by omega
    rw [hv]
  · have e : blN I1 W Rn C k u (i + 1) = blN I1 W Rn C k u i := by
      have nv : ¬ vot I1 i := fun q => q d
      unfold blN
      rw [ct_f (n := i) (fun q : fiP I1 W Rn C u i => nv q.1)]
      show (if k = 0 then _ else if k = 1 then nI (smN (fun p => rz I1 W Rn C p u) i + rz I1 W Rn C i u) else nI (max (mxN (fun p => rz I1 W Rn C p u) i) (rz I1 W Rn C i u))) = _
      rw [rz_f nv, Nat.add_zero, Nat.max_zero]
    have z := ih c
    rw [e] at z
    exact z
  have hv' : vot I1 i := d
  have hrk : rk I1 W Rn C i u ≤ 40 := Nat.le_trans ct_le hR
  have z := ih c
  rcases (by omega : k = 0 ∨ k = 1 ∨ k = 2) with rfl | rfl | rfl
  · have e0 : ∀ n, blN I1 W Rn C 0 u n = -(nI (ct n (fiP I1 W Rn C u))) := fun n => rfl
    rw [e0] at z
    rw [e0, if_pos (show nI 0 = 0 from rfl), ng_s.1, ng_s.2]
    refine if_eq (b := 0) (by omega) (by decide) (fun f => ?_) (fun f => ?_)
    · rw [ct_t (n := i) (p := fiP I1 W Rn C u) ⟨hv', f⟩] at z
      exact z
    · rw [ct_f (n := i) (p := fiP I1 W Rn C u) (fun q => f q.2)] at z
      exact z
  · have e1 : ∀ n, blN I1 W Rn C 1 u n = nI (smN (fun p => rz I1 W Rn C p u) n) := fun n => rfl
    rw [e1, if_neg (show ¬ nI 1 = 0 by decide), if_pos (show nI 1 = 1 from rfl), nI_add]
    rw [e1, show smN (fun p => rz I1 W Rn C p u) (i + 1) = smN (fun p => rz I1 W Rn C p u) i + rz I1 W Rn C i u from rfl, rz_t hv'] at z
    exact z
  · have e2 : ∀ n, blN I1 W Rn C 2 u n = nI (mxN (fun p => rz I1 W Rn C p u) n) := fun n => rfl
    have hm : mxN (fun p => rz I1 W Rn C p u) i ≤ 40 := mxN_le (rz_le hR) i
    rw [e2, if_neg (show ¬ nI 2 = 0 by decide), if_neg (show ¬ nI 2 = 1 by decide)]
    rw [e2, show mxN (fun p => rz I1 W Rn C p u) (i + 1) = max (mxN (fun p => rz I1 W Rn C p u) i) (rz I1 W Rn C i u) from rfl, rz_t hv'] at z
    refine ⟨trivial, _, _, _, c_max, ?_⟩
    rw [(i32_max (by omega) (by omega)).1]
    exact z
theorem blN_no {C : Int64} {k u : Nat} (hR : Rn ≤ 40) : blN I1 W Rn C k u 6 ≠ -2000000000 := by
  have h0 : ct 6 (fiP I1 W Rn C u) ≤ 6 := ct_le
  have h1 : smN (fun p => rz I1 W Rn C p u) 6 ≤ 40 * 6 := smN_le (rz_le hR) 6
  have h2 : mxN (fun p => rz I1 W Rn C p u) 6 ≤ 40 := mxN_le (rz_le hR) 6
  have no : ∀ n, n ≤ 240 → nI n ≠ -2000000000 := fun n hn e => by
    have := congrArg Int32.toInt e
    rw [nI_toInt (by omega), show ((-2000000000 : Int32)).toInt = -2000000000 from rfl] at this
    omega
  unfold blN
  by_cases e : k = 0
  · rw [if_pos e, ← iI_nI, iI_neg]
    intro q
    have := congrArg Int32.toInt q
    rw [iI_toInt (by omega) (by omega), show ((-2000000000 : Int32)).toInt = -2000000000 from rfl] at this
    omega
  · rw [if_neg e]
    by_cases f : k = 1
    · rw [if_pos f]; exact no _ (by omega)
    · rw [if_neg f]; exact no _ (by omega)
theorem c_pick3 {C : Int64} (h : Rl b W Rn Kn Tn Hn Un g I1 J1 I2 J2) (hg : gat I1 J1 W Rn 6 I J) (hC : ∀ i, lbit C i → i < Rn) : C1 (D + 3) 282 [.ref 58, .long C] I J (.int (pkC I1 W Rn C 3)) I J := by
  have hR := h.rB.2.2.2.2.2
  obtain ⟨v, hv⟩ : ∃ v, v = fs (w3P I1 W Rn C) (40 - 0) 0 := ⟨_, rfl⟩
  rw [show pkC I1 W Rn C 3 = v from hv.symm]
  refine mj_mk (e282 _ ?_)
  refine lp_up (n := 40) (fun o => fs (w3P I1 W Rn C) (40 - o) o = v → E1 282 (D + 2) (fun q => q = (.int v, (I, J, mj_R1))) 2 [(0, .ref 58), (1, .long C), (3, .int (nI o))] I J) (fun o ho ih he => ?_) 0 (Nat.zero_le _) hv.symm
  refine mj_on (s282_2 _ _ ?_)
  rw [show (40 : Int32) = nI 40 from rfl]
  refine if_le (by omega) (by omega) (fun c => ?_) (fun c => ⟨trivial, _, _, _, c_isIn (by omega), ?_⟩)
  · rw [← he, fs_e c]
  have last : ∀ B : Prop, (B ↔ w3P I1 W Rn C o) → E1 282 (D + 2) (fun q => q = (.int v, (I, J, mj_R1))) 68 [(0, .ref 58), (1, .long C), (3, .int (nI o)), (4, .int (tf B))] I J := fun B hB => by
    refine mj_on (s282_68 _ _ _ ?_)
    rw [nI_1]
    refine if_tf (fun q => ?_) (fun q => ih c ?_)
    · rw [← he, fs_t c (hB.mp q)]
    · rw [← he, fs_f c (fun z => q (hB.mpr z))]
  refine lp_up (n := 40) (fun u => ∀ B : Prop, (B ↔ lbit C o ∧ ∀ u', u' < u → u' ≠ o → lbit C u' → wn I1 W o u') → E1 282 (D + 2) (fun q => q = (.int v, (I, J, mj_R1))) 18 [(0, .ref 58), (1, .long C), (3, .int (nI o)), (4, .int (tf B)), (5, .int (nI u))] I J) (fun u hu ih2 B hB => ?_) 0 (Nat.zero_le _) (lbit C o) ⟨fun q => ⟨q, fun u' q' => absurd q' (Nat.not_lt_zero u')⟩, fun q => q.1⟩
  refine mj_on (s282_18 _ _ _ _ ?_)
  rw [show (40 : Int32) = nI 40 from rfl, nI_1]
  have nx : u < 40 → (lbit C o ∧ (∀ u', u' < u → u' ≠ o → lbit C u' → wn I1 W o u')) → (u ≠ o → lbit C u → wn I1 W o u) → E1 282 (D + 2) (fun q => q = (.int v, (I, J, mj_R1))) 18 [(0, .ref 58), (1, .long C), (3, .int (nI o)), (4, .int 1), (5, .int (nI (u + 1)))] I J := fun y q1 q2 => by
    have z := ih2 y True ⟨fun _ => ⟨q1.1, fun u' h1 h2 h3 => ?_⟩, fun _ => trivial⟩
    · rw [tf_t trivial] at z
      exact z
    · by_cases e : u' = u
      · subst e; exact q2 h2 h3
      · exact q1.2 u' (by omega) h2 h3
  refine if_le (by omega) (by omega) (fun d => last B ?_) (fun d => if_tf (fun f => ?_) (fun f => last B ?_))
  · rw [hB]
    exact ⟨fun q => ⟨q.1, fun u' h1 h2 h3 => q.2 u' (by omega) h2 h3⟩, fun q => ⟨q.1, fun u' h1 h2 h3 => q.2 u' (hC u' h3) h2 h3⟩⟩
  · have f' := hB.mp f
    refine if_eq (by omega) (by omega) (fun e => nx d f' fun q => absurd e q) (fun e => ⟨trivial, _, _, _, c_isIn (by omega), if_tf (fun y => ?_) (fun y => nx d f' fun _ q => absurd q y)⟩)
    refine ⟨trivial, _, _, _, c_most h hg (hC o f'.1) (hC u y), if_tf (fun z => nx d f' fun _ _ => z) (fun z => ?_)⟩
    have w := ih2 d False ⟨fun q => q.elim, fun q => z (q.2 u (by omega) e y)⟩
    rw [tf_f id] at w
    exact w
  · refine ⟨fun q => absurd q f, fun q => absurd (hB.mpr ⟨q.1, fun u' h1 h2 h3 => q.2 u' (hC u' h3) h2 h3⟩) f⟩
theorem c_pick {k : Nat} {C : Int64} (h : Rl b W Rn Kn Tn Hn Un g I1 J1 I2 J2) (hg : gat I1 J1 W Rn 6 I J) (hC : ∀ i, lbit C i → i < Rn) (hk : k ≤ 3) : C1 (D + 4) 281 [.ref 58, .int (nI k), .long C] I J (.int (pkC I1 W Rn C k)) I J := by
  have hR := h.rB.2.2.2.2.2
  refine mj_mk (e281 _ _ ?_)
  rw [show (3 : Int32) = nI 3 from rfl]
  refine if_eq (by omega) (by omega) (fun e => ?_) (fun e => ?_)
  · subst e
    exact ⟨trivial, _, _, _, c_pick3 h hg hC, rfl⟩
  rw [if_neg (nI_pos (by omega))]
  refine if_le (by omega) (by omega) (fun _ => ?_) (fun q => absurd q (by omega))
  obtain ⟨v, hv⟩ : ∃ v, v = pkC I1 W Rn C k := ⟨_, rfl⟩
  rw [← hv]
  obtain ⟨vf, hvf⟩ : ∃ vf : Nat → Int32, vf = fun u => blN I1 W Rn C k u 6 := ⟨_, rfl⟩
  have hv2 : pkN vf C (40 - 0) 0 (-1) 0 = v := by
    rw [hv, hvf]
    unfold pkC
    rw [if_neg e]
  have cb : ∀ i, i < Rn → C1 (D + 3) 285 [.ref 58, .int (nI k), .int (nI i), .long C] I J (.int (vf i)) I J := fun i q => by
    rw [hvf]
    exact c_blame h hg hC (by omega) q
  clear hvf hv
  refine lp_up (n := 40) (fun i => ∀ x y, pkN vf C (40 - i) i x y = v → E1 281 (D + 3) (fun q => q = (.int v, (I, J, mj_R1))) 31 [(0, .ref 58), (1, .int (nI k)), (2, .long C), (4, .int x), (5, .int y), (6, .int (nI i))] I J) (fun i hi ih x y he => ?_) 0 (Nat.zero_le _) (-1) 0 hv2
  refine mj_on (s281_31 _ _ _ _ _ ?_)
  rw [show (40 : Int32) = nI 40 from rfl, nI_1]
  have no : i < 40 → ¬ (lbit C i ∧ (x = -1 ∨ vf i < y)) → E1 281 (D + 3) (fun q => q = (.int v, (I, J, mj_R1))) 31 [(0, .ref 58), (1, .int (nI k)), (2, .long C), (4, .int x), (5, .int y), (6, .int (nI (i + 1)))] I J := fun c q => ih c x y (by rw [← he, pkN_f c q])
  have yes : i < 40 → (lbit C i ∧ (x = -1 ∨ vf i < y)) → E1 281 (D + 3) (fun q => q = (.int v, (I, J, mj_R1))) 70 [(0, .ref 58), (1, .int (nI k)), (2, .long C), (6, .int (nI i)), (7, .int (vf i))] I J := fun c q => by
    refine mj_on (s281_70 _ _ _ _ ?_)
    rw [nI_1]
    exact ih c _ _ (by rw [← he, pkN_t c q])
  refine if_le (by omega) (by omega) (fun c => ?_) (fun c => ⟨trivial, _, _, _, c_isIn (by omega), if_tf (fun d => ?_) (fun d => no c fun q => d q.1)⟩)
  · rw [← he, pkN_e c]
  · refine ⟨trivial, _, _, _, cb i (hC i d), if_i (fun f => yes c ⟨d, Or.inl f⟩) (fun f => if_i (fun w => no c fun q => ?_) (fun w => yes c ⟨d, Or.inr (Int32.not_le.mp w)⟩))⟩
    rcases q.2 with z | z
    · exact f z
    · exact absurd w (Int32.not_le.mpr z)
theorem c_pickBad {x : Int32} {C : Int64} (hx : ¬ ∃ k, k ≤ 3 ∧ x = nI k) : C1 (D + 4) 281 [.ref 58, .int x, .long C] I J (.int (-1)) I J := by
  refine mj_mk (e281 _ _ ?_)
  refine if_i (fun e => absurd ⟨3, by decide, e⟩ hx) (fun _ => if_i (fun _ => rfl) (fun c => if_i (fun d => ?_) (fun _ => rfl)))
  obtain ⟨k, hk, e⟩ := nI_of2 (n := 3) (by decide) c d
  exact absurd ⟨k, hk, e⟩ hx
-- the reference
theorem r_against {k u : Nat} {C : Int64} (h : Rl b W Rn Kn Tn Hn Un g I1 J1 I2 J2) (hk : k < 3) (hu : u < Rn) : C2 (D + 6) 126 [.ref 0, .int (nI k), .int (nI u), .long C] I2 J2 (.int (blN I1 W Rn C k u 6)) I2 J2 := by
  have hR := h.rB.2.2.2.2.2
  obtain ⟨v, hv⟩ : ∃ v, v = blN I1 W Rn C k u 6 := ⟨_, rfl⟩
  rw [← hv]
  obtain ⟨f, hf⟩ : ∃ f : Nat → Nat, f = fun p => rz I1 W Rn C p u := ⟨_, rfl⟩
  refine mj_mk (e126 _ _ _ ?_)
  refine lp_up (n := 6) (fun i => E2 126 (D + 5) (fun q => q = (.int v, (I2, J2, mj_R2))) 12 [(0, .ref 0), (1, .int (nI k)), (2, .int (nI u)), (3, .long C), (5, .int (nI (ct i (fiP I1 W Rn C u)))), (6, .int (nI (smN f i))), (7, .int (nI (mxN f i))), (8, .int (nI i))] I2 J2) (fun i hi ih => ?_) 0 (Nat.zero_le _)
  have nx : i < 6 → E2 126 (D + 5) (fun q => q = (.int v, (I2, J2, mj_R2))) 79 [(0, .ref 0), (1, .int (nI k)), (2, .int (nI u)), (3, .long C), (5, .int (nI (ct (i + 1) (fiP I1 W Rn C u)))), (6, .int (nI (smN f (i + 1)))), (7, .int (nI (mxN f (i + 1)))), (8, .int (nI i))] I2 J2 := fun c => by
    refine mj_on (s126_79 _ _ _ _ _ _ _ ?_)
    rw [nI_1]
    exact ih c
  have hm : mxN f i ≤ 40 := by rw [hf]; exact mxN_le (rz_le hR) i
  refine mj_on (s126_12 _ _ _ _ _ _ _ ?_)
  rw [show (6 : Int32) = nI 6 from rfl, show (3 : Int32) = nI 3 from rfl, nI_1, show (0 : Int32) = nI 0 from rfl, nI_add, Nat.add_zero]
  refine if_le (by omega) (by omega) (fun c => if_le (by omega) (by omega) (fun d => absurd d (by omega)) (fun _ => ?_)) (fun c => ⟨trivial, _, _, _, r_votes h c, if_tf (fun d => ?_) (fun d => ?_)⟩)
  · obtain rfl : i = 6 := by omega
    rw [hv, hf]
    rcases (by omega : k = 0 ∨ k = 1 ∨ k = 2) with rfl | rfl | rfl
    · rw [if_pos rfl]; rfl
    · rw [if_neg (by decide), if_pos (show nI 1 = 1 from rfl)]; rfl
    · rw [if_neg (by decide), if_neg (by decide)]; rfl
  · have hrk : rk I1 W Rn C i u ≤ 40 := Nat.le_trans ct_le hR
    have fi : f i = rk I1 W Rn C i u := by rw [hf]; exact rz_t d
    have mid : E2 126 (D + 5) (fun q => q = (.int v, (I2, J2, mj_R2))) 56 [(0, .ref 0), (1, .int (nI k)), (2, .int (nI u)), (3, .long C), (5, .int (nI (ct (i + 1) (fiP I1 W Rn C u)))), (6, .int (nI (smN f i))), (7, .int (nI (mxN f i))), (8, .int (nI i)), (9, .int (nI (rk I1 W Rn C i u)))] I2 J2 := by
      refine mj_on (s126_56 _ _ _ _ _ _ _ _ ?_)
      have z := nx c
      rw [show smN f (i + 1) = smN f i + f i from rfl, show mxN f (i + 1) = max (mxN f i) (f i) from rfl, fi] at z
      rw [nI_add]
      refine if_le (by omega) (by omega) (fun y => ?_) (fun y => ?_)
      · rw [Nat.max_eq_left y] at z; exact z
      · rw [Nat.max_eq_right (by omega)] at z; exact z
    refine ⟨trivial, _, _, _, r_place h c d hu, if_eq (b := 0) (by omega) (by decide) (fun y => ?_) (fun y => ?_)⟩
    · rw [ct_t (n := i) (p := fiP I1 W Rn C u) ⟨d, y⟩] at mid
      exact mid
    · rw [ct_f (n := i) (p := fiP I1 W Rn C u) (fun q => y q.2)] at mid
      exact mid
  · have z := nx c
    have fi : f i = 0 := by rw [hf]; exact rz_f d
    rw [show smN f (i + 1) = smN f i + f i from rfl, show mxN f (i + 1) = max (mxN f i) (f i) from rfl, fi, Nat.add_zero, Nat.max_zero, ct_f (n := i) (p := fiP I1 W Rn C u) (fun q => d q.1)] at z
    exact z
theorem r_against3 {u : Nat} {C : Int64} (h : Rl b W Rn Kn Tn Hn Un g I1 J1 I2 J2) (hu : u < Rn) (hb : lbit C u) : ∃ r : Int32, C2 (D + 6) 126 [.ref 0, .int (nI 3), .int (nI u), .long C] I2 J2 (.int r) I2 J2 ∧ (w3P I1 W Rn C u → r = 0) ∧ (¬ w3P I1 W Rn C u → r = -2000000000) := by
  obtain ⟨b1, b2, b3, b4, b5, b6⟩ := h.rB
  obtain ⟨r, hr⟩ : ∃ r : Int32, (w3P I1 W Rn C u → r = 0) ∧ (¬ w3P I1 W Rn C u → r = -2000000000) := by
    rcases Classical.em (w3P I1 W Rn C u) with q | q
    · exact ⟨0, fun _ => rfl, fun z => absurd q z⟩
    · exact ⟨-2000000000, fun z => absurd z q, fun _ => rfl⟩
  refine ⟨r, ?_, hr⟩
  refine mj_mk (e126 _ _ _ ?_)
  refine lp_up (n := 6) (fun i => ∀ x y z, E2 126 (D + 5) (fun q => q = (.int r, (I2, J2, mj_R2))) 12 [(0, .ref 0), (1, .int (nI 3)), (2, .int (nI u)), (3, .long C), (5, .int x), (6, .int y), (7, .int z), (8, .int (nI i))] I2 J2) (fun i hi ih x y z => ?_) 0 (Nat.zero_le _) _ _ _
  have nx : i < 6 → ∀ x y z, E2 126 (D + 5) (fun q => q = (.int r, (I2, J2, mj_R2))) 79 [(0, .ref 0), (1, .int (nI 3)), (2, .int (nI u)), (3, .long C), (5, .int x), (6, .int y), (7, .int z), (8, .int (nI i))] I2 J2 := fun c x y z => by
    refine mj_on (s126_79 _ _ _ _ _ _ _ ?_)
    rw [nI_1]
    exact ih c _ _ _
  have mid : i < 6 → ∀ x y z t, E2 126 (D + 5) (fun q => q = (.int r, (I2, J2, mj_R2))) 56 [(0, .ref 0), (1, .int (nI 3)), (2, .int (nI u)), (3, .long C), (5, .int x), (6, .int y), (7, .int z), (8, .int (nI i)), (9, .int t)] I2 J2 := fun c x y z t => by
    refine mj_on (s126_56 _ _ _ _ _ _ _ _ ?_)
    exact if_i (fun _ => nx c _ _ _) (fun _ => nx c _ _ _)
  refine mj_on (s126_12 _ _ _ _ _ _ _ ?_)
  rw [show (6 : Int32) = nI 6 from rfl]
  refine if_le (by omega) (by omega) (fun c => ?_) (fun c => ⟨trivial, _, _, _, r_votes h c, if_tf (fun d => ⟨trivial, _, _, _, r_place h c d hu, if_i (fun _ => mid c _ _ _ _) (fun _ => mid c _ _ _ _)⟩) (fun d => nx c _ _ _)⟩)
  rw [if_pos (by decide)]
  refine lp_up (n := Rn) (fun j => (∀ o, o < j → o ≠ u → lbit C o → wn I1 W u o) → E2 126 (D + 5) (fun q => q = (.int r, (I2, J2, mj_R2))) 116 [(0, .ref 0), (2, .int (nI u)), (3, .long C), (8, .int (nI j))] I2 J2) (fun j hj ih2 hp => ?_) 0 (Nat.zero_le _) (fun o ho => absurd ho (Nat.not_lt_zero o))
  refine mj_on (s126_116 _ _ _ ?_)
  rw [b1, nI_clamp (by omega), b5, nI_1]
  have nx2 : j < Rn → (j ≠ u → lbit C j → wn I1 W u j) → E2 126 (D + 5) (fun q => q = (.int r, (I2, J2, mj_R2))) 116 [(0, .ref 0), (2, .int (nI u)), (3, .long C), (8, .int (nI (j + 1)))] I2 J2 := fun c q => ih2 c fun o ho h1 h2 => by
    by_cases e : o = j
    · subst e; exact q h1 h2
    · exact hp o (by omega) h1 h2
  refine ⟨vp_in_nI b2 (by decide), if_le (by omega) (by omega) (fun d => ?_) (fun d => if_eq (by omega) (by omega) (fun e => nx2 d fun q => absurd e q) (fun e => if_i (fun f => ?_) (fun f => nx2 d fun _ q => absurd ((sb_1 (by omega)).mpr q) f)))⟩
  · rw [hr.1 ⟨hb, fun o h1 h2 h3 => hp o (by omega) h2 h3⟩]
  · have f := (sb_1 (by omega)).mp f
    refine ⟨trivial, _, _, _, r_wins h hu d, if_tf (fun w => nx2 d fun _ _ => w) (fun w => ?_)⟩
    rw [hr.2 (fun q => w (q.2 j d e f))]
theorem r_chosen {k : Nat} {C : Int64} (h : Rl b W Rn Kn Tn Hn Un g I1 J1 I2 J2) (hC : ∀ i, lbit C i → i < Rn) (hk : k ≤ 3) : C2 (D + 7) 125 [.ref 0, .int (nI k), .long C] I2 J2 (.int (pkC I1 W Rn C k)) I2 J2 := by
  obtain ⟨b1, b2, b3, b4, b5, b6⟩ := h.rB
  refine mj_mk (e125 _ _ ?_)
  obtain ⟨v, hv⟩ : ∃ v, v = pkC I1 W Rn C k := ⟨_, rfl⟩
  rw [← hv]
  by_cases e : k = 3
  · subst e
    have hv2 : fs (w3P I1 W Rn C) (40 - 0) 0 = v := hv.symm
    refine lp_up (n := Rn) (fun i => ∀ x y, (x = -1 ∧ fs (w3P I1 W Rn C) (40 - i) i = v ∨ x ≠ -1 ∧ x = v ∧ y = 0) → E2 125 (D + 6) (fun q => q = (.int v, (I2, J2, mj_R2))) 9 [(0, .ref 0), (1, .int (nI 3)), (2, .long C), (4, .int x), (5, .int y), (6, .int (nI i))] I2 J2) (fun i hi ih x y he => ?_) 0 (Nat.zero_le _) (-1) 0 (Or.inl ⟨rfl, hv2⟩)
    refine mj_on (s125_9 _ _ _ _ _ ?_)
    rw [b1, nI_clamp (by omega), b5, nI_1]
    have sk : i < Rn → ¬ w3P I1 W Rn C i → E2 125 (D + 6) (fun q => q = (.int v, (I2, J2, mj_R2))) 9 [(0, .ref 0), (1, .int (nI 3)), (2, .long C), (4, .int x), (5, .int y), (6, .int (nI (i + 1)))] I2 J2 := fun c q => by
      refine ih c x y ?_
      rcases he with ⟨e1, e2⟩ | e2
      · rw [fs_f (by omega) q] at e2
        exact Or.inl ⟨e1, e2⟩
      · exact Or.inr e2
    refine ⟨vp_in_nI b2 (by decide), if_le (by omega) (by omega) (fun c => ?_) (fun c => if_i (fun d => sk c fun q => (sb_0 (by omega)).mp d q.1) (fun d => ?_))⟩
    · rcases he with ⟨e1, e2⟩ | e2
      · rw [e1, ← e2]
        have : fs (w3P I1 W Rn C) (40 - i) i = -1 := by
          rcases fs_in (P := w3P I1 W Rn C) (k := 40 - i) (i := i) with q | q
          · exact q
          · have : ∀ k i, Rn ≤ i → fs (w3P I1 W Rn C) k i = -1 := by
              intro k
              induction k with
              | zero => intro i _; rfl
              | succ k ih3 =>
                intro i hi
                have e : fs (w3P I1 W Rn C) (k + 1) i = fs (w3P I1 W Rn C) k (i + 1) := @if_neg _ (Classical.propDecidable _) (fun q => by
                  have := hC i q.1
                  omega) _ _ _
                rw [e]
                exact ih3 (i + 1) (by omega)
            exact this _ _ c
        rw [this]
      · rw [e2.2.1]
    · have d : lbit C i := Classical.byContradiction fun q => d ((sb_0 (by omega)).mpr q)
      obtain ⟨r, hc, r1, r2⟩ := r_against3 (D := D) h c d
      refine ⟨trivial, _, _, _, hc, ?_⟩
      rcases Classical.em (w3P I1 W Rn C i) with q | q
      · rw [r1 q, if_neg (by decide)]
        refine if_i (fun z => ?_) (fun z => ?_)
        · refine mj_on (s125_71 _ _ _ _ ?_)
          rw [nI_1]
          rcases he with ⟨e1, e2⟩ | e2
          · rw [fs_t (by omega) q] at e2
            exact ih c _ _ (Or.inr ⟨nI_nm1 (by omega), e2, rfl⟩)
          · exact absurd z e2.1
        · rcases he with ⟨e1, e2⟩ | e2
          · exact absurd e1 z
          · rw [e2.2.2, if_neg (by decide)]
            exact ih c x 0 (Or.inr ⟨e2.1, e2.2.1, rfl⟩)
      · rw [r2 q, if_pos rfl]
        exact sk c q
  · obtain ⟨vf, hvf⟩ : ∃ vf : Nat → Int32, vf = fun u => blN I1 W Rn C k u 6 := ⟨_, rfl⟩
    have hv2 : pkN vf C (40 - 0) 0 (-1) 0 = v := by
      rw [hv, hvf]
      unfold pkC
      rw [if_neg e]
    have cb : ∀ i, i < Rn → C2 (D + 6) 126 [.ref 0, .int (nI k), .int (nI i), .long C] I2 J2 (.int (vf i)) I2 J2 ∧ vf i ≠ -2000000000 := fun i q => by
      rw [hvf]
      exact ⟨r_against h (by omega) q, blN_no b6⟩
    clear hvf hv
    refine lp_up (n := Rn) (fun i => ∀ x y, pkN vf C (40 - i) i x y = v → E2 125 (D + 6) (fun q => q = (.int v, (I2, J2, mj_R2))) 9 [(0, .ref 0), (1, .int (nI k)), (2, .long C), (4, .int x), (5, .int y), (6, .int (nI i))] I2 J2) (fun i hi ih x y he => ?_) 0 (Nat.zero_le _) (-1) 0 hv2
    refine mj_on (s125_9 _ _ _ _ _ ?_)
    rw [b1, nI_clamp (by omega), b5, nI_1]
    have no : i < Rn → ¬ (lbit C i ∧ (x = -1 ∨ vf i < y)) → E2 125 (D + 6) (fun q => q = (.int v, (I2, J2, mj_R2))) 9 [(0, .ref 0), (1, .int (nI k)), (2, .long C), (4, .int x), (5, .int y), (6, .int (nI (i + 1)))] I2 J2 := fun c q => ih c x y (by rw [← he, pkN_f (by omega) q])
    have yes : i < Rn → (lbit C i ∧ (x = -1 ∨ vf i < y)) → E2 125 (D + 6) (fun q => q = (.int v, (I2, J2, mj_R2))) 71 [(0, .ref 0), (1, .int (nI k)), (2, .long C), (6, .int (nI i)), (7, .int (vf i))] I2 J2 := fun c q => by
      refine mj_on (s125_71 _ _ _ _ ?_)
      rw [nI_1]
      exact ih c _ _ (by rw [← he, pkN_t (by omega) q])
    refine ⟨vp_in_nI b2 (by decide), if_le (by omega) (by omega) (fun c => ?_) (fun c => if_i (fun d => no c fun q => (sb_0 (by omega)).mp d q.1) (fun d => ?_))⟩
    · rw [← he, pkN_no fun j hj q => by have := hC j q; omega]
    · have d : lbit C i := Classical.byContradiction fun q => d ((sb_0 (by omega)).mpr q)
      refine ⟨trivial, _, _, _, (cb i c).1, ?_⟩
      rw [if_neg (cb i c).2]
      refine if_i (fun f => yes c ⟨d, Or.inl f⟩) (fun f => if_i (fun w => yes c ⟨d, Or.inr w⟩) (fun w => no c fun q => ?_))
      rcases q.2 with z | z
      · exact f z
      · exact w z
end S68
