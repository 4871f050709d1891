/-! how far apart: the class' table, the reference's count; what is kept -/
noncomputable def mo (I : Nat → Nat → Int32) (W a c : Nat) : Nat := mxN (fun w => (dfz I a c w).toNat) W
def mn (f : Nat → Nat) : Nat → Nat
  | 0 => 2000000000
  | s + 1 => min (mn f s) (f s)
theorem mn_le {f : Nat → Nat} : ∀ {s}, mn f s ≤ 2000000000
  | 0 => Nat.le_refl _
  | s + 1 => Nat.le_trans (Nat.min_le_left _ _) mn_le
theorem mn_le2 {f : Nat → Nat} {B : Nat} (h : ∀ i, f i ≤ B) {s : Nat} : mn f (s + 1) ≤ B := Nat.le_trans (Nat.min_le_right _ _) (h s)
noncomputable def ap (I : Nat → Nat → Int32) (W n : Nat) (t : List Nat) : Nat := mxN (fun c => mn (fun i => mo I W (t.getD i 0) c) t.length) n
theorem mxN_mono {f : Nat → Nat} : ∀ {m n : Nat}, m ≤ n → mxN f m ≤ mxN f n
  | m, 0, h => by rw [show m = 0 by omega]; exact Nat.le_refl _
  | m, n + 1, h => by
    by_cases e : m = n + 1
    · rw [e]; exact Nat.le_refl _
    · exact Nat.le_trans (mxN_mono (by omega)) (Nat.le_max_left _ _)
def frP (I1 I2 : Nat → Nat → Int32) (W n : Nat) : Prop := n ≤ 24 ∧ W ≤ 4 ∧ I1 38 1 = nI n ∧ I2 0 58 = nI n ∧ ∀ k, k < n → ∀ w, w < W → I2 37 (4 * k + w) = I1 39 (4 * k + w) ∧ ∃ x : Int, -1000000 ≤ x ∧ x ≤ 1000000 ∧ I1 39 (4 * k + w) = iI x
theorem i32_mxz {m : Nat} {z : Int} (hm : m ≤ 2000000) (h1 : -2000000 ≤ z) (h2 : z ≤ 2000000) : (if nI m < iI z then iI z else nI m) = nI (max m z.toNat) ∧ (if iI z ≤ nI m then nI m else iI z) = nI (max m z.toNat) := by
  have e1 : (nI m < iI z) ↔ (m : Int) < z := by rw [Int32.lt_iff_toInt_lt, nI_toInt (by omega), iI_toInt (by omega) (by omega)]
  have e2 : (iI z ≤ nI m) ↔ z ≤ (m : Int) := by rw [Int32.le_iff_toInt_le, nI_toInt (by omega), iI_toInt (by omega) (by omega)]
  by_cases c : (m : Int) < z
  · rw [if_pos (e1.mpr c), if_neg (fun q => by have := e2.mp q; omega), Nat.max_eq_right (by omega), iI_toNat (by omega)]
    exact ⟨rfl, rfl⟩
  · rw [if_neg (fun q => c (e1.mp q)), if_pos (e2.mpr (by omega)), Nat.max_eq_left (by omega)]
    exact ⟨rfl, rfl⟩
section S75
variable {D b W Rn Kn Tn Hn Un g n : Nat} {I I1 I2 : Nat → Nat → Int32} {J J1 J2 : Nat → Nat → Int64}
theorem frP.df (h : frP I1 I2 W n) {a c w : Nat} (ha : a < n) (hc : c < n) (hw : w < W) : I1 39 (4 * a + w) - I1 39 (4 * c + w) = iI (dfz I1 a c w) ∧ -2000000 ≤ dfz I1 a c w ∧ dfz I1 a c w ≤ 2000000 := dfz_at (h.2.2.2.2 a ha w hw).2 (h.2.2.2.2 c hc w hw).2
theorem frP.mo (h : frP I1 I2 W n) {a c : Nat} (ha : a < n) (hc : c < n) : ∀ k, k ≤ W → mxN (fun w => (dfz I1 a c w).toNat) k ≤ 2000000
  | 0, _ => Nat.zero_le _
  | k + 1, hk => by
    have := (h.df ha hc (w := k) (by omega)).2.2
    exact Nat.max_le.mpr ⟨h.mo ha hc k (by omega), by show (dfz I1 a c k).toNat ≤ _; omega⟩
/-- the class has measured -/
def dis (I1 : Nat → Nat → Int32) (W n : Nat) (I : Nat → Nat → Int32) : Prop := I 47 0 = nI n ∧ ∀ a c, a < n → c < n → I 48 (24 * a + c) = nI (mo I1 W a c)
theorem c_minN {x y : Nat} (hx : x < 2 ^ 31) (hy : y < 2 ^ 31) : C1 (D + 1) 0 [.int (nI x), .int (nI y)] I J (.int (nI (min x y))) I J := by
  have e : (if nI y < nI x then nI y else nI x) = nI (min x y) := by
    have e1 : (nI y < nI x) ↔ y < x := by rw [Int32.lt_iff_toInt_lt, nI_toInt hx, nI_toInt hy]; omega
    by_cases c : y < x
    · rw [if_pos (e1.mpr c), Nat.min_eq_right (by omega)]
    · rw [if_neg (fun q => c (e1.mp q)), Nat.min_eq_left (by omega)]
  rw [← e]
  exact c_min
theorem c_measure (h : frP I1 I2 W n) : ∃ I' J', C1 (D + 2) 244 [.ref 47, .ref 38, .int (nI W)] I1 J .null I' J' ∧ J' = J ∧ k1 I' = k1 I1 ∧ dis I1 W n I' := by
  obtain ⟨n1, n2, n3, n4, n5⟩ := id h
  refine mj_cN (e244 _ ?_)
  rw [n3, show (24 : Int32) = nI 24 from rfl]
  refine ⟨trivial, _, _, _, c_minN (by omega) (by decide), ?_⟩
  rw [Nat.min_eq_left n1]
  obtain ⟨Q, hQ⟩ : ∃ Q, Q = qN mj_R1 (fun I' J' => J' = J ∧ k1 I' = k1 I1 ∧ dis I1 W n I') := ⟨_, rfl⟩
  rw [← hQ]
  refine lp_up (n := n) (fun a => ∀ I, k1 I = k1 I1 → I 47 0 = nI n → (∀ a' c, a' < a → c < n → I 48 (24 * a' + c) = nI (mo I1 W a' c)) → E1 244 (D + 1) Q 15 [(0, .ref 47), (1, .ref 38), (2, .int (nI W)), (3, .int (nI a))] I J) (fun a ha ih I k h0 hd => ?_) 0 (Nat.zero_le _) _ (by rw [k1_up rfl]) (by rw [up_s]) (fun a' c q => absurd q (Nat.not_lt_zero a'))
  refine mj_on (s244_15 _ _ ?_)
  rw [h0]
  refine if_le (by omega) (by omega) (fun c => ?_) (fun c => ?_)
  · obtain rfl : a = n := by omega
    rw [hQ]
    exact ⟨_, _, rfl, rfl, k, h0, hd⟩
  refine lp_up (n := n) (fun e => ∀ I, k1 I = k1 I1 → I 47 0 = nI n → (∀ a' c, a' < a → c < n → I 48 (24 * a' + c) = nI (mo I1 W a' c)) → (∀ c, c < e → I 48 (24 * a + c) = nI (mo I1 W a c)) → E1 244 (D + 1) Q 26 [(0, .ref 47), (1, .ref 38), (2, .int (nI W)), (3, .int (nI a)), (4, .int (nI e))] I J) (fun e he ih2 I k h0 hd hd2 => ?_) 0 (Nat.zero_le _) I k h0 hd (fun c q => absurd q (Nat.not_lt_zero c))
  refine mj_on (s244_26 _ _ _ ?_)
  rw [h0, nI_1]
  refine if_le (by omega) (by omega) (fun d => ih c I k h0 fun a' c' q1 q2 => ?_) (fun d => ?_)
  · by_cases z : a' = a
    · rw [z]; exact hd2 c' (by omega)
    · exact hd a' c' (by omega) q2
  refine lp_up (n := W) (fun w => E1 244 (D + 1) Q 41 [(0, .ref 47), (1, .ref 38), (2, .int (nI W)), (3, .int (nI a)), (4, .int (nI e)), (5, .int (nI (mxN (fun w => (dfz I1 a e w).toNat) w))), (6, .int (nI w))] I J) (fun w hw ih3 => ?_) 0 (Nat.zero_le _)
  refine mj_on (s244_41 _ _ _ _ _ ?_)
  rw [show nI a * (24 : Int32) = nI (24 * a) from (pk_mul a 24).trans (by rw [Nat.mul_comm]), nI_add, nI_1, nI_1, nI_clamp (by omega)]
  refine if_le (by omega) (by omega) (fun f => ⟨vp_in_nI (by omega) (by decide), ?_⟩) (fun f => ⟨trivial, _, _, _, c_dif (by omega) (by omega) (by omega), trivial, _, _, _, c_max, ?_⟩)
  · obtain rfl : w = W := by omega
    refine ih2 d _ (by rw [k1_up rfl]; exact k) (by rw [up_c (by decide)]; exact h0) (fun a' c' q1 q2 => by rw [up_j (by omega)]; exact hd a' c' q1 q2) (fun c' q => ?_)
    by_cases z : c' = e
    · rw [z, up_s]; rfl
    · rw [up_j (by omega)]; exact hd2 c' (by omega)
  · obtain ⟨y1, y2, y3⟩ := h.df c d f
    rw [k1_at k (q := 39) rfl, k1_at k (q := 39) rfl, y1, (i32_mxz (h.mo c d w hw) y2 y3).1]
    exact ih3 f
theorem c_far {t : List Nat} {s B : Nat} (hn : frP I1 I2 W n) (hd : dis I1 W n I) (hs : t.length = s) (hs2 : s ≤ 16) (ha : arrL I 49 t) (ht : ∀ x ∈ t, x < n) (hB : B < 2 ^ 31) : ∃ x, C1 (D + 2) 247 [.ref 47, .int (nI s), .int (nI B)] I J (.int (nI x)) I J ∧ x < 2 ^ 31 ∧ (ap I1 W n t < B → x = ap I1 W n t) ∧ (¬ ap I1 W n t < B → B ≤ x) := by
  obtain ⟨n1, n2, n3, n4, n5⟩ := id hn
  obtain ⟨d2, d3⟩ := id hd
  obtain ⟨f, hf⟩ : ∃ f : Nat → Nat, f = fun c => mn (fun i => mo I1 W (t.getD i 0) c) t.length := ⟨_, rfl⟩
  have hap : ap I1 W n t = mxN f n := by rw [hf]; rfl
  have fle : ∀ c, f c ≤ 2000000000 := fun c => by rw [hf]; exact mn_le
  have mle : ∀ k, mxN f k ≤ 2000000000 := fun k => mxN_le fle k
  suffices hs : ∃ r I' J', C1 (D + 2) 247 [.ref 47, .int (nI s), .int (nI B)] I J (.int r) I' J' ∧ I' = I ∧ J' = J ∧ ∃ k, k ≤ n ∧ r = nI (mxN f k) ∧ (k = n ∨ B ≤ mxN f k) by
    obtain ⟨r, I', J', hc, rfl, rfl, k, k1, rfl, k2⟩ := hs
    have hm := mxN_mono (f := f) k1
    refine ⟨mxN f k, hc, by have := mle k; omega, fun q => ?_, fun q => ?_⟩
    · rw [hap] at q ⊢
      rcases k2 with rfl | k2
      · rfl
      · omega
    · rw [hap] at q
      rcases k2 with rfl | k2
      · omega
      · exact k2
  refine mj_cI (e247 _ _ ?_)
  obtain ⟨Q, hQ⟩ : ∃ Q, Q = qI mj_R1 (fun r I' J' => I' = I ∧ J' = J ∧ ∃ k, k ≤ n ∧ r = nI (mxN f k) ∧ (k = n ∨ B ≤ mxN f k)) := ⟨_, rfl⟩
  rw [← hQ]
  refine lp_up (n := n) (fun k => E1 247 (D + 1) Q 5 [(0, .ref 47), (1, .int (nI s)), (2, .int (nI B)), (3, .int (nI (mxN f k))), (4, .int (nI k))] I J) (fun k hk ih => ?_) 0 (Nat.zero_le _)
  have mk := mle k
  refine mj_on (s247_5 _ _ _ _ ?_)
  rw [d2]
  refine if_le (by omega) (by omega) (fun c => ?_) (fun c => if_le (by omega) (by omega) (fun d => ?_) (fun d => ?_))
  · obtain rfl : k = n := by omega
    rw [hQ]
    exact ⟨_, _, _, rfl, rfl, rfl, k, Nat.le_refl _, rfl, Or.inl rfl⟩
  · rw [hQ]
    exact ⟨_, _, _, rfl, rfl, rfl, k, hk, rfl, Or.inr d⟩
  refine lp_up (n := s) (fun i => E1 247 (D + 1) Q 26 [(0, .ref 47), (1, .int (nI s)), (2, .int (nI B)), (3, .int (nI (mxN f k))), (4, .int (nI k)), (5, .int (nI (mn (fun i => mo I1 W (t.getD i 0) k) i))), (6, .int (nI i))] I J) (fun i hi ih2 => ?_) 0 (Nat.zero_le _)
  have ml : mn (fun i => mo I1 W (t.getD i 0) k) i ≤ 2000000000 := mn_le
  refine mj_on (s247_26 _ _ _ _ _ _ ?_)
  rw [nI_1, nI_1, nI_clamp (by omega)]
  refine if_le (by omega) (by omega) (fun d => ?_) (fun d => ⟨vp_in_nI (by omega) (by decide), ?_⟩)
  · obtain rfl : i = s := by omega
    refine ⟨trivial, _, _, _, c_max, ?_⟩
    rw [(i32_max (by omega) (by omega)).1]
    have z := ih c
    have e : f k = mn (fun i => mo I1 W (t.getD i 0) k) i := by rw [hf, ← hs]
    rw [show mxN f (k + 1) = max (mxN f k) (f k) from rfl, e] at z
    exact z
  · obtain ⟨x, hx, hxm, -⟩ := gt_of (l := t) (n := i) (by omega)
    have xn := ht x hxm
    have gx : t.getD i 0 = x := by rw [List.getD_eq_getElem?_getD, hx]; rfl
    rw [ha i x hx, show nI x * (24 : Int32) = nI (24 * x) from (pk_mul x 24).trans (by rw [Nat.mul_comm]), nI_add, nI_clamp (by omega), d3 x k xn c]
    have mm := hn.mo xn c W (Nat.le_refl _)
    have mm2 : mo I1 W x k ≤ 2000000 := mm
    refine ⟨vp_in_nI (by omega) (by decide), trivial, _, _, _, c_minN (by omega) (by omega), ?_⟩
    have z := ih2 d
    rw [show mn (fun i => mo I1 W (t.getD i 0) k) (i + 1) = min (mn (fun i => mo I1 W (t.getD i 0) k) i) (mo I1 W (t.getD i 0) k) from rfl, gx] at z
    exact z
-- the reference
theorem r_more {a c : Nat} (h : rB I b W Rn) (hn : frP I1 I2 W n) (h37 : I 37 = I2 37) (ha : a < n) (hc : c < n) : C2 (D + 1) 97 [.ref 0, .int (nI a), .int (nI c)] I J (.int (nI (mo I1 W a c))) I J := by
  obtain ⟨b1, b2, b3, b4, b5, b6⟩ := h
  obtain ⟨n1, n2, n3, n4, n5⟩ := id hn
  refine mj_mk (e97 _ _ ?_)
  refine lp_up (n := W) (fun w => E2 97 D (fun q => q = (.int (nI (mo I1 W a c)), (I, J, mj_R2))) 5 [(0, .ref 0), (1, .int (nI a)), (2, .int (nI c)), (3, .int (nI (mxN (fun w => (dfz I1 a c w).toNat) w))), (4, .int (nI w))] I J) (fun w hw ih => ?_) 0 (Nat.zero_le _)
  refine mj_on (s97_5 _ _ _ _ ?_)
  rw [b1, nI_clamp (by omega), b3, nI_1, ix4', ix4', nI_clamp (by omega), nI_clamp (by omega)]
  refine ⟨vp_in_nI b2 (by decide), if_le (by omega) (by omega) (fun d => ?_) (fun d => ⟨vp_in_nI (by omega) (by decide), vp_in_nI (by omega) (by decide), ?_⟩)⟩
  · obtain rfl : w = W := by omega
    rfl
  obtain ⟨y1, y2, y3⟩ := hn.df ha hc d
  rw [h37, (n5 a ha w d).1, (n5 c hc w d).1, y1]
  have z := ih d
  have e := (i32_mxz (hn.mo ha hc w hw) y2 y3).2
  rw [show mxN (fun w => (dfz I1 a c w).toNat) (w + 1) = max (mxN (fun w => (dfz I1 a c w).toNat) w) (dfz I1 a c w).toNat from rfl, ← e] at z
  refine if_i (fun q => ?_) (fun q => ⟨vp_in_nI (by omega) (by decide), vp_in_nI (by omega) (by decide), ?_⟩)
  · rw [if_pos q] at z; exact z
  · rw [if_neg q] at z; exact z
theorem r_apart {t : List Nat} {s : Nat} (h : rB I b W Rn) (hn : frP I1 I2 W n) (h37 : I 37 = I2 37) (h58 : I 0 58 = nI n) (hs : t.length = s + 1) (hs2 : s + 1 ≤ 16) (ha : arrL I 42 t) (ht : ∀ x ∈ t, x < n) : C2 (D + 2) 96 [.ref 0, .int (nI (s + 1))] I J (.int (nI (ap I1 W n t))) I J ∧ ap I1 W n t ≤ 2000000 := by
  obtain ⟨n1, n2, n3, n4, n5⟩ := id hn
  obtain ⟨f, hf⟩ : ∃ f : Nat → Nat, f = fun c => mn (fun i => mo I1 W (t.getD i 0) c) t.length := ⟨_, rfl⟩
  have hap : ap I1 W n t = mxN f n := by rw [hf]; rfl
  have gx : ∀ i, i < s + 1 → ∃ x, t[i]? = some x ∧ t.getD i 0 = x ∧ x < n := fun i hi => by
    obtain ⟨x, hx, hxm, -⟩ := gt_of (l := t) (n := i) (by omega)
    exact ⟨x, hx, by rw [List.getD_eq_getElem?_getD, hx]; rfl, ht x hxm⟩
  have mm : ∀ i c, i < s + 1 → c < n → mo I1 W (t.getD i 0) c ≤ 2000000 := fun i c hi hc => by
    obtain ⟨x, -, q1, q2⟩ := gx i hi
    rw [q1]
    exact hn.mo q2 hc W (Nat.le_refl _)
  have mn2 : ∀ i c, i < s + 1 → c < n → mn (fun i => mo I1 W (t.getD i 0) c) (i + 1) ≤ 2000000 := fun i c hi hc => Nat.le_trans (Nat.min_le_right _ _) (mm i c hi hc)
  have fle : ∀ c, c < n → f c ≤ 2000000 := fun c hc => by
    rw [hf]
    show mn _ t.length ≤ _
    rw [hs]
    exact mn2 s c (by omega) hc
  have mle : ∀ k, k ≤ n → mxN f k ≤ 2000000 := by
    intro k
    induction k with
    | zero => intro _; exact Nat.zero_le _
    | succ k ih => intro hk; exact Nat.max_le.mpr ⟨ih (by omega), fle k (by omega)⟩
  rw [hap]
  refine ⟨?_, mle n (Nat.le_refl _)⟩
  refine mj_mk (e96 _ ?_)
  refine lp_up (n := n) (fun k => E2 96 (D + 1) (fun q => q = (.int (nI (mxN f n)), (I, J, mj_R2))) 4 [(0, .ref 0), (1, .int (nI (s + 1))), (2, .int (nI (mxN f k))), (3, .int (nI k))] I J) (fun k hk ih => ?_) 0 (Nat.zero_le _)
  have mk := mle k hk
  refine mj_on (s96_4 _ _ _ ?_)
  rw [h58]
  refine if_le (by omega) (by omega) (fun c => ?_) (fun c => ?_)
  · obtain rfl : k = n := by omega
    rfl
  refine lp_up (n := s + 1) (fun i => ∀ x4, (i = 0 ∧ x4 = -1 ∨ 1 ≤ i ∧ x4 = nI (mn (fun i => mo I1 W (t.getD i 0) k) i)) → E2 96 (D + 1) (fun q => q = (.int (nI (mxN f n)), (I, J, mj_R2))) 18 [(0, .ref 0), (1, .int (nI (s + 1))), (2, .int (nI (mxN f k))), (3, .int (nI k)), (4, .int x4), (5, .int (nI i))] I J) (fun i hi ih2 x4 hx => ?_) 0 (Nat.zero_le _) (-1) (Or.inl ⟨rfl, rfl⟩)
  refine mj_on (s96_18 _ _ _ _ _ ?_)
  rw [nI_1, nI_1, nI_clamp (by omega)]
  refine if_le (by omega) (by omega) (fun d => ?_) (fun d => ?_)
  · obtain rfl : i = s + 1 := by omega
    rcases hx with hx | ⟨-, rfl⟩
    · omega
    have z := ih c
    have m2 := mn2 s k (by omega) c
    have e : f k = mn (fun i => mo I1 W (t.getD i 0) k) (s + 1) := by rw [hf, ← hs]
    rw [show mxN f (k + 1) = max (mxN f k) (f k) from rfl, e] at z
    refine if_le (by omega) (by omega) (fun y => ?_) (fun y => ?_)
    · rw [Nat.max_eq_left y] at z; exact z
    · rw [Nat.max_eq_right (by omega)] at z; exact z
  obtain ⟨x, hx1, hx2, hx3⟩ := gx i d
  have mr := r_more (D := D) (J := J) h hn h37 hx3 c
  have m1 := mm i k d c
  rw [hx2] at m1
  have es : mn (fun i => mo I1 W (t.getD i 0) k) (i + 1) = min (mn (fun i => mo I1 W (t.getD i 0) k) i) (mo I1 W x k) := by rw [← hx2]; rfl
  have take : mn (fun i => mo I1 W (t.getD i 0) k) (i + 1) = mo I1 W x k → E2 96 (D + 1) (fun q => q = (.int (nI (mxN f n)), (I, J, mj_R2))) 47 [(0, .ref 0), (1, .int (nI (s + 1))), (2, .int (nI (mxN f k))), (3, .int (nI k)), (5, .int (nI i))] I J := fun q => by
    refine mj_on (s96_47 _ _ _ _ ?_)
    rw [nI_1, nI_clamp (by omega), ha i x hx1]
    refine ⟨vp_in_nI (by omega) (by decide), trivial, _, _, _, mr, ?_⟩
    exact ih2 d _ (Or.inr ⟨by omega, by rw [q]⟩)
  rcases hx with ⟨rfl, rfl⟩ | ⟨hi1, rfl⟩
  · rw [if_pos rfl]
    refine take ?_
    rw [es]
    exact Nat.min_eq_right (by show mo I1 W x k ≤ 2000000000; omega)
  · have m3 : mn (fun i => mo I1 W (t.getD i 0) k) i ≤ 2000000 := by
      have := mn2 (i - 1) k (by omega) c
      rwa [show i - 1 + 1 = i by omega] at this
    rw [if_neg (nI_nm1 (by omega)), ha i x hx1]
    refine ⟨vp_in_nI (by omega) (by decide), trivial, _, _, _, mr, if_le (by omega) (by omega) (fun y => ?_) (fun y => ?_)⟩
    · exact ih2 d _ (Or.inr ⟨by omega, by rw [es, Nat.min_eq_left y]⟩)
    · exact take (by rw [es]; exact Nat.min_eq_right (by omega))
/-- the choice is kept -/
def kpC (I : Nat → Nat → Int32) (t : List Nat) : Prop := I 47 4 = nI t.length ∧ arrL I 50 t
def kpR (I : Nat → Nat → Int32) (t : List Nat) : Prop := I 0 65 = nI t.length ∧ arrL I 41 t
theorem r_keeps {t : List Nat} {s : Nat} (hs : t.length = s) (hs2 : s ≤ 16) (ha : arrL I 42 t) : ∃ I' J', C2 (D + 1) 98 [.ref 0, .int (nI s)] I J .null I' J' ∧ J' = J ∧ kpR I' t ∧ (∀ q, q ≠ 41 → q ≠ 0 → I' q = I q) ∧ ∀ j, j ≠ 65 → I' 0 j = I 0 j := by
  refine mj_cN (e98 _ ?_)
  refine lp_up (n := s) (fun i => ∀ I', I' 0 65 = nI s → (∀ j x, j < i → t[j]? = some x → I' 41 j = nI x) → (∀ q, q ≠ 41 → q ≠ 0 → I' q = I q) → (∀ j, j ≠ 65 → I' 0 j = I 0 j) → E2 98 D (qN mj_R2 (fun I' J' => J' = J ∧ kpR I' t ∧ (∀ q, q ≠ 41 → q ≠ 0 → I' q = I q) ∧ ∀ j, j ≠ 65 → I' 0 j = I 0 j)) 7 [(0, .ref 0), (1, .int (nI s)), (2, .int (nI i))] I' J) (fun i hi ih I' h1 h2 h3 h4 => ?_) 0 (Nat.zero_le _) _ (by rw [up_s]) (fun j x q => absurd q (Nat.not_lt_zero j)) (fun q q1 q2 => by rw [up_c q2]) (fun j hj => by rw [up_j hj])
  refine mj_on (s98_7 _ _ ?_)
  rw [nI_1, nI_clamp (by omega)]
  refine if_le (by omega) (by omega) (fun c => ?_) (fun c => ⟨vp_in_nI (by omega) (by decide), vp_in_nI (by omega) (by decide), ?_⟩)
  · exact ⟨_, _, rfl, rfl, ⟨by rw [hs]; exact h1, fun j x q => h2 j x (by have := (List.getElem?_eq_some_iff.mp q).1; omega) q⟩, h3, h4⟩
  · refine ih c _ (by rw [up_c (by decide)]; exact h1) (fun j x q1 q2 => ?_) (fun q q1 q2 => by rw [up_c q1]; exact h3 q q1 q2) (fun j hj => by rw [up_c (by decide)]; exact h4 j hj)
    by_cases e : j = i
    · rw [e, up_s, h3 42 (by decide) (by decide), ha i x (e ▸ q2)]
    · rw [up_j e]; exact h2 j x (by omega) q2
end S75
