section
/-! weighings: both sides -/
theorem wl_ok {g W : Nat} (hg : g ≤ 12) (hW : W ≤ 4) : (List.range (wnum g W)).filterMap (wval g W) = wl W g ∧ (wl W g).length ≤ 455 ∧ ∀ r ∈ wl W g, r.length = W := by
  have h := wck_all g (by omega) W (by omega)
  unfold wck at h
  simp only [Bool.and_eq_true, decide_eq_true_eq, List.all_eq_true] at h
  exact ⟨h.1.1, h.1.2, h.2⟩
/-- a worth, wish by wish -/
def wo (r : List Nat) (f : Nat → Int32) : Nat → Int32
  | 0 => 0
  | k + 1 => wo r f k + nI (r.getD k 0) * f k
theorem wo_c {r : List Nat} {f f' : Nat → Int32} : ∀ {k : Nat}, (∀ w, w < k → f w = f' w) → wo r f k = wo r f' k
  | 0, _ => rfl
  | k + 1, h => by
    show wo r f k + _ * f k = wo r f' k + _ * f' k
    rw [wo_c fun w hw => h w (by omega), h k (by omega)]
/-- the first of a list with P: its place i; -1 without one -/
noncomputable def lfi (P : List Nat → Prop) (i : Nat) : List (List Nat) → Int32
  | [] => -1
  | r :: t => @ite _ (P r) (Classical.propDecidable _) (nI (r.getD i 0)) (lfi P i t)
theorem lfi_t {P : List Nat → Prop} {i : Nat} {r : List Nat} {t : List (List Nat)} (h : P r) : lfi P i (r :: t) = nI (r.getD i 0) := @if_pos _ (Classical.propDecidable _) h _ _ _
theorem lfi_f {P : List Nat → Prop} {i : Nat} {r : List Nat} {t : List (List Nat)} (h : ¬ P r) : lfi P i (r :: t) = lfi P i t := @if_neg _ (Classical.propDecidable _) h _ _ _
noncomputable def lct (P : List Nat → Prop) (l : List (List Nat)) : Nat := l.foldl (fun c r => c + @ite _ (P r) (Classical.propDecidable _) 1 0) 0
theorem lct_0 {P : List Nat → Prop} : lct P [] = 0 := rfl
theorem lct_t {P : List Nat → Prop} {r : List Nat} {t : List (List Nat)} (h : P r) : lct P (t ++ [r]) = lct P t + 1 := by
  unfold lct
  rw [List.foldl_append]
  exact congrArg _ (@if_pos _ (Classical.propDecidable _) h _ _ _)
theorem lct_f {P : List Nat → Prop} {r : List Nat} {t : List (List Nat)} (h : ¬ P r) : lct P (t ++ [r]) = lct P t := by
  unfold lct
  rw [List.foldl_append]
  exact congrArg _ (@if_neg _ (Classical.propDecidable _) h _ _ _)
theorem tk_s {α : Type} {l : List α} {n : Nat} {r : α} (h : l[n]? = some r) : l.take (n + 1) = l.take n ++ [r] := by
  rw [List.take_add_one, h]
  rfl
theorem tk_e {α : Type} {l : List α} {n : Nat} (h : l.length ≤ n) : l.take n = l := List.take_of_length_le h
theorem gt_of {α : Type} {l : List α} {n : Nat} (h : n < l.length) : ∃ r, l[n]? = some r ∧ r ∈ l ∧ l.drop n = r :: l.drop (n + 1) := ⟨l[n], List.getElem?_eq_getElem h, List.getElem_mem h, List.drop_eq_getElem_cons h⟩
/-- the weighings among the numbers below x -/
def wpre (g W x : Nat) : List (List Nat) := (List.range x).filterMap (wval g W)
theorem wpre_t {g W x : Nat} {r : List Nat} (h : wval g W x = some r) : wpre g W (x + 1) = wpre g W x ++ [r] := by
  unfold wpre
  rw [List.range_succ, List.filterMap_append]
  simp [h]
theorem wpre_f {g W x : Nat} (h : wval g W x = none) : wpre g W (x + 1) = wpre g W x := by
  unfold wpre
  rw [List.range_succ, List.filterMap_append]
  simp [h]
/-- those among the numbers from x on, of k -/
def wsuf (g W x k : Nat) : List (List Nat) := (List.range' x k).filterMap (wval g W)
theorem wsuf_t {g W x k : Nat} {r : List Nat} (h : wval g W x = some r) : wsuf g W x (k + 1) = r :: wsuf g W (x + 1) k := by
  unfold wsuf
  rw [List.range'_succ, List.filterMap_cons, h]
theorem wsuf_f {g W x k : Nat} (h : wval g W x = none) : wsuf g W x (k + 1) = wsuf g W (x + 1) k := by
  unfold wsuf
  rw [List.range'_succ, List.filterMap_cons, h]
theorem wdig_len : ∀ {B k x : Nat}, (wdig B k x).length = k
  | _, 0, _ => rfl
  | B, k + 1, x => by
    show (wdig B k (x / B) ++ [x % B]).length = k + 1
    rw [List.length_append, wdig_len]
    rfl
theorem wnum_le {g W : Nat} (hg : g ≤ 12) (hW : W ≤ 4) : wnum g W ≤ 2197 := by
  have : ∀ g, g < 13 → ∀ W, W < 5 → wnum g W ≤ 2197 := by decide
  exact this g (by omega) W (by omega)
section S55
variable {D b W Rn Kn Tn Hn Un g : Nat} {I I1 I2 : Nat → Nat → Int32} {J J1 J2 : Nat → Nat → Int64}
/-- the class' row n holds r -/
def wro (I : Nat → Nat → Int32) (W n : Nat) (r : List Nat) : Prop := ∀ w, w < W → I 52 (4 * n + w) = nI (r.getD w 0)
theorem Rl.wr (h : Rl b W Rn Kn Tn Hn Un g I1 J1 I2 J2) {n : Nat} {r : List Nat} (hr : (wl W g)[n]? = some r) : wro I1 W n r := by
  obtain ⟨q1, q2, -, -, -, -, q3⟩ := h.2.2.2.2.2.2.1
  obtain ⟨-, -, -, c2, -⟩ := h.rB
  have hl := (wl_ok q2 c2).2.2 r (List.mem_of_getElem? hr)
  intro w hw
  exact q3 n r hr w _ (by rw [List.getD_eq_getElem?_getD, List.getElem?_eq_getElem (by omega)]; rfl)
theorem c_weigh_a {n a : Nat} {r : List Nat} (h1 : I 51 1 = nI W) (hW : W ≤ 4) (hn : n < 455) (ha : a + W ≤ 160) (hr : wro I W n r) : C1 (D + 1) 239 [.ref 51, .int (nI n), .ref 25, .int (nI a)] I J (.int (wo r (fun w => I 25 (a + w)) W)) I J := by
  refine mj_mk (e239_a _ _ ?_)
  refine lp_up (n := W) (fun i => E1 239 D (fun q => q = (.int (wo r (fun w => I 25 (a + w)) W), (I, J, mj_R1))) 6 [(0, .ref 51), (1, .int (nI n)), (2, .ref 25), (3, .int (nI a)), (4, .int (wo r (fun w => I 25 (a + w)) i)), (5, .int (nI i))] I J) (fun i hi ih => ?_) 0 (Nat.zero_le _)
  refine mj_on (s239_6_a _ _ _ _ ?_)
  rw [h1, ix4, nI_add, nI_clamp (by omega), nI_clamp (by omega), nI_1]
  refine if_le (by omega) (by omega) (fun c => ?_) (fun c => ⟨vp_in_nI (by omega) (by decide), vp_in_nI (by omega) (by decide), ?_⟩)
  · obtain rfl : i = W := by omega
    rfl
  · rw [hr i c]
    exact ih c
theorem c_weigh_b {n a : Nat} {r : List Nat} (h1 : I 51 1 = nI W) (hW : W ≤ 4) (hn : n < 455) (ha : a + W ≤ 400) (hr : wro I W n r) : C1 (D + 1) 239 [.ref 51, .int (nI n), .ref 39, .int (nI a)] I J (.int (wo r (fun w => I 39 (a + w)) W)) I J := by
  refine mj_mk (e239_b _ _ ?_)
  refine lp_up (n := W) (fun i => E1 239 D (fun q => q = (.int (wo r (fun w => I 39 (a + w)) W), (I, J, mj_R1))) 6 [(0, .ref 51), (1, .int (nI n)), (2, .ref 39), (3, .int (nI a)), (4, .int (wo r (fun w => I 39 (a + w)) i)), (5, .int (nI i))] I J) (fun i hi ih => ?_) 0 (Nat.zero_le _)
  refine mj_on (s239_6_b _ _ _ _ ?_)
  rw [h1, ix4, nI_add, nI_clamp (by omega), nI_clamp (by omega), nI_1]
  refine if_le (by omega) (by omega) (fun c => ?_) (fun c => ⟨vp_in_nI (by omega) (by decide), vp_in_nI (by omega) (by decide), ?_⟩)
  · obtain rfl : i = W := by omega
    rfl
  · rw [hr i c]
    exact ih c
/-- none of m is less than the k-th, by r -/
def wfst (F : Nat → Nat → Int32) (W m k : Nat) (r : List Nat) : Prop := ∀ i, i < m → wo r (F k) W ≤ wo r (F i) W
theorem c_first {n k m : Nat} {r : List Nat} (h1 : I 51 1 = nI W) (hW : W ≤ 4) (hn : n < 455) (hm : I 38 1 = nI m) (hm2 : m ≤ 100) (hk : k < m) (hr : wro I W n r) : C1 (D + 2) 238 [.ref 51, .int (nI n), .ref 38, .int (nI k)] I J (.int (tf (wfst (fun k w => I 39 (4 * k + w)) W m k r))) I J := by
  refine mj_mk (e238 _ _ ?_)
  rw [ix4m]
  refine ⟨trivial, _, _, _, c_weigh_b h1 hW hn (by omega) hr, ?_⟩
  refine lp_up (n := m) (fun i => (∀ j, j < i → wo r (fun w => I 39 (4 * k + w)) W ≤ wo r (fun w => I 39 (4 * j + w)) W) → E1 238 (D + 1) (fun q => q = (.int (tf (wfst (fun k w => I 39 (4 * k + w)) W m k r)), (I, J, mj_R1))) 17 [(0, .ref 51), (1, .int (nI n)), (2, .ref 38), (4, .int (wo r (fun w => I 39 (4 * k + w)) W)), (5, .int (nI i))] I J) (fun i hi ih hj => ?_) 0 (Nat.zero_le _) (fun j hj => absurd hj (Nat.not_lt_zero j))
  refine mj_on (s238_17 _ _ _ ?_)
  rw [hm, ix4m, nI_1]
  refine if_le (by omega) (by omega) (fun c => mzT fun j hj2 => hj j (by omega)) (fun c => ?_)
  refine ⟨trivial, _, _, _, c_weigh_b h1 hW hn (by omega) hr, if_i (fun d => ?_) (fun d => mzF fun q => d (q i c))⟩
  refine ih c fun j hj2 => ?_
  by_cases e : j = i
  · rw [e]; exact d
  · exact hj j (by omega)
theorem c_fthere {m : Nat} {x : Int32} (hm : I 38 1 = nI m) (hm2 : m ≤ 100) : C1 (D + 1) 231 [.ref 38, .int x] I J (.int (tf (∃ j, j < m ∧ x = nI j))) I J := by
  refine mj_mk (e231 _ ?_)
  rw [hm]
  exact if_rg (by omega) (fun j hj e => mzT ⟨j, hj, e⟩) (fun h => mzF fun ⟨j, hj, e⟩ => h j hj e)
theorem r_isFront {m : Nat} {x : Int32} (hm : I 0 58 = nI m) (hm2 : m ≤ 100) : C2 (D + 1) 85 [.ref 0, .int x] I J (.int (tf (∃ j, j < m ∧ x = nI j))) I J := by
  refine mj_mk (e85 _ ?_)
  rw [hm]
  exact if_rg (by omega) (fun j hj e => mzT ⟨j, hj, e⟩) (fun h => mzF fun ⟨j, hj, e⟩ => h j hj e)
theorem r_isFront0 {x : Int32} (hm : I 0 58 = -1) : C2 (D + 1) 85 [.ref 0, .int x] I J (.int (tf (∃ j, j < 0 ∧ x = nI j))) I J := by
  refine mj_mk (e85 _ ?_)
  rw [hm]
  refine if_i (fun c => mzF fun ⟨j, hj, _⟩ => absurd hj (Nat.not_lt_zero j)) (fun c => if_i (fun d => mzF fun ⟨j, hj, _⟩ => absurd hj (Nat.not_lt_zero j)) (fun d => absurd ?_ d))
  refine Int32.le_iff_toInt_le.mpr ?_
  have h1 : (-1 : Int32).toInt = -1 := by decide
  have h2 : ¬ x.toInt < (0 : Int32).toInt := fun q => c (Int32.lt_iff_toInt_lt.mpr q)
  have h3 : (0 : Int32).toInt = 0 := by decide
  omega
/-- how many are on the front, and what both sides say of a number -/
theorem Rl.fr (h : Rl b W Rn Kn Tn Hn Un g I1 J1 I2 J2) : ∃ m, m ≤ 100 ∧ I1 38 1 = nI m ∧ (∀ (D : Nat) (J : Nat → Nat → Int64) (I : Nat → Nat → Int32) (x : Int32), k2 I = k2 I2 → C2 (D + 1) 85 [.ref 0, .int x] I J (.int (tf (∃ j, j < m ∧ x = nI j))) I J) ∧ (∀ k, k < m → ∀ w, w < W → I2 37 (4 * k + w) = I1 39 (4 * k + w)) ∧ (0 < m → I2 0 58 = nI m ∧ 1 ≤ W) := by
  rcases h.2.2.2.2.2.1 with ⟨q1, q2, q3⟩ | ⟨kd, n, h1, h2, h3, h4, h5, h6, h7, h8, h9⟩
  · refine ⟨0, by omega, q2, fun D J I x e => ?_, fun k hk => absurd hk (Nat.not_lt_zero k), fun q => absurd q (Nat.not_lt_zero 0)⟩
    exact r_isFront0 (by rw [k2_at e rfl, q3])
  · exact ⟨n, h2, h4, fun D J I x e => r_isFront (by rw [k2_at e rfl, h5]) h2, fun k hk w hw => (h8 k hk w hw).1, fun _ => ⟨h5, h7⟩⟩
-- the reference
def rG (I : Nat → Nat → Int32) (g : Nat) : Prop := I 0 63 = nI g ∧ g ≤ 12
theorem r_numbers (h : rB I b W Rn) (hg : rG I g) : C2 (D + 1) 90 [.ref 0] I J (.int (nI (wnum g W))) I J := by
  obtain ⟨h1, h2, h3, h4, h5, h6⟩ := h
  refine mj_mk (e90 ?_)
  have hp : ∀ i, i < 4 → (g + 1) ^ i ≤ 13 ^ 3 := fun i hi => Nat.le_trans (Nat.pow_le_pow_left (by have := hg.2; omega) i) (Nat.pow_le_pow_right (by decide) (by omega))
  have key : ∀ k i, (1 ≤ i ∧ i + k = W ∨ (W = 0 ∧ i = 1 ∧ k = 0)) → E2 90 D (fun q => q = (.int (nI (wnum g W)), (I, J, mj_R2))) 4 [(0, .ref 0), (1, .int (nI ((g + 1) ^ (i - 1)))), (2, .int (nI i))] I J := by
    intro k
    induction k with
    | zero =>
      intro i hi
      refine mj_on (s90_4 _ _ ?_)
      rw [h1, nI_clamp (by omega), h3]
      refine ⟨vp_in_nI h2 (by decide), if_le (by omega) (by omega) (fun c => ⟨vp_in_nI h2 (by decide), ?_⟩) (fun c => absurd c (by omega))⟩
      refine if_i (fun d => ?_) (fun d => ?_)
      · have d := (nI_eq (b := 0) (by omega) (by decide)).mp d
        subst d
        rfl
      · have d0 : W ≠ 0 := fun q => d (by rw [q]; rfl)
        obtain ⟨w, rfl⟩ : ∃ w, W = w + 1 := ⟨W - 1, by omega⟩
        obtain rfl : i = w + 1 := by omega
        rfl
    | succ k ih =>
      intro i hi
      have hi : 1 ≤ i ∧ i + (k + 1) = W := by
        rcases hi with hi | hi
        · exact hi
        · omega
      refine mj_on (s90_4 _ _ ?_)
      rw [h1, nI_clamp (by omega), h3, hg.1, nI_1, nI_1, pk_mul]
      refine ⟨vp_in_nI h2 (by decide), if_le (by omega) (by omega) (fun c => absurd c (by omega)) (fun c => ?_)⟩
      have e : (g + 1) ^ (i - 1) * (g + 1) = (g + 1) ^ (i + 1 - 1) := by
        rw [← Nat.pow_succ]
        congr 1
        omega
      rw [e]
      exact ih (i + 1) (by omega)
  by_cases hW : W = 0
  · exact key 0 1 (Or.inr ⟨hW, rfl, rfl⟩)
  · exact key (W - 1) 1 (by omega)
/-- what isWeighing leaves in weigh -/
def wgh (I : Nat → Nat → Int32) (W : Nat) (r : List Nat) : Prop := ∀ w, w < W → I 40 w = nI (r.getD w 0)
theorem wgt_a {l : List Nat} {y : Nat} {i : Nat} (h : i < l.length) : (l ++ [y]).getD i 0 = l.getD i 0 := by
  rw [List.getD_eq_getElem?_getD, List.getD_eq_getElem?_getD, List.getElem?_append_left h]
theorem wgt_b {l : List Nat} {y : Nat} : (l ++ [y]).getD l.length 0 = y := by
  rw [List.getD_eq_getElem?_getD, List.getElem?_append_right (Nat.le_refl _)]
  simp
theorem r_isWeighing {x : Nat} (h : rB I b W Rn) (hg : rG I g) (hW1 : 1 ≤ W) (hx : x < 2197) : ∃ I', C2 (D + 1) 91 [.ref 0, .int (nI x)] I J (.int (tf (wval g W x ≠ none))) I' J ∧ (∀ q, q ≠ 40 → I' q = I q) ∧ ∀ r, wval g W x = some r → wgh I' W r := by
  obtain ⟨h1, h2, h3, h4, h5, h6⟩ := h
  obtain ⟨hg1, hg2⟩ := hg
  obtain ⟨Q, hQ⟩ : ∃ Q, Q = qI mj_R2 (fun v I' J' => v = tf (wval g W x ≠ none) ∧ J' = J ∧ (∀ q, q ≠ 40 → I' q = I q) ∧ ∀ r, wval g W x = some r → wgh I' W r) := ⟨_, rfl⟩
  suffices hs : ∃ v I' J', C2 (D + 1) 91 [.ref 0, .int (nI x)] I J (.int v) I' J' ∧ (v = tf (wval g W x ≠ none) ∧ J' = J ∧ (∀ q, q ≠ 40 → I' q = I q) ∧ ∀ r, wval g W x = some r → wgh I' W r) by
    obtain ⟨v, I', J', hc, rfl, rfl, q1, q2⟩ := hs
    exact ⟨I', hc, q1, q2⟩
  refine mj_cI (e91 _ ?_)
  rw [← hQ, h1, nI_clamp (by omega), h3, hg1]
  refine ⟨vp_in_nI h2 (by decide), ?_⟩
  have key : ∀ k y (R : Int) I0, k + 1 ≤ W → y < 2197 → (∀ q, q ≠ 40 → I0 q = I q) → -100 ≤ R - 12 * k → R ≤ 12 →
      (∀ y' I', (∀ q, q ≠ 40 → I' q = I q) → (∀ i, i < k → I' 40 i = nI ((wdig (g + 1) k y).getD i 0)) → (∀ i, k ≤ i → I' 40 i = I0 40 i) → E2 91 D Q 20 [(0, .ref 0), (2, .int y'), (3, .int (iI (R - (wdig (g + 1) k y).sum))), (4, .int (iI (-1)))] I' J) →
      E2 91 D Q 20 [(0, .ref 0), (2, .int (nI y)), (3, .int (iI R)), (4, .int (iI ((k : Int) - 1)))] I0 J := by
    intro k
    induction k with
    | zero =>
      intro y R I0 _ _ hI _ _ K
      have z := K (nI y) I0 hI (fun i hi => absurd hi (Nat.not_lt_zero i)) (fun i _ => rfl)
      have e : R - ((wdig (g + 1) 0 y).sum : Int) = R := by
        show R - ((([] : List Nat).sum : Nat) : Int) = R
        simp
      rw [e] at z
      exact z
    | succ k ih =>
      intro y R I0 hk hy hI hR1 hR2 K
      refine mj_on (s91_20 _ _ _ ?_)
      have e4 : iI (((k + 1 : Nat) : Int) - 1) = nI k := by
        rw [← iI_nI]
        congr 1
        omega
      rw [e4, if_neg (nI_pos (by omega)), hI 0 (by decide), hg1, nI_1, nI_clamp (by omega), up_s, pk_div (by omega) (by omega) (by omega), show nI y - nI (y / (g + 1)) * nI (g + 1) = nI (y % (g + 1)) by rw [← pk_div (by omega) (by omega) (by omega), pk_rem (by omega) (by omega) (by omega)]]
      have hne : ¬ nI (g + 1) = 0 := nI_ne0 (by omega) (by omega)
      have hv : vp_in (nI k) 4 := vp_in_nI (by omega) (by decide)
      refine ⟨hne, hv, hv, hne, ?_⟩
      have e5 : nI k + (-1) = iI ((k : Int) - 1) := by
        rw [← iI_nI, show (-1 : Int32) = iI (-1) from rfl, iI_add]
        congr 1
      have hmod : y % (g + 1) < g + 1 := Nat.mod_lt _ (by omega)
      rw [e5, ← iI_nI (y % (g + 1)), iI_sub]
      refine ih (y / (g + 1)) (R - (y % (g + 1) : Nat)) _ (by omega) (Nat.lt_of_le_of_lt (Nat.div_le_self _ _) hy) (fun q hq => by rw [up_c hq, hI q hq]) (by omega) (by omega) (fun y' I' f1 f2 f3 => ?_)
      have z := K y' I' f1 (fun i hi => ?_) (fun i hi => ?_)
      · have e : R - ((wdig (g + 1) (k + 1) y).sum : Int) = R - (y % (g + 1) : Nat) - ((wdig (g + 1) k (y / (g + 1))).sum : Int) := by
          show R - (((wdig (g + 1) k (y / (g + 1)) ++ [y % (g + 1)]).sum : Nat) : Int) = _
          rw [List.sum_append]
          simp only [List.sum_cons, List.sum_nil]
          omega
        rw [e] at z
        exact z
      · show _ = nI ((wdig (g + 1) k (y / (g + 1)) ++ [y % (g + 1)]).getD i 0)
        by_cases e : i = k
        · subst e
          rw [f3 i (Nat.le_refl _), up_s, iI_nI]
          congr 1
          have := wgt_b (l := wdig (g + 1) i (y / (g + 1))) (y := y % (g + 1))
          rw [wdig_len] at this
          exact this.symm
        · rw [f2 i (by omega), wgt_a (by rw [wdig_len]; omega)]
      · rw [f3 i (by omega), up_j (by omega)]
  obtain ⟨w, rfl⟩ : ∃ w, W = w + 1 := ⟨W - 1, by omega⟩
  have e2 : nI (w + 1) - 2 = iI ((w : Int) - 1) := by
    rw [← iI_nI, show (2 : Int32) = iI 2 from rfl, iI_sub]
    congr 1
    omega
  rw [e2, ← iI_nI g]
  refine key w x g I (Nat.le_refl _) hx (fun _ _ => rfl) (by omega) (by omega) (fun y' I' f1 f2 f3 => ?_)
  refine mj_on (s91_20 _ _ _ ?_)
  rw [if_pos (show iI (-1) < 0 by decide), f1 0 (by decide), h1, nI_clamp (by omega), f1 2 (by decide), h3, n1_sub, nI_clamp (by omega)]
  refine ⟨vp_in_nI h2 (by decide), vp_in_nI (by omega) (by decide), ?_⟩
  have hsum : ∀ {k y}, (wdig (g + 1) k y).sum ≤ k * g := by
    intro k
    induction k with
    | zero => intro y; exact Nat.zero_le _
    | succ k ih =>
      intro y
      show (wdig (g + 1) k (y / (g + 1)) ++ [y % (g + 1)]).sum ≤ _
      rw [List.sum_append]
      have := ih (y := y / (g + 1))
      have h2 : y % (g + 1) < g + 1 := Nat.mod_lt _ (by omega)
      simp only [List.sum_cons, List.sum_nil]
      rw [Nat.add_mul]
      omega
  have hs := hsum (k := w) (y := x)
  have hs2 : w * g ≤ 3 * 12 := Nat.mul_le_mul (by omega) hg2
  have hwv : wval g (w + 1) x = if (wdig (g + 1) w x).sum ≤ g then some (wdig (g + 1) w x ++ [g - (wdig (g + 1) w x).sum]) else none := rfl
  rw [hQ]
  by_cases c : (wdig (g + 1) w x).sum ≤ g
  · rw [if_pos c] at hwv
    have er : iI ((g : Int) - ((wdig (g + 1) w x).sum : Int)) = nI (g - (wdig (g + 1) w x).sum) := by
      rw [← iI_nI]
      congr 1
      omega
    rw [er, if_neg (nI_pos (by omega))]
    refine ⟨Or.inr rfl, _, _, _, rfl, ?_, rfl, ?_, ?_⟩
    · rw [tf_t]
      rw [hwv]
      exact fun q => by cases q
    · intro q hq
      rw [up_c hq, f1 q hq]
    · intro r hr
      rw [hwv] at hr
      cases hr
      intro u hu
      by_cases e : u = w
      · subst e
        rw [up_s]
        congr 1
        have := wgt_b (l := wdig (g + 1) u x) (y := g - (wdig (g + 1) u x).sum)
        rw [wdig_len] at this
        exact this.symm
      · rw [up_j e, f2 u (by omega), wgt_a (by rw [wdig_len]; omega)]
  · rw [if_neg c] at hwv
    have er : iI ((g : Int) - ((wdig (g + 1) w x).sum : Int)) < 0 := by
      rw [Int32.lt_iff_toInt_lt, iI_toInt (by omega) (by omega)]
      show _ < (0 : Int)
      omega
    rw [if_pos er]
    refine ⟨Or.inl rfl, _, _, _, rfl, ?_, rfl, ?_, ?_⟩
    · rw [tf_f]
      rw [hwv]
      exact fun q => q rfl
    · intro q hq
      rw [up_c hq, f1 q hq]
    · intro r hr
      rw [hwv] at hr
      cases hr
theorem r_worth {k : Nat} {r : List Nat} (h : rB I b W Rn) (hk : k < 100) (hr : wgh I W r) : C2 (D + 1) 93 [.ref 0, .int (nI k)] I J (.int (wo r (fun w => I 37 (4 * k + w)) W)) I J := by
  obtain ⟨h1, h2, h3, h4, h5, h6⟩ := h
  refine mj_mk (e93 _ ?_)
  refine lp_up (n := W) (fun i => E2 93 D (fun q => q = (.int (wo r (fun w => I 37 (4 * k + w)) W), (I, J, mj_R2))) 4 [(0, .ref 0), (1, .int (nI k)), (2, .int (wo r (fun w => I 37 (4 * k + w)) i)), (3, .int (nI i))] I J) (fun i hi ih => ?_) 0 (Nat.zero_le _)
  refine mj_on (s93_4 _ _ _ ?_)
  rw [h1, nI_clamp (by omega), h3, ix4', nI_clamp (by omega), nI_clamp (by omega), nI_1]
  refine ⟨vp_in_nI h2 (by decide), if_le (by omega) (by omega) (fun c => ?_) (fun c => ⟨vp_in_nI (by omega) (by decide), vp_in_nI (by omega) (by decide), ?_⟩)⟩
  · obtain rfl : i = W := by omega
    rfl
  · rw [hr i c]
    exact ih c
theorem r_isFirst {k m : Nat} {r : List Nat} (h : rB I b W Rn) (hm : I 0 58 = nI m) (hm2 : m ≤ 100) (hk : k < m) (hr : wgh I W r) : C2 (D + 2) 92 [.ref 0, .int (nI k)] I J (.int (tf (wfst (fun k w => I 37 (4 * k + w)) W m k r))) I J := by
  refine mj_mk (e92 _ ?_)
  refine lp_up (n := m) (fun i => (∀ j, j < i → wo r (fun w => I 37 (4 * k + w)) W ≤ wo r (fun w => I 37 (4 * j + w)) W) → E2 92 (D + 1) (fun q => q = (.int (tf (wfst (fun k w => I 37 (4 * k + w)) W m k r)), (I, J, mj_R2))) 2 [(0, .ref 0), (1, .int (nI k)), (2, .int (nI i))] I J) (fun i hi ih hj => ?_) 0 (Nat.zero_le _) (fun j hj => absurd hj (Nat.not_lt_zero j))
  refine mj_on (s92_2 _ _ ?_)
  rw [hm, nI_1]
  refine if_le (by omega) (by omega) (fun c => mzT fun j hj2 => hj j (by omega)) (fun c => ?_)
  refine ⟨trivial, _, _, _, r_worth h (by omega) hr, trivial, _, _, _, r_worth h (by omega) hr, if_i (fun d => ?_) (fun d => mzF fun q => d (q i c))⟩
  refine ih c fun j hj2 => ?_
  by_cases e : j = i
  · rw [e]; exact d
  · exact hj j (by omega)
end S55
end
section
/-! loss, who, knot, corner, weight, grid -/
theorem wfst_c {F F' : Nat → Nat → Int32} {W m k : Nat} (hk : k < m) (h : ∀ i, i < m → ∀ w, w < W → F i w = F' i w) : wfst F W m k = wfst F' W m k := by
  funext r
  apply propext
  unfold wfst
  refine forall_congr' fun i => forall_congr' fun hi => ?_
  rw [wo_c (h k hk), wo_c (h i hi)]
section S56
variable {D b W Rn Kn Tn Hn Un g : Nat} {I I1 I2 : Nat → Nat → Int32} {J J1 J2 : Nat → Nat → Int64}
theorem Rl.G (h : Rl b W Rn Kn Tn Hn Un g I1 J1 I2 J2) : rG I2 g ∧ 1 ≤ g ∧ I1 51 0 = nI g ∧ I1 51 1 = nI W ∧ I1 51 2 = nI (wl W g).length ∧ (wl W g).length ≤ 455 := by
  obtain ⟨q1, q2, q3, q4, q5, q6, -⟩ := h.2.2.2.2.2.2.1
  obtain ⟨-, -, -, c2, -⟩ := h.rB
  exact ⟨⟨q4, q2⟩, q1, q3, q5, q6, (wl_ok q2 c2).2.1⟩
theorem rB_k {I' : Nat → Nat → Int32} (h : rB I b W Rn) (e : k2 I' = k2 I) : rB I' b W Rn := by
  obtain ⟨h1, h2, h3, h4, h5, h6⟩ := h
  exact ⟨by rw [k2_at e rfl]; exact h1, h2, by rw [k2_at e rfl]; exact h3, h4, by rw [k2_at e rfl]; exact h5, h6⟩
theorem rG_k {I' : Nat → Nat → Int32} (h : rG I g) (e : k2 I' = k2 I) : rG I' g := ⟨by rw [k2_at e rfl]; exact h.1, h.2⟩
theorem k2_40 {I' : Nat → Nat → Int32} (h : ∀ q, q ≠ 40 → I' q = I q) : k2 I' = k2 I := by
  funext q j
  unfold k2
  by_cases e : q = 40
  · rw [e]; rfl
  · rw [h q e]
theorem al_loss {x y : Int32} (h : Rl b W Rn Kn Tn Hn Un g I1 J1 I2 J2) : AI 230 84 [.int x, .int y] I1 J1 I2 J2 (Rl b W Rn Kn Tn Hn Un g) := by
  obtain ⟨a1, a2, -⟩ := h.N
  obtain ⟨b1, b2, b3, b4, b5, b6⟩ := id h.rB
  obtain ⟨m, hm, f1, f2, f3, f4⟩ := h.fr
  rcases Classical.em (∃ j, j < m ∧ x = nI j) with p | p
  · rcases Classical.em (∃ j, j < W ∧ y = nI j) with q | q
    · obtain ⟨k, hk, rfl⟩ := p
      obtain ⟨w, hw, rfl⟩ := q
      refine AI.same (I1 39 (4 * k + w)) (mj_mk (D := 899) (e230 _ _ ?_)) (mj_mk (D := 899) (e84 _ _ ?_)) h
      · refine ⟨trivial, _, _, _, c_fthere f1 hm, if_tf (fun _ => ?_) (fun f => absurd ⟨k, hk, rfl⟩ f)⟩
        refine ⟨trivial, _, _, _, c_there (k := 0) a1 (by omega) (by omega), if_tf (fun _ => ?_) (fun f => absurd ⟨w, hw, rfl⟩ f)⟩
        rw [ix4, nI_clamp (by omega)]
        exact ⟨vp_in_nI (by omega) (by decide), rfl⟩
      · refine ⟨trivial, _, _, _, f2 898 J2 I2 _ rfl, if_tf (fun _ => ?_) (fun f => absurd ⟨k, hk, rfl⟩ f)⟩
        refine ⟨trivial, _, _, _, r_isWish h.rB, if_tf (fun _ => ?_) (fun f => absurd ⟨w, hw, rfl⟩ f)⟩
        rw [ix4', nI_clamp (by omega), f3 k hk w hw]
        exact ⟨vp_in_nI (by omega) (by decide), rfl⟩
    · refine AI.same (-2000000000) (mj_mk (D := 899) (e230 _ _ ?_)) (mj_mk (D := 899) (e84 _ _ ?_)) h
      · refine ⟨trivial, _, _, _, c_fthere f1 hm, if_tf (fun _ => ?_) (fun f => absurd p f)⟩
        exact ⟨trivial, _, _, _, c_there (k := 0) a1 (by omega) (by omega), if_tf (fun f => absurd f q) (fun _ => rfl)⟩
      · refine ⟨trivial, _, _, _, f2 898 J2 I2 _ rfl, if_tf (fun _ => ?_) (fun f => absurd p f)⟩
        exact ⟨trivial, _, _, _, r_isWish h.rB, if_tf (fun f => absurd f q) (fun _ => rfl)⟩
  · refine AI.same (-2000000000) (mj_mk (D := 899) (e230 _ _ ?_)) (mj_mk (D := 899) (e84 _ _ ?_)) h
    · exact ⟨trivial, _, _, _, c_fthere f1 hm, if_tf (fun f => absurd f p) (fun _ => rfl)⟩
    · exact ⟨trivial, _, _, _, f2 898 J2 I2 _ rfl, if_tf (fun f => absurd f p) (fun _ => rfl)⟩
-- corner, weight
theorem al_corner {x : Int32} (h : Rl b W Rn Kn Tn Hn Un g I1 J1 I2 J2) : AI 237 89 [.int x] I1 J1 I2 J2 (Rl b W Rn Kn Tn Hn Un g) := by
  obtain ⟨m, hm, f1, f2, f3, f4⟩ := h.fr
  obtain ⟨hG, g1, g2, g3, g4, g5⟩ := h.G
  have hB := h.rB
  rcases Classical.em (∃ j, j < m ∧ x = nI j) with p | p
  · obtain ⟨k, hk, rfl⟩ := p
    obtain ⟨f5, f6⟩ := f4 (by omega)
    obtain ⟨P, hP⟩ : ∃ P, P = wfst (fun k w => I1 39 (4 * k + w)) W m k := ⟨_, rfl⟩
    have hP2 : ∀ I, k2 I = k2 I2 → wfst (fun k w => I 37 (4 * k + w)) W m k = P := fun I e => by
      rw [hP]
      exact wfst_c hk fun i hi w hw => by rw [← f3 i hi w hw]; exact k2_at e rfl
    obtain ⟨v, hv⟩ : ∃ v, v = lct P (wl W g) := ⟨_, rfl⟩
    have cl : C1 900 237 [.ref 0, .int (nI k)] I1 J1 (.int (nI v)) I1 J1 := by
      refine mj_mk (D := 899) (e237 _ ?_)
      refine ⟨trivial, _, _, _, c_fthere f1 hm, if_tf (fun _ => ?_) (fun f => absurd ⟨k, hk, rfl⟩ f)⟩
      refine lp_up (n := (wl W g).length) (fun n => E1 237 899 (fun q => q = (.int (nI v), (I1, J1, mj_R1))) 17 [(0, .ref 0), (1, .int (nI k)), (2, .int (nI (lct P ((wl W g).take n)))), (3, .int (nI n))] I1 J1) (fun n hn ih => ?_) 0 (Nat.zero_le _)
      refine mj_on (s237_17 _ _ _ ?_)
      rw [g4, nI_1, nI_1]
      refine if_le (by omega) (by omega) (fun c => ?_) (fun c => ?_)
      · rw [tk_e c, hv]
      · obtain ⟨r, hr, -, -⟩ := gt_of c
        have hs := ih c
        rw [tk_s hr] at hs
        refine ⟨trivial, _, _, _, c_first g3 hB.2.2.2.1 (by omega) f1 hm hk (h.wr hr), if_tf (fun d => ?_) (fun d => ?_)⟩
        · rw [← hP] at d
          rw [lct_t d] at hs
          exact hs
        · rw [← hP] at d
          rw [lct_f d] at hs
          exact hs
    have hN : wnum g W ≤ 2197 := wnum_le hG.2 hB.2.2.2.1
    have rf : ∃ r I2' J2', C2 900 89 [.ref 0, .int (nI k)] I2 J2 (.int r) I2' J2' ∧ (r = nI v ∧ k2 I2' = k2 I2 ∧ J2' = J2) := by
      refine mj_cI (D := 899) (e89 _ ?_)
      refine ⟨trivial, _, _, _, f2 898 J2 I2 _ rfl, if_tf (fun _ => ?_) (fun f => absurd ⟨k, hk, rfl⟩ f)⟩
      refine lp_up (n := wnum g W) (fun n => ∀ I, k2 I = k2 I2 → E2 89 899 (qI mj_R2 (fun r I' J' => r = nI v ∧ k2 I' = k2 I2 ∧ J' = J2)) 14 [(0, .ref 0), (1, .int (nI k)), (2, .int (nI (lct P (wpre g W n)))), (3, .int (nI n))] I J2) (fun n hn ih I hI => ?_) 0 (Nat.zero_le _) I2 rfl
      refine mj_on (s89_14 _ _ _ ?_)
      rw [show (0 : Int32) = nI 0 from rfl, nI_add, Nat.add_zero, nI_1, nI_1]
      refine ⟨trivial, _, _, _, r_numbers (rB_k hB hI) (rG_k hG hI), if_le (by omega) (by omega) (fun c => ?_) (fun c => ?_)⟩
      · obtain rfl : n = wnum g W := by omega
        refine ⟨_, _, _, rfl, ?_, hI, rfl⟩
        rw [hv]
        unfold wpre
        rw [(wl_ok hG.2 hB.2.2.2.1).1]
      · obtain ⟨I', hc, q1, q2⟩ := r_isWeighing (D := 898) (J := J2) (rB_k hB hI) (rG_k hG hI) f6 (show n < 2197 by omega)
        have hI' : k2 I' = k2 I2 := (k2_40 q1).trans hI
        refine ⟨trivial, _, _, _, hc, if_tf (fun d => ?_) (fun d => ?_)⟩
        · obtain ⟨r, hr⟩ := Option.ne_none_iff_exists'.mp d
          have hs := ih c I' hI'
          rw [wpre_t hr] at hs
          refine ⟨trivial, _, _, _, r_isFirst (rB_k hB hI') (by rw [k2_at hI' rfl]; exact f5) hm hk (q2 r hr), if_tf (fun d => ?_) (fun d => ?_)⟩
          · rw [hP2 I' hI'] at d
            rw [lct_t d] at hs
            exact hs
          · rw [hP2 I' hI'] at d
            rw [lct_f d] at hs
            exact hs
        · have d : wval g W n = none := Classical.byContradiction fun q => d q
          have hs := ih c I' hI'
          rw [wpre_f d] at hs
          exact hs
    obtain ⟨r, I2', J2', hc, rfl, e1, rfl⟩ := rf
    exact ⟨_, I1, J1, I2', J2', cl, hc, Rl_same h rfl rfl e1 rfl⟩
  · refine AI.same (-1) (mj_mk (D := 899) (e237 _ ?_)) (mj_mk (D := 899) (e89 _ ?_)) h
    · exact ⟨trivial, _, _, _, c_fthere f1 hm, if_tf (fun f => absurd f p) (fun _ => rfl)⟩
    · exact ⟨trivial, _, _, _, f2 898 J2 I2 _ rfl, if_tf (fun f => absurd f p) (fun _ => rfl)⟩
theorem al_weight {x y : Int32} (h : Rl b W Rn Kn Tn Hn Un g I1 J1 I2 J2) : AI 240 94 [.int x, .int y] I1 J1 I2 J2 (Rl b W Rn Kn Tn Hn Un g) := by
  obtain ⟨m, hm, f1, f2, f3, f4⟩ := h.fr
  obtain ⟨hG, g1, g2, g3, g4, g5⟩ := h.G
  obtain ⟨a1, a2, -⟩ := h.N
  have hB := h.rB
  have hW4 := hB.2.2.2.1
  rcases Classical.em (∃ j, j < m ∧ x = nI j) with p | p
  · rcases Classical.em (∃ j, j < W ∧ y = nI j) with q | q
    · obtain ⟨k, hk, rfl⟩ := p
      obtain ⟨w, hw, rfl⟩ := q
      obtain ⟨f5, f6⟩ := f4 (by omega)
      obtain ⟨P, hP⟩ : ∃ P, P = wfst (fun k w => I1 39 (4 * k + w)) W m k := ⟨_, rfl⟩
      have hP2 : ∀ I, k2 I = k2 I2 → wfst (fun k w => I 37 (4 * k + w)) W m k = P := fun I e => by
        rw [hP]
        exact wfst_c hk fun i hi w hw => by rw [← f3 i hi w hw]; exact k2_at e rfl
      obtain ⟨v, hv⟩ : ∃ v, v = lfi P w (wl W g) := ⟨_, rfl⟩
      have cl : C1 900 240 [.ref 0, .int (nI k), .int (nI w)] I1 J1 (.int v) I1 J1 := by
        refine mj_mk (D := 899) (e240 _ _ ?_)
        refine ⟨trivial, _, _, _, c_fthere f1 hm, if_tf (fun _ => ?_) (fun f => absurd ⟨k, hk, rfl⟩ f)⟩
        refine ⟨trivial, _, _, _, c_there (k := 0) a1 (by omega) (by omega), if_tf (fun _ => ?_) (fun f => absurd ⟨w, hw, rfl⟩ f)⟩
        refine lp_up (n := (wl W g).length) (fun n => lfi P w ((wl W g).drop n) = v → E1 240 899 (fun q => q = (.int v, (I1, J1, mj_R1))) 27 [(0, .ref 0), (1, .int (nI k)), (2, .int (nI w)), (3, .int (nI n))] I1 J1) (fun n hn ih hs => ?_) 0 (Nat.zero_le _) (by rw [hv]; rfl)
        refine mj_on (s240_27 _ _ _ ?_)
        rw [g4, nI_1, ix4]
        refine if_le (by omega) (by omega) (fun c => ?_) (fun c => ?_)
        · rw [List.drop_eq_nil_of_le c] at hs
          rw [← hs]
          rfl
        · obtain ⟨r, hr, -, hd⟩ := gt_of c
          rw [hd] at hs
          refine ⟨trivial, _, _, _, c_first g3 hB.2.2.2.1 (by omega) f1 hm hk (h.wr hr), if_tf (fun d => ?_) (fun d => ?_)⟩
          · rw [← hP] at d
            rw [lfi_t d] at hs
            rw [nI_clamp (by omega), h.wr hr w hw, hs]
            exact ⟨vp_in_nI (by omega) (by decide), rfl⟩
          · rw [← hP] at d
            rw [lfi_f d] at hs
            exact ih c hs
      have hN : wnum g W ≤ 2197 := wnum_le hG.2 hB.2.2.2.1
      have rf : ∃ r I2' J2', C2 900 94 [.ref 0, .int (nI k), .int (nI w)] I2 J2 (.int r) I2' J2' ∧ (r = v ∧ k2 I2' = k2 I2 ∧ J2' = J2) := by
        refine mj_cI (D := 899) (e94 _ _ ?_)
        refine ⟨trivial, _, _, _, f2 898 J2 I2 _ rfl, if_tf (fun _ => ?_) (fun f => absurd ⟨k, hk, rfl⟩ f)⟩
        refine ⟨trivial, _, _, _, r_isWish hB, if_tf (fun _ => ?_) (fun f => absurd ⟨w, hw, rfl⟩ f)⟩
        have hs0 : lfi P w (wsuf g W 0 (wnum g W - 0)) = v := by
          rw [hv]
          unfold wsuf
          rw [Nat.sub_zero, ← List.range_eq_range', (wl_ok hG.2 hB.2.2.2.1).1]
        refine lp_up (n := wnum g W) (fun n => lfi P w (wsuf g W n (wnum g W - n)) = v → ∀ I, k2 I = k2 I2 → E2 94 899 (qI mj_R2 (fun r I' J' => r = v ∧ k2 I' = k2 I2 ∧ J' = J2)) 20 [(0, .ref 0), (1, .int (nI k)), (2, .int (nI w)), (3, .int (nI n))] I J2) (fun n hn ih hs I hI => ?_) 0 (Nat.zero_le _) hs0 I2 rfl
        refine mj_on (s94_20 _ _ _ ?_)
        rw [nI_1]
        refine ⟨trivial, _, _, _, r_numbers (rB_k hB hI) (rG_k hG hI), if_le (by omega) (by omega) (fun c => ?_) (fun c => ?_)⟩
        · refine ⟨_, _, _, rfl, ?_, hI, rfl⟩
          rw [← hs, show wnum g W - n = 0 by omega]
          rfl
        · obtain ⟨k', hk'⟩ : ∃ k', wnum g W - n = k' + 1 := ⟨wnum g W - n - 1, by omega⟩
          have hk2 : wnum g W - (n + 1) = k' := by omega
          rw [hk2] at ih
          rw [hk'] at hs
          obtain ⟨I', hc, q1, q2⟩ := r_isWeighing (D := 898) (J := J2) (rB_k hB hI) (rG_k hG hI) f6 (show n < 2197 by omega)
          have hI' : k2 I' = k2 I2 := (k2_40 q1).trans hI
          refine ⟨trivial, _, _, _, hc, if_tf (fun d => ?_) (fun d => ?_)⟩
          · obtain ⟨r, hr⟩ := Option.ne_none_iff_exists'.mp d
            rw [wsuf_t hr] at hs
            refine ⟨trivial, _, _, _, r_isFirst (rB_k hB hI') (by rw [k2_at hI' rfl]; exact f5) hm hk (q2 r hr), if_tf (fun d => ?_) (fun d => ?_)⟩
            · rw [hP2 I' hI'] at d
              rw [lfi_t d] at hs
              refine ⟨vp_in_nI (by omega) (by decide), _, _, _, rfl, ?_, hI', rfl⟩
              rw [nI_clamp (by omega), q2 r hr w hw, hs]
            · rw [hP2 I' hI'] at d
              rw [lfi_f d] at hs
              exact ih c hs I' hI'
          · have d : wval g W n = none := Classical.byContradiction fun q => d q
            rw [wsuf_f d] at hs
            exact ih c hs I' hI'
      obtain ⟨r, I2', J2', hc, rfl, e1, rfl⟩ := rf
      exact ⟨_, I1, J1, I2', J2', cl, hc, Rl_same h rfl rfl e1 rfl⟩
    · refine AI.same (-1) (mj_mk (D := 899) (e240 _ _ ?_)) (mj_mk (D := 899) (e94 _ _ ?_)) h
      · refine ⟨trivial, _, _, _, c_fthere f1 hm, if_tf (fun _ => ?_) (fun f => absurd p f)⟩
        exact ⟨trivial, _, _, _, c_there (k := 0) a1 (by omega) (by omega), if_tf (fun f => absurd f q) (fun _ => rfl)⟩
      · refine ⟨trivial, _, _, _, f2 898 J2 I2 _ rfl, if_tf (fun _ => ?_) (fun f => absurd p f)⟩
        exact ⟨trivial, _, _, _, r_isWish hB, if_tf (fun f => absurd f q) (fun _ => rfl)⟩
  · refine AI.same (-1) (mj_mk (D := 899) (e240 _ _ ?_)) (mj_mk (D := 899) (e94 _ _ ?_)) h
    · exact ⟨trivial, _, _, _, c_fthere f1 hm, if_tf (fun f => absurd f p) (fun _ => rfl)⟩
    · exact ⟨trivial, _, _, _, f2 898 J2 I2 _ rfl, if_tf (fun f => absurd f p) (fun _ => rfl)⟩
end S56
end
section
/-! who, knot, grid -/
-- pasted: lN to 2^62 under >> and >>>
/-! ===== lN to 2^62 under >> and >>> ===== -/
theorem pf_lI {a : Nat} (h : a < 2 ^ 63) : (lN a).toInt = (a : Int) := lg_ofNat_toInt h
theorem pf_shr {a d : Nat} {D : Int64} (hD : (D.toBitVec.smod 64).toNat = d) (h : a < 2 ^ 62) : lN a >>> D = lN (a / 2 ^ d) := by
  have hd : a / 2 ^ d ≤ a := Nat.div_le_self _ _
  apply Int64.toInt_inj.mp
  have e : (lN a >>> D).toInt = (lN a).toInt >>> d := by
    rw [← hD]
    exact BitVec.toInt_sshiftRight ..
  rw [e, Int.shiftRight_eq_div_pow, pf_lI (by omega), pf_lI (by omega)]
  rfl
theorem pf_ushr {a d : Nat} {D : UInt64} (hD : D.toNat % 64 = d) (h : a < 2 ^ 62) : ((lN a).toUInt64 >>> D).toInt64 = lN (a / 2 ^ d) := by
  have hd : a / 2 ^ d ≤ a := Nat.div_le_self _ _
  have e : (lN a).toUInt64 >>> D = UInt64.ofNat (a / 2 ^ d) := UInt64.toNat_inj.mp (by
    rw [UInt64.toNat_shiftRight, hD, Nat.shiftRight_eq_div_pow, UInt64.toNat_ofNat']
    show (UInt64.ofNat a).toNat / 2 ^ d = _
    rw [UInt64.toNat_ofNat', Nat.mod_eq_of_lt (by omega), Nat.mod_eq_of_lt (by omega)])
  rw [e]
  rfl
theorem pf_andw (x : Int64) : ∃ m, m < 2 ^ 32 ∧ x &&& 4294967295 = lN m := ⟨x.toBitVec.toNat % 2 ^ 32, Nat.mod_lt _ (by decide), Int64.toBitVec_inj.mp (BitVec.eq_of_toNat_eq (by
  show (x.toBitVec &&& 4294967295#64).toNat = (BitVec.ofNat 64 (x.toBitVec.toNat % 2 ^ 32)).toNat
  rw [BitVec.toNat_and, show (4294967295#64).toNat = 2 ^ 32 - 1 from by decide, Nat.and_two_pow_sub_one_eq_mod, BitVec.toNat_ofNat]
  omega))⟩

section S57
variable {D b W Rn Kn Tn Hn Un g : Nat} {I I1 I2 : Nat → Nat → Int32} {J J1 J2 : Nat → Nat → Int64}
/-- both sides answer, each for itself -/
def AQ (z1 z2 : Nat) (as : List Value) (I1 : Nat → Nat → Int32) (J1 : Nat → Nat → Int64) (I2 : Nat → Nat → Int32) (J2 : Nat → Nat → Int64) (P : (Nat → Nat → Int32) → (Nat → Nat → Int64) → (Nat → Nat → Int32) → (Nat → Nat → Int64) → Prop) : Prop :=
  ∃ (r r2 : Int32) (f1 : Nat → Nat → Int32) (h1 : Nat → Nat → Int64) (f2 : Nat → Nat → Int32) (h2 : Nat → Nat → Int64), mj_Cl mj_S1 mj_CD 900 z1 (.ref 0 :: as) (I1, J1, mj_R1) (.int r, (f1, h1, mj_R1)) ∧ mj_Cl mj_S2 mj_CD 900 z2 (.ref 0 :: as) (I2, J2, mj_R2) (.int r2, (f2, h2, mj_R2)) ∧ P f1 h1 f2 h2
theorem AQ.same {z1 z2 : Nat} {as : List Value} {P : (Nat → Nat → Int32) → (Nat → Nat → Int64) → (Nat → Nat → Int32) → (Nat → Nat → Int64) → Prop} (h1 : ∃ r, mj_Cl mj_S1 mj_CD 900 z1 (.ref 0 :: as) (I1, J1, mj_R1) (.int r, (I1, J1, mj_R1))) (h2 : ∃ r, mj_Cl mj_S2 mj_CD 900 z2 (.ref 0 :: as) (I2, J2, mj_R2) (.int r, (I2, J2, mj_R2))) (hP : P I1 J1 I2 J2) : AQ z1 z2 as I1 J1 I2 J2 P := by
  obtain ⟨r, h1⟩ := h1
  obtain ⟨r2, h2⟩ := h2
  exact ⟨r, r2, I1, J1, I2, J2, h1, h2, hP⟩
theorem al_who {x : Int32} (h : Rl b W Rn Kn Tn Hn Un g I1 J1 I2 J2) : AQ 232 86 [.int x] I1 J1 I2 J2 (Rl b W Rn Kn Tn Hn Un g) := by
  obtain ⟨m, hm, f1, f2, f3, f4⟩ := h.fr
  rcases Classical.em (∃ j, j < m ∧ x = nI j) with p | p
  · obtain ⟨k, hk, rfl⟩ := p
    have hv : vp_in (nI k) 100 := vp_in_nI (by omega) (by decide)
    refine AQ.same ?_ ⟨I2 38 k, mj_mk (D := 899) (e86 _ ?_)⟩ h
    · by_cases e : I1 38 0 = 1
      · refine ⟨(J1 40 k &&& 15).toInt32, mj_mk (D := 899) (e232 _ ?_)⟩
        refine ⟨trivial, _, _, _, c_fthere f1 hm, if_tf (fun _ => ?_) (fun f => absurd ⟨k, hk, rfl⟩ f)⟩
        rw [if_pos e, nI_clamp (by omega)]
        exact ⟨hv, trivial, _, _, _, mj_mk (e233 _ rfl), rfl⟩
      · refine ⟨(J1 40 k).toInt32, mj_mk (D := 899) (e232 _ ?_)⟩
        refine ⟨trivial, _, _, _, c_fthere f1 hm, if_tf (fun _ => ?_) (fun f => absurd ⟨k, hk, rfl⟩ f)⟩
        rw [if_neg e, nI_clamp (by omega)]
        exact ⟨hv, rfl⟩
    · refine ⟨trivial, _, _, _, f2 898 J2 I2 _ rfl, if_tf (fun _ => ?_) (fun f => absurd ⟨k, hk, rfl⟩ f)⟩
      rw [nI_clamp (by omega)]
      exact ⟨hv, rfl⟩
  · refine AQ.same ⟨-1, mj_mk (D := 899) (e232 _ ?_)⟩ ⟨-1, mj_mk (D := 899) (e86 _ ?_)⟩ h
    · exact ⟨trivial, _, _, _, c_fthere f1 hm, if_tf (fun f => absurd f p) (fun _ => rfl)⟩
    · exact ⟨trivial, _, _, _, f2 898 J2 I2 _ rfl, if_tf (fun f => absurd f p) (fun _ => rfl)⟩
theorem al_knot {x y : Int32} (h : Rl b W Rn Kn Tn Hn Un g I1 J1 I2 J2) : AQ 234 87 [.int x, .int y] I1 J1 I2 J2 (Rl b W Rn Kn Tn Hn Un g) := by
  obtain ⟨m, hm, f1, f2, f3, f4⟩ := h.fr
  rcases Classical.em (∃ j, j < m ∧ x = nI j) with p | p
  · obtain ⟨k, hk, rfl⟩ := p
    have hv : vp_in (nI k) 100 := vp_in_nI (by omega) (by decide)
    refine AQ.same ?_ ?_ h
    · by_cases e : I1 38 0 = 1
      · by_cases c : y < 0
        · refine ⟨-1, mj_mk (D := 899) (e234 _ _ ?_)⟩
          refine ⟨trivial, _, _, _, c_fthere f1 hm, if_tf (fun _ => ?_) (fun f => absurd ⟨k, hk, rfl⟩ f)⟩
          rw [if_pos e, if_pos c]
        by_cases d : (J1 40 k &&& 15).toInt32 ≤ y
        · refine ⟨-1, mj_mk (D := 899) (e234 _ _ ?_)⟩
          refine ⟨trivial, _, _, _, c_fthere f1 hm, if_tf (fun _ => ?_) (fun f => absurd ⟨k, hk, rfl⟩ f)⟩
          rw [if_pos e, if_neg c, nI_clamp (by omega)]
          refine ⟨hv, trivial, _, _, _, mj_mk (e233 _ rfl), ?_⟩
          rw [if_pos d]
        · refine ⟨((J1 40 k >>> (((4 : Int32) * ((10 : Int32) - y)).toInt64 &&& 63)).toInt32 &&& (15 : Int32)), mj_mk (D := 899) (e234 _ _ ?_)⟩
          refine ⟨trivial, _, _, _, c_fthere f1 hm, if_tf (fun _ => ?_) (fun f => absurd ⟨k, hk, rfl⟩ f)⟩
          rw [if_pos e, if_neg c, nI_clamp (by omega)]
          refine ⟨hv, trivial, _, _, _, mj_mk (e233 _ rfl), ?_⟩
          rw [if_neg d]
          exact ⟨hv, trivial, _, _, _, mj_mk (e235 _ _ rfl), rfl⟩
      · refine ⟨-1, mj_mk (D := 899) (e234 _ _ ?_)⟩
        refine ⟨trivial, _, _, _, c_fthere f1 hm, if_tf (fun _ => ?_) (fun f => absurd ⟨k, hk, rfl⟩ f)⟩
        rw [if_neg e]
    · by_cases e : I2 0 59 = 1
      · rcases h.2.2.2.2.2.1 with ⟨q1, q2, q3⟩ | ⟨kd, n, h1, h2, h3, h4, h5, h6, h7, h8, h9⟩
        · rw [q2] at f1
          have := (nI_eq (by decide) (by omega)).mp f1
          omega
        obtain rfl : n = m := by
          rw [h4] at f1
          exact (nI_eq (by omega) (by omega)).mp f1
        have k1 : kd = 1 := by
          rw [h6] at e
          exact (nI_eq (b := 1) (by omega) (by decide)).mp e
        obtain ⟨l, hl, l5⟩ := h9 k1 k hk
        by_cases c : y < 0
        · refine ⟨-1, mj_mk (D := 899) (e87 _ _ ?_)⟩
          refine ⟨trivial, _, _, _, f2 898 J2 I2 _ rfl, if_tf (fun _ => ?_) (fun f => absurd ⟨k, hk, rfl⟩ f)⟩
          rw [if_pos e, if_pos c]
        by_cases d : nI l ≤ y
        · refine ⟨-1, mj_mk (D := 899) (e87 _ _ ?_)⟩
          refine ⟨trivial, _, _, _, f2 898 J2 I2 _ rfl, if_tf (fun _ => ?_) (fun f => absurd ⟨k, hk, rfl⟩ f)⟩
          rw [if_pos e, if_neg c, nI_clamp (by omega), l5, if_pos d]
          exact ⟨hv, rfl⟩
        · obtain ⟨i, hi, rfl⟩ : ∃ i, i < l ∧ y = nI i := by
            rcases pk_ix y (n := l) (by omega) with q | q | q
            · exact absurd q c
            · exact absurd q d
            · exact q
          refine ⟨I2 39 (10 * k + i), mj_mk (D := 899) (e87 _ _ ?_)⟩
          refine ⟨trivial, _, _, _, f2 898 J2 I2 _ rfl, if_tf (fun _ => ?_) (fun f => absurd ⟨k, hk, rfl⟩ f)⟩
          rw [if_pos e, if_neg c, nI_clamp (by omega), l5, if_neg d, show (10 : Int32) * nI k + nI i = nI (10 * k + i) by rw [show (10 : Int32) = nI 10 from rfl, pk_mul, nI_add], nI_clamp (by omega)]
          exact ⟨hv, vp_in_nI (by omega) (by decide), rfl⟩
      · refine ⟨-1, mj_mk (D := 899) (e87 _ _ ?_)⟩
        refine ⟨trivial, _, _, _, f2 898 J2 I2 _ rfl, if_tf (fun _ => ?_) (fun f => absurd ⟨k, hk, rfl⟩ f)⟩
        rw [if_neg e]
  · refine AQ.same ⟨-1, mj_mk (D := 899) (e234 _ _ ?_)⟩ ⟨-1, mj_mk (D := 899) (e87 _ _ ?_)⟩ h
    · exact ⟨trivial, _, _, _, c_fthere f1 hm, if_tf (fun f => absurd f p) (fun _ => rfl)⟩
    · exact ⟨trivial, _, _, _, f2 898 J2 I2 _ rfl, if_tf (fun f => absurd f p) (fun _ => rfl)⟩
end S57
end
