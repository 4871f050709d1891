section
/-! weighings: both sides -/
theorem wl_ok {g W : Nat} (hg : g ≤ 12) (hW : W ≤ 4) : (List.range (wnum g W)).filterMap (wval g W) = wl W g ∧ (wl W g).length ≤ 455 ∧ ∀ r ∈ wl W g, r.length = W := by
  have h := wck_all g (by omega) W (by omega)
  unfold wck at h
  simp only [Bool.and_eq_true, decide_eq_true_eq, List.all_eq_true] at h
  exact ⟨h.1.1, h.1.2, h.2⟩
/-- a worth, wish by wish -/
def wo (r : List Nat) (f : Nat → Int32) : Nat → Int32
  | 0 => 0
  | k + 1 => wo r f k + nI (r.getD k 0) * f k
theorem wo_c {r : List Nat} {f f' : Nat → Int32} : ∀ {k : Nat}, (∀ w, w < k → f w = f' w) → wo r f k = wo r f' k
  | 0, _ => rfl
  | k + 1, h => by
    show wo r f k + _ * f k = wo r f' k + _ * f' k
    rw [wo_c fun w hw => h w (by omega), h k (by omega)]
/-- the first of a list with P: its place i; -1 without one -/
noncomputable def lfi (P : List Nat → Prop) (i : Nat) : List (List Nat) → Int32
  | [] => -1
  | r :: t => @ite _ (P r) (Classical.propDecidable _) (nI (r.getD i 0)) (lfi P i t)
theorem lfi_t {P : List Nat → Prop} {i : Nat} {r : List Nat} {t : List (List Nat)} (h : P r) : lfi P i (r :: t) = nI (r.getD i 0) := @if_pos _ (Classical.propDecidable _) h _ _ _
theorem lfi_f {P : List Nat → Prop} {i : Nat} {r : List Nat} {t : List (List Nat)} (h : ¬ P r) : lfi P i (r :: t) = lfi P i t := @if_neg _ (Classical.propDecidable _) h _ _ _
noncomputable def lct (P : List Nat → Prop) (l : List (List Nat)) : Nat := l.foldl (fun c r => c + @ite _ (P r) (Classical.propDecidable _) 1 0) 0
theorem lct_0 {P : List Nat → Prop} : lct P [] = 0 := rfl
theorem lct_t {P : List Nat → Prop} {r : List Nat} {t : List (List Nat)} (h : P r) : lct P (t ++ [r]) = lct P t + 1 := by
  unfold lct
  rw [List.foldl_append]
  exact congrArg _ (@if_pos _ (Classical.propDecidable _) h _ _ _)
theorem lct_f {P : List Nat → Prop} {r : List Nat} {t : List (List Nat)} (h : ¬ P r) : lct P (t ++ [r]) = lct P t := by
  unfold lct
  rw [List.foldl_append]
  exact congrArg _ (@if_neg _ (Classical.propDecidable _) h _ _ _)
theorem tk_s {α : Type} {l : List α} {n : Nat} {r : α} (h : l[n]? = some r) : l.take (n + 1) = l.take n ++ [r] := by
  rw [List.take_add_one, h]
  rfl
theorem tk_e {α : Type} {l : List α} {n : Nat} (h : l.length ≤ n) : l.take n = l := List.take_of_length_le h
theorem gt_of {α : Type} {l : List α} {n : Nat} (h : n < l.length) : ∃ r, l[n]? = some r ∧ r ∈ l ∧ l.drop n = r :: l.drop (n + 1) := ⟨l[n], List.getElem?_eq_getElem h, List.getElem_mem h, List.drop_eq_getElem_cons h⟩
/-- the weighings among the numbers below x -/
def wpre (g W x : Nat) : List (List Nat) := (List.range x).filterMap (wval g W)
theorem wpre_t {g W x : Nat} {r : List Nat} (h : wval g W x = some r) : wpre g W (x + 1) = wpre g W x ++ [r] := by
  unfold wpre
  rw [List.range_succ, List.filterMap_append]
  simp [h]
theorem wpre_f {g W x : Nat} (h : wval g W x = none) : wpre g W (x + 1) = wpre g W x := by
  unfold wpre
  rw [List.range_succ, List.filterMap_append]
  simp [h]
/-- those among the numbers from x on, of k -/
def wsuf (g W x k : Nat) : List (List Nat) := (List.range' x k).filterMap (wval g W)
theorem wsuf_t {g W x k : Nat} {r : List Nat} (h : wval g W x = some r) : wsuf g W x (k + 1) = r :: wsuf g W (x + 1) k := by
  unfold wsuf
  rw [List.range'_succ, List.filterMap_cons, h]
theorem wsuf_f {g W x k : Nat} (h : wval g W x = none) : wsuf g W x (k + 1) = wsuf g W (x + 1) k := by
  unfold wsuf
  rw [List.range'_succ, List.filterMap_cons, h]
theorem wdig_len : ∀ {B k x : Nat}, (wdig B k x).length = k
  | _, 0, _ => rfl
  | B, k + 1, x => by
    show (wdig B k (x / B) ++ [x % B]).length = k + 1
    rw [List.length_append, wdig_len]
    rfl
theorem wnum_le {g W : Nat} (hg : g ≤ 12) (hW : W ≤ 4) : wnum g W ≤ 2197 := by
  have : ∀ g, g < 13 → ∀ W, W < 5 → wnum g W ≤ 2197 := by decide
  exact this g (by omega) W (by omega)
section S55
variable {D b W Rn Kn Tn Hn Un g : Nat} {I I1 I2 : Nat → Nat → Int32} {J J1 J2 : Nat → Nat → Int64}
/-- the class' row n holds r -/
def wro (I : Nat → Nat → Int32) (W n : Nat) (r : List Nat) : Prop := ∀ w, w < W → I 52 (4 * n + w) = nI (r.getD w 0)
theorem Rl.wr (h : Rl b W Rn Kn Tn Hn Un g I1 J1 I2 J2) {n : Nat} {r : List Nat} (hr : (wl W g)[n]? = some r) : wro I1 W n r := by
  obtain ⟨q1, q2, -, -, -, -, q3⟩ := h.2.2.2.2.2.2.1
  obtain ⟨-, -, -, c2, -⟩ := h.rB
  have hl := (wl_ok q2 c2).2.2 r (List.mem_of_getElem? hr)
  intro w hw
  exact q3 n r hr w _ (by rw [List.getD_eq_getElem?_getD, List.getElem?_eq_getElem (by omega)]; rfl)
theorem c_weigh_a {n a : Nat} {r : List Nat} (h1 : I 51 1 = nI W) (hW : W ≤ 4) (hn : n < 455) (ha : a + W ≤ 160) (hr : wro I W n r) : C1 (D + 1) 239 [.ref 51, .int (nI n), .ref 25, .int (nI a)] I J (.int (wo r (fun w => I 25 (a + w)) W)) I J := by
  refine mj_mk (e239_a _ _ ?_)
  refine lp_up (n := W) (fun i => E1 239 D (fun q => q = (.int (wo r (fun w => I 25 (a + w)) W), (I, J, mj_R1))) 6 [(0, .ref 51), (1, .int (nI n)), (2, .ref 25), (3, .int (nI a)), (4, .int (wo r (fun w => I 25 (a + w)) i)), (5, .int (nI i))] I J) (fun i hi ih => ?_) 0 (Nat.zero_le _)
  refine mj_on (s239_6_a _ _ _ _ ?_)
  rw [h1, ix4, nI_add, nI_clamp (by omega), nI_clamp (by omega), nI_1]
  refine if_le (by omega) (by omega) (fun c => ?_) (fun c => ⟨vp_in_nI (by omega) (by decide), vp_in_nI (by omega) (by decide), ?_⟩)
  · obtain rfl : i = W := by omega
    rfl
  · rw [hr i c]
    exact ih c
theorem c_weigh_b {n a : Nat} {r : List Nat} (h1 : I 51 1 = nI W) (hW : W ≤ 4) (hn : n < 455) (ha : a + W ≤ 400) (hr : wro I W n r) : C1 (D + 1) 239 [.ref 51, .int (nI n), .ref 39, .int (nI a)] I J (.int (wo r (fun w => I 39 (a + w)) W)) I J := by
  refine mj_mk (e239_b _ _ ?_)
  refine lp_up (n := W) (fun i => E1 239 D (fun q => q = (.int (wo r (fun w => I 39 (a + w)) W), (I, J, mj_R1))) 6 [(0, .ref 51), (1, .int (nI n)), (2, .ref 39), (3, .int (nI a)), (4, .int (wo r (fun w => I 39 (a + w)) i)), (5, .int (nI i))] I J) (fun i hi ih => ?_) 0 (Nat.zero_le _)
  refine mj_on (s239_6_b _ _ _ _ ?_)
  rw [h1, ix4, nI_add, nI_clamp (by omega), nI_clamp (by omega), nI_1]
  refine if_le (by omega) (by omega) (fun c => ?_) (fun c => ⟨vp_in_nI (by omega) (by decide), vp_in_nI (by omega) (by decide), ?_⟩)
  · obtain rfl : i = W := by omega
    rfl
  · rw [hr i c]
    exact ih c
/-- none of m is less than the k-th, by r -/
def wfst (F : Nat → Nat → Int32) (W m k : Nat) (r : List Nat) : Prop := ∀ i, i < m → wo r (F k) W ≤ wo r (F i) W
theorem c_first {n k m : Nat} {r : List Nat} (h1 : I 51 1 = nI W) (hW : W ≤ 4) (hn : n < 455) (hm : I 38 1 = nI m) (hm2 : m ≤ 100) (hk : k < m) (hr : wro I W n r) : C1 (D + 2) 238 [.ref 51, .int (nI n), .ref 38, .int (nI k)] I J (.int (tf (wfst (fun k w => I 39 (4 * k + w)) W m k r))) I J := by
  refine mj_mk (e238 _ _ ?_)
  rw [ix4m]
  refine ⟨trivial, _, _, _, c_weigh_b h1 hW hn (by omega) hr, ?_⟩
  refine lp_up (n := m) (fun i => (∀ j, j < i → wo r (fun w => I 39 (4 * k + w)) W ≤ wo r (fun w => I 39 (4 * j + w)) W) → E1 238 (D + 1) (fun q => q = (.int (tf (wfst (fun k w => I 39 (4 * k + w)) W m k r)), (I, J, mj_R1))) 17 [(0, .ref 51), (1, .int (nI n)), (2, .ref 38), (4, .int (wo r (fun w => I 39 (4 * k + w)) W)), (5, .int (nI i))] I J) (fun i hi ih hj => ?_) 0 (Nat.zero_le _) (fun j hj => absurd hj (Nat.not_lt_zero j))
  refine mj_on (s238_17 _ _ _ ?_)
  rw [hm, ix4m, nI_1]
  refine if_le (by omega) (by omega) (fun c => mzT fun j hj2 => hj j (by omega)) (fun c => ?_)
  refine ⟨trivial, _, _, _, c_weigh_b h1 hW hn (by omega) hr, if_i (fun d => ?_) (fun d => mzF fun q => d (q i c))⟩
  refine ih c fun j hj2 => ?_
  by_cases e : j = i
  · rw [e]; exact d
  · exact hj j (by omega)
theorem c_fthere {m : Nat} {x : Int32} (hm : I 38 1 = nI m) (hm2 : m ≤ 100) : C1 (D + 1) 231 [.ref 38, .int x] I J (.int (tf (∃ j, j < m ∧ x = nI j))) I J := by
  refine mj_mk (e231 _ ?_)
  rw [hm]
  exact if_rg (by omega) (fun j hj e => mzT ⟨j, hj, e⟩) (fun h => mzF fun ⟨j, hj, e⟩ => h j hj e)
theorem r_isFront {m : Nat} {x : Int32} (hm : I 0 58 = nI m) (hm2 : m ≤ 100) : C2 (D + 1) 85 [.ref 0, .int x] I J (.int (tf (∃ j, j < m ∧ x = nI j))) I J := by
  refine mj_mk (e85 _ ?_)
  rw [hm]
  exact if_rg (by omega) (fun j hj e => mzT ⟨j, hj, e⟩) (fun h => mzF fun ⟨j, hj, e⟩ => h j hj e)
theorem r_isFront0 {x : Int32} (hm : I 0 58 = -1) : C2 (D + 1) 85 [.ref 0, .int x] I J (.int (tf (∃ j, j < 0 ∧ x = nI j))) I J := by
  refine mj_mk (e85 _ ?_)
  rw [hm]
  refine if_i (fun c => mzF fun ⟨j, hj, _⟩ => absurd hj (Nat.not_lt_zero j)) (fun c => if_i (fun d => mzF fun ⟨j, hj, _⟩ => absurd hj (Nat.not_lt_zero j)) (fun d => absurd ?_ d))
  refine Int32.le_iff_toInt_le.mpr ?_
  have h1 : (-1 : Int32).toInt = -1 := by decide
  have h2 : ¬ x.toInt < (0 : Int32).toInt := fun q => c (Int32.lt_iff_toInt_lt.mpr q)
  have h3 : (0 : Int32).toInt = 0 := by decide
  omega
/-- how many are on the front, and what both sides say of a number -/
theorem Rl.fr (h : Rl b W Rn Kn Tn Hn Un g I1 J1 I2 J2) : ∃ m, m ≤ 100 ∧ I1 38 1 = nI m ∧ (∀ (D : Nat) (J : Nat → Nat → Int64) (I : Nat → Nat → Int32) (x : Int32), k2 I = k2 I2 → C2 (D + 1) 85 [.ref 0, .int x] I J (.int (tf (∃ j, j < m ∧ x = nI j))) I J) ∧ (∀ k, k < m → ∀ w, w < W → I2 37 (4 * k + w) = I1 39 (4 * k + w)) ∧ (0 < m → I2 0 58 = nI m ∧ 1 ≤ W) := by
  rcases h.2.2.2.2.2.1 with ⟨q1, q2, q3⟩ | ⟨kd, n, h1, h2, h3, h4, h5, h6, h7, h8, h9⟩
  · refine ⟨0, by omega, q2, fun D J I x e => ?_, fun k hk => absurd hk (Nat.not_lt_zero k), fun q => absurd q (Nat.not_lt_zero 0)⟩
    exact r_isFront0 (by rw [k2_at e rfl, q3])
  · exact ⟨n, h2, h4, fun D J I x e => r_isFront (by rw [k2_at e rfl, h5]) h2, fun k hk w hw => (h8 k hk w hw).1, fun _ => ⟨h5, h7⟩⟩
-- the reference
def rG (I : Nat → Nat → Int32) (g : Nat) : Prop := I 0 63 = nI g ∧ g ≤ 12
theorem r_numbers (h : rB I b W Rn) (hg : rG I g) : C2 (D + 1) 90 [.ref 0] I J (.int (nI (wnum g W))) I J := by
  obtain ⟨h1, h2, h3, h4, h5, h6⟩ := h
  refine mj_mk (e90 ?_)
  have hp : ∀ i, i < 4 → (g + 1) ^ i ≤ 13 ^ 3 := fun i hi => Nat.le_trans (Nat.pow_le_pow_left (by have := hg.2; omega) i) (Nat.pow_le_pow_right (by decide) (by omega))
  have key : ∀ k i, (1 ≤ i ∧ i + k = W ∨ (W = 0 ∧ i = 1 ∧ k = 0)) → E2 90 D (fun q => q = (.int (nI (wnum g W)), (I, J, mj_R2))) 4 [(0, .ref 0), (1, .int (nI ((g + 1) ^ (i - 1)))), (2, .int (nI i))] I J := by
    intro k
    induction k with
    | zero =>
      intro i hi
      refine mj_on (s90_4 _ _ ?_)
      rw [h1, nI_clamp (by omega), h3]
      refine ⟨vp_in_nI h2 (by decide), if_le (by omega) (by omega) (fun c => ⟨vp_in_nI h2 (by decide), ?_⟩) (fun c => absurd c (by omega))⟩
      refine if_i (fun d => ?_) (fun d => ?_)
      · have d := (nI_eq (b := 0) (by omega) (by decide)).mp d
        subst d
        rfl
      · have d0 : W ≠ 0 := fun q => d (by rw [q]; rfl)
        obtain ⟨w, rfl⟩ : ∃ w, W = w + 1 := ⟨W - 1, by omega⟩
        obtain rfl : i = w + 1 := by omega
        rfl
    | succ k ih =>
      intro i hi
      have hi : 1 ≤ i ∧ i + (k + 1) = W := by
        rcases hi with hi | hi
        · exact hi
        · omega
      refine mj_on (s90_4 _ _ ?_)
      rw [h1, nI_clamp (by omega), h3, hg.1, nI_1, nI_1, pk_mul]
      refine ⟨vp_in_nI h2 (by decide), if_le (by omega) (by omega) (fun c => absurd c (by omega)) (fun c => ?_)⟩
      have e : (g + 1) ^ (i - 1) * (g + 1) = (g + 1) ^ (i + 1 - 1) := by
        rw [← Nat.pow_succ]
        congr 1
        omega
      rw [e]
      exact ih (i + 1) (by omega)
  by_cases hW : W = 0
  · exact key 0 1 (Or.inr ⟨hW, rfl, rfl⟩)
  · exact key (W - 1) 1 (by omega)
/-- what isWeighing leaves in weigh -/
def wgh (I : Nat → Nat → Int32) (W : Nat) (r : List Nat) : Prop := ∀ w, w < W → I 40 w = nI (r.getD w 0)
theorem wgt_a {l : List Nat} {y : Nat} {i : Nat} (h : i < l.length) : (l ++ [y]).getD i 0 = l.getD i 0 := by
  rw [List.getD_eq_getElem?_getD, List.getD_eq_getElem?_getD, List.getElem?_append_left h]
theorem wgt_b {l : List Nat} {y : Nat} : (l ++ [y]).getD l.length 0 = y := by
  rw [List.getD_eq_getElem?_getD, List.getElem?_append_right (Nat.le_refl _)]
  simp
theorem r_isWeighing {x : Nat} (h : rB I b W Rn) (hg : rG I g) (hW1 : 1 ≤ W) (hx : x < 2197) : ∃ I', C2 (D + 1) 91 [.ref 0, .int (nI x)] I J (.int (tf (wval g W x ≠ none))) I' J ∧ (∀ q, q ≠ 40 → I' q = I q) ∧ ∀ r, wval g W x = some r → wgh I' W r := by
  obtain ⟨h1, h2, h3, h4, h5, h6⟩ := h
  obtain ⟨hg1, hg2⟩ := hg
  obtain ⟨Q, hQ⟩ : ∃ Q, Q = qI mj_R2 (fun v I' J' => v = tf (wval g W x ≠ none) ∧ J' = J ∧ (∀ q, q ≠ 40 → I' q = I q) ∧ ∀ r, wval g W x = some r → wgh I' W r) := ⟨_, rfl⟩
  suffices hs : ∃ v I' J', C2 (D + 1) 91 [.ref 0, .int (nI x)] I J (.int v) I' J' ∧ (v = tf (wval g W x ≠ none) ∧ J' = J ∧ (∀ q, q ≠ 40 → I' q = I q) ∧ ∀ r, wval g W x = some r → wgh I' W r) by
    obtain ⟨v, I', J', hc, rfl, rfl, q1, q2⟩ := hs
    exact ⟨I', hc, q1, q2⟩
  refine mj_cI (e91 _ ?_)
  rw [← hQ, h1, nI_clamp (by omega), h3, hg1]
  refine ⟨vp_in_nI h2 (by decide), ?_⟩
  have key : ∀ k y (R : Int) I0, k + 1 ≤ W → y < 2197 → (∀ q, q ≠ 40 → I0 q = I q) → -100 ≤ R - 12 * k → R ≤ 12 →
      (∀ y' I', (∀ q, q ≠ 40 → I' q = I q) → (∀ i, i < k → I' 40 i = nI ((wdig (g + 1) k y).getD i 0)) → (∀ i, k ≤ i → I' 40 i = I0 40 i) → E2 91 D Q 20 [(0, .ref 0), (2, .int y'), (3, .int (iI (R - (wdig (g + 1) k y).sum))), (4, .int (iI (-1)))] I' J) →
      E2 91 D Q 20 [(0, .ref 0), (2, .int (nI y)), (3, .int (iI R)), (4, .int (iI ((k : Int) - 1)))] I0 J := by
    intro k
    induction k with
    | zero =>
      intro y R I0 _ _ hI _ _ K
      have z := K (nI y) I0 hI (fun i hi => absurd hi (Nat.not_lt_zero i)) (fun i _ => rfl)
      have e : R - ((wdig (g + 1) 0 y).sum : Int) = R := by
        show R - ((([] : List Nat).sum : Nat) : Int) = R
        simp
      rw [e] at z
      exact z
    | succ k ih =>
      intro y R I0 hk hy hI hR1 hR2 K
      refine mj_on (s91_20 _ _ _ ?_)
      have e4 : iI (((k + 1 : Nat) : Int) - 1) = nI k := by
        rw [← iI_nI]
        congr 1
        omega
      rw [e4, if_neg (nI_pos (by omega)), hI 0 (by decide), hg1, nI_1, nI_clamp (by omega), up_s, pk_div (by omega) (by omega) (by omega), show nI y - nI (y / (g + 1)) * nI (g + 1) = nI (y % (g + 1)) by rw [← pk_div (by omega) (by omega) (by omega), pk_rem (by omega) (by omega) (by omega)]]
      have hne : ¬ nI (g + 1) = 0 := nI_ne0 (by omega) (by omega)
      have hv : vp_in (nI k) 4 := vp_in_nI (by omega) (by decide)
      refine ⟨hne, hv, hv, hne, ?_⟩
      have e5 : nI k + (-1) = iI ((k : Int) - 1) := by
        rw [← iI_nI, show (-1 : Int32) = iI (-1) from rfl, iI_add]
        congr 1
      have hmod : y % (g + 1) < g + 1 := Nat.mod_lt _ (by omega)
      rw [e5, ← iI_nI (y % (g + 1)), iI_sub]
      refine ih (y / (g + 1)) (R - (y % (g + 1) : Nat)) _ (by omega) (Nat.lt_of_le_of_lt (Nat.div_le_self _ _) hy) (fun q hq => by rw [up_c hq, hI q hq]) (by omega) (by omega) (fun y' I' f1 f2 f3 => ?_)
      have z := K y' I' f1 (fun i hi => ?_) (fun i hi => ?_)
      · have e : R - ((wdig (g + 1) (k + 1) y).sum : Int) = R - (y % (g + 1) : Nat) - ((wdig (g + 1) k (y / (g + 1))).sum : Int) := by
          show R - (((wdig (g + 1) k (y / (g + 1)) ++ [y % (g + 1)]).sum : Nat) : Int) = _
          rw [List.sum_append]
          simp only [List.sum_cons, List.sum_nil]
          omega
        rw [e] at z
        exact z
      · show _ = nI ((wdig (g + 1) k (y / (g + 1)) ++ [y % (g + 1)]).getD i 0)
        by_cases e : i = k
        · subst e
          rw [f3 i (Nat.le_refl _), up_s, iI_nI]
          congr 1
          have := wgt_b (l := wdig (g + 1) i (y / (g + 1))) (y := y % (g + 1))
          rw [wdig_len] at this
          exact this.symm
        · rw [f2 i (by omega), wgt_a (by rw [wdig_len]; omega)]
      · rw [f3 i (by omega), up_j (by omega)]
  obtain ⟨w, rfl⟩ : ∃ w, W = w + 1 := ⟨W - 1, by omega⟩
  have e2 : nI (w + 1) - 2 = iI ((w : Int) - 1) := by
    rw [← iI_nI, show (2 : Int32) = iI 2 from rfl, iI_sub]
    congr 1
    omega
  rw [e2, ← iI_nI g]
  refine key w x g I (Nat.le_refl _) hx (fun _ _ => rfl) (by omega) (by omega) (fun y' I' f1 f2 f3 => ?_)
  refine mj_on (s91_20 _ _ _ ?_)
  rw [if_pos (show iI (-1) < 0 by decide), f1 0 (by decide), h1, nI_clamp (by omega), f1 2 (by decide), h3, n1_sub, nI_clamp (by omega)]
  refine ⟨vp_in_nI h2 (by decide), vp_in_nI (by omega) (by decide), ?_⟩
  have hsum : ∀ {k y}, (wdig (g + 1) k y).sum ≤ k * g := by
    intro k
    induction k with
    | zero => intro y; exact Nat.zero_le _
    | succ k ih =>
      intro y
      show (wdig (g + 1) k (y / (g + 1)) ++ [y % (g + 1)]).sum ≤ _
      rw [List.sum_append]
      have := ih (y := y / (g + 1))
      have h2 : y % (g + 1) < g + 1 := Nat.mod_lt _ (by omega)
      simp only [List.sum_cons, List.sum_nil]
      rw [Nat.add_mul]
      omega
  have hs := hsum (k := w) (y := x)
  have hs2 : w * g ≤ 3 * 12 := Nat.mul_le_mul (by omega) hg2
  have hwv : wval g (w + 1) x = if (wdig (g + 1) w x).sum ≤ g then some (wdig (g + 1) w x ++ [g - (wdig (g + 1) w x).sum]) else none := rfl
  rw [hQ]
  by_cases c : (wdig (g + 1) w x).sum ≤ g
  · rw [if_pos c] at hwv
    have er : iI ((g : Int) - ((wdig (g + 1) w x).sum : Int)) = nI (g - (wdig (g + 1) w x).sum) := by
      rw [← iI_nI]
      congr 1
      omega
    rw [er, if_neg (nI_pos (by omega))]
    refine ⟨Or.inr rfl, _, _, _, rfl, ?_, rfl, ?_, ?_⟩
    · rw [tf_t]
      rw [hwv]
      exact fun q => by cases q
    · intro q hq
      rw [up_c hq, f1 q hq]
    · intro r hr
      rw [hwv] at hr
      cases hr
      intro u hu
      by_cases e : u = w
      · subst e
        rw [up_s]
        congr 1
        have := wgt_b (l := wdig (g + 1) u x) (y := g - (wdig (g + 1) u x).sum)
        rw [wdig_len] at this
        exact this.symm
      · rw [up_j e, f2 u (by omega), wgt_a (by rw [wdig_len]; omega)]
  · rw [if_neg c] at hwv
    have er : iI ((g : Int) - ((wdig (g + 1) w x).sum : Int)) < 0 := by
      rw [Int32.lt_iff_toInt_lt, iI_toInt (by omega) (by omega)]
      show _ < (0 : Int)
      omega
    rw [if_pos er]
    refine ⟨Or.inl rfl, _, _, _, rfl, ?_, rfl, ?_, ?_⟩
    · rw [tf_f]
      rw [hwv]
      exact fun q => q rfl
    · intro q hq
      rw [up_c hq, f1 q hq]
    · intro r hr
      rw [hwv] at hr
      cases hr
theorem r_worth {k : Nat} {r : List Nat} (h : rB I b W Rn) (hk : k < 100) (hr : wgh I W r) : C2 (D + 1) 93 [.ref 0, .int (nI k)] I J (.int (wo r (fun w => I 37 (4 * k + w)) W)) I J := by
  obtain ⟨h1, h2, h3, h4, h5, h6⟩ := h
  refine mj_mk (e93 _ ?_)
  refine lp_up (n := W) (fun i => E2 93 D (fun q => q = (.int (wo r (fun w => I 37 (4 * k + w)) W), (I, J, mj_R2))) 4 [(0, .ref 0), (1, .int (nI k)), (2, .int (wo r (fun w => I 37 (4 * k + w)) i)), (3, .int (nI i))] I J) (fun i hi ih => ?_) 0 (Nat.zero_le _)
  refine mj_on (s93_4 _ _ _ ?_)
  rw [h1, nI_clamp (by omega), h3, ix4', nI_clamp (by omega), nI_clamp (by omega), nI_1]
  refine ⟨vp_in_nI h2 (by decide), if_le (by omega) (by omega) (fun c => ?_) (fun c => ⟨vp_in_nI (by omega) (by decide), vp_in_nI (by omega) (by decide), ?_⟩)⟩
  · obtain rfl : i = W := by omega
    rfl
  · rw [hr i c]
    exact ih c
theorem r_isFirst {k m : Nat} {r : List Nat} (h : rB I b W Rn) (hm : I 0 58 = nI m) (hm2 : m ≤ 100) (hk : k < m) (hr : wgh I W r) : C2 (D + 2) 92 [.ref 0, .int (nI k)] I J (.int (tf (wfst (fun k w => I 37 (4 * k + w)) W m k r))) I J := by
  refine mj_mk (e92 _ ?_)
  refine lp_up (n := m) (fun i => (∀ j, j < i → wo r (fun w => I 37 (4 * k + w)) W ≤ wo r (fun w => I 37 (4 * j + w)) W) → E2 92 (D + 1) (fun q => q = (.int (tf (wfst (fun k w => I 37 (4 * k + w)) W m k r)), (I, J, mj_R2))) 2 [(0, .ref 0), (1, .int (nI k)), (2, .int (nI i))] I J) (fun i hi ih hj => ?_) 0 (Nat.zero_le _) (fun j hj => absurd hj (Nat.not_lt_zero j))
  refine mj_on (s92_2 _ _ ?_)
  rw [hm, nI_1]
  refine if_le (by omega) (by omega) (fun c => mzT fun j hj2 => hj j (by omega)) (fun c => ?_)
  refine ⟨trivial, _, _, _, r_worth h (by omega) hr, trivial, _, _, _, r_worth h (by omega) hr, if_i (fun d => ?_) (fun d => mzF fun q => d (q i c))⟩
  refine ih c fun j hj2 => ?_
  by_cases e : j = i
  · rw [e]; exact d
  · exact hj j (by omega)
end S55
end
section
/-! loss, who, knot, corner, weight, grid -/
theorem wfst_c {F F' : Nat → Nat → Int32} {W m k : Nat} (hk : k < m) (h : ∀ i, i < m → ∀ w, w < W → F i w = F' i w) : wfst F W m k = wfst F' W m k := by
  funext r
  apply propext
  unfold wfst
  refine forall_congr' fun i => forall_congr' fun hi => ?_
  rw [wo_c (h k hk), wo_c (h i hi)]
section S56
variable {D b W Rn Kn Tn Hn Un g : Nat} {I I1 I2 : Nat → Nat → Int32} {J J1 J2 : Nat → Nat → Int64}
theorem Rl.G (h : Rl b W Rn Kn Tn Hn Un g I1 J1 I2 J2) : rG I2 g ∧ 1 ≤ g ∧ I1 51 0 = nI g ∧ I1 51 1 = nI W ∧ I1 51 2 = nI (wl W g).length ∧ (wl W g).length ≤ 455 := by
  obtain ⟨q1, q2, q3, q4, q5, q6, -⟩ := h.2.2.2.2.2.2.1
  obtain ⟨-, -, -, c2, -⟩ := h.rB
  exact ⟨⟨q4, q2⟩, q1, q3, q5, q6, (wl_ok q2 c2).2.1⟩
theorem rB_k {I' : Nat → Nat → Int32} (h : rB I b W Rn) (e : k2 I' = k2 I) : rB I' b W Rn := by
  obtain ⟨h1, h2, h3, h4, h5, h6⟩ := h
  exact ⟨by rw [k2_at e rfl]; exact h1, h2, by rw [k2_at e rfl]; exact h3, h4, by rw [k2_at e rfl]; exact h5, h6⟩
theorem rG_k {I' : Nat → Nat → Int32} (h : rG I g) (e : k2 I' = k2 I) : rG I' g := ⟨by rw [k2_at e rfl]; exact h.1, h.2⟩
theorem k2_40 {I' : Nat → Nat → Int32} (h : ∀ q, q ≠ 40 → I' q = I q) : k2 I' = k2 I := by
  funext q j
  unfold k2
  by_cases e : q = 40
  · rw [e]; rfl
  · rw [h q e]
theorem al_loss {x y : Int32} (h : Rl b W Rn Kn Tn Hn Un g I1 J1 I2 J2) : AI 230 84 [.int x, .int y] I1 J1 I2 J2 (Rl b W Rn Kn Tn Hn Un g) := by
  obtain ⟨a1, a2, -⟩ := h.N
  obtain ⟨b1, b2, b3, b4, b5, b6⟩ := id h.rB
  obtain ⟨m, hm, f1, f2, f3, f4⟩ := h.fr
  rcases Classical.em (∃ j, j < m ∧ x = nI j) with p | p
  · rcases Classical.em (∃ j, j < W ∧ y = nI j) with q | q
    · obtain ⟨k, hk, rfl⟩ := p
      obtain ⟨w, hw, rfl⟩ := q
      refine AI.same (I1 39 (4 * k + w)) (mj_mk (D := 899) (e230 _ _ ?_)) (mj_mk (D := 899) (e84 _ _ ?_)) h
      · refine ⟨trivial, _, _, _, c_fthere f1 hm, if_tf (fun _ => ?_) (fun f => absurd ⟨k, hk, rfl⟩ f)⟩
        refine ⟨trivial, _, _, _, c_there (k := 0) a1 (by omega) (by omega), if_tf (fun _ => ?_) (fun f => absurd ⟨w, hw, rfl⟩ f)⟩
        rw [ix4, nI_clamp (by omega)]
        exact ⟨vp_in_nI (by omega) (by decide), rfl⟩
      · refine ⟨trivial, _, _, _, f2 898 J2 I2 _ rfl, if_tf (fun _ => ?_) (fun f => absurd ⟨k, hk, rfl⟩ f)⟩
        refine ⟨trivial, _, _, _, r_isWish h.rB, if_tf (fun _ => ?_) (fun f => absurd ⟨w, hw, rfl⟩ f)⟩
        rw [ix4', nI_clamp (by omega), f3 k hk w hw]
        exact ⟨vp_in_nI (by omega) (by decide), rfl⟩
    · refine AI.same (-2000000000) (mj_mk (D := 899) (e230 _ _ ?_)) (mj_mk (D := 899) (e84 _ _ ?_)) h
      · refine ⟨trivial, _, _, _, c_fthere f1 hm, if_tf (fun _ => ?_) (fun f => absurd p f)⟩
        exact ⟨trivial, _, _, _, c_there (k := 0) a1 (by omega) (by omega), if_tf (fun f => absurd f q) (fun _ => rfl)⟩
      · refine ⟨trivial, _, _, _, f2 898 J2 I2 _ rfl, if_tf (fun _ => ?_) (fun f => absurd p f)⟩
        exact ⟨trivial, _, _, _, r_isWish h.rB, if_tf (fun f => absurd f q) (fun _ => rfl)⟩
  · refine AI.same (-2000000000) (mj_mk (D := 899) (e230 _ _ ?_)) (mj_mk (D := 899) (e84 _ _ ?_)) h
    · exact ⟨trivial, _, _, _, c_fthere f1 hm, if_tf (fun f => absurd f p) (fun _ => rfl)⟩
    · exact ⟨trivial, _, _, _, f2 898 J2 I2 _ rfl, if_tf (fun f => absurd f p) (fun _ => rfl)⟩
-- corner, weight
theorem al_corner {x : Int32} (h : Rl b W Rn Kn Tn Hn Un g I1 J1 I2 J2) : AI 237 89 [.int x] I1 J1 I2 J2 (Rl b W Rn Kn Tn Hn Un g) := by
  obtain ⟨m, hm, f1, f2, f3, f4⟩ := h.fr
  obtain ⟨hG, g1, g2, g3, g4, g5⟩ := h.G
  have hB := h.rB
  rcases Classical.em (∃ j, j < m ∧ x = nI j) with p | p
  · obtain ⟨k, hk, rfl⟩ := p
    obtain ⟨f5, f6⟩ := f4 (by omega)
    obtain ⟨P, hP⟩ : ∃ P, P = wfst (fun k w => I1 39 (4 * k + w)) W m k := ⟨_, rfl⟩
    have hP2 : ∀ I, k2 I = k2 I2 → wfst (fun k w => I 37 (4 * k + w)) W m k = P := fun I e => by
      rw [hP]
      exact wfst_c hk fun i hi w hw => by rw [← f3 i hi w hw]; exact k2_at e rfl
    obtain ⟨v, hv⟩ : ∃ v, v = lct P (wl W g) := ⟨_, rfl⟩
    have cl : C1 900 237 [.ref 0, .int (nI k)] I1 J1 (.int (nI v)) I1 J1 := by
      refine mj_mk (D := 899) (e237 _ ?_)
      refine ⟨trivial, _, _, _, c_fthere f1 hm, if_tf (fun _ => ?_) (fun f => absurd ⟨k, hk, rfl⟩ f)⟩
      refine lp_up (n := (wl W g).length) (fun n => E1 237 899 (fun q => q = (.int (nI v), (I1, J1, mj_R1))) 17 [(0, .ref 0), (1, .int (nI k)), (2, .int (nI (lct P ((wl W g).take n)))), (3, .int (nI n))] I1 J1) (fun n hn ih => ?_) 0 (Nat.zero_le _)
      refine mj_on (s237_17 _ _ _ ?_)
      rw [g4, nI_1, nI_1]
      refine if_le (by omega) (by omega) (fun c => ?_) (fun c => ?_)
      · rw [tk_e c, hv]
      · obtain ⟨r, hr, -, -⟩ := gt_of c
        have hs := ih c
        rw [tk_s hr] at hs
        refine ⟨trivial, _, _, _, c_first g3 hB.2.2.2.1 (by omega) f1 hm hk (h.wr hr), if_tf (fun d => ?_) (fun d => ?_)⟩
        · rw [← hP] at d
          rw [lct_t d] at hs
          exact hs
        · rw [← hP] at d
          rw [lct_f d] at hs
          exact hs
    have hN : wnum g W ≤ 2197 := wnum_le hG.2 hB.2.2.2.1
    have rf : ∃ r I2' J2', C2 900 89 [.ref 0, .int (nI k)] I2 J2 (.int r) I2' J2' ∧ (r = nI v ∧ k2 I2' = k2 I2 ∧ J2' = J2) := by
      refine mj_cI (D := 899) (e89 _ ?_)
      refine ⟨trivial, _, _, _, f2 898 J2 I2 _ rfl, if_tf (fun _ => ?_) (fun f => absurd ⟨k, hk, rfl⟩ f)⟩
      refine lp_up (n := wnum g W) (fun n => ∀ I, k2 I = k2 I2 → E2 89 899 (qI mj_R2 (fun r I' J' => r = nI v ∧ k2 I' = k2 I2 ∧ J' = J2)) 14 [(0, .ref 0), (1, .int (nI k)), (2, .int (nI (lct P (wpre g W n)))), (3, .int (nI n))] I J2) (fun n hn ih I hI => ?_) 0 (Nat.zero_le _) I2 rfl
      refine mj_on (s89_14 _ _ _ ?_)
      rw [show (0 : Int32) = nI 0 from rfl, nI_add, Nat.add_zero, nI_1, nI_1]
      refine ⟨trivial, _, _, _, r_numbers (rB_k hB hI) (rG_k hG hI), if_le (by omega) (by omega) (fun c => ?_) (fun c => ?_)⟩
      · obtain rfl : n = wnum g W := by omega
        refine ⟨_, _, _, rfl, ?_, hI, rfl⟩
        rw [hv]
        unfold wpre
        rw [(wl_ok hG.2 hB.2.2.2.1).1]
      · obtain ⟨I', hc, q1, q2⟩ := r_isWeighing (D := 898) (J := J2) (rB_k hB hI) (rG_k hG hI) f6 (show n < 2197 by omega)
        have hI' : k2 I' = k2 I2 := (k2_40 q1).trans hI
        refine ⟨trivial, _, _, _, hc, if_tf (fun d => ?_) (fun d => ?_)⟩
        · obtain ⟨r, hr⟩ := Option.ne_none_iff_exists'.mp d
          have hs := ih c I' hI'
          rw [wpre_t hr] at hs
          refine ⟨trivial, _, _, _, r_isFirst (rB_k hB hI') (by rw [k2_at hI' rfl]; exact f5) hm hk (q2 r hr), if_tf (fun d => ?_) (fun d => ?_)⟩
          · rw [hP2 I' hI'] at d
            rw [lct_t d] at hs
            exact hs
          · rw [hP2 I' hI'] at d
            rw [lct_f d] at hs
            exact hs
        · have d : wval g W n = none := Classical.byContradiction fun q => d q
          have hs := ih c I' hI'
          rw [wpre_f d] at hs
          exact hs
    obtain ⟨r, I2', J2', hc, rfl, e1, rfl⟩ := rf
    exact ⟨_, I1, J1, I2', J2', cl, hc, Rl_same h rfl rfl e1 rfl⟩
  · refine AI.same (-1) (mj_mk (D := 899) (e237 _ ?_)) (mj_mk (D := 899) (e89 _ ?_)) h
    · exact ⟨trivial, _, _, _, c_fthere f1 hm, if_tf (fun f => absurd f p) (fun _ => rfl)⟩
    · exact ⟨trivial, _, _, _, f2 898 J2 I2 _ rfl, if_tf (fun f => absurd f p) (fun _ => rfl)⟩
theorem al_weight {x y : Int32} (h : Rl b W Rn Kn Tn Hn Un g I1 J1 I2 J2) : AI 240 94 [.int x, .int y] I1 J1 I2 J2 (Rl b W Rn Kn Tn Hn Un g) := by
  obtain ⟨m, hm, f1, f2, f3, f4⟩ := h.fr
  obtain ⟨hG, g1, g2, g3, g4, g5⟩ := h.G
  obtain ⟨a1, a2, -⟩ := h.N
  have hB := h.rB
  have hW4 := hB.2.2.2.1
  rcases Classical.em (∃ j, j < m ∧ x = nI j) with p | p
  · rcases Classical.em (∃ j, j < W ∧ y = nI j) with q | q
    · obtain ⟨k, hk, rfl⟩ := p
      obtain ⟨w, hw, rfl⟩ := q
      obtain ⟨f5, f6⟩ := f4 (by omega)
      obtain ⟨P, hP⟩ : ∃ P, P = wfst (fun k w => I1 39 (4 * k + w)) W m k := ⟨_, rfl⟩
      have hP2 : ∀ I, k2 I = k2 I2 → wfst (fun k w => I 37 (4 * k + w)) W m k = P := fun I e => by
        rw [hP]
        exact wfst_c hk fun i hi w hw => by rw [← f3 i hi w hw]; exact k2_at e rfl
      obtain ⟨v, hv⟩ : ∃ v, v = lfi P w (wl W g) := ⟨_, rfl⟩
      have cl : C1 900 240 [.ref 0, .int (nI k), .int (nI w)] I1 J1 (.int v) I1 J1 := by
        refine mj_mk (D := 899) (e240 _ _ ?_)
        refine ⟨trivial, _, _, _, c_fthere f1 hm, if_tf (fun _ => ?_) (fun f => absurd ⟨k, hk, rfl⟩ f)⟩
        refine ⟨trivial, _, _, _, c_there (k := 0) a1 (by omega) (by omega), if_tf (fun _ => ?_) (fun f => absurd ⟨w, hw, rfl⟩ f)⟩
        refine lp_up (n := (wl W g).length) (fun n => lfi P w ((wl W g).drop n) = v → E1 240 899 (fun q => q = (.int v, (I1, J1, mj_R1))) 27 [(0, .ref 0), (1, .int (nI k)), (2, .int (nI w)), (3, .int (nI n))] I1 J1) (fun n hn ih hs => ?_) 0 (Nat.zero_le _) (by rw [hv]; rfl)
        refine mj_on (s240_27 _ _ _ ?_)
        rw [g4, nI_1, ix4]
        refine if_le (by omega) (by omega) (fun c => ?_) (fun c => ?_)
        · rw [List.drop_eq_nil_of_le c] at hs
          rw [← hs]
          rfl
        · obtain ⟨r, hr, -, hd⟩ := gt_of c
          rw [hd] at hs
          refine ⟨trivial, _, _, _, c_first g3 hB.2.2.2.1 (by omega) f1 hm hk (h.wr hr), if_tf (fun d => ?_) (fun d => ?_)⟩
          · rw [← hP] at d
            rw [lfi_t d] at hs
            rw [nI_clamp (by omega), h.wr hr w hw, hs]
            exact ⟨vp_in_nI (by omega) (by decide), rfl⟩
          · rw [← hP] at d
            rw [lfi_f d] at hs
            exact ih c hs
      have hN : wnum g W ≤ 2197 := wnum_le hG.2 hB.2.2.2.1
      have rf : ∃ r I2' J2', C2 900 94 [.ref 0, .int (nI k), .int (nI w)] I2 J2 (.int r) I2' J2' ∧ (r = v ∧ k2 I2' = k2 I2 ∧ J2' = J2) := by
        refine mj_cI (D := 899) (e94 _ _ ?_)
        refine ⟨trivial, _, _, _, f2 898 J2 I2 _ rfl, if_tf (fun _ => ?_) (fun f => absurd ⟨k, hk, rfl⟩ f)⟩
        refine ⟨trivial, _, _, _, r_isWish hB, if_tf (fun _ => ?_) (fun f => absurd ⟨w, hw, rfl⟩ f)⟩
        have hs0 : lfi P w (wsuf g W 0 (wnum g W - 0)) = v := by
          rw [hv]
          unfold wsuf
          rw [Nat.sub_zero, ← List.range_eq_range', (wl_ok hG.2 hB.2.2.2.1).1]
        refine lp_up (n := wnum g W) (fun n => lfi P w (wsuf g W n (wnum g W - n)) = v → ∀ I, k2 I = k2 I2 → E2 94 899 (qI mj_R2 (fun r I' J' => r = v ∧ k2 I' = k2 I2 ∧ J' = J2)) 20 [(0, .ref 0), (1, .int (nI k)), (2, .int (nI w)), (3, .int (nI n))] I J2) (fun n hn ih hs I hI => ?_) 0 (Nat.zero_le _) hs0 I2 rfl
        refine mj_on (s94_20 _ _ _ ?_)
        rw [nI_1]
        refine ⟨trivial, _, _, _, r_numbers (rB_k hB hI) (rG_k hG hI), if_le (by omega) (by omega) (fun c => ?_) (fun c => ?_)⟩
        · refine ⟨_, _, _, rfl, ?_, hI, rfl⟩
          rw [← hs, show wnum g W - n = 0 by omega]
          rfl
        · obtain ⟨k', hk'⟩ : ∃ k', wnum g W - n = k' + 1 := ⟨wnum g W - n - 1, by omega⟩
          have hk2 : wnum g W - (n + 1) = k' := by omega
          rw [hk2] at ih
          rw [hk'] at hs
          obtain ⟨I', hc, q1, q2⟩ := r_isWeighing (D := 898) (J := J2) (rB_k hB hI) (rG_k hG hI) f6 (show n < 2197 by omega)
          have hI' : k2 I' = k2 I2 := (k2_40 q1).trans hI
          refine ⟨trivial, _, _, _, hc, if_tf (fun d => ?_) (fun d => ?_)⟩
          · obtain ⟨r, hr⟩ := Option.ne_none_iff_exists'.mp d
            rw [wsuf_t hr] at hs
            refine ⟨trivial, _, _, _, r_isFirst (rB_k hB hI') (by rw [k2_at hI' rfl]; exact f5) hm hk (q2 r hr), if_tf (fun d => ?_) (fun d => ?_)⟩
            · rw [hP2 I' hI'] at d
              rw [lfi_t d] at hs
              refine ⟨vp_in_nI (by omega) (by decide), _, _, _, rfl, ?_, hI', rfl⟩
              rw [nI_clamp (by omega), q2 r hr w hw, hs]
            · rw [hP2 I' hI'] at d
              rw [lfi_f d] at hs
              exact ih c hs I' hI'
          · have d : wval g W n = none := Classical.byContradiction fun q => d q
            rw [wsuf_f d] at hs
            exact ih c hs I' hI'
      obtain ⟨r, I2', J2', hc, rfl, e1, rfl⟩ := rf
      exact ⟨_, I1, J1, I2', J2', cl, hc, Rl_same h rfl rfl e1 rfl⟩
    · refine AI.same (-1) (mj_mk (D := 899) (e240 _ _ ?_)) (mj_mk (D := 899) (e94 _ _ ?_)) h
      · refine ⟨trivial, _, _, _, c_fthere f1 hm, if_tf (fun _ => ?_) (fun f => absurd p f)⟩
        exact ⟨trivial, _, _, _, c_there (k := 0) a1 (by omega) (by omega), if_tf (fun f => absurd f q) (fun _ => rfl)⟩
      · refine ⟨trivial, _, _, _, f2 898 J2 I2 _ rfl, if_tf (fun _ => ?_) (fun f => absurd p f)⟩
        exact ⟨trivial, _, _, _, r_isWish hB, if_tf (fun f => absurd f q) (fun _ => rfl)⟩
  · refine AI.same (-1) (mj_mk (D := 899) (e240 _ _ ?_)) (mj_mk (D := 899) (e94 _ _ ?_)) h
    · exact ⟨trivial, _, _, _, c_fthere f1 hm, if_tf (fun f => absurd f p) (fun _ => rfl)⟩
    · exact ⟨trivial, _, _, _, f2 898 J2 I2 _ rfl, if_tf (fun f => absurd f p) (fun _ => rfl)⟩
end S56
end
section
/-! who, knot, grid -/
-- pasted: lN to 2^62 under >> and >>>
/-! ===== lN to 2^62 under >> and >>> ===== -/
theorem pf_lI {a : Nat} (h : a < 2 ^ 63) : (lN a).toInt = (a : Int) := lg_ofNat_toInt h
theorem pf_shr {a d : Nat} {D : Int64} (hD : (D.toBitVec.smod 64).toNat = d) (h : a < 2 ^ 62) : lN a >>> D = lN (a / 2 ^ d) := by
  have hd : a / 2 ^ d ≤ a := Nat.div_le_self _ _
  apply Int64.toInt_inj.mp
  have e : (lN a >>> D).toInt = (lN a).toInt >>> d := by
    rw [← hD]
    exact BitVec.toInt_sshiftRight ..
  rw [e, Int.shiftRight_eq_div_pow, pf_lI (by omega), pf_lI (by omega)]
  rfl
theorem pf_ushr {a d : Nat} {D : UInt64} (hD : D.toNat % 64 = d) (h : a < 2 ^ 62) : ((lN a).toUInt64 >>> D).toInt64 = lN (a / 2 ^ d) := by
  have hd : a / 2 ^ d ≤ a := Nat.div_le_self _ _
  have e : (lN a).toUInt64 >>> D = UInt64.ofNat (a / 2 ^ d) := UInt64.toNat_inj.mp (by
    rw [UInt64.toNat_shiftRight, hD, Nat.shiftRight_eq_div_pow, UInt64.toNat_ofNat']
    show (UInt64.ofNat a).toNat / 2 ^ d = _
    rw [UInt64.toNat_ofNat', Nat.mod_eq_of_lt (by omega), Nat.mod_eq_of_lt (by omega)])
  rw [e]
  rfl
theorem pf_andw (x : Int64) : ∃ m, m < 2 ^ 32 ∧ x &&& 4294967295 = lN m := ⟨x.toBitVec.toNat % 2 ^ 32, Nat.mod_lt _ (by decide), Int64.toBitVec_inj.mp (BitVec.eq_of_toNat_eq (by
  show (x.toBitVec &&& 4294967295#64).toNat = (BitVec.ofNat 64 (x.toBitVec.toNat % 2 ^ 32)).toNat
  rw [BitVec.toNat_and, show (4294967295#64).toNat = 2 ^ 32 - 1 from by decide, Nat.and_two_pow_sub_one_eq_mod, BitVec.toNat_ofNat]
  omega))⟩

section S57
variable {D b W Rn Kn Tn Hn Un g : Nat} {I I1 I2 : Nat → Nat → Int32} {J J1 J2 : Nat → Nat → Int64}
/-- both sides answer, each for itself -/
def AQ (z1 z2 : Nat) (as : List Value) (I1 : Nat → Nat → Int32) (J1 : Nat → Nat → Int64) (I2 : Nat → Nat → Int32) (J2 : Nat → Nat → Int64) (P : (Nat → Nat → Int32) → (Nat → Nat → Int64) → (Nat → Nat → Int32) → (Nat → Nat → Int64) → Prop) : Prop :=
  ∃ (r r2 : Int32) (f1 : Nat → Nat → Int32) (h1 : Nat → Nat → Int64) (f2 : Nat → Nat → Int32) (h2 : Nat → Nat → Int64), mj_Cl mj_S1 mj_CD 900 z1 (.ref 0 :: as) (I1, J1, mj_R1) (.int r, (f1, h1, mj_R1)) ∧ mj_Cl mj_S2 mj_CD 900 z2 (.ref 0 :: as) (I2, J2, mj_R2) (.int r2, (f2, h2, mj_R2)) ∧ P f1 h1 f2 h2
theorem AQ.same {z1 z2 : Nat} {as : List Value} {P : (Nat → Nat → Int32) → (Nat → Nat → Int64) → (Nat → Nat → Int32) → (Nat → Nat → Int64) → Prop} (h1 : ∃ r, mj_Cl mj_S1 mj_CD 900 z1 (.ref 0 :: as) (I1, J1, mj_R1) (.int r, (I1, J1, mj_R1))) (h2 : ∃ r, mj_Cl mj_S2 mj_CD 900 z2 (.ref 0 :: as) (I2, J2, mj_R2) (.int r, (I2, J2, mj_R2))) (hP : P I1 J1 I2 J2) : AQ z1 z2 as I1 J1 I2 J2 P := by
  obtain ⟨r, h1⟩ := h1
  obtain ⟨r2, h2⟩ := h2
  exact ⟨r, r2, I1, J1, I2, J2, h1, h2, hP⟩
theorem al_who {x : Int32} (h : Rl b W Rn Kn Tn Hn Un g I1 J1 I2 J2) : AQ 232 86 [.int x] I1 J1 I2 J2 (Rl b W Rn Kn Tn Hn Un g) := by
  obtain ⟨m, hm, f1, f2, f3, f4⟩ := h.fr
  rcases Classical.em (∃ j, j < m ∧ x = nI j) with p | p
  · obtain ⟨k, hk, rfl⟩ := p
    have hv : vp_in (nI k) 100 := vp_in_nI (by omega) (by decide)
    refine AQ.same ?_ ⟨I2 38 k, mj_mk (D := 899) (e86 _ ?_)⟩ h
    · by_cases e : I1 38 0 = 1
      · refine ⟨(J1 40 k &&& 15).toInt32, mj_mk (D := 899) (e232 _ ?_)⟩
        refine ⟨trivial, _, _, _, c_fthere f1 hm, if_tf (fun _ => ?_) (fun f => absurd ⟨k, hk, rfl⟩ f)⟩
        rw [if_pos e, nI_clamp (by omega)]
        exact ⟨hv, trivial, _, _, _, mj_mk (e233 _ rfl), rfl⟩
      · refine ⟨(J1 40 k).toInt32, mj_mk (D := 899) (e232 _ ?_)⟩
        refine ⟨trivial, _, _, _, c_fthere f1 hm, if_tf (fun _ => ?_) (fun f => absurd ⟨k, hk, rfl⟩ f)⟩
        rw [if_neg e, nI_clamp (by omega)]
        exact ⟨hv, rfl⟩
    · refine ⟨trivial, _, _, _, f2 898 J2 I2 _ rfl, if_tf (fun _ => ?_) (fun f => absurd ⟨k, hk, rfl⟩ f)⟩
      rw [nI_clamp (by omega)]
      exact ⟨hv, rfl⟩
  · refine AQ.same ⟨-1, mj_mk (D := 899) (e232 _ ?_)⟩ ⟨-1, mj_mk (D := 899) (e86 _ ?_)⟩ h
    · exact ⟨trivial, _, _, _, c_fthere f1 hm, if_tf (fun f => absurd f p) (fun _ => rfl)⟩
    · exact ⟨trivial, _, _, _, f2 898 J2 I2 _ rfl, if_tf (fun f => absurd f p) (fun _ => rfl)⟩
theorem al_knot {x y : Int32} (h : Rl b W Rn Kn Tn Hn Un g I1 J1 I2 J2) : AQ 234 87 [.int x, .int y] I1 J1 I2 J2 (Rl b W Rn Kn Tn Hn Un g) := by
  obtain ⟨m, hm, f1, f2, f3, f4⟩ := h.fr
  rcases Classical.em (∃ j, j < m ∧ x = nI j) with p | p
  · obtain ⟨k, hk, rfl⟩ := p
    have hv : vp_in (nI k) 100 := vp_in_nI (by omega) (by decide)
    refine AQ.same ?_ ?_ h
    · by_cases e : I1 38 0 = 1
      · by_cases c : y < 0
        · refine ⟨-1, mj_mk (D := 899) (e234 _ _ ?_)⟩
          refine ⟨trivial, _, _, _, c_fthere f1 hm, if_tf (fun _ => ?_) (fun f => absurd ⟨k, hk, rfl⟩ f)⟩
          rw [if_pos e, if_pos c]
        by_cases d : (J1 40 k &&& 15).toInt32 ≤ y
        · refine ⟨-1, mj_mk (D := 899) (e234 _ _ ?_)⟩
          refine ⟨trivial, _, _, _, c_fthere f1 hm, if_tf (fun _ => ?_) (fun f => absurd ⟨k, hk, rfl⟩ f)⟩
          rw [if_pos e, if_neg c, nI_clamp (by omega)]
          refine ⟨hv, trivial, _, _, _, mj_mk (e233 _ rfl), ?_⟩
          rw [if_pos d]
        · refine ⟨((J1 40 k >>> (((4 : Int32) * ((10 : Int32) - y)).toInt64 &&& 63)).toInt32 &&& (15 : Int32)), mj_mk (D := 899) (e234 _ _ ?_)⟩
          refine ⟨trivial, _, _, _, c_fthere f1 hm, if_tf (fun _ => ?_) (fun f => absurd ⟨k, hk, rfl⟩ f)⟩
          rw [if_pos e, if_neg c, nI_clamp (by omega)]
          refine ⟨hv, trivial, _, _, _, mj_mk (e233 _ rfl), ?_⟩
          rw [if_neg d]
          exact ⟨hv, trivial, _, _, _, mj_mk (e235 _ _ rfl), rfl⟩
      · refine ⟨-1, mj_mk (D := 899) (e234 _ _ ?_)⟩
        refine ⟨trivial, _, _, _, c_fthere f1 hm, if_tf (fun _ => ?_) (fun f => absurd ⟨k, hk, rfl⟩ f)⟩
        rw [if_neg e]
    · by_cases e : I2 0 59 = 1
      · rcases h.2.2.2.2.2.1 with ⟨q1, q2, q3⟩ | ⟨kd, n, h1, h2, h3, h4, h5, h6, h7, h8, h9⟩
        · rw [q2] at f1
          have := (nI_eq (by decide) (by omega)).mp f1
          omega
        obtain rfl : n = m := by
          rw [h4] at f1
          exact (nI_eq (by omega) (by omega)).mp f1
        have k1 : kd = 1 := by
          rw [h6] at e
          exact (nI_eq (b := 1) (by omega) (by decide)).mp e
        obtain ⟨l, hl, l5⟩ := h9 k1 k hk
        by_cases c : y < 0
        · refine ⟨-1, mj_mk (D := 899) (e87 _ _ ?_)⟩
          refine ⟨trivial, _, _, _, f2 898 J2 I2 _ rfl, if_tf (fun _ => ?_) (fun f => absurd ⟨k, hk, rfl⟩ f)⟩
          rw [if_pos e, if_pos c]
        by_cases d : nI l ≤ y
        · refine ⟨-1, mj_mk (D := 899) (e87 _ _ ?_)⟩
          refine ⟨trivial, _, _, _, f2 898 J2 I2 _ rfl, if_tf (fun _ => ?_) (fun f => absurd ⟨k, hk, rfl⟩ f)⟩
          rw [if_pos e, if_neg c, nI_clamp (by omega), l5, if_pos d]
          exact ⟨hv, rfl⟩
        · obtain ⟨i, hi, rfl⟩ : ∃ i, i < l ∧ y = nI i := by
            rcases pk_ix y (n := l) (by omega) with q | q | q
            · exact absurd q c
            · exact absurd q d
            · exact q
          refine ⟨I2 39 (10 * k + i), mj_mk (D := 899) (e87 _ _ ?_)⟩
          refine ⟨trivial, _, _, _, f2 898 J2 I2 _ rfl, if_tf (fun _ => ?_) (fun f => absurd ⟨k, hk, rfl⟩ f)⟩
          rw [if_pos e, if_neg c, nI_clamp (by omega), l5, if_neg d, show (10 : Int32) * nI k + nI i = nI (10 * k + i) by rw [show (10 : Int32) = nI 10 from rfl, pk_mul, nI_add], nI_clamp (by omega)]
          exact ⟨hv, vp_in_nI (by omega) (by decide), rfl⟩
      · refine ⟨-1, mj_mk (D := 899) (e87 _ _ ?_)⟩
        refine ⟨trivial, _, _, _, f2 898 J2 I2 _ rfl, if_tf (fun _ => ?_) (fun f => absurd ⟨k, hk, rfl⟩ f)⟩
        rw [if_neg e]
  · refine AQ.same ⟨-1, mj_mk (D := 899) (e234 _ _ ?_)⟩ ⟨-1, mj_mk (D := 899) (e87 _ _ ?_)⟩ h
    · exact ⟨trivial, _, _, _, c_fthere f1 hm, if_tf (fun f => absurd f p) (fun _ => rfl)⟩
    · exact ⟨trivial, _, _, _, f2 898 J2 I2 _ rfl, if_tf (fun f => absurd f p) (fun _ => rfl)⟩
end S57
end
section
/-! grid: the weighings made anew -/
/-- one weighing out of three loops' numbers -/
def wtl (g W x y z : Nat) : List (List Nat) := if W = 0 then [] else [([x, y, z, g - x - y - z] : List Nat).drop (4 - W)]
def mB (g W x : Nat) : Nat := if 2 < W then g - x else 0
def mC (g W x y : Nat) : Nat := if 1 < W then g - x - y else 0
def mA (g W : Nat) : Nat := if 3 < W then g else 0
def rmC (g W x y z : Nat) : List (List Nat) := (List.range' z (mC g W x y + 1 - z)).flatMap (wtl g W x y)
def rmB (g W x y : Nat) : List (List Nat) := (List.range' y (mB g W x + 1 - y)).flatMap (fun y => rmC g W x y 0)
def rmA (g W x : Nat) : List (List Nat) := (List.range' x (mA g W + 1 - x)).flatMap (fun x => rmB g W x 0)
theorem rm_all : ∀ g, g < 13 → ∀ W, W < 5 → rmA g W 0 = wl W g := by decide +kernel
theorem rmC_s {g W x y z : Nat} (h : z ≤ mC g W x y) : rmC g W x y z = wtl g W x y z ++ rmC g W x y (z + 1) := by
  unfold rmC
  rw [show mC g W x y + 1 - z = (mC g W x y + 1 - (z + 1)) + 1 by omega, List.range'_succ, List.flatMap_cons]
theorem rmC_e {g W x y z : Nat} (h : mC g W x y < z) : rmC g W x y z = [] := by
  unfold rmC
  rw [show mC g W x y + 1 - z = 0 by omega]
  rfl
theorem rmB_s {g W x y : Nat} (h : y ≤ mB g W x) : rmB g W x y = rmC g W x y 0 ++ rmB g W x (y + 1) := by
  unfold rmB
  rw [show mB g W x + 1 - y = (mB g W x + 1 - (y + 1)) + 1 by omega, List.range'_succ, List.flatMap_cons]
theorem rmB_e {g W x y : Nat} (h : mB g W x < y) : rmB g W x y = [] := by
  unfold rmB
  rw [show mB g W x + 1 - y = 0 by omega]
  rfl
theorem rmA_s {g W x : Nat} (h : x ≤ mA g W) : rmA g W x = rmB g W x 0 ++ rmA g W (x + 1) := by
  unfold rmA
  rw [show mA g W + 1 - x = (mA g W + 1 - (x + 1)) + 1 by omega, List.range'_succ, List.flatMap_cons]
theorem rmA_e {g W x : Nat} (h : mA g W < x) : rmA g W x = [] := by
  unfold rmA
  rw [show mA g W + 1 - x = 0 by omega]
  rfl
/-- the class' rows hold the list L -/
def wAr (g W : Nat) (L : List (List Nat)) (I : Nat → Nat → Int32) : Prop := I 51 0 = nI g ∧ I 51 1 = nI W ∧ I 51 2 = nI L.length ∧ ∀ n r, L[n]? = some r → ∀ w, w < W → I 52 (4 * n + w) = nI (r.getD w 0)
section S58
variable {D W g : Nat} {I : Nat → Nat → Int32} {J : Nat → Nat → Int64}
theorem c_wput {c : Nat} {z : Int} {v : Int32} (hc : I 51 2 = nI c) (hc2 : c < 455) (hz : -10 ≤ z) (hz2 : z < 1820) : C1 (D + 1) 188 [.ref 51, .int (iI z), .int v] I J .null (if z < 4 * c then I else mj_up I 52 z.toNat v) J := by
  refine mj_mk (e188 _ _ ?_)
  rw [hc, ix4m]
  have e : (iI z < nI (4 * c)) ↔ z < 4 * c := by
    rw [Int32.lt_iff_toInt_lt, iI_toInt (by omega) (by omega), nI_toInt (by omega)]
    omega
  by_cases h : z < 4 * c
  · rw [if_pos (e.mpr h), if_pos h]
  · rw [if_neg (fun q => h (e.mp q)), if_neg h]
    obtain ⟨n, rfl⟩ : ∃ n : Nat, z = n := ⟨z.toNat, by omega⟩
    rw [iI_nI, nI_clamp (by omega)]
    exact ⟨vp_in_nI (by omega) (by decide), rfl⟩
theorem c_wadd {x y z : Nat} {L : List (List Nat)} (hW : W ≤ 4) (hL : wAr g W L I) (hlen : 0 < W → L.length < 455) : ∃ I', C1 (D + 2) 187 [.ref 51, .int (nI x), .int (nI y), .int (nI z), .int (nI (g - x - y - z))] I J .null I' J ∧ wAr g W (L ++ wtl g W x y z) I' ∧ ∀ q, q ≠ 51 → q ≠ 52 → I' q = I q := by
  obtain ⟨h0, h1, h2, h3⟩ := hL
  by_cases hW0 : W = 0
  · subst hW0
    refine ⟨I, mj_mk (e187 _ _ _ _ ?_), ?_, fun _ _ _ => rfl⟩
    · rw [h1, if_pos (show nI 0 = 0 from rfl)]
    · rw [show wtl g 0 x y z = [] from rfl, List.append_nil]
      exact ⟨h0, h1, h2, h3⟩
  have hl := hlen (by omega)
  obtain ⟨c, hc⟩ : ∃ c, c = L.length := ⟨_, rfl⟩
  rw [← hc] at h2 hl
  obtain ⟨d, hd⟩ : ∃ d, d = g - x - y - z := ⟨_, rfl⟩
  have ea : ((((nI c * (4 : Int32)) + nI W) - 1) : Int32) = iI (4 * c + W - 1) := by
    rw [ix4m, nI_add, ← iI_nI, show (1 : Int32) = iI 1 from rfl, iI_sub]
    congr 1
  have s3 : iI (4 * (c : Int) + W - 1) - (3 : Int32) = iI (4 * c + W - 4) := by
    rw [show (3 : Int32) = iI 3 from rfl, iI_sub]; congr 1; omega
  have s2 : iI (4 * (c : Int) + W - 1) - (2 : Int32) = iI (4 * c + W - 3) := by
    rw [show (2 : Int32) = iI 2 from rfl, iI_sub]; congr 1; omega
  have s1 : iI (4 * (c : Int) + W - 1) - (1 : Int32) = iI (4 * c + W - 2) := by
    rw [show (1 : Int32) = iI 1 from rfl, iI_sub]; congr 1; omega
  obtain ⟨Ia, hIa⟩ : ∃ Ia, Ia = if (4 * (c : Int) + W - 4) < 4 * c then I else mj_up I 52 (4 * (c : Int) + W - 4).toNat (nI x) := ⟨_, rfl⟩
  obtain ⟨Ib, hIb⟩ : ∃ Ib, Ib = if (4 * (c : Int) + W - 3) < 4 * c then Ia else mj_up Ia 52 (4 * (c : Int) + W - 3).toNat (nI y) := ⟨_, rfl⟩
  obtain ⟨Ic, hIc⟩ : ∃ Ic, Ic = if (4 * (c : Int) + W - 2) < 4 * c then Ib else mj_up Ib 52 (4 * (c : Int) + W - 2).toNat (nI z) := ⟨_, rfl⟩
  obtain ⟨Id, hId⟩ : ∃ Id, Id = if (4 * (c : Int) + W - 1) < 4 * c then Ic else mj_up Ic 52 (4 * (c : Int) + W - 1).toNat (nI d) := ⟨_, rfl⟩
  have f1 : ∀ q, q ≠ 52 → Ia q = I q := fun q hq => by rw [hIa]; split <;> first | rfl | rw [up_c hq]
  have f2 : ∀ q, q ≠ 52 → Ib q = I q := fun q hq => by rw [hIb]; split <;> first | exact f1 q hq | rw [up_c hq, f1 q hq]
  have f3 : ∀ q, q ≠ 52 → Ic q = I q := fun q hq => by rw [hIc]; split <;> first | exact f2 q hq | rw [up_c hq, f2 q hq]
  have f4 : ∀ q, q ≠ 52 → Id q = I q := fun q hq => by rw [hId]; split <;> first | exact f3 q hq | rw [up_c hq, f3 q hq]
  refine ⟨mj_up Id 51 2 (nI (c + 1)), mj_mk (e187 _ _ _ _ ?_), ⟨?_, ?_, ?_, ?_⟩, fun q q1 q2 => ?_⟩
  · rw [h1, h2]
    rw [if_neg (nI_ne0 (by omega) (by omega))]
    refine if_lt (b := 455) (by omega) (by decide) (fun _ => ?_) (fun q => absurd q (by omega))
    rw [ea, s3]
    refine ⟨trivial, _, _, c_wput h2 hl (by omega) (by omega), ?_⟩
    rw [← hIa, s2]
    refine ⟨trivial, _, _, c_wput (by rw [f1 51 (by decide)]; exact h2) hl (by omega) (by omega), ?_⟩
    rw [← hIb, s1]
    refine ⟨trivial, _, _, c_wput (by rw [f2 51 (by decide)]; exact h2) hl (by omega) (by omega), ?_⟩
    rw [← hIc, ← hd]
    refine ⟨trivial, _, _, c_wput (by rw [f3 51 (by decide)]; exact h2) hl (by omega) (by omega), ?_⟩
    rw [← hId, f4 51 (by decide), h2, nI_1]
  · rw [up_j (by decide), f4 51 (by decide)]; exact h0
  · rw [up_j (by decide), f4 51 (by decide)]; exact h1
  · have : (L ++ wtl g W x y z).length = c + 1 := by
      rw [List.length_append, ← hc]
      unfold wtl
      rw [if_neg hW0]
      rfl
    rw [up_s, this]
  · intro n r hr w hw
    rw [up_c (by decide)]
    by_cases hn : n < c
    · rw [List.getElem?_append_left (by omega)] at hr
      rw [← h3 n r hr w hw]
      have t4 : Id 52 (4 * n + w) = Ic 52 (4 * n + w) := by rw [hId]; split <;> first | rfl | rw [up_j (by omega)]
      have t3 : Ic 52 (4 * n + w) = Ib 52 (4 * n + w) := by rw [hIc]; split <;> first | rfl | rw [up_j (by omega)]
      have t2 : Ib 52 (4 * n + w) = Ia 52 (4 * n + w) := by rw [hIb]; split <;> first | rfl | rw [up_j (by omega)]
      have t1 : Ia 52 (4 * n + w) = I 52 (4 * n + w) := by rw [hIa]; split <;> first | rfl | rw [up_j (by omega)]
      rw [t4, t3, t2, t1]
    · rw [List.getElem?_append_right (by omega), ← hc] at hr
      have e : n = c ∧ r = ([x, y, z, g - x - y - z] : List Nat).drop (4 - W) := by
        unfold wtl at hr
        rw [if_neg hW0] at hr
        cases hk : n - c with
        | zero => rw [hk] at hr; cases hr; exact ⟨by omega, rfl⟩
        | succ k => rw [hk] at hr; cases hr
      obtain ⟨rfl, rfl⟩ := e
      rw [← hd]
      match W, hW, hW0, hw with
      | 1, _, _, hw =>
        obtain rfl : w = 0 := by omega
        rw [hId, if_neg (by omega), show (4 * (n : Int) + (1 : Nat) - 1).toNat = 4 * n + 0 by omega, up_s]; rfl
      | 2, _, _, hw =>
        rw [hId, if_neg (by omega), show (4 * (n : Int) + (2 : Nat) - 1).toNat = 4 * n + 1 by omega]
        rw [hIc, if_neg (by omega), show (4 * (n : Int) + (2 : Nat) - 2).toNat = 4 * n + 0 by omega]
        match w, hw with
        | 0, _ => rw [up_j (by omega), up_s]; rfl
        | 1, _ => rw [up_s]; rfl
      | 3, _, _, hw =>
        rw [hId, if_neg (by omega), show (4 * (n : Int) + (3 : Nat) - 1).toNat = 4 * n + 2 by omega]
        rw [hIc, if_neg (by omega), show (4 * (n : Int) + (3 : Nat) - 2).toNat = 4 * n + 1 by omega]
        rw [hIb, if_neg (by omega), show (4 * (n : Int) + (3 : Nat) - 3).toNat = 4 * n + 0 by omega]
        match w, hw with
        | 0, _ => rw [up_j (by omega), up_j (by omega), up_s]; rfl
        | 1, _ => rw [up_j (by omega), up_s]; rfl
        | 2, _ => rw [up_s]; rfl
      | 4, _, _, hw =>
        rw [hId, if_neg (by omega), show (4 * (n : Int) + (4 : Nat) - 1).toNat = 4 * n + 3 by omega]
        rw [hIc, if_neg (by omega), show (4 * (n : Int) + (4 : Nat) - 2).toNat = 4 * n + 2 by omega]
        rw [hIb, if_neg (by omega), show (4 * (n : Int) + (4 : Nat) - 3).toNat = 4 * n + 1 by omega]
        rw [hIa, if_neg (by omega), show (4 * (n : Int) + (4 : Nat) - 4).toNat = 4 * n + 0 by omega]
        match w, hw with
        | 0, _ => rw [up_j (by omega), up_j (by omega), up_j (by omega), up_s]; rfl
        | 1, _ => rw [up_j (by omega), up_j (by omega), up_s]; rfl
        | 2, _ => rw [up_j (by omega), up_s]; rfl
        | 3, _ => rw [up_s]; rfl
  · rw [up_c q1, f4 q q2]
theorem c_make (hW : W ≤ 4) (hg : g ≤ 12) : ∃ I', C1 (D + 3) 186 [.ref 51, .int (nI g), .int (nI W)] I J .null I' J ∧ wAr g W (wl W g) I' ∧ ∀ q, q ≠ 51 → q ≠ 52 → I' q = I q := by
  suffices hs : ∃ I' J', C1 (D + 3) 186 [.ref 51, .int (nI g), .int (nI W)] I J .null I' J' ∧ (J' = J ∧ wAr g W (wl W g) I' ∧ ∀ q, q ≠ 51 → q ≠ 52 → I' q = I q) by
    obtain ⟨I', J', h1, rfl, h2, h3⟩ := hs
    exact ⟨I', h1, h2, h3⟩
  refine mj_cN (e186 _ _ ?_)
  obtain ⟨I0, hI0⟩ : ∃ I0, I0 = mj_up (mj_up (mj_up I 51 0 (nI g)) 51 1 (nI W)) 51 2 (0 : Int32) := ⟨_, rfl⟩
  rw [← hI0]
  have a0 : wAr g W [] I0 := by
    rw [hI0]
    refine ⟨?_, ?_, ?_, fun n r hr => by cases hr⟩
    · rw [up_j (by decide), up_j (by decide), up_s]
    · rw [up_j (by decide), up_s]
    · rw [up_s]; rfl
  have aF : ∀ q, q ≠ 51 → q ≠ 52 → I0 q = I q := fun q q1 _ => by rw [hI0, up_c q1, up_c q1, up_c q1]
  obtain ⟨Q, hQ⟩ : ∃ Q, Q = qN mj_R1 (fun I' J' => J' = J ∧ wAr g W (wl W g) I' ∧ ∀ q, q ≠ 51 → q ≠ 52 → I' q = I q) := ⟨_, rfl⟩
  rw [← hQ]
  have hlen : ∀ {L R : List (List Nat)}, L ++ R = wl W g → L.length ≤ 455 := fun {L R} e => by
    have h1 := (wl_ok hg hW).2.1
    rw [← e, List.length_append] at h1
    omega
  -- the innermost loop
  have lC : ∀ x y (R : List (List Nat)), x + y ≤ g → (∀ I1 L, wAr g W L I1 → L ++ R = wl W g → (∀ q, q ≠ 51 → q ≠ 52 → I1 q = I q) → E1 186 (D + 2) Q 65 [(0, .ref 51), (3, .int (nI (mA g W))), (4, .int (nI x)), (5, .int (nI (mB g W x))), (6, .int (nI (y + 1)))] I1 J) →
      ∀ z, z ≤ mC g W x y + 1 → ∀ I1 L, wAr g W L I1 → L ++ (rmC g W x y z ++ R) = wl W g → (∀ q, q ≠ 51 → q ≠ 52 → I1 q = I q) → E1 186 (D + 2) Q 99 [(0, .ref 51), (3, .int (nI (mA g W))), (4, .int (nI x)), (5, .int (nI (mB g W x))), (6, .int (nI y)), (7, .int (nI (mC g W x y))), (8, .int (nI z))] I1 J := by
    intro x y R hxy K
    have hmC : mC g W x y ≤ g - x - y := by unfold mC; split <;> omega
    refine lp_up (n := mC g W x y + 1) (fun z => ∀ I1 L, wAr g W L I1 → L ++ (rmC g W x y z ++ R) = wl W g → (∀ q, q ≠ 51 → q ≠ 52 → I1 q = I q) → E1 186 (D + 2) Q 99 [(0, .ref 51), (3, .int (nI (mA g W))), (4, .int (nI x)), (5, .int (nI (mB g W x))), (6, .int (nI y)), (7, .int (nI (mC g W x y))), (8, .int (nI z))] I1 J) (fun z hz ih I1 L hA hE hF => ?_)
    refine mj_on (s186_99 _ _ _ _ _ _ ?_)
    rw [hA.1, nI_1, nI_1]
    refine if_lt (by omega) (by omega) (fun c => ?_) (fun c => ?_)
    · refine K I1 L hA ?_ hF
      rw [rmC_e c] at hE
      exact hE
    · rw [pk_sub (by omega), pk_sub (by omega), pk_sub (by omega)]
      rw [rmC_s c] at hE
      obtain ⟨I2, hc, hA2, hF2⟩ := c_wadd (D := D) (J := J) (x := x) (y := y) (z := z) hW hA (fun hW0 => by
        have h1 := hlen (L := L ++ wtl g W x y z) (R := rmC g W x y (z + 1) ++ R) (by rw [← hE]; simp)
        rw [List.length_append] at h1
        have : (wtl g W x y z).length = 1 := by unfold wtl; rw [if_neg (by omega)]; rfl
        omega)
      refine ⟨trivial, _, _, hc, ?_⟩
      refine ih (by omega) I2 _ hA2 ?_ (fun q q1 q2 => by rw [hF2 q q1 q2, hF q q1 q2])
      rw [← hE]
      simp
  have lB : ∀ x (R : List (List Nat)), x ≤ g → (∀ I1 L, wAr g W L I1 → L ++ R = wl W g → (∀ q, q ≠ 51 → q ≠ 52 → I1 q = I q) → E1 186 (D + 2) Q 35 [(0, .ref 51), (3, .int (nI (mA g W))), (4, .int (nI (x + 1)))] I1 J) →
      ∀ y, y ≤ mB g W x + 1 → ∀ I1 L, wAr g W L I1 → L ++ (rmB g W x y ++ R) = wl W g → (∀ q, q ≠ 51 → q ≠ 52 → I1 q = I q) → E1 186 (D + 2) Q 65 [(0, .ref 51), (3, .int (nI (mA g W))), (4, .int (nI x)), (5, .int (nI (mB g W x))), (6, .int (nI y))] I1 J := by
    intro x R hx K
    have hmB : mB g W x ≤ g - x := by unfold mB; split <;> omega
    refine lp_up (n := mB g W x + 1) (fun y => ∀ I1 L, wAr g W L I1 → L ++ (rmB g W x y ++ R) = wl W g → (∀ q, q ≠ 51 → q ≠ 52 → I1 q = I q) → E1 186 (D + 2) Q 65 [(0, .ref 51), (3, .int (nI (mA g W))), (4, .int (nI x)), (5, .int (nI (mB g W x))), (6, .int (nI y))] I1 J) (fun y hy ih I1 L hA hE hF => ?_)
    refine mj_on (s186_65 _ _ _ _ ?_)
    rw [hA.1, hA.2.1, nI_1]
    refine if_lt (by omega) (by omega) (fun c => ?_) (fun c => ?_)
    · refine K I1 L hA ?_ hF
      rw [rmB_e c] at hE
      exact hE
    · rw [rmB_s c] at hE
      have hmC : mC g W x y ≤ g - x - y := by unfold mC; split <;> omega
      have go : E1 186 (D + 2) Q 96 [(0, .ref 51), (3, .int (nI (mA g W))), (4, .int (nI x)), (5, .int (nI (mB g W x))), (6, .int (nI y)), (7, .int (nI (mC g W x y)))] I1 J := by
        refine mj_on (s186_96 _ _ _ _ _ ?_)
        exact lC x y (rmB g W x (y + 1) ++ R) (by omega) (fun I2 L2 hA2 hE2 hF2 => ih (by omega) I2 L2 hA2 hE2 hF2) 0 (Nat.zero_le _) I1 L hA (by rw [← hE]; simp) hF
      refine if_le (b := 1) (by omega) (by decide) (fun d => ?_) (fun d => ?_)
      · rw [show mC g W x y = 0 by unfold mC; rw [if_neg (by omega)]] at go
        exact go
      · rw [show mC g W x y = g - x - y by unfold mC; rw [if_pos d]] at go
        rw [pk_sub (by omega), pk_sub (by omega)]
        exact go
  have lA : ∀ x, x ≤ mA g W + 1 → ∀ I1 L, wAr g W L I1 → L ++ rmA g W x = wl W g → (∀ q, q ≠ 51 → q ≠ 52 → I1 q = I q) → E1 186 (D + 2) Q 35 [(0, .ref 51), (3, .int (nI (mA g W))), (4, .int (nI x))] I1 J := by
    have hmA : mA g W ≤ g := by unfold mA; split <;> omega
    refine lp_up (n := mA g W + 1) (fun x => ∀ I1 L, wAr g W L I1 → L ++ rmA g W x = wl W g → (∀ q, q ≠ 51 → q ≠ 52 → I1 q = I q) → E1 186 (D + 2) Q 35 [(0, .ref 51), (3, .int (nI (mA g W))), (4, .int (nI x))] I1 J) (fun x hx ih I1 L hA hE hF => ?_)
    refine mj_on (s186_35 _ _ ?_)
    rw [hA.1, hA.2.1]
    refine if_lt (by omega) (by omega) (fun c => ?_) (fun c => ?_)
    · rw [rmA_e c, List.append_nil] at hE
      rw [hQ]
      subst hE
      exact ⟨_, _, rfl, rfl, hA, hF⟩
    · rw [rmA_s c] at hE
      have go : E1 186 (D + 2) Q 62 [(0, .ref 51), (3, .int (nI (mA g W))), (4, .int (nI x)), (5, .int (nI (mB g W x)))] I1 J := by
        refine mj_on (s186_62 _ _ _ ?_)
        exact lB x (rmA g W (x + 1)) (by omega) (fun I2 L2 hA2 hE2 hF2 => ih (by omega) I2 L2 hA2 hE2 hF2) 0 (Nat.zero_le _) I1 L hA hE hF
      refine if_le (b := 2) (by omega) (by decide) (fun d => ?_) (fun d => ?_)
      · rw [show mB g W x = 0 by unfold mB; rw [if_neg (by omega)]] at go
        exact go
      · rw [show mB g W x = g - x by unfold mB; rw [if_pos d]] at go
        rw [pk_sub (by omega)]
        exact go
  have st : E1 186 (D + 2) Q 32 [(0, .ref 51), (3, .int (nI (mA g W)))] I0 J := by
    refine mj_on (s186_32 _ ?_)
    exact lA 0 (Nat.zero_le _) I0 [] a0 (rm_all g (by omega) W (by omega)) aF
  refine if_le (b := 3) (by omega) (by decide) (fun d => ?_) (fun d => ?_)
  · rw [show mA g W = 0 by unfold mA; rw [if_neg (by omega)]] at st
    exact st
  · rw [show mA g W = g by unfold mA; rw [if_pos d]] at st
    exact st
end S58
end
section
/-! what stays, when some parts of the state change -/
def mkI (D : List Nat) (E : List (Nat × Nat)) (I : Nat → Nat → Int32) : Nat → Nat → Int32 := fun q j => if D.elem q || E.elem (q, j) then 0 else I q j
def mkJ (D : List Nat) (E : List (Nat × Nat)) (J : Nat → Nat → Int64) : Nat → Nat → Int64 := fun q j => if D.elem q || E.elem (q, j) then 0 else J q j
theorem mkI_of {D : List Nat} {E : List (Nat × Nat)} {I I' : Nat → Nat → Int32} (h : ∀ q j, D.elem q = false → E.elem (q, j) = false → I' q j = I q j) : mkI D E I' = mkI D E I := by
  funext q j
  unfold mkI
  cases h1 : D.elem q with
  | true => rfl
  | false =>
    cases h2 : E.elem (q, j) with
    | true => rfl
    | false =>
      show (if (false || false) = true then 0 else I' q j) = (if (false || false) = true then 0 else I q j)
      rw [h q j h1 h2]
theorem mkJ_of {D : List Nat} {E : List (Nat × Nat)} {I I' : Nat → Nat → Int64} (h : ∀ q j, D.elem q = false → E.elem (q, j) = false → I' q j = I q j) : mkJ D E I' = mkJ D E I := by
  funext q j
  unfold mkJ
  cases h1 : D.elem q with
  | true => rfl
  | false =>
    cases h2 : E.elem (q, j) with
    | true => rfl
    | false =>
      show (if (false || false) = true then 0 else I' q j) = (if (false || false) = true then 0 else I q j)
      rw [h q j h1 h2]
theorem mkI_up {D : List Nat} {E : List (Nat × Nat)} {I : Nat → Nat → Int32} {q j : Nat} {v : Int32} (h : (D.elem q || E.elem (q, j)) = true) : mkI D E (mj_up I q j v) = mkI D E I := by
  funext a c
  unfold mkI
  by_cases e : a = q ∧ c = j
  · rw [e.1, e.2, h]; rfl
  · rw [up_n (by omega)]
theorem mkJ_up {D : List Nat} {E : List (Nat × Nat)} {I : Nat → Nat → Int64} {q j : Nat} {v : Int64} (h : (D.elem q || E.elem (q, j)) = true) : mkJ D E (mj_up I q j v) = mkJ D E I := by
  funext a c
  unfold mkJ
  by_cases e : a = q ∧ c = j
  · rw [e.1, e.2, h]; rfl
  · rw [up_n (by omega)]
theorem elem_app {α : Type} [BEq α] {a : α} : ∀ {l m : List α}, (l ++ m).elem a = (l.elem a || m.elem a)
  | [], m => by simp
  | x :: l, m => by
    have ih := elem_app (a := a) (l := l) (m := m)
    show (match a == x with | true => true | false => (l ++ m).elem a) = ((match a == x with | true => true | false => l.elem a) || m.elem a)
    cases a == x with
    | true => rfl
    | false => exact ih
theorem mkI_k1 {D : List Nat} {E : List (Nat × Nat)} {I I' : Nat → Nat → Int32} (h : k1 I' = k1 I) : mkI (D ++ sc1) (E ++ sl1) I' = mkI (D ++ sc1) (E ++ sl1) I := by
  refine mkI_of fun q j h1 h2 => ?_
  refine k1_at h ?_
  unfold co1
  rw [elem_app] at h1 h2
  simp only [Bool.or_eq_false_iff] at h1 h2
  rw [h1.2, h2.2]
  rfl
theorem mkI_k2 {D : List Nat} {E : List (Nat × Nat)} {I I' : Nat → Nat → Int32} (h : k2 I' = k2 I) : mkI (D ++ sc2) (E ++ sl2) I' = mkI (D ++ sc2) (E ++ sl2) I := by
  refine mkI_of fun q j h1 h2 => ?_
  refine k2_at h ?_
  unfold co2
  rw [elem_app] at h1 h2
  simp only [Bool.or_eq_false_iff] at h1 h2
  rw [h1.2, h2.2]
  rfl
def rsG (b W Rn Kn Tn Hn Un g : Nat) (I1 : Nat → Nat → Int32) (J1 : Nat → Nat → Int64) (I2 : Nat → Nat → Int32) (J2 : Nat → Nat → Int64) : Prop := I2 0 12 = nI b ∧ Tl 1 b W Rn Kn Tn Hn Un I1 I2 J2 ∧ rlT I1 I2 ∧ rlF I1 I2 ∧ rlW W Rn I1 J1 ∧ rlH W I1 I2 J1 ∧ rlK I1 I2 ∧ rlS Rn I1 I2 ∧ rlP W I1 I2 J1 J2 ∧ rlC J1 J2 ∧ rlO I1 ∧ rlZ W Hn Un I1 J1
set_option maxRecDepth 100000 in
theorem rsG_m {b W Rn Kn Tn Hn Un g : Nat} {I1 I2 : Nat → Nat → Int32} {J1 J2 : Nat → Nat → Int64} : rsG b W Rn Kn Tn Hn Un g (mkI ([51, 52] ++ sc1) ([] ++ sl1) I1) (mkJ ([] ++ scJ1) [] J1) (mkI ([] ++ sc2) ([(0, 63)] ++ sl2) I2) (mkJ ([] ++ scJ2) slJ2 J2) = rsG b W Rn Kn Tn Hn Un g I1 J1 I2 J2 := rfl
theorem Rl_G {b W Rn Kn Tn Hn Un g : Nat} {I1 I1' I2 I2' : Nat → Nat → Int32} {J1 J1' J2 J2' : Nat → Nat → Int64} {g' : Nat} (h : Rl b W Rn Kn Tn Hn Un g I1 J1 I2 J2) (e1 : mkI ([51, 52] ++ sc1) ([] ++ sl1) I1' = mkI ([51, 52] ++ sc1) ([] ++ sl1) I1) (e2 : mkJ ([] ++ scJ1) [] J1' = mkJ ([] ++ scJ1) [] J1) (e3 : mkI ([] ++ sc2) ([(0, 63)] ++ sl2) I2' = mkI ([] ++ sc2) ([(0, 63)] ++ sl2) I2) (e4 : mkJ ([] ++ scJ2) slJ2 J2' = mkJ ([] ++ scJ2) slJ2 J2) (hG : rlG W g' I1' I2') : Rl b W Rn Kn Tn Hn Un g' I1' J1' I2' J2' := by
  obtain ⟨ab0, aTl, aT, aF, aW, aH, aG, aK, aS, aP, aC, aO, aZ⟩ := h
  have r : rsG b W Rn Kn Tn Hn Un g I1' J1' I2' J2' := by
    rw [← rsG_m, e1, e2, e3, e4, rsG_m]
    exact ⟨ab0, aTl, aT, aF, aW, aH, aK, aS, aP, aC, aO, aZ⟩
  obtain ⟨cb0, cTl, cT, cF, cW, cH, cK, cS, cP, cC, cO, cZ⟩ := r
  exact ⟨cb0, cTl, cT, cF, cW, cH, hG, cK, cS, cP, cC, cO, cZ⟩
def rsK (b W Rn Kn Tn Hn Un g : Nat) (I1 : Nat → Nat → Int32) (J1 : Nat → Nat → Int64) (I2 : Nat → Nat → Int32) (J2 : Nat → Nat → Int64) : Prop := I2 0 12 = nI b ∧ Tl 1 b W Rn Kn Tn Hn Un I1 I2 J2 ∧ rlT I1 I2 ∧ rlF I1 I2 ∧ rlW W Rn I1 J1 ∧ rlH W I1 I2 J1 ∧ rlG W g I1 I2 ∧ rlS Rn I1 I2 ∧ rlP W I1 I2 J1 J2 ∧ rlC J1 J2 ∧ rlO I1 ∧ rlZ W Hn Un I1 J1
set_option maxRecDepth 100000 in
theorem rsK_m {b W Rn Kn Tn Hn Un g : Nat} {I1 I2 : Nat → Nat → Int32} {J1 J2 : Nat → Nat → Int64} : rsK b W Rn Kn Tn Hn Un g (mkI ([50] ++ sc1) ([(47, 4)] ++ sl1) I1) (mkJ ([] ++ scJ1) [] J1) (mkI ([41] ++ sc2) ([(0, 65)] ++ sl2) I2) (mkJ ([] ++ scJ2) slJ2 J2) = rsK b W Rn Kn Tn Hn Un g I1 J1 I2 J2 := rfl
theorem Rl_K {b W Rn Kn Tn Hn Un g : Nat} {I1 I1' I2 I2' : Nat → Nat → Int32} {J1 J1' J2 J2' : Nat → Nat → Int64} (h : Rl b W Rn Kn Tn Hn Un g I1 J1 I2 J2) (e1 : mkI ([50] ++ sc1) ([(47, 4)] ++ sl1) I1' = mkI ([50] ++ sc1) ([(47, 4)] ++ sl1) I1) (e2 : mkJ ([] ++ scJ1) [] J1' = mkJ ([] ++ scJ1) [] J1) (e3 : mkI ([41] ++ sc2) ([(0, 65)] ++ sl2) I2' = mkI ([41] ++ sc2) ([(0, 65)] ++ sl2) I2) (e4 : mkJ ([] ++ scJ2) slJ2 J2' = mkJ ([] ++ scJ2) slJ2 J2) (hK : rlK I1' I2') : Rl b W Rn Kn Tn Hn Un g I1' J1' I2' J2' := by
  obtain ⟨ab0, aTl, aT, aF, aW, aH, aG, aK, aS, aP, aC, aO, aZ⟩ := h
  have r : rsK b W Rn Kn Tn Hn Un g I1' J1' I2' J2' := by
    rw [← rsK_m, e1, e2, e3, e4, rsK_m]
    exact ⟨ab0, aTl, aT, aF, aW, aH, aG, aS, aP, aC, aO, aZ⟩
  obtain ⟨cb0, cTl, cT, cF, cW, cH, cG, cS, cP, cC, cO, cZ⟩ := r
  exact ⟨cb0, cTl, cT, cF, cW, cH, cG, hK, cS, cP, cC, cO, cZ⟩
def rsS (b W Rn Kn Tn Hn Un g : Nat) (I1 : Nat → Nat → Int32) (J1 : Nat → Nat → Int64) (I2 : Nat → Nat → Int32) (J2 : Nat → Nat → Int64) : Prop := I2 0 12 = nI b ∧ Tl 1 b W Rn Kn Tn Hn Un I1 I2 J2 ∧ rlT I1 I2 ∧ rlF I1 I2 ∧ rlW W Rn I1 J1 ∧ rlH W I1 I2 J1 ∧ rlG W g I1 I2 ∧ rlK I1 I2 ∧ rlP W I1 I2 J1 J2 ∧ rlC J1 J2 ∧ rlO I1 ∧ rlZ W Hn Un I1 J1
set_option maxRecDepth 100000 in
theorem rsS_m {b W Rn Kn Tn Hn Un g : Nat} {I1 I2 : Nat → Nat → Int32} {J1 J2 : Nat → Nat → Int64} : rsS b W Rn Kn Tn Hn Un g (mkI ([54, 55] ++ sc1) ([(53, 0)] ++ sl1) I1) (mkJ ([] ++ scJ1) [] J1) (mkI ([43, 44] ++ sc2) ([(0, 68)] ++ sl2) I2) (mkJ ([] ++ scJ2) slJ2 J2) = rsS b W Rn Kn Tn Hn Un g I1 J1 I2 J2 := rfl
theorem Rl_S {b W Rn Kn Tn Hn Un g : Nat} {I1 I1' I2 I2' : Nat → Nat → Int32} {J1 J1' J2 J2' : Nat → Nat → Int64} (h : Rl b W Rn Kn Tn Hn Un g I1 J1 I2 J2) (e1 : mkI ([54, 55] ++ sc1) ([(53, 0)] ++ sl1) I1' = mkI ([54, 55] ++ sc1) ([(53, 0)] ++ sl1) I1) (e2 : mkJ ([] ++ scJ1) [] J1' = mkJ ([] ++ scJ1) [] J1) (e3 : mkI ([43, 44] ++ sc2) ([(0, 68)] ++ sl2) I2' = mkI ([43, 44] ++ sc2) ([(0, 68)] ++ sl2) I2) (e4 : mkJ ([] ++ scJ2) slJ2 J2' = mkJ ([] ++ scJ2) slJ2 J2) (hS : rlS Rn I1' I2') : Rl b W Rn Kn Tn Hn Un g I1' J1' I2' J2' := by
  obtain ⟨ab0, aTl, aT, aF, aW, aH, aG, aK, aS, aP, aC, aO, aZ⟩ := h
  have r : rsS b W Rn Kn Tn Hn Un g I1' J1' I2' J2' := by
    rw [← rsS_m, e1, e2, e3, e4, rsS_m]
    exact ⟨ab0, aTl, aT, aF, aW, aH, aG, aK, aP, aC, aO, aZ⟩
  obtain ⟨cb0, cTl, cT, cF, cW, cH, cG, cK, cP, cC, cO, cZ⟩ := r
  exact ⟨cb0, cTl, cT, cF, cW, cH, cG, cK, hS, cP, cC, cO, cZ⟩
def rsP (b W Rn Kn Tn Hn Un g : Nat) (I1 : Nat → Nat → Int32) (J1 : Nat → Nat → Int64) (I2 : Nat → Nat → Int32) (J2 : Nat → Nat → Int64) : Prop := I2 0 12 = nI b ∧ Tl 1 b W Rn Kn Tn Hn Un I1 I2 J2 ∧ rlT I1 I2 ∧ rlF I1 I2 ∧ rlW W Rn I1 J1 ∧ rlH W I1 I2 J1 ∧ rlG W g I1 I2 ∧ rlK I1 I2 ∧ rlS Rn I1 I2 ∧ rlC J1 J2 ∧ rlO I1 ∧ rlZ W Hn Un I1 J1
set_option maxRecDepth 100000 in
theorem rsP_m {b W Rn Kn Tn Hn Un g : Nat} {I1 I2 : Nat → Nat → Int32} {J1 J2 : Nat → Nat → Int64} : rsP b W Rn Kn Tn Hn Un g (mkI ([59, 60] ++ sc1) ([] ++ sl1) I1) (mkJ ([61] ++ scJ1) [] J1) (mkI ([48] ++ sc2) ([] ++ sl2) I2) (mkJ ([49] ++ scJ2) slJ2 J2) = rsP b W Rn Kn Tn Hn Un g I1 J1 I2 J2 := rfl
theorem Rl_P {b W Rn Kn Tn Hn Un g : Nat} {I1 I1' I2 I2' : Nat → Nat → Int32} {J1 J1' J2 J2' : Nat → Nat → Int64} (h : Rl b W Rn Kn Tn Hn Un g I1 J1 I2 J2) (e1 : mkI ([59, 60] ++ sc1) ([] ++ sl1) I1' = mkI ([59, 60] ++ sc1) ([] ++ sl1) I1) (e2 : mkJ ([61] ++ scJ1) [] J1' = mkJ ([61] ++ scJ1) [] J1) (e3 : mkI ([48] ++ sc2) ([] ++ sl2) I2' = mkI ([48] ++ sc2) ([] ++ sl2) I2) (e4 : mkJ ([49] ++ scJ2) slJ2 J2' = mkJ ([49] ++ scJ2) slJ2 J2) (hP : rlP W I1' I2' J1' J2') : Rl b W Rn Kn Tn Hn Un g I1' J1' I2' J2' := by
  obtain ⟨ab0, aTl, aT, aF, aW, aH, aG, aK, aS, aP, aC, aO, aZ⟩ := h
  have r : rsP b W Rn Kn Tn Hn Un g I1' J1' I2' J2' := by
    rw [← rsP_m, e1, e2, e3, e4, rsP_m]
    exact ⟨ab0, aTl, aT, aF, aW, aH, aG, aK, aS, aC, aO, aZ⟩
  obtain ⟨cb0, cTl, cT, cF, cW, cH, cG, cK, cS, cC, cO, cZ⟩ := r
  exact ⟨cb0, cTl, cT, cF, cW, cH, cG, cK, cS, hP, cC, cO, cZ⟩
def rsH (b W Rn Kn Tn Hn Un g : Nat) (I1 : Nat → Nat → Int32) (J1 : Nat → Nat → Int64) (I2 : Nat → Nat → Int32) (J2 : Nat → Nat → Int64) : Prop := I2 0 12 = nI b ∧ Tl 1 b W Rn Kn Tn Hn Un I1 I2 J2 ∧ rlT I1 I2 ∧ rlF I1 I2 ∧ rlW W Rn I1 J1 ∧ rlG W g I1 I2 ∧ rlK I1 I2 ∧ rlS Rn I1 I2 ∧ rlP W I1 I2 J1 J2 ∧ rlC J1 J2 ∧ rlO I1
set_option maxRecDepth 100000 in
theorem rsH_m {b W Rn Kn Tn Hn Un g : Nat} {I1 I2 : Nat → Nat → Int32} {J1 J2 : Nat → Nat → Int64} : rsH b W Rn Kn Tn Hn Un g (mkI ([39, 44, 45] ++ sc1) ([(38, 0), (38, 1), (0, 9)] ++ sl1) I1) (mkJ ([40, 46] ++ scJ1) [] J1) (mkI ([37, 38, 39] ++ sc2) ([(0, 58), (0, 59)] ++ sl2) I2) (mkJ ([] ++ scJ2) slJ2 J2) = rsH b W Rn Kn Tn Hn Un g I1 J1 I2 J2 := rfl
theorem Rl_H {b W Rn Kn Tn Hn Un g : Nat} {I1 I1' I2 I2' : Nat → Nat → Int32} {J1 J1' J2 J2' : Nat → Nat → Int64} (h : Rl b W Rn Kn Tn Hn Un g I1 J1 I2 J2) (e1 : mkI ([39, 44, 45] ++ sc1) ([(38, 0), (38, 1), (0, 9)] ++ sl1) I1' = mkI ([39, 44, 45] ++ sc1) ([(38, 0), (38, 1), (0, 9)] ++ sl1) I1) (e2 : mkJ ([40, 46] ++ scJ1) [] J1' = mkJ ([40, 46] ++ scJ1) [] J1) (e3 : mkI ([37, 38, 39] ++ sc2) ([(0, 58), (0, 59)] ++ sl2) I2' = mkI ([37, 38, 39] ++ sc2) ([(0, 58), (0, 59)] ++ sl2) I2) (e4 : mkJ ([] ++ scJ2) slJ2 J2' = mkJ ([] ++ scJ2) slJ2 J2) (hH : rlH W I1' I2' J1') (hZ : rlZ W Hn Un I1' J1') : Rl b W Rn Kn Tn Hn Un g I1' J1' I2' J2' := by
  obtain ⟨ab0, aTl, aT, aF, aW, aH, aG, aK, aS, aP, aC, aO, aZ⟩ := h
  have r : rsH b W Rn Kn Tn Hn Un g I1' J1' I2' J2' := by
    rw [← rsH_m, e1, e2, e3, e4, rsH_m]
    exact ⟨ab0, aTl, aT, aF, aW, aG, aK, aS, aP, aC, aO⟩
  obtain ⟨cb0, cTl, cT, cF, cW, cG, cK, cS, cP, cC, cO⟩ := r
  exact ⟨cb0, cTl, cT, cF, cW, hH, cG, cK, cS, cP, cC, cO, hZ⟩
section S59
variable {D b W Rn Kn Tn Hn Un g : Nat} {I1 I2 : Nat → Nat → Int32} {J1 J2 : Nat → Nat → Int64}
theorem al_grid {x : Int32} (h : Rl b W Rn Kn Tn Hn Un g I1 J1 I2 J2) : AI 236 88 [.int x] I1 J1 I2 J2 (fun f1 h1 f2 h2 => ∃ g', Rl b W Rn Kn Tn Hn Un g' f1 h1 f2 h2) := by
  obtain ⟨a1, a2, -⟩ := h.N
  have hW4 := h.rB.2.2.2.1
  by_cases c : x < 1
  · exact AI.same 0 (mj_mk (D := 899) (e236 _ (by rw [if_pos c]; exact ⟨Or.inl rfl, rfl⟩))) (mj_mk (D := 899) (e88 _ ⟨trivial, _, _, _, r_is, if_tf (fun f => absurd c f.1) (fun _ => ⟨Or.inl rfl, rfl⟩)⟩)) ⟨g, h⟩
  by_cases d : x ≤ 12
  · have x0 : ¬ x < 0 := fun q => c (by
      rw [Int32.lt_iff_toInt_lt] at q ⊢
      have h1 : (0 : Int32).toInt = 0 := by decide
      have h2 : (1 : Int32).toInt = 1 := by decide
      omega)
    obtain ⟨n, hn, rfl⟩ := nI_of2 (n := 12) (by decide) x0 d
    have hn1 : 1 ≤ n := by
      rcases Nat.eq_zero_or_pos n with q | q
      · rw [q] at c; exact absurd (by decide) c
      · exact q
    obtain ⟨I1', hc, hA, hF⟩ := c_make (D := 896) (I := I1) (J := J1) hW4 hn
    refine ⟨1, I1', J1, mj_up I2 0 63 (nI n), J2, mj_mk (D := 899) (e236 _ ?_), mj_mk (D := 899) (e88 _ ?_), n, ?_⟩
    · rw [if_neg c, if_pos d, show ((0 : Int32)).toNatClampNeg = 0 from rfl, a1]
      exact ⟨vp_in_nI (n := 0) (by decide) (by decide), trivial, _, _, hc, Or.inr rfl, rfl⟩
    · exact ⟨trivial, _, _, _, r_is, if_tf (fun _ => ⟨Or.inr rfl, rfl⟩) (fun f => absurd ⟨c, fun q => absurd d (Int32.not_le.mpr q)⟩ f)⟩
    · refine Rl_G h (mkI_of fun q j h1 h2 => ?_) rfl (mkI_up rfl) rfl ?_
      · rw [hF q (fun e => by rw [e] at h1; exact absurd h1 (by decide)) (fun e => by rw [e] at h1; exact absurd h1 (by decide))]
      · obtain ⟨q0, q1, q2, q3⟩ := hA
        refine ⟨hn1, hn, q0, up_s, q1, q2, fun m r hr w x hx => ?_⟩
        have hl := (wl_ok hn hW4).2.2 r (List.mem_of_getElem? hr)
        have hw : w < W := by
          have := (List.getElem?_eq_some_iff.mp hx).1
          omega
        rw [q3 m r hr w hw, List.getD_eq_getElem?_getD, hx]
        rfl
  · refine AI.same 0 (mj_mk (D := 899) (e236 _ (by rw [if_neg c, if_neg d]; exact ⟨Or.inl rfl, rfl⟩))) (mj_mk (D := 899) (e88 _ ⟨trivial, _, _, _, r_is, if_tf (fun f => absurd (Int32.not_lt.mp f.2) d) (fun _ => ⟨Or.inl rfl, rfl⟩)⟩)) ⟨g, h⟩
end S59
end
section
/-! sayings: rather, unsay, agreement, agree -/
theorem wl_le : ∀ g, g < 13 → ∀ W, W < 5 → ((wl W g).all fun r => r.all fun x => decide (x ≤ 12)) = true := by decide +kernel
/-- bits of a set as a number -/
noncomputable def nb : Nat → (Nat → Prop) → Nat
  | 0, _ => 0
  | n + 1, p => nb n p + @ite _ (p n) (Classical.propDecidable (p n)) (2 ^ n) 0
theorem nb_t {n : Nat} {p : Nat → Prop} (h : p n) : nb (n + 1) p = nb n p + 2 ^ n := congrArg _ (@if_pos (p n) (Classical.propDecidable _) h _ _ _)
theorem nb_f {n : Nat} {p : Nat → Prop} (h : ¬ p n) : nb (n + 1) p = nb n p := congrArg _ (@if_neg (p n) (Classical.propDecidable _) h _ _ _)
theorem nb_lt {p : Nat → Prop} : ∀ {n : Nat}, nb n p < 2 ^ n
  | 0 => Nat.zero_lt_one
  | n + 1 => by
    have ih := nb_lt (p := p) (n := n)
    rw [Nat.pow_succ]
    rcases Classical.em (p n) with c | c
    · rw [nb_t c]; omega
    · rw [nb_f c]; omega
theorem or_add {n x : Nat} (h : x < 2 ^ n) : 2 ^ n + x = 2 ^ n ||| x := by
  have := Nat.two_pow_add_eq_or_of_lt h 1
  rwa [Nat.mul_one] at this
theorem nb_full {p : Nat → Prop} : ∀ {n : Nat}, nb n p = 2 ^ n - 1 ↔ ∀ i, i < n → p i
  | 0 => ⟨fun _ i hi => absurd hi (Nat.not_lt_zero i), fun _ => rfl⟩
  | n + 1 => by
    have ih := nb_full (p := p) (n := n)
    have hl := nb_lt (p := p) (n := n)
    have h2 := Nat.two_pow_pos n
    rw [Nat.pow_succ]
    rcases Classical.em (p n) with c | c
    · rw [nb_t c]
      constructor
      · intro q i hi
        by_cases e : i = n
        · rw [e]; exact c
        · exact ih.mp (by omega) i (by omega)
      · intro q
        have := ih.mpr fun i hi => q i (by omega)
        omega
    · rw [nb_f c]
      exact ⟨fun q => by omega, fun q => absurd (q n (by omega)) c⟩
theorem nb_bit {p : Nat → Prop} : ∀ {n i : Nat}, (nb n p).testBit i = true ↔ i < n ∧ p i
  | 0, i => by
    show (0 : Nat).testBit i = true ↔ _
    simp
  | n + 1, i => by
    have ih := nb_bit (p := p) (n := n) (i := i)
    have hl := nb_lt (p := p) (n := n)
    rcases Classical.em (p n) with c | c
    · rw [nb_t c, Nat.add_comm, or_add hl, Nat.testBit_or, Nat.testBit_two_pow, Bool.or_eq_true, ih, decide_eq_true_eq]
      constructor
      · rintro (q | ⟨q1, q2⟩)
        · exact ⟨by omega, q ▸ c⟩
        · exact ⟨by omega, q2⟩
      · rintro ⟨q1, q2⟩
        by_cases e : n = i
        · exact Or.inl e
        · exact Or.inr ⟨by omega, q2⟩
    · rw [nb_f c, ih]
      constructor
      · rintro ⟨q1, q2⟩; exact ⟨by omega, q2⟩
      · rintro ⟨q1, q2⟩
        by_cases e : i = n
        · exact absurd (e ▸ q2) c
        · exact ⟨by omega, q2⟩
theorem nx_or (a b : Nat) : nI a ||| nI b = nI (a ||| b) := by
  apply Int32.toBitVec_inj.1
  show BitVec.ofNat 32 a ||| BitVec.ofNat 32 b = BitVec.ofNat 32 (a ||| b)
  apply BitVec.eq_of_getLsbD_eq
  intro i hi
  simp [hi]
theorem sh1 {n : Nat} (h : n < 32) : (1 : Int32) <<< (nI n &&& 31) = nI (2 ^ n) := by
  have : ∀ n, n < 32 → (1 : Int32) <<< (nI n &&& 31) = nI (2 ^ n) := by decide +kernel
  exact this n h
theorem nb_or {n : Nat} {p : Nat → Prop} (hn : n < 31) (h : p n) : nI (nb n p) ||| ((1 : Int32) <<< (nI n &&& 31)) = nI (nb (n + 1) p) := by
  rw [sh1 (by omega), nx_or, nb_t h, Nat.or_comm, ← or_add nb_lt, Nat.add_comm]
theorem nb_or0 {n : Nat} {p : Nat → Prop} (h : ¬ p n) : nI (nb n p) ||| (0 : Int32) = nI (nb (n + 1) p) := by
  rw [show (0 : Int32) = nI 0 from rfl, nx_or, nb_f h, Nat.or_zero]
section S60
variable {D b W Rn Kn Tn Hn Un g : Nat} {I I1 I2 : Nat → Nat → Int32} {J J1 J2 : Nat → Nat → Int64}
theorem al_rather {x y : Int32} (h : Rl b W Rn Kn Tn Hn Un g I1 J1 I2 J2) : AI 256 105 [.int x, .int y] I1 J1 I2 J2 (Rl b W Rn Kn Tn Hn Un g) := by
  obtain ⟨w1, w2, w3, w4⟩ := h.W24
  have hB := h.rB
  obtain ⟨n, n1, n2, n3, n4⟩ := h.2.2.2.2.2.2.2.2.1
  have bad : ∀ (hc : C1 900 256 [.ref 0, .int x, .int y] I1 J1 (.int (-1)) I1 J1) (hr : C2 900 105 [.ref 0, .int x, .int y] I2 J2 (.int (-1)) I2 J2), AI 256 105 [.int x, .int y] I1 J1 I2 J2 (Rl b W Rn Kn Tn Hn Un g) := fun hc hr => AI.same (-1) hc hr h
  rcases Classical.em (∃ j, j < Rn ∧ x = nI j) with p | p
  · rcases Classical.em (∃ j, j < Rn ∧ y = nI j) with q | q
    · obtain ⟨r, hr, rfl⟩ := p
      obtain ⟨u, hu, rfl⟩ := q
      by_cases ok : ¬ lbit (J1 24 5) r ∧ ¬ lbit (J1 24 5) u ∧ r ≠ u ∧ n < 12
      · obtain ⟨ok1, ok2, ok3, ok4⟩ := ok
        refine ⟨nI (n + 1), mj_up (mj_up (mj_up I1 54 n (nI r)) 55 n (nI u)) 53 0 (nI (n + 1)), J1, mj_up (mj_up (mj_up I2 43 n (nI r)) 44 n (nI u)) 0 68 (nI (n + 1)), J2, mj_mk (D := 899) (e256 _ _ ?_), mj_mk (D := 899) (e105 _ _ ?_), ?_⟩
        · refine ⟨trivial, _, _, _, c_judged (n := Rn) w1 w2, if_tf (fun c => ?_) (fun c => absurd ((c_jud hr).mpr ok1) c)⟩
          refine ⟨trivial, _, _, _, c_judged (n := Rn) w1 w2, if_tf (fun d => ?_) (fun d => absurd ((c_jud hu).mpr ok2) d)⟩
          refine if_eq (by omega) (by omega) (fun e => absurd e ok3) (fun _ => ?_)
          rw [n2]
          refine if_lt (b := 12) (by omega) (by decide) (fun _ => ?_) (fun e => absurd e (by omega))
          refine ⟨trivial, _, _, _, mj_mk (e257 _ _ ?_), rfl⟩
          rw [n2, nI_clamp (by omega), nI_1]
          exact ⟨vp_in_nI ok4 (by decide), vp_in_nI ok4 (by decide), rfl⟩
        · refine ⟨trivial, _, _, _, r_isRow hB, if_tf (fun _ => ?_) (fun f => absurd ⟨r, hr, rfl⟩ f)⟩
          refine ⟨trivial, _, _, _, r_isRow hB, if_tf (fun _ => ?_) (fun f => absurd ⟨u, hu, rfl⟩ f)⟩
          refine if_eq (by omega) (by omega) (fun e => absurd e ok3) (fun _ => ?_)
          refine ⟨trivial, _, _, _, r_isAside hB (by omega), if_tf (fun c => absurd ((h.asd hr).mp c) ok1) (fun _ => ?_)⟩
          refine ⟨trivial, _, _, _, r_isAside hB (by omega), if_tf (fun c => absurd ((h.asd hu).mp c) ok2) (fun _ => ?_)⟩
          rw [n3]
          refine if_eq (b := 12) (by omega) (by decide) (fun e => absurd e (by omega)) (fun _ => ?_)
          rw [nI_clamp (by omega), nI_1]
          exact ⟨vp_in_nI ok4 (by decide), vp_in_nI ok4 (by decide), rfl⟩
        · refine Rl_S h ?_ rfl ?_ rfl ?_
          · rw [mkI_up rfl, mkI_up rfl, mkI_up rfl]
          · rw [mkI_up rfl, mkI_up rfl, mkI_up rfl]
          · refine ⟨n + 1, by omega, up_s, up_s, fun i hi => ?_⟩
            have c43 : mj_up (mj_up (mj_up I2 43 n (nI r)) 44 n (nI u)) 0 68 (nI (n + 1)) 43 = mj_up I2 43 n (nI r) 43 := by rw [up_c (q := 0) (by decide), up_c (q := 44) (by decide)]
            have c44 : mj_up (mj_up (mj_up I2 43 n (nI r)) 44 n (nI u)) 0 68 (nI (n + 1)) 44 = mj_up (mj_up I2 43 n (nI r)) 44 n (nI u) 44 := by rw [up_c (q := 0) (by decide)]
            have c54 : mj_up (mj_up (mj_up I1 54 n (nI r)) 55 n (nI u)) 53 0 (nI (n + 1)) 54 = mj_up I1 54 n (nI r) 54 := by rw [up_c (q := 53) (by decide), up_c (q := 55) (by decide)]
            have c55 : mj_up (mj_up (mj_up I1 54 n (nI r)) 55 n (nI u)) 53 0 (nI (n + 1)) 55 = mj_up (mj_up I1 54 n (nI r)) 55 n (nI u) 55 := by rw [up_c (q := 53) (by decide)]
            rw [c43, c44, c54, c55]
            by_cases e : i = n
            · subst e
              rw [up_s, up_s, up_s, up_s]
              exact ⟨rfl, rfl, r, u, hr, hu, rfl, rfl⟩
            · rw [up_j e, up_j e, up_j e, up_j e, up_c (k := 44) (q := 43) (by decide), up_c (k := 55) (q := 54) (by decide)]
              exact n4 i (by omega)
      · refine bad (mj_mk (D := 899) (e256 _ _ ?_)) (mj_mk (D := 899) (e105 _ _ ?_))
        · refine ⟨trivial, _, _, _, c_judged (n := Rn) w1 w2, if_tf (fun c => ?_) (fun c => rfl)⟩
          refine ⟨trivial, _, _, _, c_judged (n := Rn) w1 w2, if_tf (fun d => ?_) (fun d => rfl)⟩
          refine if_eq (by omega) (by omega) (fun e => rfl) (fun e => ?_)
          rw [n2]
          exact if_lt (b := 12) (by omega) (by decide) (fun f => absurd ⟨(c_jud hr).mp c, (c_jud hu).mp d, e, f⟩ ok) (fun _ => rfl)
        · refine ⟨trivial, _, _, _, r_isRow hB, if_tf (fun _ => ?_) (fun f => absurd ⟨r, hr, rfl⟩ f)⟩
          refine ⟨trivial, _, _, _, r_isRow hB, if_tf (fun _ => ?_) (fun f => absurd ⟨u, hu, rfl⟩ f)⟩
          refine if_eq (by omega) (by omega) (fun e => rfl) (fun e => ?_)
          refine ⟨trivial, _, _, _, r_isAside hB (by omega), if_tf (fun c => rfl) (fun c => ?_)⟩
          refine ⟨trivial, _, _, _, r_isAside hB (by omega), if_tf (fun d => rfl) (fun d => ?_)⟩
          rw [n3]
          refine if_eq (b := 12) (by omega) (by decide) (fun _ => rfl) (fun f => absurd ⟨fun z => c ((h.asd hr).mpr z), fun z => d ((h.asd hu).mpr z), e, by omega⟩ ok)
    · refine bad (mj_mk (D := 899) (e256 _ _ ?_)) (mj_mk (D := 899) (e105 _ _ ?_))
      · refine ⟨trivial, _, _, _, c_judged (n := Rn) w1 w2, if_tf (fun c => ?_) (fun c => rfl)⟩
        exact ⟨trivial, _, _, _, c_judged (n := Rn) w1 w2, if_tf (fun ⟨j, hj, e, _⟩ => absurd ⟨j, hj, e⟩ q) (fun _ => rfl)⟩
      · refine ⟨trivial, _, _, _, r_isRow hB, if_tf (fun _ => ?_) (fun f => absurd p f)⟩
        exact ⟨trivial, _, _, _, r_isRow hB, if_tf (fun f => absurd f q) (fun _ => rfl)⟩
  · refine bad (mj_mk (D := 899) (e256 _ _ ?_)) (mj_mk (D := 899) (e105 _ _ ?_))
    · exact ⟨trivial, _, _, _, c_judged (n := Rn) w1 w2, if_tf (fun ⟨j, hj, e, _⟩ => absurd ⟨j, hj, e⟩ p) (fun _ => rfl)⟩
    · exact ⟨trivial, _, _, _, r_isRow hB, if_tf (fun f => absurd f p) (fun _ => rfl)⟩
theorem al_unsay (h : Rl b W Rn Kn Tn Hn Un g I1 J1 I2 J2) : AI 258 106 [] I1 J1 I2 J2 (Rl b W Rn Kn Tn Hn Un g) := by
  obtain ⟨n, n1, n2, n3, n4⟩ := h.2.2.2.2.2.2.2.2.1
  cases n with
  | zero => exact AI.same (-1) (mj_mk (D := 899) (e258 (by rw [n2]; rfl))) (mj_mk (D := 899) (e106 (by rw [n3]; rfl))) h
  | succ n =>
    refine ⟨nI n, mj_up I1 53 0 (nI n), J1, mj_up I2 0 68 (nI n), J2, mj_mk (D := 899) (e258 ?_), mj_mk (D := 899) (e106 ?_), ?_⟩
    · rw [n2, if_neg (nI_ne0 (by omega) (by omega)), n1_sub]
    · rw [n3, if_neg (nI_ne0 (by omega) (by omega)), n1_sub]
    · refine Rl_S h (mkI_up rfl) rfl (mkI_up rfl) rfl ⟨n, by omega, up_s, up_s, fun i hi => ?_⟩
      rw [up_c (k := 43) (by decide), up_c (k := 44) (by decide), up_c (k := 54) (by decide), up_c (k := 55) (by decide)]
      exact n4 i (by omega)
/-- a row's worth by r -/
def rwo (I : Nat → Nat → Int32) (W : Nat) (r : List Nat) (u : Nat) : Int32 := wo r (fun w => I 25 (4 * u + w)) W
/-- saying s is agreed with by r -/
def saA (I : Nat → Nat → Int32) (J : Nat → Nat → Int64) (W s : Nat) (r : List Nat) : Prop := lbit (J 24 5) (I 54 s).toNatClampNeg ∨ lbit (J 24 5) (I 55 s).toNatClampNeg ∨ rwo I W r (I 54 s).toNatClampNeg ≤ rwo I W r (I 55 s).toNatClampNeg
def sAg (I : Nat → Nat → Int32) (J : Nat → Nat → Int64) (W n : Nat) (r : List Nat) : Prop := ∀ s, s < n → saA I J W s r
theorem c_sayAg {s n : Nat} {r : List Nat} {x y : Nat} (w1 : I 24 0 = nI Rn) (w2 : Rn ≤ 40) (h1 : I 51 1 = nI W) (hW : W ≤ 4) (hs : s < 12) (hx : I 54 s = nI x) (hy : I 55 s = nI y) (hx2 : x < Rn) (hy2 : y < Rn) (hn : n < 455) (hr : wro I W n r) : C1 (D + 3) 261 [.ref 53, .int (nI s), .int (nI n), .ref 51, .ref 24] I J (.int (tf (saA I J W s r))) I J := by
  have e : saA I J W s r ↔ lbit (J 24 5) x ∨ lbit (J 24 5) y ∨ rwo I W r x ≤ rwo I W r y := by
    unfold saA
    rw [hx, hy, nI_clamp (by omega), nI_clamp (by omega)]
  rw [tf_iff e]
  refine mj_mk (e261 _ _ ?_)
  rw [nI_clamp (by omega), hx, hy, ix4m, ix4m]
  have hv : vp_in (nI s) 12 := vp_in_nI hs (by decide)
  refine ⟨hv, hv, trivial, _, _, _, c_judged (n := Rn) w1 w2, if_tf (fun c => ?_) (fun c => mzT (Or.inl (Classical.byContradiction fun q => c ((c_jud hx2).mpr q))))⟩
  refine ⟨trivial, _, _, _, c_judged (n := Rn) w1 w2, if_tf (fun d => ?_) (fun d => mzT (Or.inr (Or.inl (Classical.byContradiction fun q => d ((c_jud hy2).mpr q)))))⟩
  have c := (c_jud hx2).mp c
  have d := (c_jud hy2).mp d
  refine ⟨trivial, _, _, _, c_weigh_a h1 hW hn (by omega) hr, trivial, _, _, _, c_weigh_a h1 hW hn (by omega) hr, if_i (fun f => mzF ?_) (fun f => mzT (Or.inr (Or.inr (Int32.not_lt.mp f))))⟩
  rintro (q | q | q)
  · exact c q
  · exact d q
  · exact absurd q (Int32.not_le.mpr f)
/-- how many sayings, and what they are -/
theorem Rl.S (h : Rl b W Rn Kn Tn Hn Un g I1 J1 I2 J2) : ∃ n, n ≤ 12 ∧ I1 53 0 = nI n ∧ I2 0 68 = nI n ∧ ∀ i, i < n → ∃ x y, x < Rn ∧ y < Rn ∧ I1 54 i = nI x ∧ I1 55 i = nI y ∧ I2 43 i = nI x ∧ I2 44 i = nI y := by
  obtain ⟨n, n1, n2, n3, n4⟩ := h.2.2.2.2.2.2.2.2.1
  refine ⟨n, n1, n2, n3, fun i hi => ?_⟩
  obtain ⟨q1, q2, x, y, q3, q4, q5, q6⟩ := n4 i hi
  exact ⟨x, y, q3, q4, q5, q6, by rw [q1, q5], by rw [q2, q6]⟩
theorem c_isAg (h : Rl b W Rn Kn Tn Hn Un g I1 J1 I2 J2) {n S : Nat} {r : List Nat} (hS : I1 53 0 = nI S) (hS2 : S ≤ 12) (e1 : k1 I = k1 I1) (hr : (wl W g)[n]? = some r) : C1 (D + 4) 260 [.ref 53, .int (nI n), .ref 51, .ref 24] I J1 (.int (tf (sAg I1 J1 W S r))) I J1 := by
  obtain ⟨S', s1, s2, s3, s4⟩ := h.S
  obtain ⟨hG, g1, g2, g3, g4, g5⟩ := h.G
  obtain ⟨w1, w2, w3, w4⟩ := h.W24
  have hn : n < 455 := by
    have := (List.getElem?_eq_some_iff.mp hr).1
    omega
  obtain rfl : S = S' := by rw [hS] at s2; exact (nI_eq (by omega) (by omega)).mp s2
  have hsa : ∀ s, saA I J1 W s r ↔ saA I1 J1 W s r := fun s => by
    unfold saA rwo
    rw [k1_at e1 (q := 54) rfl, k1_at e1 (q := 55) rfl]
    rw [wo_c (f' := fun w => I1 25 (4 * (I1 54 s).toNatClampNeg + w)) fun w _ => k1_at e1 rfl, wo_c (f' := fun w => I1 25 (4 * (I1 55 s).toNatClampNeg + w)) fun w _ => k1_at e1 rfl]
  have hwr : wro I W n r := fun w hw => by rw [k1_at e1 rfl]; exact h.wr hr w hw
  refine mj_mk (e260 _ ?_)
  refine lp_up (n := S) (fun i => (∀ s, s < i → saA I1 J1 W s r) → E1 260 (D + 3) (fun q => q = (.int (tf (sAg I1 J1 W S r)), (I, J1, mj_R1))) 3 [(0, .ref 53), (1, .int (nI n)), (2, .ref 51), (3, .ref 24), (4, .int (nI i))] I J1) (fun i hi ih hp => ?_) 0 (Nat.zero_le _) (fun s hs => absurd hs (Nat.not_lt_zero s))
  refine mj_on (s260_3 _ _ ?_)
  rw [k1_at e1 (q := 53) (j := 0) rfl, s2, nI_1]
  refine if_le (by omega) (by omega) (fun c => mzT fun s hs => hp s (by omega)) (fun c => ?_)
  obtain ⟨x, y, q1, q2, q3, q4, -, -⟩ := s4 i c
  refine ⟨trivial, _, _, _, c_sayAg (by rw [k1_at e1 rfl]; exact w1) w2 (by rw [k1_at e1 rfl]; exact g3) w4 (by omega) (by rw [k1_at e1 rfl]; exact q3) (by rw [k1_at e1 rfl]; exact q4) q1 q2 hn hwr, if_tf (fun d => ?_) (fun d => mzF fun q => d ((hsa i).mpr (q i c)))⟩
  refine ih c fun s hs => ?_
  by_cases e : s = i
  · rw [e]; exact (hsa i).mp d
  · exact hp s (by omega)
-- the reference
theorem r_rowWorth (h : Rl b W Rn Kn Tn Hn Un g I1 J1 I2 J2) {u : Nat} {r : List Nat} (e2 : k2 I = k2 I2) (hu : u < Rn) (hr : wgh I W r) : C2 (D + 3) 110 [.ref 0, .int (nI u)] I J (.int (rwo I1 W r u)) I J := by
  have hB := rB_k h.rB e2
  obtain ⟨b1, b2, b3, b4, b5, b6⟩ := id hB
  have hL : ∀ w, w < W → rL I b u w = I1 25 (4 * u + w) := fun w hw => by
    rw [← h.ls hu hw]
    unfold rL
    rw [k2_at e2 rfl, k2_at e2 rfl]
  refine mj_mk (e110 _ ?_)
  unfold rwo
  refine lp_up (n := W) (fun i => E2 110 (D + 2) (fun q => q = (.int (wo r (fun w => I1 25 (4 * u + w)) W), (I, J, mj_R2))) 4 [(0, .ref 0), (1, .int (nI u)), (2, .int (wo r (fun w => I1 25 (4 * u + w)) i)), (3, .int (nI i))] I J) (fun i hi ih => ?_) 0 (Nat.zero_le _)
  refine mj_on (s110_4 _ _ _ ?_)
  rw [b1, nI_clamp (by omega), b3, nI_1, nI_clamp (by omega)]
  refine ⟨vp_in_nI b2 (by decide), if_le (by omega) (by omega) (fun c => ?_) (fun c => ⟨vp_in_nI (by omega) (by decide), trivial, _, _, _, r_rowLoss hB (by omega) c, ?_⟩)⟩
  · obtain rfl : i = W := by omega
    rfl
  · rw [hr i c, hL i c]
    exact ih c
theorem r_agreed (h : Rl b W Rn Kn Tn Hn Un g I1 J1 I2 J2) {S : Nat} {r : List Nat} (e2 : k2 I = k2 I2) (hS : I1 53 0 = nI S) (hS2 : S ≤ 12) (hr : wgh I W r) : C2 (D + 4) 109 [.ref 0] I J (.int (nI (nb S (fun s => saA I1 J1 W s r)))) I J := by
  have hB := rB_k h.rB e2
  obtain ⟨S', s1, s2, s3, s4⟩ := h.S
  obtain rfl : S = S' := by rw [hS] at s2; exact (nI_eq (by omega) (by omega)).mp s2
  refine mj_mk (e109 ?_)
  refine lp_up (n := S) (fun i => E2 109 (D + 3) (fun q => q = (.int (nI (nb S (fun s => saA I1 J1 W s r))), (I, J, mj_R2))) 4 [(0, .ref 0), (1, .int (nI (nb i (fun s => saA I1 J1 W s r)))), (2, .int (nI i))] I J) (fun i hi ih => ?_) 0 (Nat.zero_le _)
  refine mj_on (s109_4 _ _ ?_)
  rw [k2_at e2 (q := 0) (j := 68) rfl, s3, nI_1, nI_clamp (by omega)]
  refine if_le (by omega) (by omega) (fun c => ?_) (fun c => ?_)
  · obtain rfl : i = S := by omega
    rfl
  obtain ⟨x, y, q1, q2, q3, q4, q5, q6⟩ := s4 i c
  have hB6 := hB.2.2.2.2.2
  have hv : vp_in (nI i) 12 := vp_in_nI (by omega) (by decide)
  have e : saA I1 J1 W i r ↔ lbit (J1 24 5) x ∨ lbit (J1 24 5) y ∨ rwo I1 W r x ≤ rwo I1 W r y := by
    unfold saA
    rw [q3, q4, nI_clamp (by omega), nI_clamp (by omega)]
  have as : ∀ {u}, u < Rn → (rA I b W u ↔ lbit (J1 24 5) u) := fun {u} hu => by
    rw [← h.asd hu]
    unfold rA
    exact exists_congr fun w => by rw [k2_at e2 rfl]
  have yes : saA I1 J1 W i r → E2 109 (D + 3) (fun q => q = (.int (nI (nb S (fun s => saA I1 J1 W s r))), (I, J, mj_R2))) 4 [(0, .ref 0), (1, .int (nI (nb i (fun s => saA I1 J1 W s r)) ||| ((1 : Int32) <<< (nI i &&& 31)))), (2, .int (nI (i + 1)))] I J := fun q => by
    rw [nb_or (by omega) q]
    exact ih c
  have r43 : I 43 i = nI x := by rw [k2_at e2 rfl, q5]
  have r44 : I 44 i = nI y := by rw [k2_at e2 rfl, q6]
  rw [r43]
  refine ⟨hv, trivial, _, _, _, r_isAside hB (by omega), if_tf (fun d => yes (e.mpr (Or.inl ((as q1).mp d)))) (fun d => ?_)⟩
  rw [r44]
  refine ⟨hv, trivial, _, _, _, r_isAside hB (by omega), if_tf (fun f => yes (e.mpr (Or.inr (Or.inl ((as q2).mp f))))) (fun f => ?_)⟩
  rw [r43]
  refine ⟨hv, trivial, _, _, _, r_rowWorth h e2 q1 hr, ?_⟩
  rw [r44]
  refine ⟨hv, trivial, _, _, _, r_rowWorth h e2 q2 hr, if_i (fun z => ?_) (fun z => yes (e.mpr (Or.inr (Or.inr (Int32.not_lt.mp z)))))⟩
  rw [nb_or0]
  · exact ih c
  · intro q
    rcases e.mp q with q | q | q
    · exact d ((as q1).mpr q)
    · exact f ((as q2).mpr q)
    · exact absurd q (Int32.not_le.mpr z)
theorem r_agrees (h : Rl b W Rn Kn Tn Hn Un g I1 J1 I2 J2) {S : Nat} {r : List Nat} (e2 : k2 I = k2 I2) (hS : I1 53 0 = nI S) (hS2 : S ≤ 12) (hr : wgh I W r) : C2 (D + 5) 108 [.ref 0] I J (.int (tf (sAg I1 J1 W S r))) I J := by
  obtain ⟨S', s1, s2, s3, s4⟩ := h.S
  obtain rfl : S = S' := by rw [hS] at s2; exact (nI_eq (by omega) (by omega)).mp s2
  refine mj_mk (e108 ?_)
  refine ⟨trivial, _, _, _, r_agreed h e2 hS hS2 hr, ?_⟩
  have hp := Nat.two_pow_pos S
  have hp2 : 2 ^ S ≤ 2 ^ 12 := Nat.pow_le_pow_right (by decide) hS2
  have hl := nb_lt (n := S) (p := fun s => saA I1 J1 W s r)
  rw [k2_at e2 (q := 0) (j := 68) rfl, s3, sh1 (by omega), show (1 : Int32) = nI 1 from rfl, pk_sub hp]
  refine if_eq (by omega) (by omega) (fun c => mzT (nb_full.mp c)) (fun c => mzF fun q => c (nb_full.mpr q))
end S60
end
section
/-! agree, could, stop: by weighings that agree -/
noncomputable def fl (P : List Nat → Prop) (l : List (List Nat)) : List (List Nat) := l.filter (fun r => @decide (P r) (Classical.propDecidable _))
theorem fl_t {P : List Nat → Prop} {l : List (List Nat)} {r : List Nat} (h : P r) : fl P (l ++ [r]) = fl P l ++ [r] := by
  unfold fl
  rw [List.filter_append]
  simp [h]
theorem fl_f {P : List Nat → Prop} {l : List (List Nat)} {r : List Nat} (h : ¬ P r) : fl P (l ++ [r]) = fl P l := by
  unfold fl
  rw [List.filter_append]
  simp [h]
theorem fl_len {P : List Nat → Prop} {l : List (List Nat)} : (fl P l).length ≤ l.length := List.length_filter_le _ _
theorem fl_mem {P : List Nat → Prop} {l : List (List Nat)} {r : List Nat} (h : r ∈ fl P l) : r ∈ l := (List.mem_filter.mp h).1
noncomputable def lor (f : List Nat → Int64) (l : List (List Nat)) : Int64 := l.foldl (fun a r => a ||| f r) 0
theorem lor_s {f : List Nat → Int64} {l : List (List Nat)} {r : List Nat} : lor f (l ++ [r]) = lor f l ||| f r := by
  unfold lor
  rw [List.foldl_append]
  rfl
theorem bs_0 {p : Nat → Prop} : ∀ {n : Nat}, (∀ i, i < n → ¬ p i) → bs n p = 0
  | 0, _ => rfl
  | n + 1, h => by rw [bs_f0 (h n (by omega)), bs_0 fun i hi => h i (by omega)]
theorem wo_rng {r : List Nat} {f : Nat → Int32} (hr : ∀ i, r.getD i 0 ≤ 12) : ∀ {k : Nat}, k ≤ 4 → (∀ w, w < k → ∃ y : Int, -9999 ≤ y ∧ y ≤ 9999 ∧ f w = iI y) → ∃ z : Int, -(119988 * (k : Int)) ≤ z ∧ z ≤ 119988 * (k : Int) ∧ wo r f k = iI z
  | 0, _, _ => ⟨0, by omega, by omega, rfl⟩
  | k + 1, hk, h => by
    obtain ⟨z, z1, z2, z3⟩ := wo_rng hr (k := k) (by omega) fun w hw => h w (by omega)
    obtain ⟨y, y1, y2, y3⟩ := h k (by omega)
    have h12 := hr k
    obtain ⟨m, hm⟩ : ∃ m, m = r.getD k 0 := ⟨_, rfl⟩
    rw [← hm] at h12
    refine ⟨z + m * y, ?_, ?_, ?_⟩
    · have : (m : Int) * y ≥ -(12 * 9999) := by
        have h1 : (m : Int) * y ≥ (m : Int) * (-9999) := Int.mul_le_mul_of_nonneg_left y1 (by omega)
        omega
      omega
    · have : (m : Int) * y ≤ 12 * 9999 := by
        have h1 : (m : Int) * y ≤ (m : Int) * 9999 := Int.mul_le_mul_of_nonneg_left y2 (by omega)
        omega
      omega
    · show wo r f k + nI (r.getD k 0) * f k = _
      rw [z3, y3, ← hm, ← iI_nI, iI_mul, iI_add]
section S61
variable {D b W Rn Kn Tn Hn Un g : Nat} {I I1 I2 : Nat → Nat → Int32} {J J1 J2 : Nat → Nat → Int64}
theorem Rl.lrng (h : Rl b W Rn Kn Tn Hn Un g I1 J1 I2 J2) {u w : Nat} (hu : u < Rn) (hw : w < W) : ∃ y : Int, -9999 ≤ y ∧ y ≤ 9999 ∧ I1 25 (4 * u + w) = iI y := by
  obtain ⟨-, -, -, h4, -⟩ := h.2.2.2.2.1
  rw [(h4 u hu w hw).1]
  have := lo_rng (m := I1 4 w) (h.2.1.2.2.1 u hu w hw).2.1
  exact ⟨_, this.1, this.2, iI_of _⟩
theorem Rl.rle (h : Rl b W Rn Kn Tn Hn Un g I1 J1 I2 J2) {r : List Nat} (hr : r ∈ wl W g) (i : Nat) : r.getD i 0 ≤ 12 := by
  obtain ⟨hG, -⟩ := h.G
  have hW := h.rB.2.2.2.1
  have h1 := List.all_eq_true.mp (wl_le g (by have := hG.2; omega) W (by omega)) r hr
  have h2 := List.all_eq_true.mp h1
  rw [List.getD_eq_getElem?_getD]
  cases hc : r[i]? with
  | none => exact Nat.zero_le _
  | some x => exact of_decide_eq_true (h2 x (List.mem_of_getElem? hc))
theorem Rl.wrng (h : Rl b W Rn Kn Tn Hn Un g I1 J1 I2 J2) {r : List Nat} (hr : r ∈ wl W g) {u : Nat} (hu : u < Rn) : ∃ z : Int, -479952 ≤ z ∧ z ≤ 479952 ∧ rwo I1 W r u = iI z := by
  have hW := h.rB.2.2.2.1
  obtain ⟨z, z1, z2, z3⟩ := wo_rng (f := fun w => I1 25 (4 * u + w)) (h.rle hr) hW fun w hw => h.lrng hu hw
  exact ⟨z, by omega, by omega, z3⟩
/-- among p, those by whom none is better by more than d -/
def fbP (n : Nat) (p : Nat → Prop) (v : Nat → Int32) (d : Int) (u : Nat) : Prop := p u ∧ ∀ o, o < n → p o → (v u).toInt ≤ (v o).toInt + d
noncomputable def fb (I : Nat → Nat → Int32) (J : Nat → Nat → Int64) (W Rn : Nat) (d : Int) (r : List Nat) : Int64 := bs Rn (fbP Rn (lbit (J 24 6)) (rwo I W r) d)
theorem c_min {x y : Int32} : C1 (D + 1) 0 [.int x, .int y] I J (.int (if y < x then y else x)) I J := by
  refine mj_mk (e0 _ _ ?_)
  exact if_i (fun c => mqi (if_pos c).symm) (fun c => mqi (if_neg c).symm)
theorem c_firstBy (h : Rl b W Rn Kn Tn Hn Un g I1 J1 I2 J2) {n d : Nat} {r : List Nat} (e1 : k1 I = k1 I1) (hr : (wl W g)[n]? = some r) (hd : d ≤ 200000) : ∃ I', C1 (D + 2) 263 [.ref 24, .int (nI n), .ref 51, .int (nI d)] I J1 (.long (fb I1 J1 W Rn d r)) I' J1 ∧ (∀ q, q ≠ 28 → I' q = I q) ∧ ∀ u, u < Rn → I' 28 u = rwo I1 W r u := by
  obtain ⟨hG, g1, g2, g3, g4, g5⟩ := h.G
  obtain ⟨w1, w2, w3, w4⟩ := h.W24
  have hn : n < 455 := by
    have := (List.getElem?_eq_some_iff.mp hr).1
    omega
  have hrm := List.mem_of_getElem? hr
  suffices hs : ∃ v I' J', C1 (D + 2) 263 [.ref 24, .int (nI n), .ref 51, .int (nI d)] I J1 (.long v) I' J' ∧ (v = fb I1 J1 W Rn d r ∧ J' = J1 ∧ (∀ q, q ≠ 28 → I' q = I q) ∧ ∀ u, u < Rn → I' 28 u = rwo I1 W r u) by
    obtain ⟨v, I', J', hc, rfl, rfl, q1, q2⟩ := hs
    exact ⟨I', hc, q1, q2⟩
  refine mj_cL (e263 _ _ ?_)
  obtain ⟨Q, hQ⟩ : ∃ Q, Q = qL mj_R1 (fun v I' J' => v = fb I1 J1 W Rn d r ∧ J' = J1 ∧ (∀ q, q ≠ 28 → I' q = I q) ∧ ∀ u, u < Rn → I' 28 u = rwo I1 W r u) := ⟨_, rfl⟩
  rw [← hQ]
  have lst := lp_up (n := Rn) (fun i => ∀ I0 x4, (∀ q, q ≠ 28 → I0 q = I q) → (∀ u, u < i → I0 28 u = rwo I1 W r u) → ((x4 = (2000000000 : Int32) ∧ ∀ o, o < i → ¬ lbit (J1 24 6) o) ∨ (∃ o, o < i ∧ lbit (J1 24 6) o ∧ x4 = rwo I1 W r o ∧ ∀ p, p < i → lbit (J1 24 6) p → rwo I1 W r o ≤ rwo I1 W r p)) →
    E1 263 (D + 1) Q 7 [(0, .ref 24), (1, .int (nI n)), (2, .ref 51), (3, .int (nI d)), (4, .int x4), (5, .int (nI i))] I0 J1) (fun i hi ih I0 x4 hF hw hm => ?_) 0 (Nat.zero_le _) I _ (fun _ _ => rfl) (fun u hu => absurd hu (Nat.not_lt_zero u)) (Or.inl ⟨rfl, fun o ho => absurd ho (Nat.not_lt_zero o)⟩)
  · exact lst
  refine mj_on (s263_7 _ _ _ _ ?_)
  rw [hF 24 (by decide), k1_at e1 (q := 24) (j := 0) rfl, w1, ix4m, nI_1]
  refine if_le (by omega) (by omega) (fun c => ?_) (fun c => ?_)
  · -- the second loop
    obtain rfl : i = Rn := by omega
    have l2 := lp_up (n := i) (fun k => E1 263 (D + 1) Q 74 [(0, .ref 24), (3, .int (nI d)), (4, .int x4), (5, .long (bs k (fbP i (lbit (J1 24 6)) (rwo I1 W r) d))), (7, .int (nI k))] I0 J1) (fun k hk ih2 => ?_) 0 (Nat.zero_le _)
    · exact l2
    refine mj_on (s263_74 _ _ _ _ ?_)
    rw [hF 24 (by decide), k1_at e1 (q := 24) (j := 0) rfl, w1, nI_1]
    refine if_le (by omega) (by omega) (fun c2 => ?_) (fun c2 => ?_)
    · obtain rfl : k = i := by omega
      rw [hQ]
      exact ⟨_, _, _, rfl, rfl, rfl, hF, hw⟩
    refine ⟨trivial, _, _, _, c_isIn (by omega), if_tf (fun f => ?_) (fun f => ?_)⟩
    · rw [nI_clamp (by omega), hw k c2]
      rcases hm with ⟨-, q⟩ | ⟨o, o1, o2, o3, o4⟩
      · exact absurd f (q k c2)
      obtain ⟨z, z1, z2, z3⟩ := h.wrng hrm c2
      obtain ⟨y, y1, y2, y3⟩ := h.wrng hrm o1
      have et : (nI d < rwo I1 W r k - x4) ↔ ¬ fbP i (lbit (J1 24 6)) (rwo I1 W r) d k := by
        rw [o3, z3, y3, iI_sub, ← iI_nI, Int32.lt_iff_toInt_lt, iI_toInt (by omega) (by omega), iI_toInt (by omega) (by omega)]
        constructor
        · intro q hp
          have := hp.2 o o1 o2
          rw [z3, y3, iI_toInt (by omega) (by omega), iI_toInt (by omega) (by omega)] at this
          omega
        · intro q
          refine Int.lt_of_not_ge fun q2 => q ⟨f, fun p p1 p2 => ?_⟩
          have h1 := Int32.le_iff_toInt_le.mp (o4 p p1 p2)
          rw [y3, iI_toInt (by omega) (by omega)] at h1
          rw [z3, iI_toInt (by omega) (by omega)]
          omega
      refine ⟨vp_in_nI (by omega) (by decide), if_i (fun q => ?_) (fun q => ?_)⟩
      · rw [← bs_f0 (n := k) (et.mp q)]
        exact ih2 c2
      · have q2 : fbP i (lbit (J1 24 6)) (rwo I1 W r) d k := Classical.byContradiction fun z => q (et.mpr z)
        rw [← bs_t (n := k) q2]
        exact ih2 c2
    · rw [← bs_f0 (n := k) (p := fbP i (lbit (J1 24 6)) (rwo I1 W r) d) (fun q => f q.1)]
      exact ih2 c2
  · have e1' : k1 I0 = k1 I1 := by
      rw [← e1]
      funext q j
      unfold k1
      by_cases e : q = 28
      · rw [e]; rfl
      · rw [hF q e]
    have hwr : wro I0 W n r := fun w hw => by rw [k1_at e1' rfl]; exact h.wr hr w hw
    have hwv : wo r (fun w => I0 25 (4 * i + w)) W = rwo I1 W r i := wo_c fun w _ => k1_at e1' rfl
    refine ⟨trivial, _, _, _, c_weigh_a (by rw [k1_at e1' rfl]; exact g3) w4 hn (by omega) hwr, vp_in_nI (by omega) (by decide), ?_⟩
    rw [nI_clamp (by omega), hwv]
    have hF2 : ∀ q, q ≠ 28 → mj_up I0 28 i (rwo I1 W r i) q = I q := fun q hq => by rw [up_c hq, hF q hq]
    have hw2 : ∀ u, u < i + 1 → mj_up I0 28 i (rwo I1 W r i) 28 u = rwo I1 W r u := fun u hu => by
      by_cases e : u = i
      · rw [e, up_s]
      · rw [up_j e]; exact hw u (by omega)
    refine ⟨trivial, _, _, _, c_isIn (by omega), if_tf (fun f => ?_) (fun f => ?_)⟩
    · refine ⟨vp_in_nI (by omega) (by decide), trivial, _, _, _, c_min, ?_⟩
      rw [hw2 i (by omega)]
      refine ih c _ _ hF2 hw2 (Or.inr ?_)
      obtain ⟨z, z1, z2, z3⟩ := h.wrng hrm c
      rcases hm with ⟨q1, q2⟩ | ⟨o, o1, o2, o3, o4⟩
      · refine ⟨i, by omega, f, ?_, fun p hp q => ?_⟩
        · rw [if_pos]
          rw [q1, z3, Int32.lt_iff_toInt_lt, iI_toInt (by omega) (by omega)]
          have : (2000000000 : Int32).toInt = 2000000000 := by decide
          omega
        · by_cases e : p = i
          · rw [e]; exact Int32.le_refl _
          · exact absurd q (q2 p (by omega))
      · by_cases lt : rwo I1 W r i < x4
        · rw [if_pos lt]
          refine ⟨i, by omega, f, rfl, fun p hp q => ?_⟩
          by_cases e : p = i
          · rw [e]; exact Int32.le_refl _
          · rw [o3] at lt
            exact Int32.le_trans (Int32.le_of_lt lt) (o4 p (by omega) q)
        · rw [if_neg lt]
          refine ⟨o, by omega, o2, o3, fun p hp q => ?_⟩
          by_cases e : p = i
          · rw [e, ← o3]; exact Int32.not_lt.mp lt
          · exact o4 p (by omega) q
    · refine ih c _ _ hF2 hw2 ?_
      rcases hm with ⟨q1, q2⟩ | ⟨o, o1, o2, o3, o4⟩
      · exact Or.inl ⟨q1, fun o ho => by
          by_cases e : o = i
          · rw [e]; exact f
          · exact q2 o (by omega)⟩
      · refine Or.inr ⟨o, by omega, o2, o3, fun p hp q => ?_⟩
        by_cases e : p = i
        · rw [e] at q; exact absurd q f
        · exact o4 p (by omega) q
theorem k1_28 {I' : Nat → Nat → Int32} (h : ∀ q, q ≠ 28 → I' q = I q) : k1 I' = k1 I := by
  funext q j
  unfold k1
  by_cases e : q = 28
  · rw [e]; rfl
  · rw [h q e]
theorem al_agree (h : Rl b W Rn Kn Tn Hn Un g I1 J1 I2 J2) : AI 259 107 [] I1 J1 I2 J2 (Rl b W Rn Kn Tn Hn Un g) := by
  obtain ⟨a1, a2, -⟩ := h.N
  have hB := h.rB
  obtain ⟨b1, b2, b3, b4, b5, b6⟩ := id hB
  obtain ⟨hG, g1, g2, g3, g4, g5⟩ := h.G
  obtain ⟨S, s1, s2, -, -⟩ := h.S
  by_cases hW : W = 0
  · refine AI.same (-1) (mj_mk (D := 899) (e259 ?_)) (mj_mk (D := 899) (e107 ?_)) h
    · rw [show ((0 : Int32)).toNatClampNeg = 0 from rfl, a1, hW]
      exact ⟨vp_in_nI (n := 0) (by decide) (by decide), rfl⟩
    · rw [b1, nI_clamp (by omega), b3, hW]
      exact ⟨vp_in_nI b2 (by decide), rfl⟩
  obtain ⟨P, hP⟩ : ∃ P, P = sAg I1 J1 W S := ⟨_, rfl⟩
  obtain ⟨v, hv⟩ : ∃ v, v = lct P (wl W g) := ⟨_, rfl⟩
  have cl : C1 900 259 [.ref 0] I1 J1 (.int (nI v)) I1 J1 := by
    refine mj_mk (D := 899) (e259 ?_)
    rw [show ((0 : Int32)).toNatClampNeg = 0 from rfl, a1, if_neg (nI_ne0 (by omega) (by omega))]
    refine ⟨vp_in_nI (n := 0) (by decide) (by decide), ?_⟩
    refine lp_up (n := (wl W g).length) (fun n => E1 259 899 (fun q => q = (.int (nI v), (I1, J1, mj_R1))) 18 [(0, .ref 0), (1, .int (nI (lct P ((wl W g).take n)))), (2, .int (nI n))] I1 J1) (fun n hn ih => ?_) 0 (Nat.zero_le _)
    refine mj_on (s259_18 _ _ ?_)
    rw [g4, nI_1, nI_1]
    refine if_le (by omega) (by omega) (fun c => ?_) (fun c => ?_)
    · rw [tk_e c, hv]
    · obtain ⟨r, hr, -, -⟩ := gt_of c
      have hs := ih c
      rw [tk_s hr] at hs
      refine ⟨trivial, _, _, _, c_isAg h s2 s1 rfl hr, if_tf (fun d => ?_) (fun d => ?_)⟩
      · rw [← hP] at d
        rw [lct_t d] at hs
        exact hs
      · rw [← hP] at d
        rw [lct_f d] at hs
        exact hs
  have hN : wnum g W ≤ 2197 := wnum_le hG.2 b4
  have rf : ∃ r I2' J2', C2 900 107 [.ref 0] I2 J2 (.int r) I2' J2' ∧ (r = nI v ∧ k2 I2' = k2 I2 ∧ J2' = J2) := by
    refine mj_cI (D := 899) (e107 ?_)
    rw [b1, nI_clamp (by omega), b3, if_neg (nI_ne0 (by omega) (by omega))]
    refine ⟨vp_in_nI b2 (by decide), ?_⟩
    refine lp_up (n := wnum g W) (fun n => ∀ I, k2 I = k2 I2 → E2 107 899 (qI mj_R2 (fun r I' J' => r = nI v ∧ k2 I' = k2 I2 ∧ J' = J2)) 18 [(0, .ref 0), (1, .int (nI (lct P (wpre g W n)))), (2, .int (nI n))] I J2) (fun n hn ih I hI => ?_) 0 (Nat.zero_le _) I2 rfl
    refine mj_on (s107_18 _ _ ?_)
    rw [show (0 : Int32) = nI 0 from rfl, nI_add, Nat.add_zero, nI_1, nI_1]
    refine ⟨trivial, _, _, _, r_numbers (rB_k hB hI) (rG_k hG hI), if_le (by omega) (by omega) (fun c => ?_) (fun c => ?_)⟩
    · obtain rfl : n = wnum g W := by omega
      refine ⟨_, _, _, rfl, ?_, hI, rfl⟩
      rw [hv]
      unfold wpre
      rw [(wl_ok hG.2 b4).1]
    · obtain ⟨I', hc, q1, q2⟩ := r_isWeighing (D := 898) (J := J2) (rB_k hB hI) (rG_k hG hI) (by omega) (show n < 2197 by omega)
      have hI' : k2 I' = k2 I2 := (k2_40 q1).trans hI
      refine ⟨trivial, _, _, _, hc, if_tf (fun d => ?_) (fun d => ?_)⟩
      · obtain ⟨r, hr⟩ := Option.ne_none_iff_exists'.mp d
        have hs := ih c I' hI'
        rw [wpre_t hr] at hs
        refine ⟨trivial, _, _, _, r_agrees h hI' s2 s1 (q2 r hr), if_tf (fun d => ?_) (fun d => ?_)⟩
        · rw [← hP] at d
          rw [lct_t d] at hs
          exact hs
        · rw [← hP] at d
          rw [lct_f d] at hs
          exact hs
      · have d : wval g W n = none := Classical.byContradiction fun q => d q
        have hs := ih c I' hI'
        rw [wpre_f d] at hs
        exact hs
  obtain ⟨r, I2', J2', hc, rfl, q1, rfl⟩ := rf
  exact ⟨_, I1, J1, I2', J2', cl, hc, Rl_same h rfl rfl q1 rfl⟩
end S61
end
section
/-! the reference gathers what agrees; could -/
theorem fbP_0 {n : Nat} {p : Nat → Prop} {v : Nat → Int32} {u : Nat} : fbP n p v 0 u ↔ p u ∧ ∀ o, o < n → p o → v u ≤ v o := by
  unfold fbP
  refine and_congr_right fun _ => forall_congr' fun o => forall_congr' fun _ => forall_congr' fun _ => ?_
  rw [Int.add_zero, Int32.le_iff_toInt_le]
section S62
variable {D b W Rn Kn Tn Hn Un g : Nat} {I I1 I2 : Nat → Nat → Int32} {J J1 J2 : Nat → Nat → Int64}
/-- what lies in the reference's rows of what agrees -/
def gaP (I1 : Nat → Nat → Int32) (J1 : Nat → Nat → Int64) (W Rn : Nat) (A : List (List Nat)) (I : Nat → Nat → Int32) (J : Nat → Nat → Int64) : Prop :=
  I 0 71 = nI A.length ∧ ∀ k r, A[k]? = some r → J 46 k = fb I1 J1 W Rn 0 r ∧ ∀ u, u < Rn → lbit (J1 24 6) u → I 45 (40 * k + u) = rwo I1 W r u
theorem r_gather (h : Rl b W Rn Kn Tn Hn Un g I1 J1 I2 J2) {S : Nat} (hS : I1 53 0 = nI S) (hS2 : S ≤ 12) : ∃ I' J', C2 (D + 7) 112 [.ref 0] I2 J2 .null I' J' ∧ k2 I' = k2 I2 ∧ kJ2 J' = kJ2 J2 ∧ gaP I1 J1 W Rn (fl (sAg I1 J1 W S) (wl W g)) I' J' := by
  have hB := h.rB
  obtain ⟨b1, b2, b3, b4, b5, b6⟩ := id hB
  obtain ⟨hG, -⟩ := h.G
  have hN : wnum g W ≤ 2197 := wnum_le hG.2 b4
  obtain ⟨P, hP⟩ : ∃ P, P = sAg I1 J1 W S := ⟨_, rfl⟩
  have hlen : (fl P (wl W g)).length ≤ 455 := Nat.le_trans fl_len (wl_ok hG.2 b4).2.1
  have hpre : ∀ x, x ≤ wnum g W → ∃ t, wpre g W x ++ t = wl W g := fun x hx => by
    have e := (wl_ok hG.2 b4).1
    refine ⟨(List.range' x (wnum g W - x)).filterMap (wval g W), ?_⟩
    unfold wpre
    rw [← List.filterMap_append, ← e]
    congr 1
    rw [List.range_eq_range', List.range_eq_range']
    have := List.range'_append_1 (s := 0) (m := x) (n := wnum g W - x)
    rw [Nat.zero_add] at this
    rw [this]
    congr 1
    omega
  rw [← hP]
  refine mj_cN (e112 ?_)
  obtain ⟨Q, hQ⟩ : ∃ Q, Q = qN mj_R2 (fun I' J' => k2 I' = k2 I2 ∧ kJ2 J' = kJ2 J2 ∧ gaP I1 J1 W Rn (fl P (wl W g)) I' J') := ⟨_, rfl⟩
  rw [← hQ]
  refine ⟨trivial, _, _, _, h.rfront, ?_⟩
  -- the rows of one that agrees
  have inner : ∀ (r : List Nat) (A : List (List Nat)) (x : Nat) (J0 : Nat → Nat → Int64), r ∈ wl W g → A.length < 455 →
      (∀ I' J', k2 I' = k2 I2 → kJ2 J' = kJ2 J2 → gaP I1 J1 W Rn (A ++ [r]) I' J' → E2 112 (D + 6) Q 12 [(0, .ref 0), (1, .long (J1 24 6)), (3, .int (nI (x + 1)))] I' J') →
      kJ2 J0 = kJ2 J2 → ∀ i, i ≤ Rn → ∀ (I0 : Nat → Nat → Int32) (x4 : Int32) (x5 : Int64), k2 I0 = k2 I2 → gaP I1 J1 W Rn A I0 J0 → wgh I0 W r → (∀ u, u < i → lbit (J1 24 6) u → I0 45 (40 * A.length + u) = rwo I1 W r u) →
      x5 = bs i (fun u => lbit (J1 24 6) u ∧ ∀ o, o < i → lbit (J1 24 6) o → rwo I1 W r u ≤ rwo I1 W r o) → ((x5 = 0 ∧ ∀ o, o < i → ¬ lbit (J1 24 6) o) ∨ (x5 ≠ 0 ∧ ∃ o, o < i ∧ lbit (J1 24 6) o ∧ x4 = rwo I1 W r o ∧ ∀ p, p < i → lbit (J1 24 6) p → rwo I1 W r o ≤ rwo I1 W r p)) →
      E2 112 (D + 6) Q 47 [(0, .ref 0), (1, .long (J1 24 6)), (3, .int (nI x)), (4, .int x4), (5, .long x5), (7, .int (nI i))] I0 J0 := by
    intro r A x J0 hrm hA K hJ0
    refine lp_up (n := Rn) (fun i => ∀ (I0 : Nat → Nat → Int32) (x4 : Int32) (x5 : Int64), k2 I0 = k2 I2 → gaP I1 J1 W Rn A I0 J0 → wgh I0 W r → (∀ u, u < i → lbit (J1 24 6) u → I0 45 (40 * A.length + u) = rwo I1 W r u) →
      x5 = bs i (fun u => lbit (J1 24 6) u ∧ ∀ o, o < i → lbit (J1 24 6) o → rwo I1 W r u ≤ rwo I1 W r o) → ((x5 = 0 ∧ ∀ o, o < i → ¬ lbit (J1 24 6) o) ∨ (x5 ≠ 0 ∧ ∃ o, o < i ∧ lbit (J1 24 6) o ∧ x4 = rwo I1 W r o ∧ ∀ p, p < i → lbit (J1 24 6) p → rwo I1 W r o ≤ rwo I1 W r p)) →
      E2 112 (D + 6) Q 47 [(0, .ref 0), (1, .long (J1 24 6)), (3, .int (nI x)), (4, .int x4), (5, .long x5), (7, .int (nI i))] I0 J0) (fun i hi ih I0 x4 x5 hk hg hw hr h5 hc => ?_)
    have hBI := rB_k hB hk
    refine mj_on (s112_47 _ _ _ _ _ ?_)
    rw [hBI.1, nI_clamp (by omega), hBI.2.2.2.2.1, hg.1, nI_1, nI_clamp (by omega)]
    refine ⟨vp_in_nI b2 (by decide), if_le (by omega) (by omega) (fun c => ⟨vp_in_nI (by omega) (by decide), ?_⟩) (fun c => ?_)⟩
    · obtain rfl : i = Rn := by omega
      rw [nI_1]
      refine K _ _ ?_ ?_ ⟨?_, fun k r' hr' => ?_⟩
      · rw [k2_up rfl]; exact hk
      · rw [kJ2_up rfl]; exact hJ0
      · rw [up_s, List.length_append]; rfl
      · by_cases e : k < A.length
        · rw [List.getElem?_append_left e] at hr'
          obtain ⟨q1, q2⟩ := hg.2 k r' hr'
          refine ⟨by rw [up_j (by omega)]; exact q1, fun u hu hb => by rw [up_c (by decide)]; exact q2 u hu hb⟩
        · have hk2 : k = A.length ∧ r' = r := by
            rw [List.getElem?_append_right (by omega)] at hr'
            cases hz : k - A.length with
            | zero => rw [hz] at hr'; cases hr'; exact ⟨by omega, rfl⟩
            | succ z => rw [hz] at hr'; cases hr'
          obtain ⟨rfl, rfl⟩ := hk2
          refine ⟨?_, fun u hu hb => by rw [up_c (by decide)]; exact hr u hu hb⟩
          rw [up_s, h5]
          exact bs_iff fun u hu => fbP_0.symm
    -- one more row
    have fin : ∀ (I0' : Nat → Nat → Int32) (y4 : Int32) (y5 : Int64), k2 I0' = k2 I2 → gaP I1 J1 W Rn A I0' J0 → wgh I0' W r → (∀ u, u < i + 1 → lbit (J1 24 6) u → I0' 45 (40 * A.length + u) = rwo I1 W r u) → y5 = bs (i + 1) (fun u => lbit (J1 24 6) u ∧ ∀ o, o < i + 1 → lbit (J1 24 6) o → rwo I1 W r u ≤ rwo I1 W r o) → ((y5 = 0 ∧ ∀ o, o < i + 1 → ¬ lbit (J1 24 6) o) ∨ (y5 ≠ 0 ∧ ∃ o, o < i + 1 ∧ lbit (J1 24 6) o ∧ y4 = rwo I1 W r o ∧ ∀ p, p < i + 1 → lbit (J1 24 6) p → rwo I1 W r o ≤ rwo I1 W r p)) →
        E2 112 (D + 6) Q 141 [(0, .ref 0), (1, .long (J1 24 6)), (3, .int (nI x)), (4, .int y4), (5, .long y5), (7, .int (nI i))] I0' J0 := fun I0' y4 y5 q1 q2 q3 q4 q5 q6 => by
      refine mj_on (s112_141 _ _ _ _ _ ?_)
      rw [nI_1]
      exact ih c I0' y4 y5 q1 q2 q3 q4 q5 q6
    refine if_i (fun f => ?_) (fun f => ?_)
    · have f := (sb_0 (by omega)).mp f
      refine fin I0 x4 x5 hk hg hw (fun u hu hb => ?_) ?_ ?_
      · by_cases e : u = i
        · rw [e] at hb; exact absurd hb f
        · exact hr u (by omega) hb
      · rw [bs_f0 (n := i) (fun q => f q.1), h5]
        exact bs_iff fun u hu => and_congr_right fun _ => ⟨fun q o ho hb => by
          by_cases e : o = i
          · rw [e] at hb; exact absurd hb f
          · exact q o (by omega) hb, fun q o ho hb => q o (by omega) hb⟩
      · rcases hc with ⟨q1, q2⟩ | ⟨q1, o, q2, q3, q4, q5⟩
        · exact Or.inl ⟨q1, fun o ho => by
            by_cases e : o = i
            · rw [e]; exact f
            · exact q2 o (by omega)⟩
        · refine Or.inr ⟨q1, o, by omega, q3, q4, fun p hp hb => ?_⟩
          by_cases e : p = i
          · rw [e] at hb; exact absurd hb f
          · exact q5 p (by omega) hb
    · have f : lbit (J1 24 6) i := Classical.byContradiction fun q => f ((sb_0 (by omega)).mpr q)
      refine ⟨trivial, _, _, _, r_rowWorth h hk c hw, ?_⟩
      rw [hg.1, show (40 : Int32) * nI A.length + nI i = nI (40 * A.length + i) from ix40 _ _, nI_clamp (by omega)]
      obtain ⟨Ia, hIa⟩ : ∃ Ia, Ia = mj_up I0 45 (40 * A.length + i) (rwo I1 W r i) := ⟨_, rfl⟩
      rw [← hIa]
      have a1 : k2 Ia = k2 I2 := by rw [hIa, k2_up rfl]; exact hk
      have a2 : gaP I1 J1 W Rn A Ia J0 := by
        refine ⟨by rw [hIa, up_c (by decide)]; exact hg.1, fun k r' hr' => ⟨(hg.2 k r' hr').1, fun u hu hb => ?_⟩⟩
        have hkl := (List.getElem?_eq_some_iff.mp hr').1
        rw [hIa, up_j (by omega)]
        exact (hg.2 k r' hr').2 u hu hb
      have a3 : wgh Ia W r := fun w hw2 => by rw [hIa, up_c (by decide)]; exact hw w hw2
      have a4 : ∀ u, u < i + 1 → lbit (J1 24 6) u → Ia 45 (40 * A.length + u) = rwo I1 W r u := fun u hu hb => by
        rw [hIa]
        by_cases e : u = i
        · rw [e, up_s]
        · rw [up_j (by omega)]; exact hr u (by omega) hb
      -- with a least one y4 and the bits y5 of those before that are as little
      have bit : ∀ (y4 : Int32) (y5 : Int64), (∃ o, o < i + 1 ∧ lbit (J1 24 6) o ∧ y4 = rwo I1 W r o ∧ ∀ p, p < i + 1 → lbit (J1 24 6) p → rwo I1 W r o ≤ rwo I1 W r p) → y5 = bs i (fun u => lbit (J1 24 6) u ∧ ∀ o, o < i + 1 → lbit (J1 24 6) o → rwo I1 W r u ≤ rwo I1 W r o) →
          E2 112 (D + 6) Q 121 [(0, .ref 0), (1, .long (J1 24 6)), (3, .int (nI x)), (4, .int y4), (5, .long y5), (7, .int (nI i)), (8, .int (rwo I1 W r i))] Ia J0 := by
        rintro y4 y5 ⟨o, o1, o2, o3, o4⟩ hy5
        have nz : ∀ {z : Int64}, z = bs (i + 1) (fun u => lbit (J1 24 6) u ∧ ∀ o, o < i + 1 → lbit (J1 24 6) o → rwo I1 W r u ≤ rwo I1 W r o) → z ≠ 0 := fun {z} ez e0 => by
          have hb := (bs_bit (p := fun u => lbit (J1 24 6) u ∧ ∀ o, o < i + 1 → lbit (J1 24 6) o → rwo I1 W r u ≤ rwo I1 W r o) (n := i + 1) (by omega) o).mpr ⟨o1, o2, fun p hp hb => o4 p hp hb⟩
          rw [← ez, e0] at hb
          revert hb
          simp
        refine mj_on (s112_121 _ _ _ _ _ _ ?_)
        refine if_i (fun e => ?_) (fun e => ?_)
        · have hm : lbit (J1 24 6) i ∧ ∀ o, o < i + 1 → lbit (J1 24 6) o → rwo I1 W r i ≤ rwo I1 W r o := ⟨f, fun p hp hb => by rw [e, o3]; exact o4 p hp hb⟩
          have ey : y5 ||| ((1 : Int64) <<< ((nI i).toInt64 &&& 63)) = bs (i + 1) (fun u => lbit (J1 24 6) u ∧ ∀ o, o < i + 1 → lbit (J1 24 6) o → rwo I1 W r u ≤ rwo I1 W r o) := by rw [bs_t (n := i) hm, hy5]
          exact fin Ia y4 _ a1 a2 a3 a4 ey (Or.inr ⟨nz ey, o, o1, o2, o3, o4⟩)
        · have hm : ¬ (lbit (J1 24 6) i ∧ ∀ o, o < i + 1 → lbit (J1 24 6) o → rwo I1 W r i ≤ rwo I1 W r o) := fun q => e (by
            rw [o3]
            exact Int32.le_antisymm (q.2 o o1 o2) (o4 i (by omega) f))
          have ey : y5 ||| (0 : Int64) = bs (i + 1) (fun u => lbit (J1 24 6) u ∧ ∀ o, o < i + 1 → lbit (J1 24 6) o → rwo I1 W r u ≤ rwo I1 W r o) := by rw [bs_f (n := i) hm, hy5]
          exact fin Ia y4 _ a1 a2 a3 a4 ey (Or.inr ⟨nz ey, o, o1, o2, o3, o4⟩)
      refine ⟨vp_in_nI (by omega) (by decide), ?_⟩
      rcases hc with ⟨q1, q2⟩ | ⟨q1, o, q2, q3, q4, q5⟩
      · rw [if_pos (cmp0.mpr q1)]
        refine bit _ _ ⟨i, by omega, f, rfl, fun p hp hb => ?_⟩ ?_
        · by_cases e : p = i
          · rw [e]; exact Int32.le_refl _
          · exact absurd hb (q2 p (by omega))
        · rw [bs_0 fun u hu q => q2 u hu q.1]
      · rw [if_neg (fun z => q1 (cmp0.mp z))]
        refine if_i (fun d => ?_) (fun d => ?_)
        · refine bit _ _ ⟨o, by omega, q3, q4, fun p hp hb => ?_⟩ ?_
          · by_cases e : p = i
            · rw [e, ← q4]; exact d
            · exact q5 p (by omega) hb
          · rw [h5]
            refine bs_iff fun u hu => and_congr_right fun hb => ⟨fun q p hp hb2 => ?_, fun q p hp hb2 => q p (by omega) hb2⟩
            by_cases e : p = i
            · rw [e]; rw [q4] at d; exact Int32.le_trans (q o q2 q3) d
            · exact q p (by omega) hb2
        · have d := Int32.not_le.mp d
          refine bit _ _ ⟨i, by omega, f, rfl, fun p hp hb => ?_⟩ ?_
          · by_cases e : p = i
            · rw [e]; exact Int32.le_refl _
            · rw [q4] at d
              exact Int32.le_trans (Int32.le_of_lt d) (q5 p (by omega) hb)
          · rw [bs_0]
            intro u hu q
            have h1 := q.2 i (by omega) f
            have h2 := q5 u hu q.1
            rw [q4] at d
            exact absurd (Int32.le_trans h2 h1) (Int32.not_le.mpr d)
  have outer := lp_up (n := wnum g W) (fun x => ∀ I0 J0, k2 I0 = k2 I2 → kJ2 J0 = kJ2 J2 → gaP I1 J1 W Rn (fl P (wpre g W x)) I0 J0 → E2 112 (D + 6) Q 12 [(0, .ref 0), (1, .long (J1 24 6)), (3, .int (nI x))] I0 J0) (fun x hx ih I0 J0 hk hj hg => ?_) 0 (Nat.zero_le _) (mj_up I2 0 71 0) J2 (k2_up rfl) rfl ⟨up_s, fun k r hr => by cases hr⟩
  · exact outer
  refine mj_on (s112_12 _ _ ?_)
  rw [nI_1]
  refine ⟨trivial, _, _, _, r_numbers (rB_k hB hk) (rG_k hG hk), if_le (by omega) (by omega) (fun c => ?_) (fun c => ?_)⟩
  · obtain rfl : x = wnum g W := by omega
    rw [hQ]
    refine ⟨_, _, rfl, hk, hj, ?_⟩
    unfold wpre at hg
    rw [(wl_ok hG.2 b4).1] at hg
    exact hg
  · have hW1 : 1 ≤ W := by
      rcases Nat.eq_zero_or_pos W with q | q
      · rw [q] at c; exact absurd c (Nat.not_lt_zero _)
      · exact q
    obtain ⟨I', hc, q1, q2⟩ := r_isWeighing (D := D + 5) (J := J0) (rB_k hB hk) (rG_k hG hk) hW1 (show x < 2197 by omega)
    have hk' : k2 I' = k2 I2 := (k2_40 q1).trans hk
    have hg' : gaP I1 J1 W Rn (fl P (wpre g W x)) I' J0 := by
      refine ⟨by rw [q1 0 (by decide)]; exact hg.1, fun k r hr => ⟨(hg.2 k r hr).1, fun u hu hb => by rw [q1 45 (by decide)]; exact (hg.2 k r hr).2 u hu hb⟩⟩
    refine ⟨trivial, _, _, _, hc, if_tf (fun d => ?_) (fun d => ?_)⟩
    · obtain ⟨r, hr⟩ := Option.ne_none_iff_exists'.mp d
      have ih := ih c
      rw [wpre_t hr] at ih
      obtain ⟨t, ht⟩ := hpre (x + 1) (by omega)
      rw [wpre_t hr] at ht
      have hrm : r ∈ wl W g := by rw [← ht]; simp
      refine ⟨trivial, _, _, _, r_agrees h hk' hS hS2 (q2 r hr), if_tf (fun f => ?_) (fun f => ?_)⟩
      · rw [← hP] at f
        rw [fl_t f] at ih
        have hl : (fl P (wpre g W x)).length < 455 := by
          have h1 : (fl P (wpre g W x ++ [r])).length ≤ (fl P (wl W g)).length := by
            rw [← ht]
            unfold fl
            rw [List.filter_append (wpre g W x ++ [r])]
            rw [List.length_append]
            omega
          rw [fl_t f, List.length_append] at h1
          have : ([r] : List (List Nat)).length = 1 := rfl
          omega
        exact inner r (fl P (wpre g W x)) x J0 hrm hl (fun I3 J3 z1 z2 z3 => ih I3 J3 z1 z2 z3) hj 0 (Nat.zero_le _) I' 0 0 hk' hg' (q2 r hr) (fun u hu => absurd hu (Nat.not_lt_zero u)) rfl (Or.inl ⟨rfl, fun o ho => absurd ho (Nat.not_lt_zero o)⟩)
      · rw [← hP] at f
        rw [fl_f f] at ih
        exact ih I' J0 hk' hj hg'
    · have d : wval g W x = none := Classical.byContradiction fun q => d q
      have ih := ih c
      rw [wpre_f d] at ih
      exact ih I' J0 hk' hj hg'
theorem al_could (h : Rl b W Rn Kn Tn Hn Un g I1 J1 I2 J2) : AJ 262 111 [] I1 J1 I2 J2 (Rl b W Rn Kn Tn Hn Un g) := by
  obtain ⟨S, s1, s2, -, -⟩ := h.S
  obtain ⟨hG, g1, g2, g3, g4, g5⟩ := h.G
  obtain ⟨P, hP⟩ : ∃ P, P = sAg I1 J1 W S := ⟨_, rfl⟩
  obtain ⟨f, hf⟩ : ∃ f, f = fb I1 J1 W Rn 0 := ⟨_, rfl⟩
  obtain ⟨v, hv⟩ : ∃ v, v = lor f (fl P (wl W g)) := ⟨_, rfl⟩
  have cl : ∃ r I1' J1', C1 900 262 [.ref 0] I1 J1 (.long r) I1' J1' ∧ (r = v ∧ k1 I1' = k1 I1 ∧ J1' = J1) := by
    refine mj_cL (D := 899) (e262 ?_)
    refine lp_up (n := (wl W g).length) (fun n => ∀ I, k1 I = k1 I1 → E1 262 899 (qL mj_R1 (fun r I' J' => r = v ∧ k1 I' = k1 I1 ∧ J' = J1)) 4 [(0, .ref 0), (1, .long (lor f (fl P ((wl W g).take n)))), (3, .int (nI n))] I J1) (fun n hn ih I hI => ?_) 0 (Nat.zero_le _) I1 rfl
    refine mj_on (s262_4 _ _ ?_)
    rw [k1_at hI (q := 51) (j := 2) rfl, g4, nI_1]
    refine if_le (by omega) (by omega) (fun c => ?_) (fun c => ?_)
    · rw [tk_e c]
      exact ⟨_, _, _, rfl, hv.symm, hI, rfl⟩
    · obtain ⟨r, hr, -, -⟩ := gt_of c
      have hs := ih c
      rw [tk_s hr] at hs
      refine ⟨trivial, _, _, _, c_isAg h s2 s1 hI hr, if_tf (fun d => ?_) (fun d => ?_)⟩
      · rw [← hP] at d
        rw [fl_t d, lor_s] at hs
        obtain ⟨I', hc, q1, q2⟩ := c_firstBy (D := 897) h (d := 0) hI hr (by omega)
        refine ⟨trivial, _, _, _, hc, ?_⟩
        rw [hf] at hs ⊢
        exact hs I' ((k1_28 q1).trans hI)
      · rw [← hP] at d
        rw [fl_f d] at hs
        exact hs I hI
  have rf : ∃ r I2' J2', C2 900 111 [.ref 0] I2 J2 (.long r) I2' J2' ∧ (r = v ∧ k2 I2' = k2 I2 ∧ kJ2 J2' = kJ2 J2) := by
    obtain ⟨I', J', hc, q1, q2, q3, q4⟩ := r_gather (D := 892) h s2 s1
    rw [← hP] at q3 q4
    refine mj_cL (D := 899) (e111 ?_)
    refine ⟨trivial, _, _, hc, ?_⟩
    have hl : (fl P (wl W g)).length ≤ 455 := Nat.le_trans fl_len g5
    refine lp_up (n := (fl P (wl W g)).length) (fun n => E2 111 899 (qL mj_R2 (fun r I' J' => r = v ∧ k2 I' = k2 I2 ∧ kJ2 J' = kJ2 J2)) 8 [(0, .ref 0), (1, .long (lor f ((fl P (wl W g)).take n))), (3, .int (nI n))] I' J') (fun n hn ih => ?_) 0 (Nat.zero_le _)
    refine mj_on (s111_8 _ _ ?_)
    rw [q3, nI_1, nI_clamp (by omega)]
    refine if_le (by omega) (by omega) (fun c => ?_) (fun c => ⟨vp_in_nI (by omega) (by decide), ?_⟩)
    · rw [tk_e c]
      exact ⟨_, _, _, rfl, hv.symm, q1, q2⟩
    · obtain ⟨r, hr, -, -⟩ := gt_of c
      have hs := ih c
      rw [tk_s hr, lor_s] at hs
      rw [(q4 n r hr).1, ← hf]
      exact hs
  obtain ⟨r, I1', J1', hc, rfl, p1, rfl⟩ := cl
  obtain ⟨r, I2', J2', hc2, rfl, p2, p3⟩ := rf
  exact ⟨_, _, _, _, _, hc, hc2, Rl_same h p1 rfl p2 p3⟩
end S62
end
section
/-! question -/
theorem i32_max {a b : Nat} (ha : a < 2 ^ 31) (hb : b < 2 ^ 31) : (if nI a < nI b then nI b else nI a) = nI (max a b) ∧ (if nI a ≤ nI b then nI b else nI a) = nI (max a b) := by
  constructor
  · by_cases h : a < b
    · rw [if_pos (nI_lt h hb), Nat.max_eq_right (Nat.le_of_lt h)]
    · rw [if_neg (nI_nlt (by omega) ha), Nat.max_eq_left (by omega)]
  · by_cases h : a ≤ b
    · rw [if_pos (nI_le h hb), Nat.max_eq_right h]
    · rw [if_neg (nI_ge (by omega) ha), Nat.max_eq_left (by omega)]
theorem pcn_le : ∀ (k m : Nat), pcn k m ≤ k
  | 0, _ => Nat.le_refl 0
  | k + 1, m => by
    have := pcn_le k (m / 2)
    show m % 2 + pcn k (m / 2) ≤ k + 1
    omega
/-- what a question leaves -/
noncomputable def lvs (I : Nat → Nat → Int32) (J : Nat → Nat → Int64) (W Rn : Nat) (A : List (List Nat)) (x y : Nat) : Int64 := lor (fb I J W Rn 0) (fl (fun r => rwo I W r x ≤ rwo I W r y) A)
noncomputable def lvN (I : Nat → Nat → Int32) (J : Nat → Nat → Int64) (W Rn : Nat) (A : List (List Nat)) (x y : Nat) : Nat := max (pcL (lvs I J W Rn A x y)) (pcL (lvs I J W Rn A y x))
/-- one question tried: first, second, how many it leaves -/
noncomputable def qs1 (p : Nat → Prop) (v : Nat → Nat → Nat) (x y : Nat) (s : Int32 × Int32 × Int32) : Int32 × Int32 × Int32 := @ite _ (p x ∧ p y ∧ (s.2.2 = -1 ∨ nI (v x y) < s.2.2)) (Classical.propDecidable _) (nI x, nI y, nI (v x y)) s
theorem qs1_t {p : Nat → Prop} {v : Nat → Nat → Nat} {x y : Nat} {s : Int32 × Int32 × Int32} (h : p x ∧ p y ∧ (s.2.2 = -1 ∨ nI (v x y) < s.2.2)) : qs1 p v x y s = (nI x, nI y, nI (v x y)) := @if_pos _ (Classical.propDecidable _) h _ _ _
theorem qs1_f {p : Nat → Prop} {v : Nat → Nat → Nat} {x y : Nat} {s : Int32 × Int32 × Int32} (h : ¬ (p x ∧ p y ∧ (s.2.2 = -1 ∨ nI (v x y) < s.2.2))) : qs1 p v x y s = s := @if_neg _ (Classical.propDecidable _) h _ _ _
noncomputable def qsB (p : Nat → Prop) (v : Nat → Nat → Nat) (x : Nat) : Nat → Nat → Int32 × Int32 × Int32 → Int32 × Int32 × Int32
  | 0, _, s => s
  | k + 1, y, s => qsB p v x k (y + 1) (qs1 p v x y s)
noncomputable def qsA (p : Nat → Prop) (v : Nat → Nat → Nat) (n : Nat) : Nat → Nat → Int32 × Int32 × Int32 → Int32 × Int32 × Int32
  | 0, _, s => s
  | k + 1, x, s => qsA p v n k (x + 1) (qsB p v x (n - (x + 1)) (x + 1) s)
theorem qsB_s {p : Nat → Prop} {v : Nat → Nat → Nat} {x y n : Nat} {s : Int32 × Int32 × Int32} (h : y < n) : qsB p v x (n - y) y s = qsB p v x (n - (y + 1)) (y + 1) (qs1 p v x y s) := by
  rw [show n - y = (n - (y + 1)) + 1 by omega]
  rfl
theorem qsB_e {p : Nat → Prop} {v : Nat → Nat → Nat} {x y n : Nat} {s : Int32 × Int32 × Int32} (h : n ≤ y) : qsB p v x (n - y) y s = s := by
  rw [show n - y = 0 by omega]
  rfl
theorem qsA_s {p : Nat → Prop} {v : Nat → Nat → Nat} {x n : Nat} {s : Int32 × Int32 × Int32} (h : x < n) : qsA p v n (n - x) x s = qsA p v n (n - (x + 1)) (x + 1) (qsB p v x (n - (x + 1)) (x + 1) s) := by
  rw [show n - x = (n - (x + 1)) + 1 by omega]
  rfl
theorem qsA_e {p : Nat → Prop} {v : Nat → Nat → Nat} {x n : Nat} {s : Int32 × Int32 × Int32} (h : n ≤ x) : qsA p v n (n - x) x s = s := by
  rw [show n - x = 0 by omega]
  rfl
/-- how many it leaves is a number, or -1 with both others -/
def qok (s : Int32 × Int32 × Int32) : Prop := (s = (-1, -1, -1)) ∨ ∃ x y n : Nat, n ≤ 64 ∧ x < 64 ∧ y < 64 ∧ s = (nI x, nI y, nI n)
section S63
variable {D b W Rn Kn Tn Hn Un g : Nat} {I I1 I2 : Nat → Nat → Int32} {J J1 J2 : Nat → Nat → Int64}
theorem lvN_le {A : List (List Nat)} {x y : Nat} : lvN I J W Rn A x y ≤ 64 := Nat.max_le.mpr ⟨pcn_le 64 _, pcn_le 64 _⟩
theorem c_max {x y : Int32} : C1 (D + 1) 1 [.int x, .int y] I J (.int (if x < y then y else x)) I J := by
  refine mj_mk (e1 _ _ ?_)
  exact if_i (fun c => mqi (if_pos c).symm) (fun c => mqi (if_neg c).symm)
/-- the class' rows of what questions leave -/
def lvP (I1 : Nat → Nat → Int32) (J1 : Nat → Nat → Int64) (W Rn : Nat) (A : List (List Nat)) (J : Nat → Nat → Int64) : Prop := ∀ x y, x < Rn → y < Rn → J 56 (40 * x + y) = lvs I1 J1 W Rn A x y
theorem c_note (h : Rl b W Rn Kn Tn Hn Un g I1 J1 I2 J2) {A : List (List Nat)} {r : List Nat} (e1 : k1 I = k1 I1) (hw : ∀ u, u < Rn → I 28 u = rwo I1 W r u) (hJ : lvP I1 J1 W Rn A J) : ∃ J', C1 (D + 1) 266 [.ref 53, .long (fb I1 J1 W Rn 0 r), .ref 24] I J .null I J' ∧ (∀ q, q ≠ 56 → J' q = J q) ∧ lvP I1 J1 W Rn (A ++ [r]) J' := by
  obtain ⟨w1, w2, w3, w4⟩ := h.W24
  have w1' : I 24 0 = nI Rn := by rw [k1_at e1 rfl]; exact w1
  suffices hs : ∃ I' J', C1 (D + 1) 266 [.ref 53, .long (fb I1 J1 W Rn 0 r), .ref 24] I J .null I' J' ∧ (I' = I ∧ (∀ q, q ≠ 56 → J' q = J q) ∧ lvP I1 J1 W Rn (A ++ [r]) J') by
    obtain ⟨I', J', hc, rfl, q⟩ := hs
    exact ⟨J', hc, q⟩
  refine mj_cN (e266 _ ?_)
  obtain ⟨Q, hQ⟩ : ∃ Q, Q = qN mj_R1 (fun I' J' => I' = I ∧ (∀ q, q ≠ 56 → J' q = J q) ∧ lvP I1 J1 W Rn (A ++ [r]) J') := ⟨_, rfl⟩
  rw [← hQ]
  have stp : ∀ {x y}, (rwo I1 W r x ≤ rwo I1 W r y → lvs I1 J1 W Rn (A ++ [r]) x y = lvs I1 J1 W Rn A x y ||| fb I1 J1 W Rn 0 r) ∧ (¬ rwo I1 W r x ≤ rwo I1 W r y → lvs I1 J1 W Rn (A ++ [r]) x y = lvs I1 J1 W Rn A x y) := fun {x y} => by
    unfold lvs
    exact ⟨fun q => by rw [fl_t q, lor_s], fun q => by rw [fl_f q]⟩
  -- done up to row x, column y
  have key := lp_up (n := Rn) (fun x => ∀ J0, (∀ q, q ≠ 56 → J0 q = J q) → (∀ u v, u < Rn → v < Rn → J0 56 (40 * u + v) = if u < x then lvs I1 J1 W Rn (A ++ [r]) u v else lvs I1 J1 W Rn A u v) → E1 266 D Q 3 [(0, .ref 53), (1, .long (fb I1 J1 W Rn 0 r)), (3, .ref 24), (4, .int (nI x))] I J0) (fun x hx ih J0 hF hL => ?_) 0 (Nat.zero_le _) J (fun _ _ => rfl) (fun u v hu hv => by rw [if_neg (Nat.not_lt_zero u)]; exact hJ u v hu hv)
  · exact key
  refine mj_on (s266_3 _ _ ?_)
  rw [w1']
  refine if_le (by omega) (by omega) (fun c => ?_) (fun c => ?_)
  · rw [hQ]
    refine ⟨_, _, rfl, rfl, hF, fun u v hu hv => ?_⟩
    rw [hL u v hu hv, if_pos (by omega)]
  have inner := lp_up (n := Rn) (fun y => ∀ J0, (∀ q, q ≠ 56 → J0 q = J q) → (∀ u v, u < Rn → v < Rn → J0 56 (40 * u + v) = if u < x ∨ (u = x ∧ v < y) then lvs I1 J1 W Rn (A ++ [r]) u v else lvs I1 J1 W Rn A u v) → E1 266 D Q 15 [(0, .ref 53), (1, .long (fb I1 J1 W Rn 0 r)), (3, .ref 24), (4, .int (nI x)), (5, .int (nI y))] I J0) (fun y hy ih2 J0 hF hL => ?_) 0 (Nat.zero_le _) J0 hF (fun u v hu hv => by
    rw [hL u v hu hv]
    by_cases e : u < x
    · rw [if_pos e, if_pos (Or.inl e)]
    · rw [if_neg e, if_neg (by omega)])
  · exact inner
  refine mj_on (s266_15 _ _ _ ?_)
  rw [w1', nI_1, nI_1]
  refine if_le (by omega) (by omega) (fun d => ?_) (fun d => ?_)
  · refine ih c J0 hF fun u v hu hv => ?_
    rw [hL u v hu hv]
    by_cases e : u < x + 1
    · rw [if_pos e, if_pos (by omega)]
    · rw [if_neg e, if_neg (by omega)]
  have hvx : vp_in (nI x) 40 := vp_in_nI (by omega) (by decide)
  have hvy : vp_in (nI y) 40 := vp_in_nI (by omega) (by decide)
  have ei : nI x * (40 : Int32) + nI y = nI (40 * x + y) := by rw [show (40 : Int32) = nI 40 from rfl, pk_mul, nI_add, Nat.mul_comm]
  rw [nI_clamp (by omega), nI_clamp (by omega), hw x c, hw y d, ei, nI_clamp (by omega)]
  have old : J0 56 (40 * x + y) = lvs I1 J1 W Rn A x y := by rw [hL x y c d, if_neg (by omega)]
  refine ⟨hvx, hvy, if_i (fun f => ?_) (fun f => ⟨vp_in_nI (by omega) (by decide), vp_in_nI (by omega) (by decide), ?_⟩)⟩
  · refine ih2 d J0 hF fun u v hu hv => ?_
    by_cases e : u = x ∧ v = y
    · rw [e.1, e.2, old, if_pos (by omega), stp.2 (Int32.not_le.mpr f)]
    · rw [hL u v hu hv]
      by_cases e2 : u < x ∨ (u = x ∧ v < y)
      · rw [if_pos e2, if_pos (by omega)]
      · rw [if_neg e2, if_neg (by omega)]
  · refine ih2 d _ (fun q hq => by rw [up_c hq, hF q hq]) fun u v hu hv => ?_
    by_cases e : u = x ∧ v = y
    · rw [e.1, e.2, up_s, old, if_pos (by omega), stp.1 (Int32.not_lt.mp f)]
    · rw [up_j (by omega), hL u v hu hv]
      by_cases e2 : u < x ∨ (u = x ∧ v < y)
      · rw [if_pos e2, if_pos (by omega)]
      · rw [if_neg e2, if_neg (by omega)]
/-- where the class keeps the question -/
def qAt (I : Nat → Nat → Int32) (s : Int32 × Int32 × Int32) : Prop := I 53 7 = s.2.2 ∧ (s.2.2 ≠ -1 → I 53 5 = s.1 ∧ I 53 6 = s.2.1)
theorem kJ1_56 {J' : Nat → Nat → Int64} (h : ∀ q, q ≠ 56 → J' q = J q) : kJ1 J' = kJ1 J := by
  funext q j
  unfold kJ1
  by_cases e : q = 56
  · rw [e]; rfl
  · rw [h q e]
theorem c_try {A : List (List Nat)} {x y : Nat} {s : Int32 × Int32 × Int32} (hx : x < Rn) (hy : y < Rn) (hR : Rn ≤ 40) (hL : lvP I1 J1 W Rn A J) (hs : qAt I s) (p : Nat → Prop) (hp : p x ∧ p y) : ∃ I', C1 (D + 2) 267 [.ref 53, .int (nI x), .int (nI y)] I J .null I' J ∧ k1 I' = k1 I ∧ qAt I' (qs1 p (lvN I1 J1 W Rn A) x y s) := by
  obtain ⟨v, hv⟩ : ∃ v, v = lvN I1 J1 W Rn A := ⟨_, rfl⟩
  rw [← hv]
  suffices hs : ∃ I' J', C1 (D + 2) 267 [.ref 53, .int (nI x), .int (nI y)] I J .null I' J' ∧ (J' = J ∧ k1 I' = k1 I ∧ qAt I' (qs1 p v x y s)) by
    obtain ⟨I', J', hc, rfl, q⟩ := hs
    exact ⟨I', hc, q⟩
  refine mj_cN (e267 _ _ ?_)
  have ei : ∀ {x y : Nat}, nI x * (40 : Int32) + nI y = nI (40 * x + y) := fun {x y} => by rw [show (40 : Int32) = nI 40 from rfl, pk_mul, nI_add, Nat.mul_comm]
  obtain ⟨ca, hca⟩ : ∃ n, n = pcL (lvs I1 J1 W Rn A x y) := ⟨_, rfl⟩
  obtain ⟨cb, hcb⟩ : ∃ n, n = pcL (lvs I1 J1 W Rn A y x) := ⟨_, rfl⟩
  have la : ca ≤ 64 := by rw [hca]; exact pcn_le 64 _
  have lb : cb ≤ 64 := by rw [hcb]; exact pcn_le 64 _
  have ka : C1 (D + 1) 2 [.long (lvs I1 J1 W Rn A x y)] I J (.int (nI ca)) I J := by rw [hca]; exact c_bcL
  have kb : C1 (D + 1) 2 [.long (lvs I1 J1 W Rn A y x)] I J (.int (nI cb)) I J := by rw [hcb]; exact c_bcL
  have hvN : v x y = max ca cb := by rw [hv, hca, hcb]; unfold lvN; rfl
  clear hca hcb hv
  rw [ei, ei, nI_clamp (by omega), hL x y hx hy]
  refine ⟨vp_in_nI (by omega) (by decide), trivial, _, _, _, ka, vp_in_nI (by omega) (by decide), ?_⟩
  rw [nI_clamp (by omega), hL y x hy hx]
  refine ⟨trivial, _, _, _, kb, trivial, _, _, _, c_max, ?_⟩
  rw [(i32_max (a := ca) (b := cb) (by omega) (by omega)).1, hs.1, ← hvN]
  have go : (s.2.2 = -1 ∨ nI (v x y) < s.2.2) → E1 267 (D + 1) (qN mj_R1 (fun I' J' => J' = J ∧ k1 I' = k1 I ∧ qAt I' (qs1 p v x y s))) 48 [(0, .ref 53), (1, .int (nI x)), (2, .int (nI y)), (3, .int (nI (v x y)))] I J := by
    intro hc
    refine mj_on (s267_48 _ _ _ ?_)
    refine ⟨_, _, rfl, rfl, ?_, ?_⟩
    · rw [k1_up rfl, k1_up rfl, k1_up rfl]
    · rw [qs1_t ⟨hp.1, hp.2, hc⟩]
      refine ⟨up_s, fun _ => ⟨?_, ?_⟩⟩
      · rw [up_j (by decide), up_j (by decide), up_s]
      · rw [up_j (by decide), up_s]
  refine if_i (fun c => go (Or.inl c)) (fun c => if_i (fun d => ?_) (fun d => go (Or.inr (Int32.not_le.mp d))))
  refine ⟨_, _, rfl, rfl, rfl, ?_⟩
  rw [qs1_f]
  · exact hs
  · rintro ⟨-, -, q | q⟩
    · exact c q
    · exact absurd q (Int32.not_lt.mpr d)
theorem c_ask (h : Rl b W Rn Kn Tn Hn Un g I1 J1 I2 J2) {S : Nat} (hS : I1 53 0 = nI S) (hS2 : S ≤ 12) : ∃ I' J' s, C1 (D + 5) 265 [.ref 53, .ref 51, .ref 24] I1 J1 (.int (tf (s.2.2 ≠ -1))) I' J' ∧ k1 I' = k1 I1 ∧ kJ1 J' = kJ1 J1 ∧ qAt I' s ∧ s = qsA (lbit (J1 24 6)) (lvN I1 J1 W Rn (fl (sAg I1 J1 W S) (wl W g))) Rn (Rn - 0) 0 (-1, -1, -1) := by
  obtain ⟨hG, g1, g2, g3, g4, g5⟩ := h.G
  obtain ⟨w1, w2, w3, w4⟩ := h.W24
  obtain ⟨P, hP⟩ : ∃ P, P = sAg I1 J1 W S := ⟨_, rfl⟩
  rw [← hP]
  obtain ⟨A, hA⟩ : ∃ A, A = fl P (wl W g) := ⟨_, rfl⟩
  rw [← hA]
  obtain ⟨v, hv⟩ : ∃ v, v = lvN I1 J1 W Rn A := ⟨_, rfl⟩
  rw [← hv]
  obtain ⟨s0, hs0⟩ : ∃ s, s = qsA (lbit (J1 24 6)) v Rn (Rn - 0) 0 (-1, -1, -1) := ⟨_, rfl⟩
  rw [← hs0]
  suffices hs : ∃ z I' J', C1 (D + 5) 265 [.ref 53, .ref 51, .ref 24] I1 J1 (.int z) I' J' ∧ (z = tf (s0.2.2 ≠ -1) ∧ k1 I' = k1 I1 ∧ kJ1 J' = kJ1 J1 ∧ qAt I' s0) by
    obtain ⟨z, I', J', hc, rfl, q1, q2, q3⟩ := hs
    exact ⟨I', J', s0, hc, q1, q2, q3, rfl⟩
  refine mj_cI (e265 ?_)
  obtain ⟨Q, hQ⟩ : ∃ Q, Q = qI mj_R1 (fun z I' J' => z = tf (s0.2.2 ≠ -1) ∧ k1 I' = k1 I1 ∧ kJ1 J' = kJ1 J1 ∧ qAt I' s0) := ⟨_, rfl⟩
  rw [← hQ]
  -- the pairs
  have pairs : ∀ J0, kJ1 J0 = kJ1 J1 → lvP I1 J1 W Rn A J0 → ∀ x, x ≤ Rn → ∀ I0 s, k1 I0 = k1 I1 → qAt I0 s → qsA (lbit (J1 24 6)) v Rn (Rn - x) x s = s0 → E1 265 (D + 4) Q 67 [(0, .ref 53), (2, .ref 24), (3, .int (nI x))] I0 J0 := by
    intro J0 hj hL
    refine lp_up (n := Rn) (fun x => ∀ I0 s, k1 I0 = k1 I1 → qAt I0 s → qsA (lbit (J1 24 6)) v Rn (Rn - x) x s = s0 → E1 265 (D + 4) Q 67 [(0, .ref 53), (2, .ref 24), (3, .int (nI x))] I0 J0) (fun x hx ih I0 s hk hq he => ?_)
    refine mj_on (s265_67 _ ?_)
    rw [k1_at hk (q := 24) (j := 0) rfl, w1, nI_1, hq.1]
    refine if_le (by omega) (by omega) (fun c => ?_) (fun c => ?_)
    · rw [qsA_e c] at he
      rw [hQ]
      refine if_i (fun d => ⟨Or.inl rfl, _, _, _, rfl, ?_, hk, hj, he ▸ hq⟩) (fun d => ⟨Or.inr rfl, _, _, _, rfl, ?_, hk, hj, he ▸ hq⟩)
      · rw [tf_f]
        rw [← he]
        exact fun q => q d
      · rw [tf_t]
        rw [← he]
        exact d
    rw [qsA_s c] at he
    have inner := lp_up (n := Rn) (fun y => ∀ I0 s, k1 I0 = k1 I1 → qAt I0 s → qsA (lbit (J1 24 6)) v Rn (Rn - (x + 1)) (x + 1) (qsB (lbit (J1 24 6)) v x (Rn - y) y s) = s0 → E1 265 (D + 4) Q 80 [(0, .ref 53), (2, .ref 24), (3, .int (nI x)), (4, .int (nI y))] I0 J0) (fun y hy ih2 I0 s hk hq he => ?_) (x + 1) (by omega) I0 s hk hq he
    · exact inner
    refine mj_on (s265_80 _ _ ?_)
    rw [k1_at hk (q := 24) (j := 0) rfl, w1, nI_1, nI_1, kJ1_at hj (q := 24) rfl]
    refine if_le (by omega) (by omega) (fun d => ?_) (fun d => ?_)
    · rw [qsB_e d] at he
      exact ih c I0 s hk hq he
    rw [qsB_s d] at he
    refine ⟨trivial, _, _, _, c_isIn (by omega), if_tf (fun f => ?_) (fun f => ?_)⟩
    · rw [kJ1_at hj (q := 24) rfl]
      refine ⟨trivial, _, _, _, c_isIn (by omega), if_tf (fun f2 => ?_) (fun f2 => ?_)⟩
      · obtain ⟨I', hc, q1, q2⟩ := c_try (D := D + 2) c d w2 hL hq (lbit (J1 24 6)) ⟨f, f2⟩
        refine ⟨trivial, _, _, hc, ?_⟩
        rw [← hv] at q2
        exact ih2 d I' _ (q1.trans hk) q2 he
      · rw [qs1_f (fun q => f2 q.2.1)] at he
        exact ih2 d I0 s hk hq he
    · rw [qs1_f (fun q => f q.1)] at he
      exact ih2 d I0 s hk hq he
  -- the weighings
  have weighs : ∀ n, n ≤ (wl W g).length → ∀ I0 J0, k1 I0 = k1 I1 → kJ1 J0 = kJ1 J1 → lvP I1 J1 W Rn (fl P ((wl W g).take n)) J0 → E1 265 (D + 4) Q 24 [(0, .ref 53), (1, .ref 51), (2, .ref 24), (3, .int (nI n))] I0 J0 := by
    refine lp_up (n := (wl W g).length) (fun n => ∀ I0 J0, k1 I0 = k1 I1 → kJ1 J0 = kJ1 J1 → lvP I1 J1 W Rn (fl P ((wl W g).take n)) J0 → E1 265 (D + 4) Q 24 [(0, .ref 53), (1, .ref 51), (2, .ref 24), (3, .int (nI n))] I0 J0) (fun n hn ih I0 J0 hk hj hL => ?_)
    refine mj_on (s265_24 _ ?_)
    rw [k1_at hk (q := 51) (j := 2) rfl, g4, nI_1]
    refine if_le (by omega) (by omega) (fun c => ?_) (fun c => ?_)
    · rw [tk_e c, ← hA] at hL
      refine pairs J0 hj hL 0 (Nat.zero_le _) _ (-1, -1, -1) ?_ ⟨up_s, fun q => absurd rfl q⟩ hs0.symm
      rw [k1_up rfl]
      exact hk
    · obtain ⟨r, hr, -, -⟩ := gt_of c
      have ih := ih c
      rw [tk_s hr] at ih
      have hag : C1 (D + 4) 260 [.ref 53, .int (nI n), .ref 51, .ref 24] I0 J0 (.int (tf (P r))) I0 J0 := by
        rw [hP]
        have hRl : Rl b W Rn Kn Tn Hn Un g I1 J0 I2 J2 := Rl_same h rfl hj rfl rfl
        have e := c_isAg (D := D) hRl hS hS2 hk hr
        have e2 : sAg I1 J0 W S = sAg I1 J1 W S := by
          funext r
          unfold sAg saA
          rw [kJ1_at hj (q := 24) rfl]
        rw [e2] at e
        exact e
      refine ⟨trivial, _, _, _, hag, if_tf (fun d => ?_) (fun d => ?_)⟩
      · rw [fl_t d] at ih
        have hRl : Rl b W Rn Kn Tn Hn Un g I1 J0 I2 J2 := Rl_same h rfl hj rfl rfl
        obtain ⟨I', hc, q1, q2⟩ := c_firstBy (D := D + 2) hRl (d := 0) hk hr (by omega)
        have ef : fb I1 J0 W Rn (0 : Nat) r = fb I1 J1 W Rn 0 r := by
          unfold fb
          rw [kJ1_at hj (q := 24) rfl]
          rfl
        rw [ef] at hc
        have hk' := (k1_28 q1).trans hk
        obtain ⟨J', hc2, z1, z2⟩ := c_note (D := D + 3) h (A := fl P ((wl W g).take n)) (r := r) hk' q2 hL
        exact ⟨trivial, _, _, _, hc, trivial, _, _, hc2, ih I' J' hk' ((kJ1_56 z1).trans hj) z2⟩
      · rw [fl_f d] at ih
        exact ih I0 J0 hk hj hL
  -- the rows made empty
  have clr := lp_up (n := 1600) (fun i => ∀ J0, (∀ q, q ≠ 56 → J0 q = J1 q) → (∀ j, j < i → J0 56 j = 0) → E1 265 (D + 4) Q 2 [(0, .ref 53), (1, .ref 51), (2, .ref 24), (3, .int (nI i))] I1 J0) (fun i hi ih J0 hF h0 => ?_) 0 (Nat.zero_le _) J1 (fun _ _ => rfl) (fun j hj => absurd hj (Nat.not_lt_zero j))
  · exact clr
  refine mj_on (s265_2 _ ?_)
  rw [nI_1]
  refine if_le (a := 1600) (by decide) (by omega) (fun c => ?_) (fun c => ⟨vp_in_nI (by omega) (by decide), ?_⟩)
  · refine weighs 0 (Nat.zero_le _) I1 J0 rfl (kJ1_56 hF) fun x y hx hy => ?_
    rw [h0 _ (by omega)]
    rfl
  · rw [nI_clamp (by omega)]
    refine ih c _ (fun q hq => by rw [up_c hq, hF q hq]) fun j hj => ?_
    by_cases e : j = i
    · rw [e, up_s]
    · rw [up_j e]; exact h0 j (by omega)
theorem r_leaves {A : List (List Nat)} {x y : Nat} (hx : x < Rn) (hy : y < Rn) (hR : Rn ≤ 40) (hA : A.length ≤ 455) (bx : lbit (J1 24 6) x) (by' : lbit (J1 24 6) y) (hg : gaP I1 J1 W Rn A I J) : C2 (D + 2) 114 [.ref 0, .int (nI x), .int (nI y)] I J (.int (nI (pcL (lvs I1 J1 W Rn A x y)))) I J := by
  refine mj_mk (e114 _ _ ?_)
  refine lp_up (n := A.length) (fun n => E2 114 (D + 1) (fun q => q = (.int (nI (pcL (lvs I1 J1 W Rn A x y))), (I, J, mj_R2))) 5 [(0, .ref 0), (1, .int (nI x)), (2, .int (nI y)), (3, .long (lvs I1 J1 W Rn (A.take n) x y)), (5, .int (nI n))] I J) (fun n hn ih => ?_) 0 (Nat.zero_le _)
  refine mj_on (s114_5 _ _ _ _ ?_)
  rw [hg.1, nI_1]
  refine if_le (by omega) (by omega) (fun c => ?_) (fun c => ?_)
  · rw [tk_e c]
    exact ⟨trivial, _, _, _, r_bits, rfl⟩
  · obtain ⟨r, hr, -, -⟩ := gt_of c
    have ih := ih c
    rw [tk_s hr] at ih
    obtain ⟨q1, q2⟩ := hg.2 n r hr
    rw [ix40, ix40, nI_clamp (by omega), nI_clamp (by omega), nI_clamp (by omega), q2 x hx bx, q2 y hy by', q1]
    refine ⟨vp_in_nI (by omega) (by decide), vp_in_nI (by omega) (by decide), if_i (fun d => ?_) (fun d => ⟨vp_in_nI (by omega) (by decide), ?_⟩)⟩
    · have e : lvs I1 J1 W Rn (A.take n ++ [r]) x y = lvs I1 J1 W Rn (A.take n) x y := by
        unfold lvs
        rw [fl_f (Int32.not_le.mpr d)]
      rw [e] at ih
      rw [show lvs I1 J1 W Rn (A.take n) x y ||| 0 = lvs I1 J1 W Rn (A.take n) x y by simp]
      exact ih
    · have e : lvs I1 J1 W Rn (A.take n ++ [r]) x y = lvs I1 J1 W Rn (A.take n) x y ||| fb I1 J1 W Rn 0 r := by
        unfold lvs
        rw [fl_t (Int32.not_lt.mp d), lor_s]
      rw [e] at ih
      exact ih
theorem qok_1 {p : Nat → Prop} {v : Nat → Nat → Nat} {x y : Nat} {s : Int32 × Int32 × Int32} (hx : x < 64) (hy : y < 64) (hv : ∀ x y, v x y ≤ 64) (h : qok s) : qok (qs1 p v x y s) := by
  rcases Classical.em (p x ∧ p y ∧ (s.2.2 = -1 ∨ nI (v x y) < s.2.2)) with c | c
  · rw [qs1_t c]
    exact Or.inr ⟨x, y, v x y, hv x y, hx, hy, rfl⟩
  · rw [qs1_f c]
    exact h
theorem sb_2 {x : Int64} {a c : Nat} (ha : a < 64) (hc : c < 64) : lg_cmp (((x >>> ((nI a).toInt64 &&& 63)) &&& (x >>> ((nI c).toInt64 &&& 63))) &&& 1) 0 = 0 ↔ ¬ (lbit x a ∧ lbit x c) := by
  have e : ((x >>> ((nI a).toInt64 &&& 63)) &&& (x >>> ((nI c).toInt64 &&& 63))) &&& 1 = ((x >>> ((nI a).toInt64 &&& 63)) &&& 1) &&& ((x >>> ((nI c).toInt64 &&& 63)) &&& 1) := by
    apply Int64.toBitVec_inj.mp
    simp only [Int64.toBitVec_and]
    apply BitVec.eq_of_getLsbD_eq
    intro i hi
    simp only [BitVec.getLsbD_and]
    cases (x >>> ((nI a).toInt64 &&& 63)).toBitVec.getLsbD i <;> cases (x >>> ((nI c).toInt64 &&& 63)).toBitVec.getLsbD i <;> simp
  rw [cmp0, e, sb_v ha, sb_v hc]
  unfold lbit
  cases x.toBitVec.getLsbD a <;> cases x.toBitVec.getLsbD c <;> decide
theorem al_question {x : Int32} (h : Rl b W Rn Kn Tn Hn Un g I1 J1 I2 J2) : AI 264 113 [.int x] I1 J1 I2 J2 (Rl b W Rn Kn Tn Hn Un g) := by
  obtain ⟨S, s1, s2, -, -⟩ := h.S
  obtain ⟨hG, g1, g2, g3, g4, g5⟩ := h.G
  have hB := h.rB
  obtain ⟨b1, b2, b3, b4, b5, b6⟩ := id hB
  by_cases ok : ¬ x < 0 ∧ ¬ (2 : Int32) < x
  · obtain ⟨I1', J1', s, hc, p1, p2, p3, p4⟩ := c_ask (D := 894) h s2 s1
    obtain ⟨A, hA⟩ : ∃ A, A = fl (sAg I1 J1 W S) (wl W g) := ⟨_, rfl⟩
    obtain ⟨I', J', hc2, q1, q2, q3⟩ := r_gather (D := 892) h s2 s1
    rw [← hA] at p4 q3
    have hAl : A.length ≤ 455 := by rw [hA]; exact Nat.le_trans fl_len g5
    obtain ⟨v, hv⟩ : ∃ v, v = lvN I1 J1 W Rn A := ⟨_, rfl⟩
    have hv64 : ∀ x y, v x y ≤ 64 := fun x y => by rw [hv]; exact lvN_le
    rw [← hv] at p4
    have hBI := rB_k hB q1
    have out : ∀ t : Int32 × Int32 × Int32, qok t → t = s → mj_Cl mj_S2 mj_CD 899 = mj_Cl mj_S2 mj_CD 899 ∧ qok s := fun t h1 h2 => ⟨rfl, h2 ▸ h1⟩
    have rf : ∀ x0 : Int32, ¬ x0 < 0 → ¬ (2 : Int32) < x0 → C2 900 113 [.ref 0, .int x0] I2 J2 (.int (if x0 = 0 then s.1 else if x0 = 1 then s.2.1 else s.2.2)) I' J' ∧ qok s := by
      intro x0 k1 k2'
      have st : qok s ∧ mj_Ev mj_S2 (mj_CD 113) (mj_Cl mj_S2 mj_CD 899) (fun q => q = (.int (if x0 = 0 then s.1 else if x0 = 1 then s.2.1 else s.2.2), (I', J', mj_R2))) 32 [(0, .ref 0), (1, .int x0), (2, .long (J1 24 6)), (4, .int (-1)), (5, .int (-1)), (6, .int (-1)), (7, .int (nI 0))] [] (I', J', mj_R2) := by
        have outer := lp_up (n := Rn) (fun i => ∀ t : Int32 × Int32 × Int32, qok t → qsA (lbit (J1 24 6)) v Rn (Rn - i) i t = s → qok s ∧ E2 113 899 (fun q => q = (.int (if x0 = 0 then s.1 else if x0 = 1 then s.2.1 else s.2.2), (I', J', mj_R2))) 32 [(0, .ref 0), (1, .int x0), (2, .long (J1 24 6)), (4, .int t.1), (5, .int t.2.1), (6, .int t.2.2), (7, .int (nI i))] I' J') (fun i hi ih t ht he => ?_) 0 (Nat.zero_le _) (-1, -1, -1) (Or.inl rfl) p4.symm
        · exact outer
        by_cases c : i < Rn
        · rw [qsA_s c] at he
          have inner := lp_up (n := Rn) (fun y => ∀ t : Int32 × Int32 × Int32, qok t → qsA (lbit (J1 24 6)) v Rn (Rn - (i + 1)) (i + 1) (qsB (lbit (J1 24 6)) v i (Rn - y) y t) = s → qok s ∧ E2 113 899 (fun q => q = (.int (if x0 = 0 then s.1 else if x0 = 1 then s.2.1 else s.2.2), (I', J', mj_R2))) 52 [(0, .ref 0), (1, .int x0), (2, .long (J1 24 6)), (4, .int t.1), (5, .int t.2.1), (6, .int t.2.2), (7, .int (nI i)), (8, .int (nI y))] I' J') (fun y hy ih2 t ht he => ?_) (i + 1) (by omega) t ht he
          · refine ⟨inner.1, mj_on (s113_32 _ _ _ _ _ _ ?_)⟩
            rw [hBI.1, nI_clamp (by omega), hBI.2.2.2.2.1, nI_1]
            exact ⟨vp_in_nI b2 (by decide), if_le (by omega) (by omega) (fun d => absurd d (by omega)) (fun _ => inner.2)⟩
          by_cases d : y < Rn
          · rw [qsB_s d] at he
            have ih2 := ih2 d _ (qok_1 (by omega) (by omega) hv64 ht) he
            refine ⟨ih2.1, mj_on (s113_52 _ _ _ _ _ _ _ ?_)⟩
            rw [hBI.1, nI_clamp (by omega), hBI.2.2.2.2.1, nI_1, nI_1]
            refine ⟨vp_in_nI b2 (by decide), if_le (by omega) (by omega) (fun d2 => absurd d2 (by omega)) (fun _ => ?_)⟩
            refine if_i (fun f => ?_) (fun f => ?_)
            · have f := (sb_2 (by omega) (by omega)).mp f
              have ih2 := ih2.2
              rw [qs1_f (fun q => f ⟨q.1, q.2.1⟩)] at ih2
              exact ih2
            · have f : lbit (J1 24 6) i ∧ lbit (J1 24 6) y := Classical.byContradiction fun q => f ((sb_2 (by omega) (by omega)).mpr q)
              obtain ⟨ca, hca⟩ : ∃ n, n = pcL (lvs I1 J1 W Rn A i y) := ⟨_, rfl⟩
              obtain ⟨cb, hcb⟩ : ∃ n, n = pcL (lvs I1 J1 W Rn A y i) := ⟨_, rfl⟩
              have la : ca ≤ 64 := by rw [hca]; exact pcn_le 64 _
              have lb : cb ≤ 64 := by rw [hcb]; exact pcn_le 64 _
              have ka : C2 899 114 [.ref 0, .int (nI i), .int (nI y)] I' J' (.int (nI ca)) I' J' := by rw [hca]; exact r_leaves (D := 897) c d b6 hAl f.1 f.2 q3
              have kb : C2 899 114 [.ref 0, .int (nI y), .int (nI i)] I' J' (.int (nI cb)) I' J' := by rw [hcb]; exact r_leaves (D := 897) d c b6 hAl f.2 f.1 q3
              have hvN : v i y = max ca cb := by rw [hv, hca, hcb]; unfold lvN; rfl
              clear hca hcb
              refine ⟨trivial, _, _, _, ka, trivial, _, _, _, kb, ?_⟩
              have em := (i32_max (a := ca) (b := cb) (by omega) (by omega)).2
              rw [← hvN] at em
              have go : E2 113 899 (fun q => q = (.int (if x0 = 0 then s.1 else if x0 = 1 then s.2.1 else s.2.2), (I', J', mj_R2))) 121 [(0, .ref 0), (1, .int x0), (2, .long (J1 24 6)), (4, .int t.1), (5, .int t.2.1), (6, .int t.2.2), (7, .int (nI i)), (8, .int (nI y)), (11, .int (nI (v i y)))] I' J' := by
                refine mj_on (s113_121 _ _ _ _ _ _ _ _ ?_)
                rw [nI_1]
                have yes : (t.2.2 = -1 ∨ nI (v i y) < t.2.2) → E2 113 899 (fun q => q = (.int (if x0 = 0 then s.1 else if x0 = 1 then s.2.1 else s.2.2), (I', J', mj_R2))) 137 [(0, .ref 0), (1, .int x0), (2, .long (J1 24 6)), (7, .int (nI i)), (8, .int (nI y)), (11, .int (nI (v i y)))] I' J' := by
                  intro hh
                  refine mj_on (s113_137 _ _ _ _ _ ?_)
                  rw [nI_1]
                  have ih2 := ih2.2
                  rw [qs1_t ⟨f.1, f.2, hh⟩] at ih2
                  exact ih2
                refine if_i (fun z => yes (Or.inl z)) (fun z => if_i (fun z2 => yes (Or.inr z2)) (fun z2 => ?_))
                have ih2 := ih2.2
                rw [qs1_f] at ih2
                · exact ih2
                · rintro ⟨-, -, q | q⟩
                  · exact z q
                  · exact z2 q
              refine if_i (fun z => ?_) (fun z => ?_)
              · rw [if_pos z] at em; rw [em]; exact go
              · rw [if_neg z] at em; rw [em]; exact go
          · rw [qsB_e (by omega)] at he
            have ih := ih c t ht he
            refine ⟨ih.1, mj_on (s113_52 _ _ _ _ _ _ _ ?_)⟩
            rw [hBI.1, nI_clamp (by omega), hBI.2.2.2.2.1, nI_1, nI_1]
            exact ⟨vp_in_nI b2 (by decide), if_le (by omega) (by omega) (fun _ => ih.2) (fun d2 => absurd d2 d)⟩
        · rw [qsA_e (by omega)] at he
          refine ⟨he ▸ ht, mj_on (s113_32 _ _ _ _ _ _ ?_)⟩
          rw [hBI.1, nI_clamp (by omega), hBI.2.2.2.2.1]
          refine ⟨vp_in_nI b2 (by decide), if_le (by omega) (by omega) (fun _ => ?_) (fun d => absurd d c)⟩
          rw [he]
          refine if_i (fun z => by rw [if_pos z]) (fun z => if_i (fun z2 => by rw [if_neg z, if_pos z2]) (fun z2 => by rw [if_neg z, if_neg z2]))
      refine ⟨mj_mk (D := 899) (e113 _ ?_), st.1⟩
      exact ⟨trivial, _, _, _, r_is, if_tf (fun _ => ⟨trivial, _, _, _, h.rfront, trivial, _, _, hc2, st.2⟩) (fun f => absurd ⟨k1, k2'⟩ f)⟩
    obtain ⟨rc, hq⟩ := rf x ok.1 ok.2
    obtain ⟨n, hn, rfl⟩ := nI_of2 (n := 2) (by decide) ok.1 (Int32.not_lt.mp ok.2)
    refine ⟨_, I1', J1', I', J', mj_mk (D := 899) (e264 _ ?_), rc, Rl_same h p1 p2 q1 q2⟩
    rw [if_neg ok.1, if_neg ok.2]
    refine ⟨trivial, _, _, _, hc, if_tf (fun c => ?_) (fun c => ?_)⟩
    · have e7 := p3.1
      obtain ⟨e5, e6⟩ := p3.2 c
      rw [e5, e6, e7]
      match n, hn with
      | 0, _ => rfl
      | 1, _ => rfl
      | 2, _ => rfl
    · have c : s.2.2 = -1 := Classical.byContradiction fun q => c q
      rcases hq with rfl | ⟨x, y, m, m1, m2, m3, rfl⟩
      · match n, hn with
        | 0, _ => rfl
        | 1, _ => rfl
        | 2, _ => rfl
      · exfalso
        have c2 : nI m = -1 := c
        have := congrArg Int32.toInt c2
        rw [nI_toInt (by omega)] at this
        have h3 : (-1 : Int32).toInt = -1 := by decide
        omega
  · refine AI.same (-1) (mj_mk (D := 899) (e264 _ ?_)) (mj_mk (D := 899) (e113 _ ?_)) h
    · exact if_i (fun _ => rfl) (fun c => if_i (fun _ => rfl) (fun d => absurd ⟨c, d⟩ ok))
    · exact ⟨trivial, _, _, _, r_is, if_tf (fun f => absurd f ok) (fun _ => rfl)⟩
end S63
end
section
/-! stop -/
theorem xb_nI {n i : Nat} (hi : i < 32) : xb (nI n) i = n.testBit i := by
  show (BitVec.ofNat 32 n).getLsbD i = _
  rw [BitVec.getLsbD_ofNat]
  simp [hi]
theorem tz_mask {m i : Nat} (hi : i < 32) (h1 : m.testBit i = true) (h2 : ∀ j, j < i → m.testBit j = false) : (nI m ^^^ (-1)) &&& (nI m - 1) = nI (2 ^ i - 1) := by
  obtain ⟨q, hq⟩ : ∃ q, m = 2 ^ i * (2 * q + 1) := by
    have e1 : m % 2 ^ i = 0 := by
      apply Nat.eq_of_testBit_eq
      intro j
      rw [Nat.testBit_mod_two_pow, Nat.zero_testBit]
      by_cases h : j < i
      · simp [h, h2 j h]
      · simp [h]
    have e2 : m / 2 ^ i % 2 = 1 := by
      rw [Nat.testBit_eq_decide_div_mod_eq] at h1
      exact of_decide_eq_true h1
    refine ⟨m / 2 ^ i / 2, ?_⟩
    have e3 := Nat.div_add_mod m (2 ^ i)
    have e4 := Nat.div_add_mod (m / 2 ^ i) 2
    rw [e1, Nat.add_zero] at e3
    rw [e2] at e4
    rw [e4, e3]
  have hp := Nat.two_pow_pos i
  have hm1 : 1 ≤ m := by
    rw [hq]
    exact Nat.mul_pos hp (by omega)
  have em : m - 1 = 2 ^ (i + 1) * q + (2 ^ i - 1) := by
    rw [hq, Nat.pow_succ, Nat.mul_add, Nat.mul_one, ← Nat.mul_assoc]
    omega
  have hlt : 2 ^ i - 1 < 2 ^ (i + 1) := by rw [Nat.pow_succ]; omega
  have e1 : nI m - 1 = nI (m - 1) := pk_sub (b := 1) hm1
  rw [e1]
  apply b_ext
  intro j hj
  rw [b_and, b_xor, b_m1 j hj, xb_nI hj, xb_nI hj, xb_nI hj, em, Nat.testBit_two_pow_mul_add q hlt, Nat.testBit_two_pow_sub_one]
  by_cases c : j < i
  · rw [h2 j c, if_pos (by omega)]
    simp [c]
  · by_cases e : j = i
    · rw [e, h1]
      simp
    · rw [if_neg (by omega)]
      have : m.testBit j = q.testBit (j - (i + 1)) := by
        have e5 : m = 2 ^ (i + 1) * q + 2 ^ i := by
          rw [hq, Nat.pow_succ, Nat.mul_add, Nat.mul_one, ← Nat.mul_assoc]
        rw [e5, Nat.testBit_two_pow_mul_add q (by rw [Nat.pow_succ]; omega), if_neg (by omega)]
      rw [this]
      simp [c]
section S64
variable {D b W Rn Kn Tn Hn Un g : Nat} {I I1 I2 : Nat → Nat → Int32} {J J1 J2 : Nat → Nat → Int64}
theorem pw_le : ∀ k s, k ≤ 31 → s ≤ 16 → 1 ≤ s → (nI (2 ^ k - 1) ≤ nI (2 ^ s) ↔ k ≤ s) := by
  have : ∀ k, k < 32 → ∀ s, s < 17 → 1 ≤ s → (nI (2 ^ k - 1) ≤ nI (2 ^ s) ↔ k ≤ s) := by decide +kernel
  exact fun k s h1 h2 h3 => this k (by omega) s (by omega) h3
theorem pw_sh {k s : Nat} (hk : k ≤ 31) (hs : s ≤ k) (v : Int32) (hv : ((v.toUInt32 &&& Int32.toUInt32 31).toBitVec % 32).toNat = s) : ((nI (2 ^ k - 1)).toUInt32 >>> (v.toUInt32 &&& Int32.toUInt32 31)).toInt32 = nI (2 ^ (k - s) - 1) := by
  have h1 : 2 ^ k - 1 < 2 ^ 32 := by
    have : 2 ^ k ≤ 2 ^ 31 := Nat.pow_le_pow_right (by decide) hk
    omega
  rw [pk_ushrN h1 v s hv]
  congr 1
  have : ∀ k, k < 32 → ∀ s, s < 32 → s ≤ k → (2 ^ k - 1) / 2 ^ s = 2 ^ (k - s) - 1 := by decide +kernel
  exact this k (by omega) s (by omega) hs
theorem c_tzI {m i : Nat} (hi : i < 32) (h1 : m.testBit i = true) (h2 : ∀ j, j < i → m.testBit j = false) : C1 (D + 1) 8 [.int (nI m)] I J (.int (nI i)) I J := by
  refine mj_mk (e8 _ ?_)
  rw [tz_mask hi h1 h2]
  have fin : ∀ k c : Nat, c + k = i + 1 → 1 ≤ k → k ≤ 2 → E1 8 D (fun q => q = (.int (nI i), (I, J, mj_R1))) 74 [(0, .int (nI (2 ^ k - 1))), (1, .int (nI c))] I J := by
    intro k c hc hk1 hk
    refine mj_on (s8_74 _ _ ?_)
    have e : ((nI (2 ^ k - 1)).toUInt32 >>> ((1 : Int32).toUInt32 &&& Int32.toUInt32 31)).toInt32 = nI (2 ^ (k - 1) - 1) := pw_sh (by omega) hk1 1 (by decide)
    rw [e, nI_add]
    match k, hk1, hk with
    | 1, _, _ => rw [show c + (2 ^ (1 - 1) - 1) = i by simp; omega]
    | 2, _, _ => rw [show c + (2 ^ (2 - 1) - 1) = i by simp; omega]
  have s62 : ∀ k c : Nat, c + k = i + 1 → 1 ≤ k → k ≤ 4 → E1 8 D (fun q => q = (.int (nI i), (I, J, mj_R1))) 62 [(0, .int (nI (2 ^ k - 1))), (1, .int (nI c))] I J := by
    intro k c hc hk1 hk
    refine mj_on (s8_62 _ _ ?_)
    refine if_i (fun q => fin k c hc hk1 ((pw_le k 2 (by omega) (by omega) (by omega)).mp q)) (fun q => ?_)
    have hk2 : 2 < k := Nat.lt_of_not_le fun z => q ((pw_le k 2 (by omega) (by omega) (by omega)).mpr z)
    rw [pw_sh (by omega) (show 2 ≤ k by omega) 2 (by decide), show (2 : Int32) = nI 2 from rfl, nI_add]
    exact fin (k - 2) (c + 2) (by omega) (by omega) (by omega)
  have s49 : ∀ k c : Nat, c + k = i + 1 → 1 ≤ k → k ≤ 8 → E1 8 D (fun q => q = (.int (nI i), (I, J, mj_R1))) 49 [(0, .int (nI (2 ^ k - 1))), (1, .int (nI c))] I J := by
    intro k c hc hk1 hk
    refine mj_on (s8_49 _ _ ?_)
    refine if_i (fun q => s62 k c hc hk1 ((pw_le k 4 (by omega) (by omega) (by omega)).mp q)) (fun q => ?_)
    have hk2 : 4 < k := Nat.lt_of_not_le fun z => q ((pw_le k 4 (by omega) (by omega) (by omega)).mpr z)
    rw [pw_sh (by omega) (show 4 ≤ k by omega) 4 (by decide), show (4 : Int32) = nI 4 from rfl, nI_add]
    exact s62 (k - 4) (c + 4) (by omega) (by omega) (by omega)
  have s34 : ∀ k c : Nat, c + k = i + 1 → 1 ≤ k → k ≤ 16 → E1 8 D (fun q => q = (.int (nI i), (I, J, mj_R1))) 34 [(0, .int (nI (2 ^ k - 1))), (1, .int (nI c))] I J := by
    intro k c hc hk1 hk
    refine mj_on (s8_34 _ _ ?_)
    refine if_i (fun q => s49 k c hc hk1 ((pw_le k 8 (by omega) (by omega) (by omega)).mp q)) (fun q => ?_)
    have hk2 : 8 < k := Nat.lt_of_not_le fun z => q ((pw_le k 8 (by omega) (by omega) (by omega)).mpr z)
    rw [pw_sh (by omega) (show 8 ≤ k by omega) 8 (by decide), show (8 : Int32) = nI 8 from rfl, nI_add]
    exact s49 (k - 8) (c + 8) (by omega) (by omega) (by omega)
  by_cases i0 : i = 0
  · subst i0
    rw [if_pos (show nI (2 ^ 0 - 1) ≤ 0 by decide)]
    rfl
  · have hz : ¬ nI (2 ^ i - 1) ≤ 0 := by
      have : ∀ i, i < 32 → i ≠ 0 → ¬ nI (2 ^ i - 1) ≤ 0 := by decide +kernel
      exact this i hi i0
    rw [if_neg hz]
    refine if_i (fun q => s34 i 1 (by omega) (by omega) ((pw_le i 16 (by omega) (by omega) (by omega)).mp q)) (fun q => ?_)
    have hk2 : 16 < i := Nat.lt_of_not_le fun z => q ((pw_le i 16 (by omega) (by omega) (by omega)).mpr z)
    rw [pw_sh (by omega) (show 16 ≤ i by omega) 16 (by decide), show (1 : Int32) + 16 = nI 17 from rfl]
    exact s34 (i - 16) 17 (by omega) (by omega) (by omega)
theorem lb_nat {m i : Nat} (hm : m < 2 ^ 64) (hi : i < 64) : lbit (lN m) i ↔ m.testBit i = true := by
  unfold lbit
  show (BitVec.ofNat 64 m).getLsbD i = true ↔ _
  rw [BitVec.getLsbD_ofNat]
  simp [hi]
theorem c_tzL {x : Int64} {i : Nat} (hi : i < 64) (h1 : lbit x i) (h2 : ∀ j, j < i → ¬ lbit x j) : C1 (D + 2) 7 [.long x] I J (.int (nI i)) I J := by
  obtain ⟨m, hm, rfl⟩ := wb_of x
  have t1 : m.testBit i = true := (lb_nat hm hi).mp h1
  have t2 : ∀ j, j < i → m.testBit j = false := fun j hj => by
    have := h2 j hj
    rw [lb_nat hm (by omega)] at this
    exact Bool.not_eq_true _ ▸ this
  refine mj_mk (e7 _ ?_)
  rw [lN_i]
  by_cases c : i < 32
  · have nz : ¬ nI m = 0 := fun e => by
      have := congrArg (fun y => xb y i) e
      simp only [xb_nI c, b_0, t1] at this
      cases this
    rw [if_neg nz]
    exact ⟨trivial, _, _, _, c_tzI c t1 t2, rfl⟩
  · have z : nI m = 0 := by
      apply b_ext
      intro j hj
      rw [xb_nI hj, b_0, t2 j (by omega)]
    rw [if_pos z]
    have e : ((lN m).toUInt64 >>> ((32 : Int32).toInt64.toUInt64 &&& Int64.toUInt64 63)).toInt64 = lN (m / 2 ^ 32) := wb_shr (k := 32) hm (by decide)
    rw [e, lN_i]
    refine ⟨trivial, _, _, _, c_tzI (i := i - 32) (by omega) ?_ ?_, ?_⟩
    · rw [Nat.testBit_div_two_pow, show i - 32 + 32 = i by omega]
      exact t1
    · intro j hj
      rw [Nat.testBit_div_two_pow]
      exact t2 _ (by omega)
    · rw [show (32 : Int32) = nI 32 from rfl, nI_add, show 32 + (i - 32) = i by omega]
theorem al_stop {x : Int32} (h : Rl b W Rn Kn Tn Hn Un g I1 J1 I2 J2) : AI 273 117 [.int x] I1 J1 I2 J2 (Rl b W Rn Kn Tn Hn Un g) := by
  obtain ⟨S, s1, s2, -, -⟩ := h.S
  obtain ⟨hG, g1, g2, g3, g4, g5⟩ := h.G
  obtain ⟨w1, w2, w3, w4⟩ := h.W24
  have hB := h.rB
  obtain ⟨b1, b2, b3, b4, b5, b6⟩ := id hB
  by_cases ok : ¬ x < 0 ∧ x ≤ 9999
  · obtain ⟨d, hd, rfl⟩ := nI_of2 (n := 9999) (by decide) ok.1 ok.2
    obtain ⟨P, hP⟩ : ∃ P, P = sAg I1 J1 W S := ⟨_, rfl⟩
    obtain ⟨A, hA⟩ : ∃ A, A = fl P (wl W g) := ⟨_, rfl⟩
    have hgb := hG.2
    have hdg : d * g ≤ 200000 := Nat.le_trans (Nat.mul_le_mul hd hgb) (by decide)
    -- the row that is told
    obtain ⟨T, hT⟩ : ∃ T : List (List Nat) → Nat → Prop, T = fun A u => lbit (J1 24 6) u ∧ ∀ r, r ∈ A → fbP Rn (lbit (J1 24 6)) (rwo I1 W r) (d * g : Nat) u := ⟨_, rfl⟩
    have bfr : ∀ {u}, lbit (J1 24 6) u → u < Rn := fun {u} q => by
      rw [h.2.2.2.2.1.2.2.2.2] at q
      exact ((bs_bit (by omega) u).mp q).1
    obtain ⟨v, hv1, hv2⟩ : ∃ v : Int32, (A = [] → v = -1) ∧ (A ≠ [] → v = fs (T A) (Rn - 0) 0) := by
      by_cases e : A = []
      · exact ⟨-1, fun _ => rfl, fun q => absurd e q⟩
      · exact ⟨_, fun q => absurd q e, fun _ => rfl⟩
    have cl : ∃ r I1' J1', C1 900 273 [.ref 0, .int (nI d)] I1 J1 (.int r) I1' J1' ∧ (r = v ∧ k1 I1' = k1 I1 ∧ J1' = J1) := by
      refine mj_cI (D := 899) (e273 _ ?_)
      rw [if_neg ok.1, if_pos ok.2]
      have key := lp_up (n := (wl W g).length) (fun n => ∀ I B, k1 I = k1 I1 → (∀ i, i < 64 → (lbit B i ↔ T (fl P ((wl W g).take n)) i)) → E1 273 899 (qI mj_R1 (fun r I' J' => r = v ∧ k1 I' = k1 I1 ∧ J' = J1)) 26 [(0, .ref 0), (1, .int (nI d)), (2, .int (tf (fl P ((wl W g).take n) ≠ []))), (3, .long B), (5, .int (nI n))] I J1) (fun n hn ih I B hI hB2 => ?_) 0 (Nat.zero_le _) I1 (J1 24 6) rfl (fun i hi => by
        rw [hT]
        exact ⟨fun q => ⟨q, fun r hr => by cases hr⟩, fun q => q.1⟩)
      · rw [show tf (fl P ((wl W g).take 0) ≠ []) = 0 from tf_f (fun q => q rfl)] at key
        exact key
      refine mj_on (s273_26 _ _ _ _ ?_)
      rw [k1_at hI (q := 51) (j := 2) rfl, g4, nI_1]
      refine if_le (by omega) (by omega) (fun c => ?_) (fun c => ?_)
      · rw [tk_e c] at hB2 ⊢
        rw [← hA] at hB2 ⊢
        refine if_tf (fun q => ?_) (fun q => ?_)
        · by_cases z : B = 0
          · rw [if_pos (cmp0.mpr z)]
            refine ⟨_, _, _, rfl, ?_, hI, rfl⟩
            rw [hv2 q]
            have : ∀ k i, k + i = Rn → fs (T A) k i = -1 := by
              intro k
              induction k with
              | zero => intro i _; rfl
              | succ k ih =>
                intro i hi
                have e : fs (T A) (k + 1) i = fs (T A) k (i + 1) := @if_neg _ (Classical.propDecidable _) (fun q => by
                  have := (hB2 i (by omega)).mpr q
                  rw [z] at this
                  exact absurd this (by unfold lbit; simp)) _ _ _
                rw [e]
                exact ih (i + 1) (by omega)
            exact (this Rn 0 (by omega)).symm
          · rw [if_neg (fun e => z (cmp0.mp e))]
            obtain ⟨i, hi, t1, t2⟩ : ∃ i, i < Rn ∧ T A i ∧ ∀ j, j < i → ¬ T A j := by
              have ex : ∃ i, i < 64 ∧ lbit B i := by
                refine Classical.byContradiction fun q => z (i64_ext fun i hi => ?_)
                refine ⟨fun y => absurd ⟨i, hi, y⟩ q, fun y => absurd y (by simp)⟩
              obtain ⟨i, hi, hb⟩ := ex
              have tA := (hB2 i hi).mp hb
              have : ∀ k, k ≤ i + 1 → (∃ i, i < k ∧ T A i ∧ ∀ j, j < i → ¬ T A j) ∨ ∀ j, j < k → ¬ T A j := by
                intro k
                induction k with
                | zero => exact fun _ => Or.inr fun j hj => absurd hj (Nat.not_lt_zero j)
                | succ k ih =>
                  intro hk
                  rcases ih (by omega) with ⟨u, q1, q2, q3⟩ | q
                  · exact Or.inl ⟨u, by omega, q2, q3⟩
                  · rcases Classical.em (T A k) with y | y
                    · exact Or.inl ⟨k, by omega, y, q⟩
                    · exact Or.inr fun j hj => by
                        by_cases e : j = k
                        · rw [e]; exact y
                        · exact q j (by omega)
              rcases this (i + 1) (Nat.le_refl _) with ⟨u, q1, q2, q3⟩ | q
              · have hu : lbit (J1 24 6) u := by rw [hT] at q2; exact q2.1
                exact ⟨u, bfr hu, q2, q3⟩
              · exact absurd tA (q i (by omega))
            refine ⟨trivial, _, _, _, c_tzL (D := 897) (i := i) (by omega) ((hB2 i (by omega)).mpr t1) (fun j hj y => t2 j hj ((hB2 j (by omega)).mp y)), ?_⟩
            refine ⟨_, _, _, rfl, ?_, hI, rfl⟩
            rw [hv2 q]
            have : ∀ k j, j ≤ i → k + j = Rn → fs (T A) k j = nI i := by
              intro k
              induction k with
              | zero => intro j h1 h2; omega
              | succ k ih =>
                intro j h1 h2
                by_cases e : j = i
                · subst e
                  exact @if_pos _ (Classical.propDecidable _) t1 _ _ _
                · have e : fs (T A) (k + 1) j = fs (T A) k (j + 1) := @if_neg _ (Classical.propDecidable _) (t2 j (by omega)) _ _ _
                  rw [e]
                  exact ih (j + 1) (by omega) (by omega)
            exact (this Rn 0 (Nat.zero_le _) (by omega)).symm
        · refine ⟨_, _, _, rfl, ?_, hI, rfl⟩
          rw [hv1 (Classical.byContradiction q)]
      · obtain ⟨r, hr, -, -⟩ := gt_of c
        have ih := ih c
        rw [tk_s hr] at ih
        refine ⟨trivial, _, _, _, c_isAg (D := 895) h s2 s1 hI hr, if_tf (fun f => ?_) (fun f => ?_)⟩
        · rw [← hP] at f
          rw [fl_t f] at ih
          obtain ⟨I', hc, q1, q2⟩ := c_firstBy (D := 897) h (d := d * g) hI hr hdg
          rw [k1_at hI (q := 51) (j := 0) rfl, g2, pk_mul]
          refine ⟨trivial, _, _, _, hc, ?_⟩
          have z := ih I' (B &&& fb I1 J1 W Rn (d * g : Nat) r) ((k1_28 q1).trans hI) (fun i hi => ?_)
          · rw [show tf (fl P (List.take n (wl W g)) ++ [r] ≠ []) = 1 from tf_t (by simp)] at z
            exact z
          · have e1 : lbit (B &&& fb I1 J1 W Rn (d * g : Nat) r) i ↔ lbit B i ∧ lbit (fb I1 J1 W Rn (d * g : Nat) r) i := by
              unfold lbit
              rw [Int64.toBitVec_and, BitVec.getLsbD_and, Bool.and_eq_true]
            rw [e1, hB2 i hi, hT]
            have e2 : lbit (fb I1 J1 W Rn (d * g : Nat) r) i ↔ i < Rn ∧ fbP Rn (lbit (J1 24 6)) (rwo I1 W r) (d * g : Nat) i := bs_bit (by omega) i
            rw [e2]
            constructor
            · rintro ⟨⟨q1, q2⟩, q3, q4⟩
              refine ⟨q1, fun r' hr' => ?_⟩
              rcases List.mem_append.mp hr' with z | z
              · exact q2 r' z
              · rw [List.mem_singleton.mp z]; exact q4
            · rintro ⟨q1, q2⟩
              exact ⟨⟨q1, fun r' hr' => q2 r' (List.mem_append_left _ hr')⟩, bfr q1, q2 r (List.mem_append_right _ List.mem_cons_self)⟩
        · rw [← hP] at f
          rw [fl_f f] at ih
          exact ih I B hI hB2
    have rf : ∃ r I2' J2', C2 900 117 [.ref 0, .int (nI d)] I2 J2 (.int r) I2' J2' ∧ (r = v ∧ k2 I2' = k2 I2 ∧ kJ2 J2' = kJ2 J2) := by
      obtain ⟨I', J', hc2, q1, q2, q3⟩ := r_gather (D := 892) h s2 s1
      rw [← hP, ← hA] at q3
      have hAl : A.length ≤ 455 := by rw [hA]; exact Nat.le_trans fl_len g5
      have hBI := rB_k hB q1
      have hAm : ∀ r, r ∈ A → r ∈ wl W g := fun r hr => by rw [hA] at hr; exact fl_mem hr
      refine mj_cI (D := 899) (e117 _ ?_)
      have e9 : ¬ (9999 : Int32) < nI d := Int32.not_lt.mpr ok.2
      refine ⟨trivial, _, _, _, r_is, if_tf (fun _ => ⟨trivial, _, _, _, h.rfront, trivial, _, _, hc2, ?_⟩) (fun f => absurd ⟨ok.1, e9⟩ f)⟩
      obtain ⟨Q, hQ⟩ : ∃ Q, Q = qI mj_R2 (fun r I' J' => r = v ∧ k2 I' = k2 I2 ∧ kJ2 J' = kJ2 J2) := ⟨_, rfl⟩
      rw [← hQ]
      have fin : ∀ r : Int32, r = v → Q (.int r, (I', J', mj_R2)) := fun r hr => by rw [hQ]; exact ⟨_, _, _, rfl, hr, q1, q2⟩
      refine lp_up (n := Rn) (fun u => (A ≠ [] → fs (T A) (Rn - u) u = v) → E2 117 899 Q 25 [(0, .ref 0), (1, .int (nI d)), (2, .long (J1 24 6)), (4, .int (nI u))] I' J') (fun u hu ih he => ?_) 0 (Nat.zero_le _) (fun e => (hv2 e).symm)
      refine mj_on (s117_25 _ _ _ ?_)
      rw [hBI.1, nI_clamp (by omega), hBI.2.2.2.2.1, q3.1]
      refine ⟨vp_in_nI b2 (by decide), if_le (by omega) (by omega) (fun c => fin _ ?_) (fun c => ?_)⟩
      · by_cases e : A = []
        · exact (hv1 e).symm
        · rw [← he e, fs_e c]
      refine if_le (b := 0) (by omega) (by decide) (fun z => fin _ (hv1 (List.eq_nil_of_length_eq_zero (by omega))).symm) (fun z => ?_)
      have hne : A ≠ [] := fun e => by rw [e] at z; exact absurd z (Nat.not_lt_zero _)
      have he := he hne
      -- over those that agree
      have over : ∀ n, n ≤ A.length → ∀ B : Prop, (B ↔ T (A.take n) u) → E2 117 899 Q 67 [(0, .ref 0), (1, .int (nI d)), (2, .long (J1 24 6)), (4, .int (nI u)), (5, .int (tf B)), (6, .int (nI n))] I' J' := by
        have last : ∀ B : Prop, (B ↔ T A u) → E2 117 899 Q 201 [(0, .ref 0), (1, .int (nI d)), (2, .long (J1 24 6)), (4, .int (nI u)), (5, .int (tf B))] I' J' := by
          intro B hB'
          refine mj_on (s117_201 _ _ _ _ ?_)
          rw [nI_1]
          refine if_tf (fun q => fin _ ?_) (fun q => ih c fun _ => ?_)
          · rw [← he, fs_t c (hB'.mp q)]
          · rw [← he, fs_f c (fun y => q (hB'.mpr y))]
        refine lp_up (n := A.length) (fun n => ∀ B : Prop, (B ↔ T (A.take n) u) → E2 117 899 Q 67 [(0, .ref 0), (1, .int (nI d)), (2, .long (J1 24 6)), (4, .int (nI u)), (5, .int (tf B)), (6, .int (nI n))] I' J') (fun n hn ih2 B hB' => ?_)
        refine mj_on (s117_67 _ _ _ _ _ ?_)
        rw [q3.1, ix40, nI_clamp (by omega)]
        refine if_le (by omega) (by omega) (fun f => ?_) (fun f => ?_)
        · rw [tk_e f] at hB'
          exact last B hB'
        refine if_tf (fun q => ?_) (fun q => ?_)
        · have hTu := hB'.mp q
          have hbu : lbit (J1 24 6) u := by rw [hT] at hTu; exact hTu.1
          obtain ⟨r, hr, hrA, -⟩ := gt_of f
          obtain ⟨-, wv⟩ := q3.2 n r hr
          refine ⟨vp_in_nI (by omega) (by decide), ?_⟩
          rw [wv u c hbu]
          -- the least worth
          have least := lp_up (n := Rn) (fun i => ∀ x7, (∃ o, o < Rn ∧ lbit (J1 24 6) o ∧ x7 = rwo I1 W r o) → (∀ p, p < i → lbit (J1 24 6) p → x7 ≤ rwo I1 W r p) → x7 ≤ rwo I1 W r u → E2 117 899 Q 99 [(0, .ref 0), (1, .int (nI d)), (2, .long (J1 24 6)), (4, .int (nI u)), (6, .int (nI n)), (7, .int x7), (8, .int (nI i))] I' J') (fun i hi ih3 x7 h1 h2 h3 => ?_) 0 (Nat.zero_le _) (rwo I1 W r u) ⟨u, c, hbu, rfl⟩ (fun p hp => absurd hp (Nat.not_lt_zero p)) (Int32.le_refl _)
          · exact least
          refine mj_on (s117_99 _ _ _ _ _ _ ?_)
          rw [hBI.1, nI_clamp (by omega), hBI.2.2.2.2.1, ix40, ix40, nI_clamp (by omega), nI_clamp (by omega), wv u c hbu, nI_1, nI_1, k2_at q1 (q := 0) (j := 63) rfl, hG.1, pk_mul]
          refine ⟨vp_in_nI b2 (by decide), if_le (by omega) (by omega) (fun y => ⟨vp_in_nI (by omega) (by decide), ?_⟩) (fun y => ?_)⟩
          · obtain ⟨o, o1, o2, o3⟩ := h1
            obtain ⟨zu, zu1, zu2, zu3⟩ := h.wrng (hAm r hrA) c
            obtain ⟨zo, zo1, zo2, zo3⟩ := h.wrng (hAm r hrA) o1
            have et : (x7 + nI (d * g) < rwo I1 W r u) ↔ ¬ fbP Rn (lbit (J1 24 6)) (rwo I1 W r) (d * g : Nat) u := by
              rw [o3, zo3, zu3, ← iI_nI, iI_add, Int32.lt_iff_toInt_lt, iI_toInt (by omega) (by omega), iI_toInt (by omega) (by omega)]
              constructor
              · intro q5 hp
                have := hp.2 o o1 o2
                rw [zu3, zo3, iI_toInt (by omega) (by omega), iI_toInt (by omega) (by omega)] at this
                omega
              · intro q5
                refine Int.lt_of_not_ge fun q6 => q5 ⟨hbu, fun p p1 p2 => ?_⟩
                have h7 := Int32.le_iff_toInt_le.mp (h2 p (by omega) p2)
                rw [o3, zo3, iI_toInt (by omega) (by omega)] at h7
                rw [zu3, iI_toInt (by omega) (by omega)]
                omega
            have hs : ∀ C : Prop, (C ↔ fbP Rn (lbit (J1 24 6)) (rwo I1 W r) (d * g : Nat) u) → (C ↔ T (A.take (n + 1)) u) := fun C hC => by
              rw [tk_s hr, hC, hT]
              constructor
              · intro q5
                refine ⟨hbu, fun r' hr' => ?_⟩
                rcases List.mem_append.mp hr' with z | z
                · rw [hT] at hTu; exact hTu.2 r' z
                · rw [List.mem_singleton.mp z]; exact q5
              · exact fun q5 => q5.2 r (List.mem_append_right _ List.mem_cons_self)
            refine if_i (fun q5 => ?_) (fun q5 => ?_)
            · have z := ih2 f False (hs False ⟨fun y => y.elim, fun y => et.mp q5 y⟩)
              rw [tf_f id] at z
              exact z
            · have z := ih2 f True (hs True ⟨fun _ => Classical.byContradiction fun y => q5 (et.mpr y), fun _ => trivial⟩)
              rw [tf_t trivial] at z
              exact z
          · refine if_i (fun q5 => ?_) (fun q5 => ?_)
            · have hbi := (sb_1 (by omega)).mp q5
              rw [wv i y hbi]
              refine ⟨vp_in_nI (by omega) (by decide), if_i (fun q6 => ?_) (fun q6 => ⟨vp_in_nI (by omega) (by decide), ?_⟩)⟩
              · refine ih3 y x7 h1 (fun p hp hb => ?_) h3
                by_cases e : p = i
                · rw [e]; exact q6
                · exact h2 p (by omega) hb
              · have q6 := Int32.not_le.mp q6
                refine ih3 y _ ⟨i, y, hbi, rfl⟩ (fun p hp hb => ?_) (Int32.le_trans (Int32.le_of_lt q6) h3)
                by_cases e : p = i
                · rw [e]; exact Int32.le_refl _
                · exact Int32.le_trans (Int32.le_of_lt q6) (h2 p (by omega) hb)
            · have hbi : ¬ lbit (J1 24 6) i := fun z => q5 ((sb_1 (by omega)).mpr z)
              refine ih3 y x7 h1 (fun p hp hb => ?_) h3
              by_cases e : p = i
              · rw [e] at hb; exact absurd hb hbi
              · exact h2 p (by omega) hb
        · refine last B ⟨fun y => absurd y q, fun y => absurd (hB'.mpr ?_) q⟩
          rw [hT] at y ⊢
          exact ⟨y.1, fun r hr => y.2 r (List.mem_of_mem_take hr)⟩
      have go : ∀ B : Prop, (B ↔ lbit (J1 24 6) u) → E2 117 899 Q 64 [(0, .ref 0), (1, .int (nI d)), (2, .long (J1 24 6)), (4, .int (nI u)), (5, .int (tf B))] I' J' := by
        intro B hB'
        refine mj_on (s117_64 _ _ _ _ ?_)
        refine over 0 (Nat.zero_le _) B ?_
        rw [hB', hT]
        exact ⟨fun q => ⟨q, fun r hr => by cases hr⟩, fun q => q.1⟩
      refine if_i (fun q => ?_) (fun q => ?_)
      · have z := go True ⟨fun _ => (sb_1 (by omega)).mp q, fun _ => trivial⟩
        rw [tf_t trivial] at z
        exact z
      · have z := go False ⟨fun y => y.elim, fun y => q ((sb_1 (by omega)).mpr y)⟩
        rw [tf_f id] at z
        exact z
    obtain ⟨r, I1', J1', hc, rfl, p1, rfl⟩ := cl
    obtain ⟨r, I2', J2', hc2, rfl, p2, p3⟩ := rf
    exact ⟨_, _, _, _, _, hc, hc2, Rl_same h p1 rfl p2 p3⟩
  · refine AI.same (-1) (mj_mk (D := 899) (e273 _ ?_)) (mj_mk (D := 899) (e117 _ ?_)) h
    · exact if_i (fun _ => rfl) (fun c => if_i (fun d => absurd ⟨c, d⟩ ok) (fun _ => rfl))
    · exact ⟨trivial, _, _, _, r_is, if_tf (fun f => absurd ⟨f.1, Int32.not_lt.mp f.2⟩ ok) (fun _ => rfl)⟩
end S64
end
