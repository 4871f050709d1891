/-! the class gathers all ways -/
theorem wm_shr {k m : Nat} (hk : k < 31) (hm : m < 2 ^ 31) : nI m >>> (nI k &&& 31) = nI (m / 2 ^ k) := by
  have hD : ∀ k, k < 31 → ((nI k &&& 31).toBitVec.smod 32).toNat = k := by decide
  apply Int32.toInt_inj.mp
  have e : (nI m >>> (nI k &&& 31)).toInt = (nI m).toInt >>> ((nI k &&& 31).toBitVec.smod 32).toNat := BitVec.toInt_sshiftRight ..
  rw [e, hD k hk, Int.shiftRight_eq_div_pow, nI_toInt hm, nI_toInt (Nat.lt_of_le_of_lt (Nat.div_le_self _ _) hm)]
  rfl
theorem wm_bit : ∀ k, k < 10 → ∀ m, m < 1024 → (((nI m >>> (nI k &&& 31)) &&& 1) = 0 ↔ m.testBit k = false) := by
  intro k hk m hm
  rw [wm_shr (by omega) (by omega), show (1 : Int32) = nI 1 from rfl, nx_and, Nat.and_one_is_mod]
  have e : m.testBit k = decide (m / 2 ^ k % 2 = 1) := Nat.testBit_eq_decide_div_mod_eq
  rw [e, decide_eq_false_iff_not]
  rcases Nat.mod_two_eq_zero_or_one (m / 2 ^ k) with h | h
  · rw [h]
    exact ⟨fun _ => by decide, fun _ => by decide +kernel⟩
  · rw [h]
    exact ⟨fun q => absurd q (by decide +kernel), fun q => absurd rfl q⟩
theorem wm_one : ∀ k, k < 10 → ((1 : Int32) <<< (nI k &&& 31)) = nI (2 ^ k) ∧ 2 ^ k < 1024 := by decide +kernel
theorem wm_or : ∀ k, k < 10 → ∀ m, m < 1024 → (nI m ||| ((1 : Int32) <<< (nI k &&& 31))) = nI (m ||| 2 ^ k) ∧ m ||| 2 ^ k < 1024 := by
  intro k hk m hm
  obtain ⟨h1, h2⟩ := wm_one k hk
  rw [h1, nx_or]
  exact ⟨rfl, Nat.or_lt_two_pow (n := 10) hm h2⟩
theorem wm_key : ∀ k, k < 10 → ∀ d, d < 9 → (nI k).toInt64 <<< (((4 : Int32) * ((9 : Int32) - nI d)).toInt64 &&& 63) = lN (k * 2 ^ (4 * (9 - d))) ∧ k * 2 ^ (4 * (9 - d)) < 2 ^ 62 := by decide +kernel
theorem wm_key0 : ∀ k, k < 10 → (nI k).toInt64 <<< ((40 : Int32).toInt64 &&& 63) = lN (k * 2 ^ 40) ∧ k * 2 ^ 40 < 2 ^ 62 := by decide +kernel
theorem wm_n : ∀ d, d < 10 → (nI d + 1).toInt64 = lN (d + 1) := by decide +kernel
theorem wm_ok {a c : Nat} (ha : a < 2 ^ 62) (hc : c < 2 ^ 62) : ∃ k, k < 2 ^ 62 ∧ lN a ||| lN c = lN k := ⟨a ||| c, Nat.or_lt_two_pow ha hc, wb_or (by omega) (by omega)⟩
section S91
variable {D W Tn : Nat} {fr tt : Nat → Nat} {am : Nat → Nat → Nat} {I : Nat → Nat → Int32} {J : Nat → Nat → Int64}
/-- the ties of the class' Tale -/
def tlq (W Tn : Nat) (fr tt : Nat → Nat) (am : Nat → Nat → Nat) (I : Nat → Nat → Int32) : Prop := W ≤ 4 ∧ Tn ≤ 24 ∧ I 2 0 = nI W ∧ I 2 3 = nI Tn ∧ ∀ t, t < Tn → I 7 t = nI (fr t) ∧ I 8 t = nI (tt t) ∧ fr t < 10 ∧ tt t < 10 ∧ ∀ w, w < W → I 5 (480 + 4 * t + w) = nI (am t w)
theorem tlq_cg {I' : Nat → Nat → Int32} (h : tlq W Tn fr tt am I) (e : ∀ q, q ≠ 29 → q ≠ 30 → q ≠ 32 → q ≠ 36 → q ≠ 37 → I' q = I q) : tlq W Tn fr tt am I' := by
  unfold tlq at h ⊢
  rw [e 2 (by decide) (by decide) (by decide) (by decide) (by decide), e 7 (by decide) (by decide) (by decide) (by decide) (by decide), e 8 (by decide) (by decide) (by decide) (by decide) (by decide), e 5 (by decide) (by decide) (by decide) (by decide) (by decide)]
  exact h
/-- the pool holds the rows of L -/
def plL (W : Nat) (L : List (Nat → Nat)) (I : Nat → Nat → Int32) (J : Nat → Nat → Int64) : Prop := I 29 3 = nI L.length ∧ I 29 4 = nI W ∧ L.length ≤ 6561 ∧ ∀ x v, L[x]? = some v → (∀ w, w < W → I 30 (4 * x + w) = lo (I 4 w) (nI (v w))) ∧ I 32 x = nI x ∧ ∃ k, k < 2 ^ 62 ∧ J 31 x = lN k
theorem plL_cg {L : List (Nat → Nat)} {I' : Nat → Nat → Int32} {J' : Nat → Nat → Int64} (h : plL W L I J) (e29 : I' 29 = I 29) (e30 : I' 30 = I 30) (e32 : I' 32 = I 32) (e4 : I' 4 = I 4) (e31 : J' 31 = J 31) : plL W L I' J' := by
  unfold plL at h ⊢
  rw [e29, e30, e32, e4, e31]
  exact h
def paI (I : Nat → Nat → Int32) (N : Nat) : Nat → Nat → Int32 := mj_up (mj_up (mj_cp I 37 0 30 (4 * N) 4) 32 N (nI N)) 29 3 (nI (N + 1))
theorem c_padd {N : Nat} {x : Int64} (hN : I 29 3 = nI N) (h : N < 6561) : C1 (D + 1) 211 [.ref 29, .ref 37, .long x] I J .null (paI I N) (mj_up J 31 N x) := by
  refine mj_mk (e211 _ ?_)
  rw [hN, show (6561 : Int32) = nI 6561 from rfl]
  refine if_le (by decide) (by omega) (fun z => absurd z (by omega)) (fun _ => ?_)
  rw [ix4m, nI_clamp (by omega), nI_clamp (by omega), nI_1]
  exact ⟨⟨by decide, nI_pos (by omega), by decide, by decide, by show 4 * N + 4 ≤ 26244; omega⟩, vp_in_nI (by omega) (by decide), vp_in_nI (by omega) (by decide), rfl⟩
theorem paI_f {N q : Nat} (h1 : q ≠ 29) (h2 : q ≠ 30) (h3 : q ≠ 32) : paI I N q = I q := by
  unfold paI
  rw [up_c h1, up_c h3]
  funext j
  exact if_neg h2
theorem plL_add {L : List (Nat → Nat)} {v : Nat → Nat} {x : Int64} (h : plL W L I J) (hW : W ≤ 4) (hl : L.length < 6561) (hv : ∀ w, w < W → I 37 w = lo (I 4 w) (nI (v w))) (hx : ∃ k, k < 2 ^ 62 ∧ x = lN k) : plL W (L ++ [v]) (paI I L.length) (mj_up J 31 L.length x) := by
  obtain ⟨h1, h2, h3, h4⟩ := h
  have cp : ∀ j, mj_cp I 37 0 30 (4 * L.length) 4 30 j = if 4 * L.length ≤ j ∧ j < 4 * L.length + 4 then I 37 (0 + (j - 4 * L.length)) else I 30 j := fun j => if_pos rfl
  refine ⟨?_, ?_, by simp; omega, fun i u hu => ?_⟩
  · rw [List.length_append]
    exact up_s
  · show mj_up _ 29 3 _ 29 4 = _
    rw [up_j (by decide), up_c (by decide)]
    exact h2
  have e4 : paI I L.length 4 = I 4 := paI_f (by decide) (by decide) (by decide)
  rw [e4]
  have e30 : ∀ j, paI I L.length 30 j = mj_cp I 37 0 30 (4 * L.length) 4 30 j := fun j => by unfold paI; rw [up_c (by decide), up_c (by decide)]
  have e32 : ∀ j, paI I L.length 32 j = mj_up (mj_cp I 37 0 30 (4 * L.length) 4) 32 L.length (nI L.length) 32 j := fun j => by unfold paI; rw [up_c (by decide)]
  rcases app_at hu with ⟨hi, hu2⟩ | ⟨hi, hu2⟩
  · obtain ⟨g1, g2, g3⟩ := h4 i u hu2
    refine ⟨fun w hw => ?_, ?_, ?_⟩
    · rw [e30, cp, if_neg (by omega)]
      exact g1 w hw
    · rw [e32, up_j (by omega)]
      exact g2
    · rw [up_j (by omega)]
      exact g3
  · rw [hi, hu2]
    refine ⟨fun w hw => ?_, ?_, ?_⟩
    · rw [e30, cp, if_pos (by omega), show 0 + (4 * L.length + w - 4 * L.length) = w by omega]
      exact hv w hw
    · rw [e32, up_s]
    · rw [up_s]
      exact hx
theorem c_putLosses {a : Nat} (hW : I 2 0 = nI W) (hW4 : W ≤ 4) (ha : a + 4 ≤ 40) : ∃ I' J', C1 (D + 2) 210 [.ref 33, .ref 1, .int (nI a)] I J .null I' J' ∧ J' = J ∧ (∀ w, w < W → I' 37 w = lo (I 4 w) (I 36 (a + w))) ∧ ∀ q, q ≠ 37 → I' q = I q := by
  refine mj_cN (e210 _ ?_)
  have lp := lp_up (n := W) (fun w => ∀ I0, (∀ u, u < w → I0 37 u = lo (I 4 u) (I 36 (a + u))) → (∀ q, q ≠ 37 → I0 q = I q) → E1 210 (D + 1) (qN mj_R1 fun I' J' => J' = J ∧ (∀ w, w < W → I' 37 w = lo (I 4 w) (I 36 (a + w))) ∧ ∀ q, q ≠ 37 → I' q = I q) 2 [(0, .ref 33), (1, .ref 1), (2, .int (nI a)), (3, .int (nI w))] I0 J) (fun w hw ih I0 h1 h2 => ?_) 0 (by omega) I (fun u hu => by omega) (fun _ _ => rfl)
  · exact lp
  refine mj_on (s210_2 _ _ ?_)
  refine ⟨vp_in_nI (n := 0) (by decide) (by decide), ?_⟩
  rw [show ((0 : Int32)).toNatClampNeg = 0 from rfl, h2 2 (by decide), hW]
  refine if_le (by omega) (by omega) (fun c => ?_) (fun c => ?_)
  · obtain rfl : w = W := by omega
    exact ⟨_, _, rfl, rfl, h1, h2⟩
  · rw [nI_add, nI_clamp (by omega)]
    refine ⟨vp_in_nI (by omega) (by decide), trivial, _, _, _, c_lossFor (by omega), vp_in_nI (by omega) (by decide), ?_⟩
    rw [nI_clamp (by omega), nI_1]
    refine ih c _ (fun u hu => ?_) (fun q hq => by rw [up_c hq]; exact h2 q hq)
    by_cases e : u = w
    · subst e
      rw [up_s, h2 4 (by decide), h2 36 (by decide)]
    · rw [up_j e]
      exact h1 u (by omega)
theorem c_goAlong {t d : Nat} (hW : I 2 0 = nI W) (hW4 : W ≤ 4) (ht : t < 24) (hd : d ≤ 8) : ∃ I' J', C1 (D + 2) 212 [.ref 33, .ref 1, .int (nI t), .int (nI d)] I J .null I' J' ∧ J' = J ∧ (∀ w, w < W → I' 36 (4 * d + 4 + w) = I 36 (4 * d + w) + I 5 (480 + 4 * t + w)) ∧ (∀ q, q ≠ 36 → I' q = I q) ∧ ∀ j, j < 4 * d + 4 → I' 36 j = I 36 j := by
  refine mj_cN (e212 _ _ ?_)
  rw [ix4m]
  have lp := lp_up (n := W) (fun w => ∀ I0, (∀ u, u < w → I0 36 (4 * d + 4 + u) = I 36 (4 * d + u) + I 5 (480 + 4 * t + u)) → (∀ q, q ≠ 36 → I0 q = I q) → (∀ j, j < 4 * d + 4 → I0 36 j = I 36 j) → E1 212 (D + 1) (qN mj_R1 fun I' J' => J' = J ∧ (∀ w, w < W → I' 36 (4 * d + 4 + w) = I 36 (4 * d + w) + I 5 (480 + 4 * t + w)) ∧ (∀ q, q ≠ 36 → I' q = I q) ∧ ∀ j, j < 4 * d + 4 → I' 36 j = I 36 j) 8 [(0, .ref 33), (1, .ref 1), (2, .int (nI t)), (4, .int (nI (4 * d))), (5, .int (nI w))] I0 J) (fun w hw ih I0 h1 h2 h3 => ?_) 0 (by omega) I (fun u hu => by omega) (fun _ _ => rfl) (fun _ _ => rfl)
  · exact lp
  refine mj_on (s212_8 _ _ _ ?_)
  refine ⟨vp_in_nI (n := 0) (by decide) (by decide), ?_⟩
  rw [show ((0 : Int32)).toNatClampNeg = 0 from rfl, h2 2 (by decide), hW]
  refine if_le (by omega) (by omega) (fun c => ?_) (fun c => ?_)
  · obtain rfl : w = W := by omega
    exact ⟨_, _, rfl, rfl, h1, h2, h3⟩
  · rw [nI_add, show (4 : Int32) = nI 4 from rfl, nI_add, nI_add, nI_clamp (by omega), nI_clamp (by omega)]
    refine ⟨vp_in_nI (by omega) (by decide), trivial, _, _, _, c_slot (k := 3), vp_in_nI (by omega) (by decide), vp_in_nI (by omega) (by decide), ?_⟩
    rw [nI_clamp (by omega), nI_1, show 160 * 3 + 4 * t + w = 480 + 4 * t + w by omega]
    refine ih c _ (fun u hu => ?_) (fun q hq => by rw [up_c hq]; exact h2 q hq) (fun j hj => by rw [up_j (by omega)]; exact h3 j hj)
    by_cases e : u = w
    · subst e
      rw [up_s, h3 _ (by omega), h2 5 (by decide)]
    · rw [up_j (by omega)]
      exact h1 u (by omega)
theorem wkt_le {f : Nat → List (Nat → Nat)} {knot m : Nat} : ∀ {a n : Nat}, a ≤ n → (wkt fr tt f knot m a).length ≤ (wkt fr tt f knot m n).length := by
  intro a n h
  obtain ⟨k, rfl⟩ := Nat.le.dest h
  clear h
  induction k with
  | zero => exact Nat.le_refl _
  | succ k ih =>
    refine Nat.le_trans ih ?_
    show (wkt fr tt f knot m (a + k)).length ≤ (wkt fr tt f knot m (a + k) ++ if fr (a + k) = knot ∧ m.testBit (tt (a + k)) = false then f (a + k) else []).length
    rw [List.length_append]
    omega
theorem c_walk {dst : Nat} (hdst : dst < 10) : ∀ (fuel d knot m : Nat) (acc : Nat → Nat) (key : Int64) (L : List (Nat → Nat)) (I : Nat → Nat → Int32) (J : Nat → Nat → Int64), d + fuel = 9 → tlq W Tn fr tt am I → plL W L I J → knot < 10 → m < 1024 → (∃ k, k < 2 ^ 62 ∧ key = lN k) → (∀ w, w < W → I 36 (4 * d + w) = nI (acc w)) → L.length + (wk Tn fr tt am dst fuel knot m acc).length ≤ 6561 →
    ∃ I' J', C1 (fuel + 3) 209 [.ref 33, .ref 1, .ref 29, .int (nI dst), .int (nI knot), .int (nI d), .int (nI m), .long key] I J .null I' J' ∧ plL W (L ++ wk Tn fr tt am dst fuel knot m acc) I' J' ∧ (∀ q, q ≠ 29 → q ≠ 30 → q ≠ 32 → q ≠ 36 → q ≠ 37 → I' q = I q) ∧ (∀ j, j < 4 * d + 4 → I' 36 j = I 36 j) ∧ ∀ q, q ≠ 31 → J' q = J q := by
  intro fuel
  induction fuel with
  | zero =>
    intro d knot m acc key L I J hd ht hp hk hm hkey hacc hlen
    refine mj_cN (e209 _ _ _ _ _ ?_)
    unfold wk at hlen ⊢
    refine if_eq (by omega) (by omega) (fun c => ?_) (fun c => ?_)
    · rw [if_pos c] at hlen ⊢
      obtain ⟨I1, J1, c1, rfl, p1, f1⟩ := c_putLosses (D := 0) (I := I) (J := J) (a := 4 * d) ht.2.2.1 ht.1 (by omega)
      rw [ix4m]
      have hp1 : plL W L I1 J1 := plL_cg hp (f1 29 (by decide)) (f1 30 (by decide)) (f1 32 (by decide)) (f1 4 (by decide)) rfl
      have hl : L.length < 6561 := by simp at hlen; omega
      refine ⟨trivial, _, _, c1, trivial, _, _, c_padd hp1.1 hl, _, _, rfl, plL_add hp1 ht.1 hl (fun w hw => by rw [p1 w hw, f1 4 (by decide), hacc w hw]) ?_, fun q q1 q2 q3 q4 q5 => by rw [paI_f q1 q2 q3, f1 q q5], fun j hj => by rw [paI_f (by decide) (by decide) (by decide), f1 36 (by decide)], fun q hq => up_c hq⟩
      obtain ⟨k, hk1, rfl⟩ := hkey
      rw [wm_n d (by omega)]
      exact wm_ok hk1 (by omega)
    · rw [if_neg c, List.append_nil]
      rw [nI_1, show (10 : Int32) = nI 10 from rfl]
      exact if_lt (by omega) (by decide) (fun z => absurd z (by omega)) (fun _ => ⟨_, _, rfl, hp, fun _ _ _ _ _ _ => rfl, fun _ _ => rfl, fun _ _ => rfl⟩)
  | succ fuel ihf =>
    intro d knot m acc key L I J hd ht hp hk hm hkey hacc hlen
    refine mj_cN (e209 _ _ _ _ _ ?_)
    unfold wk at hlen ⊢
    refine if_eq (by omega) (by omega) (fun c => ?_) (fun c => ?_)
    · rw [if_pos c] at hlen ⊢
      obtain ⟨I1, J1, c1, rfl, p1, f1⟩ := c_putLosses (D := fuel + 1) (I := I) (J := J) (a := 4 * d) ht.2.2.1 ht.1 (by omega)
      rw [ix4m]
      have hp1 : plL W L I1 J1 := plL_cg hp (f1 29 (by decide)) (f1 30 (by decide)) (f1 32 (by decide)) (f1 4 (by decide)) rfl
      have hl : L.length < 6561 := by simp at hlen; omega
      refine ⟨trivial, _, _, c1, trivial, _, _, c_padd hp1.1 hl, _, _, rfl, plL_add hp1 ht.1 hl (fun w hw => by rw [p1 w hw, f1 4 (by decide), hacc w hw]) ?_, fun q q1 q2 q3 q4 q5 => by rw [paI_f q1 q2 q3, f1 q q5], fun j hj => by rw [paI_f (by decide) (by decide) (by decide), f1 36 (by decide)], fun q hq => up_c hq⟩
      obtain ⟨k, hk1, rfl⟩ := hkey
      rw [wm_n d (by omega)]
      exact wm_ok hk1 (by omega)
    · rw [if_neg c] at hlen ⊢
      rw [wkt_eq] at hlen ⊢
      obtain ⟨f, hf⟩ : ∃ f, f = fun t => wk Tn fr tt am dst fuel (tt t) (m ||| 2 ^ tt t) (fun w => acc w + am t w) := ⟨_, rfl⟩
      rw [← hf] at hlen ⊢
      rw [nI_1, show (10 : Int32) = nI 10 from rfl]
      refine if_lt (by omega) (by decide) (fun _ => ?_) (fun z => absurd z (by omega))
      obtain ⟨Q, hQ⟩ : ∃ Q, Q = qN mj_R1 (fun I' J' => plL W (L ++ wkt fr tt f knot m Tn) I' J' ∧ (∀ q, q ≠ 29 → q ≠ 30 → q ≠ 32 → q ≠ 36 → q ≠ 37 → I' q = I q) ∧ (∀ j, j < 4 * d + 4 → I' 36 j = I 36 j) ∧ ∀ q, q ≠ 31 → J' q = J q) := ⟨_, rfl⟩
      rw [← hQ]
      have lp := lp_up (n := Tn) (fun t => ∀ I0 J0, plL W (L ++ wkt fr tt f knot m t) I0 J0 → (∀ q, q ≠ 29 → q ≠ 30 → q ≠ 32 → q ≠ 36 → q ≠ 37 → I0 q = I q) → (∀ j, j < 4 * d + 4 → I0 36 j = I 36 j) → (∀ q, q ≠ 31 → J0 q = J q) → E1 209 (fuel + 3) Q 45 [(0, .ref 33), (1, .ref 1), (2, .ref 29), (3, .int (nI dst)), (4, .int (nI knot)), (5, .int (nI d)), (6, .int (nI m)), (7, .long key), (9, .int (nI t))] I0 J0) (fun t htn ih I0 J0 h1 h2 h3 h4 => ?_) 0 (by omega) I J (by rw [show wkt fr tt f knot m 0 = [] from rfl, List.append_nil]; exact hp) (fun _ _ _ _ _ _ => rfl) (fun _ _ => rfl) (fun _ _ => rfl)
      · exact lp
      have ht0 : tlq W Tn fr tt am I0 := tlq_cg ht h2
      obtain ⟨w4, n24, aW, aT, aR⟩ := id ht0
      refine mj_on (s209_45 _ _ _ _ _ _ ?_)
      refine ⟨vp_in_nI (n := 3) (by decide) (by decide), ?_⟩
      rw [show ((3 : Int32)).toNatClampNeg = 3 from rfl, aT]
      refine if_le (by omega) (by omega) (fun z => ?_) (fun z => ?_)
      · obtain rfl : t = Tn := by omega
        rw [hQ]
        exact ⟨_, _, rfl, h1, h2, h3, h4⟩
      obtain ⟨a7, a8, f10, t10, a5⟩ := aR t z
      refine ⟨vp_in_nI (by omega) (by decide), vp_in_nI (by omega) (by decide), ?_⟩
      rw [nI_clamp (by omega), a7, a8, nI_1, nI_1]
      have skip : ¬ (fr t = knot ∧ m.testBit (tt t) = false) → E1 209 (fuel + 3) Q 45 [(0, .ref 33), (1, .ref 1), (2, .ref 29), (3, .int (nI dst)), (4, .int (nI knot)), (5, .int (nI d)), (6, .int (nI m)), (7, .long key), (9, .int (nI (t + 1)))] I0 J0 := by
        intro hn
        refine ih z I0 J0 ?_ h2 h3 h4
        show plL W (L ++ (wkt fr tt f knot m t ++ if fr t = knot ∧ m.testBit (tt t) = false then f t else [])) I0 J0
        rw [if_neg hn, List.append_nil]
        exact h1
      refine if_eq (by omega) (by omega) (fun e1 => ?_) (fun e1 => skip fun q => e1 q.1)
      refine if_i (fun e2 => ?_) (fun e2 => skip fun q => e2 ((wm_bit _ t10 _ hm).mpr q.2))
      have e2 := (wm_bit _ t10 _ hm).mp e2
      obtain ⟨I1, J1, c1, rfl, g1, g2, g3⟩ := c_goAlong (D := fuel + 1) (I := I0) (J := J0) (t := t) (d := d) aW w4 (by omega) (by omega)
      have hstep : (wkt fr tt f knot m (t + 1)) = wkt fr tt f knot m t ++ f t := by
        show wkt fr tt f knot m t ++ (if fr t = knot ∧ m.testBit (tt t) = false then f t else []) = _
        rw [if_pos ⟨e1, e2⟩]
      have hft : f t = wk Tn fr tt am dst fuel (tt t) (m ||| 2 ^ tt t) (fun w => acc w + am t w) := by rw [hf]
      obtain ⟨o1, o2⟩ := wm_or _ t10 _ hm
      have hlen2 : (L ++ wkt fr tt f knot m t).length + (wk Tn fr tt am dst fuel (tt t) (m ||| 2 ^ tt t) (fun w => acc w + am t w)).length ≤ 6561 := by
        rw [← hft]
        have q := wkt_le (fr := fr) (tt := tt) (f := f) (knot := knot) (m := m) (a := t + 1) (n := Tn) (by omega)
        rw [hstep] at q
        rw [List.length_append] at q ⊢
        omega
      have hkey2 : ∃ k, k < 2 ^ 62 ∧ (key ||| ((nI (tt t)).toInt64 <<< (((4 : Int32) * ((9 : Int32) - nI d)).toInt64 &&& 63))) = lN k := by
        obtain ⟨k, hk1, rfl⟩ := hkey
        obtain ⟨s1, s2⟩ := wm_key _ t10 d (by omega)
        rw [s1]
        exact wm_ok hk1 s2
      obtain ⟨I2, J2, c2, p2, k2, k3, k4⟩ := ihf (d + 1) (tt t) (m ||| 2 ^ tt t) (fun w => acc w + am t w) _ (L ++ wkt fr tt f knot m t) I1 J1 (by omega) (tlq_cg ht0 (fun q _ _ _ q4 _ => g2 q q4)) (plL_cg h1 (g2 29 (by decide)) (g2 30 (by decide)) (g2 32 (by decide)) (g2 4 (by decide)) rfl) t10 o2 hkey2 (fun w hw => by
        rw [show 4 * (d + 1) + w = 4 * d + 4 + w by omega, g1 w hw, h3 _ (by omega), hacc w hw, a5 w hw, nI_add]) hlen2
      refine ⟨trivial, _, _, c1, ?_⟩
      rw [o1]
      refine ⟨trivial, _, _, c2, ?_⟩
      refine ih z I2 J2 ?_ (fun q q1 q2 q3 q4 q5 => by rw [k2 q q1 q2 q3 q4 q5, g2 q q4, h2 q q1 q2 q3 q4 q5]) (fun j hj => by rw [k3 j (by omega), g3 j hj, h3 j hj]) (fun q hq => by rw [k4 q hq, h4 q hq])
      rw [hstep, hft, ← List.append_assoc]
      exact p2
theorem c_gatherWays {src dst : Nat} (ht : tlq W Tn fr tt am I) (hs : src < 10) (hdst : dst < 10) : ∃ I' J', C1 13 207 [.ref 33, .ref 1, .int (nI src), .int (nI dst), .ref 29] I J .null I' J' ∧ plL W (wk Tn fr tt am dst 9 src (2 ^ src) (fun _ => 0)) I' J' ∧ (∀ q, q ≠ 29 → q ≠ 30 → q ≠ 32 → q ≠ 36 → q ≠ 37 → I' q = I q) ∧ ∀ q, q ≠ 31 → J' q = J q := by
  refine mj_cN (e207 _ _ ?_)
  refine ⟨vp_in_nI (n := 0) (by decide) (by decide), ?_⟩
  rw [show ((0 : Int32)).toNatClampNeg = 0 from rfl, ht.2.2.1]
  refine ⟨trivial, _, _, mj_mk (e208 _ rfl), ?_⟩
  obtain ⟨Q, hQ⟩ : ∃ Q, Q = qN mj_R1 (fun I' J' => plL W (wk Tn fr tt am dst 9 src (2 ^ src) (fun _ => 0)) I' J' ∧ (∀ q, q ≠ 29 → q ≠ 30 → q ≠ 32 → q ≠ 36 → q ≠ 37 → I' q = I q) ∧ ∀ q, q ≠ 31 → J' q = J q) := ⟨_, rfl⟩
  rw [← hQ]
  have lp := lp_up (n := 4) (fun w => ∀ I0, I0 29 3 = nI 0 → I0 29 4 = nI W → (∀ q, q ≠ 29 → q ≠ 36 → I0 q = I q) → (∀ u, u < w → I0 36 u = nI 0) → E1 207 12 Q 14 [(0, .ref 33), (1, .ref 1), (2, .int (nI src)), (3, .int (nI dst)), (4, .ref 29), (5, .int (nI w))] I0 J) (fun w hw ih I0 h1 h2 h3 h4 => ?_) 0 (by omega) (mj_up (mj_up I 29 3 0) 29 4 (nI W)) (by rw [up_j (by decide), up_s]; rfl) up_s (fun q q1 _ => by rw [up_c q1, up_c q1]) (fun u hu => by omega)
  · exact lp
  refine mj_on (s207_14 _ _ _ ?_)
  rw [show (4 : Int32) = nI 4 from rfl]
  refine if_le (by omega) (by omega) (fun c => ?_) (fun c => ?_)
  · obtain rfl : w = 4 := by omega
    obtain ⟨o1, o2⟩ := wm_one _ hs
    obtain ⟨s1, s2⟩ := wm_key0 _ hs
    rw [o1, s1]
    obtain ⟨I1, J1, c1, p1, f1, _, f3⟩ := c_walk (W := W) (Tn := Tn) (fr := fr) (tt := tt) (am := am) hdst 9 0 src (2 ^ src) (fun _ => 0) _ [] I0 J rfl (by
      unfold tlq at ht ⊢
      rw [h3 2 (by decide) (by decide), h3 7 (by decide) (by decide), h3 8 (by decide) (by decide), h3 5 (by decide) (by decide)]
      exact ht) ⟨h1, h2, by decide, fun x v hx => by simp at hx⟩ hs o2 ⟨_, s2, rfl⟩ (fun w hw => by rw [show 4 * 0 + w = w by omega]; exact h4 w (by have := ht.1; omega)) (by
      have := wk_all (Tn := Tn) (fr := fr) (tt := tt) (am := am) (dst := dst) (src := src) (acc := fun _ => 0) ht.2.1 (fun t h => (ht.2.2.2.2 t h).2.2.2.1) hs
      simpa using this)
    refine ⟨trivial, _, _, c1, ?_⟩
    rw [hQ]
    refine ⟨_, _, rfl, p1, fun q q1 q2 q3 q4 q5 => by rw [f1 q q1 q2 q3 q4 q5, h3 q q1 q4], f3⟩
  · refine ⟨vp_in_nI (by omega) (by decide), ?_⟩
    rw [nI_clamp (by omega), nI_1]
    refine ih c _ (by rw [up_c (by decide)]; exact h1) (by rw [up_c (by decide)]; exact h2) (fun q q1 q2 => by rw [up_c q2]; exact h3 q q1 q2) (fun u hu => ?_)
    by_cases e : u = w
    · subst e; rw [up_s]; rfl
    · rw [up_j e]; exact h4 u (by omega)
end S91
