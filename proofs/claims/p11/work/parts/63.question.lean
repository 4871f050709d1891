/-! question -/
theorem i32_max {a b : Nat} (ha : a < 2 ^ 31) (hb : b < 2 ^ 31) : (if nI a < nI b then nI b else nI a) = nI (max a b) ∧ (if nI a ≤ nI b then nI b else nI a) = nI (max a b) := by
  constructor
  · by_cases h : a < b
    · rw [if_pos (nI_lt h hb), Nat.max_eq_right (Nat.le_of_lt h)]
    · rw [if_neg (nI_nlt (by omega) ha), Nat.max_eq_left (by omega)]
  · by_cases h : a ≤ b
    · rw [if_pos (nI_le h hb), Nat.max_eq_right h]
    · rw [if_neg (nI_ge (by omega) ha), Nat.max_eq_left (by omega)]
theorem pcn_le : ∀ (k m : Nat), pcn k m ≤ k
  | 0, _ => Nat.le_refl 0
  | k + 1, m => by
    have := pcn_le k (m / 2)
    show m % 2 + pcn k (m / 2) ≤ k + 1
    omega
/-- what a question leaves -/
noncomputable def lvs (I : Nat → Nat → Int32) (J : Nat → Nat → Int64) (W Rn : Nat) (A : List (List Nat)) (x y : Nat) : Int64 := lor (fb I J W Rn 0) (fl (fun r => rwo I W r x ≤ rwo I W r y) A)
noncomputable def lvN (I : Nat → Nat → Int32) (J : Nat → Nat → Int64) (W Rn : Nat) (A : List (List Nat)) (x y : Nat) : Nat := max (pcL (lvs I J W Rn A x y)) (pcL (lvs I J W Rn A y x))
/-- one question tried: first, second, how many it leaves -/
noncomputable def qs1 (p : Nat → Prop) (v : Nat → Nat → Nat) (x y : Nat) (s : Int32 × Int32 × Int32) : Int32 × Int32 × Int32 := @ite _ (p x ∧ p y ∧ (s.2.2 = -1 ∨ nI (v x y) < s.2.2)) (Classical.propDecidable _) (nI x, nI y, nI (v x y)) s
theorem qs1_t {p : Nat → Prop} {v : Nat → Nat → Nat} {x y : Nat} {s : Int32 × Int32 × Int32} (h : p x ∧ p y ∧ (s.2.2 = -1 ∨ nI (v x y) < s.2.2)) : qs1 p v x y s = (nI x, nI y, nI (v x y)) := @if_pos _ (Classical.propDecidable _) h _ _ _
theorem qs1_f {p : Nat → Prop} {v : Nat → Nat → Nat} {x y : Nat} {s : Int32 × Int32 × Int32} (h : ¬ (p x ∧ p y ∧ (s.2.2 = -1 ∨ nI (v x y) < s.2.2))) : qs1 p v x y s = s := @if_neg _ (Classical.propDecidable _) h _ _ _
noncomputable def qsB (p : Nat → Prop) (v : Nat → Nat → Nat) (x : Nat) : Nat → Nat → Int32 × Int32 × Int32 → Int32 × Int32 × Int32
  | 0, _, s => s
  | k + 1, y, s => qsB p v x k (y + 1) (qs1 p v x y s)
noncomputable def qsA (p : Nat → Prop) (v : Nat → Nat → Nat) (n : Nat) : Nat → Nat → Int32 × Int32 × Int32 → Int32 × Int32 × Int32
  | 0, _, s => s
  | k + 1, x, s => qsA p v n k (x + 1) (qsB p v x (n - (x + 1)) (x + 1) s)
theorem qsB_s {p : Nat → Prop} {v : Nat → Nat → Nat} {x y n : Nat} {s : Int32 × Int32 × Int32} (h : y < n) : qsB p v x (n - y) y s = qsB p v x (n - (y + 1)) (y + 1) (qs1 p v x y s) := by
  rw [show n - y = (n - (y + 1)) + 1 by omega]
  rfl
theorem qsB_e {p : Nat → Prop} {v : Nat → Nat → Nat} {x y n : Nat} {s : Int32 × Int32 × Int32} (h : n ≤ y) : qsB p v x (n - y) y s = s := by
  rw [show n - y = 0 by omega]
  rfl
theorem qsA_s {p : Nat → Prop} {v : Nat → Nat → Nat} {x n : Nat} {s : Int32 × Int32 × Int32} (h : x < n) : qsA p v n (n - x) x s = qsA p v n (n - (x + 1)) (x + 1) (qsB p v x (n - (x + 1)) (x + 1) s) := by
  rw [show n - x = (n - (x + 1)) + 1 by omega]
  rfl
theorem qsA_e {p : Nat → Prop} {v : Nat → Nat → Nat} {x n : Nat} {s : Int32 × Int32 × Int32} (h : n ≤ x) : qsA p v n (n - x) x s = s := by
  rw [show n - x = 0 by omega]
  rfl
/-- how many it leaves is a number, or -1 with both others -/
def qok (s : Int32 × Int32 × Int32) : Prop := (s = (-1, -1, -1)) ∨ ∃ x y n : Nat, n ≤ 64 ∧ x < 64 ∧ y < 64 ∧ s = (nI x, nI y, nI n)
section S63
variable {D b W Rn Kn Tn Hn Un g : Nat} {I I1 I2 : Nat → Nat → Int32} {J J1 J2 : Nat → Nat → Int64}
theorem lvN_le {A : List (List Nat)} {x y : Nat} : lvN I J W Rn A x y ≤ 64 := Nat.max_le.mpr ⟨pcn_le 64 _, pcn_le 64 _⟩
theorem c_max {x y : Int32} : C1 (D + 1) 1 [.int x, .int y] I J (.int (if x < y then y else x)) I J := by
  refine mj_mk (e1 _ _ ?_)
  exact if_i (fun c => mqi (if_pos c).symm) (fun c => mqi (if_neg c).symm)
/-- the class' rows of what questions leave -/
def lvP (I1 : Nat → Nat → Int32) (J1 : Nat → Nat → Int64) (W Rn : Nat) (A : List (List Nat)) (J : Nat → Nat → Int64) : Prop := ∀ x y, x < Rn → y < Rn → J 56 (40 * x + y) = lvs I1 J1 W Rn A x y
theorem c_note (h : Rl b W Rn Kn Tn Hn Un g I1 J1 I2 J2) {A : List (List Nat)} {r : List Nat} (e1 : k1 I = k1 I1) (hw : ∀ u, u < Rn → I 28 u = rwo I1 W r u) (hJ : lvP I1 J1 W Rn A J) : ∃ J', C1 (D + 1) 266 [.ref 53, .long (fb I1 J1 W Rn 0 r), .ref 24] I J .null I J' ∧ (∀ q, q ≠ 56 → J' q = J q) ∧ lvP I1 J1 W Rn (A ++ [r]) J' := by
  obtain ⟨w1, w2, w3, w4⟩ := h.W24
  have w1' : I 24 0 = nI Rn := by rw [k1_at e1 rfl]; exact w1
  suffices hs : ∃ I' J', C1 (D + 1) 266 [.ref 53, .long (fb I1 J1 W Rn 0 r), .ref 24] I J .null I' J' ∧ (I' = I ∧ (∀ q, q ≠ 56 → J' q = J q) ∧ lvP I1 J1 W Rn (A ++ [r]) J') by
    obtain ⟨I', J', hc, rfl, q⟩ := hs
    exact ⟨J', hc, q⟩
  refine mj_cN (e266 _ ?_)
  obtain ⟨Q, hQ⟩ : ∃ Q, Q = qN mj_R1 (fun I' J' => I' = I ∧ (∀ q, q ≠ 56 → J' q = J q) ∧ lvP I1 J1 W Rn (A ++ [r]) J') := ⟨_, rfl⟩
  rw [← hQ]
  have stp : ∀ {x y}, (rwo I1 W r x ≤ rwo I1 W r y → lvs I1 J1 W Rn (A ++ [r]) x y = lvs I1 J1 W Rn A x y ||| fb I1 J1 W Rn 0 r) ∧ (¬ rwo I1 W r x ≤ rwo I1 W r y → lvs I1 J1 W Rn (A ++ [r]) x y = lvs I1 J1 W Rn A x y) := fun {x y} => by
    unfold lvs
    exact ⟨fun q => by rw [fl_t q, lor_s], fun q => by rw [fl_f q]⟩
  -- done up to row x, column y
  have key := lp_up (n := Rn) (fun x => ∀ J0, (∀ q, q ≠ 56 → J0 q = J q) → (∀ u v, u < Rn → v < Rn → J0 56 (40 * u + v) = if u < x then lvs I1 J1 W Rn (A ++ [r]) u v else lvs I1 J1 W Rn A u v) → E1 266 D Q 3 [(0, .ref 53), (1, .long (fb I1 J1 W Rn 0 r)), (3, .ref 24), (4, .int (nI x))] I J0) (fun x hx ih J0 hF hL => ?_) 0 (Nat.zero_le _) J (fun _ _ => rfl) (fun u v hu hv => by rw [if_neg (Nat.not_lt_zero u)]; exact hJ u v hu hv)
  · exact key
  refine mj_on (s266_3 _ _ ?_)
  rw [w1']
  refine if_le (by omega) (by omega) (fun c => ?_) (fun c => ?_)
  · rw [hQ]
    refine ⟨_, _, rfl, rfl, hF, fun u v hu hv => ?_⟩
    rw [hL u v hu hv, if_pos (by omega)]
  have inner := lp_up (n := Rn) (fun y => ∀ J0, (∀ q, q ≠ 56 → J0 q = J q) → (∀ u v, u < Rn → v < Rn → J0 56 (40 * u + v) = if u < x ∨ (u = x ∧ v < y) then lvs I1 J1 W Rn (A ++ [r]) u v else lvs I1 J1 W Rn A u v) → E1 266 D Q 15 [(0, .ref 53), (1, .long (fb I1 J1 W Rn 0 r)), (3, .ref 24), (4, .int (nI x)), (5, .int (nI y))] I J0) (fun y hy ih2 J0 hF hL => ?_) 0 (Nat.zero_le _) J0 hF (fun u v hu hv => by
    rw [hL u v hu hv]
    by_cases e : u < x
    · rw [if_pos e, if_pos (Or.inl e)]
    · rw [if_neg e, if_neg (by omega)])
  · exact inner
  refine mj_on (s266_15 _ _ _ ?_)
  rw [w1', nI_1, nI_1]
  refine if_le (by omega) (by omega) (fun d => ?_) (fun d => ?_)
  · refine ih c J0 hF fun u v hu hv => ?_
    rw [hL u v hu hv]
    by_cases e : u < x + 1
    · rw [if_pos e, if_pos (by omega)]
    · rw [if_neg e, if_neg (by omega)]
  have hvx : vp_in (nI x) 40 := vp_in_nI (by omega) (by decide)
  have hvy : vp_in (nI y) 40 := vp_in_nI (by omega) (by decide)
  have ei : nI x * (40 : Int32) + nI y = nI (40 * x + y) := by rw [show (40 : Int32) = nI 40 from rfl, pk_mul, nI_add, Nat.mul_comm]
  rw [nI_clamp (by omega), nI_clamp (by omega), hw x c, hw y d, ei, nI_clamp (by omega)]
  have old : J0 56 (40 * x + y) = lvs I1 J1 W Rn A x y := by rw [hL x y c d, if_neg (by omega)]
  refine ⟨hvx, hvy, if_i (fun f => ?_) (fun f => ⟨vp_in_nI (by omega) (by decide), vp_in_nI (by omega) (by decide), ?_⟩)⟩
  · refine ih2 d J0 hF fun u v hu hv => ?_
    by_cases e : u = x ∧ v = y
    · rw [e.1, e.2, old, if_pos (by omega), stp.2 (Int32.not_le.mpr f)]
    · rw [hL u v hu hv]
      by_cases e2 : u < x ∨ (u = x ∧ v < y)
      · rw [if_pos e2, if_pos (by omega)]
      · rw [if_neg e2, if_neg (by omega)]
  · refine ih2 d _ (fun q hq => by rw [up_c hq, hF q hq]) fun u v hu hv => ?_
    by_cases e : u = x ∧ v = y
    · rw [e.1, e.2, up_s, old, if_pos (by omega), stp.1 (Int32.not_lt.mp f)]
    · rw [up_j (by omega), hL u v hu hv]
      by_cases e2 : u < x ∨ (u = x ∧ v < y)
      · rw [if_pos e2, if_pos (by omega)]
      · rw [if_neg e2, if_neg (by omega)]
/-- where the class keeps the question -/
def qAt (I : Nat → Nat → Int32) (s : Int32 × Int32 × Int32) : Prop := I 53 7 = s.2.2 ∧ (s.2.2 ≠ -1 → I 53 5 = s.1 ∧ I 53 6 = s.2.1)
theorem kJ1_56 {J' : Nat → Nat → Int64} (h : ∀ q, q ≠ 56 → J' q = J q) : kJ1 J' = kJ1 J := by
  funext q j
  unfold kJ1
  by_cases e : q = 56
  · rw [e]; rfl
  · rw [h q e]
theorem c_try {A : List (List Nat)} {x y : Nat} {s : Int32 × Int32 × Int32} (hx : x < Rn) (hy : y < Rn) (hR : Rn ≤ 40) (hL : lvP I1 J1 W Rn A J) (hs : qAt I s) (p : Nat → Prop) (hp : p x ∧ p y) : ∃ I', C1 (D + 2) 267 [.ref 53, .int (nI x), .int (nI y)] I J .null I' J ∧ k1 I' = k1 I ∧ qAt I' (qs1 p (lvN I1 J1 W Rn A) x y s) := by
  obtain ⟨v, hv⟩ : ∃ v, v = lvN I1 J1 W Rn A := ⟨_, rfl⟩
  rw [← hv]
  suffices hs : ∃ I' J', C1 (D + 2) 267 [.ref 53, .int (nI x), .int (nI y)] I J .null I' J' ∧ (J' = J ∧ k1 I' = k1 I ∧ qAt I' (qs1 p v x y s)) by
    obtain ⟨I', J', hc, rfl, q⟩ := hs
    exact ⟨I', hc, q⟩
  refine mj_cN (e267 _ _ ?_)
  have ei : ∀ {x y : Nat}, nI x * (40 : Int32) + nI y = nI (40 * x + y) := fun {x y} => by rw [show (40 : Int32) = nI 40 from rfl, pk_mul, nI_add, Nat.mul_comm]
  obtain ⟨ca, hca⟩ : ∃ n, n = pcL (lvs I1 J1 W Rn A x y) := ⟨_, rfl⟩
  obtain ⟨cb, hcb⟩ : ∃ n, n = pcL (lvs I1 J1 W Rn A y x) := ⟨_, rfl⟩
  have la : ca ≤ 64 := by rw [hca]; exact pcn_le 64 _
  have lb : cb ≤ 64 := by rw [hcb]; exact pcn_le 64 _
  have ka : C1 (D + 1) 2 [.long (lvs I1 J1 W Rn A x y)] I J (.int (nI ca)) I J := by rw [hca]; exact c_bcL
  have kb : C1 (D + 1) 2 [.long (lvs I1 J1 W Rn A y x)] I J (.int (nI cb)) I J := by rw [hcb]; exact c_bcL
  have hvN : v x y = max ca cb := by rw [hv, hca, hcb]; unfold lvN; rfl
  clear hca hcb hv
  rw [ei, ei, nI_clamp (by omega), hL x y hx hy]
  refine ⟨vp_in_nI (by omega) (by decide), trivial, _, _, _, ka, vp_in_nI (by omega) (by decide), ?_⟩
  rw [nI_clamp (by omega), hL y x hy hx]
  refine ⟨trivial, _, _, _, kb, trivial, _, _, _, c_max, ?_⟩
  rw [(i32_max (a := ca) (b := cb) (by omega) (by omega)).1, hs.1, ← hvN]
  have go : (s.2.2 = -1 ∨ nI (v x y) < s.2.2) → E1 267 (D + 1) (qN mj_R1 (fun I' J' => J' = J ∧ k1 I' = k1 I ∧ qAt I' (qs1 p v x y s))) 48 [(0, .ref 53), (1, .int (nI x)), (2, .int (nI y)), (3, .int (nI (v x y)))] I J := by
    intro hc
    refine mj_on (s267_48 _ _ _ ?_)
    refine ⟨_, _, rfl, rfl, ?_, ?_⟩
    · rw [k1_up rfl, k1_up rfl, k1_up rfl]
    · rw [qs1_t ⟨hp.1, hp.2, hc⟩]
      refine ⟨up_s, fun _ => ⟨?_, ?_⟩⟩
      · rw [up_j (by decide), up_j (by decide), up_s]
      · rw [up_j (by decide), up_s]
  refine if_i (fun c => go (Or.inl c)) (fun c => if_i (fun d => ?_) (fun d => go (Or.inr (Int32.not_le.mp d))))
  refine ⟨_, _, rfl, rfl, rfl, ?_⟩
  rw [qs1_f]
  · exact hs
  · rintro ⟨-, -, q | q⟩
    · exact c q
    · exact absurd q (Int32.not_lt.mpr d)
theorem c_ask (h : Rl b W Rn Kn Tn Hn Un g I1 J1 I2 J2) {S : Nat} (hS : I1 53 0 = nI S) (hS2 : S ≤ 12) : ∃ I' J' s, C1 (D + 5) 265 [.ref 53, .ref 51, .ref 24] I1 J1 (.int (tf (s.2.2 ≠ -1))) I' J' ∧ k1 I' = k1 I1 ∧ kJ1 J' = kJ1 J1 ∧ qAt I' s ∧ s = qsA (lbit (J1 24 6)) (lvN I1 J1 W Rn (fl (sAg I1 J1 W S) (wl W g))) Rn (Rn - 0) 0 (-1, -1, -1) := by
  obtain ⟨hG, g1, g2, g3, g4, g5⟩ := h.G
  obtain ⟨w1, w2, w3, w4⟩ := h.W24
  obtain ⟨P, hP⟩ : ∃ P, P = sAg I1 J1 W S := ⟨_, rfl⟩
  rw [← hP]
  obtain ⟨A, hA⟩ : ∃ A, A = fl P (wl W g) := ⟨_, rfl⟩
  rw [← hA]
  obtain ⟨v, hv⟩ : ∃ v, v = lvN I1 J1 W Rn A := ⟨_, rfl⟩
  rw [← hv]
  obtain ⟨s0, hs0⟩ : ∃ s, s = qsA (lbit (J1 24 6)) v Rn (Rn - 0) 0 (-1, -1, -1) := ⟨_, rfl⟩
  rw [← hs0]
  suffices hs : ∃ z I' J', C1 (D + 5) 265 [.ref 53, .ref 51, .ref 24] I1 J1 (.int z) I' J' ∧ (z = tf (s0.2.2 ≠ -1) ∧ k1 I' = k1 I1 ∧ kJ1 J' = kJ1 J1 ∧ qAt I' s0) by
    obtain ⟨z, I', J', hc, rfl, q1, q2, q3⟩ := hs
    exact ⟨I', J', s0, hc, q1, q2, q3, rfl⟩
  refine mj_cI (e265 ?_)
  obtain ⟨Q, hQ⟩ : ∃ Q, Q = qI mj_R1 (fun z I' J' => z = tf (s0.2.2 ≠ -1) ∧ k1 I' = k1 I1 ∧ kJ1 J' = kJ1 J1 ∧ qAt I' s0) := ⟨_, rfl⟩
  rw [← hQ]
  -- the pairs
  have pairs : ∀ J0, kJ1 J0 = kJ1 J1 → lvP I1 J1 W Rn A J0 → ∀ x, x ≤ Rn → ∀ I0 s, k1 I0 = k1 I1 → qAt I0 s → qsA (lbit (J1 24 6)) v Rn (Rn - x) x s = s0 → E1 265 (D + 4) Q 67 [(0, .ref 53), (2, .ref 24), (3, .int (nI x))] I0 J0 := by
    intro J0 hj hL
    refine lp_up (n := Rn) (fun x => ∀ I0 s, k1 I0 = k1 I1 → qAt I0 s → qsA (lbit (J1 24 6)) v Rn (Rn - x) x s = s0 → E1 265 (D + 4) Q 67 [(0, .ref 53), (2, .ref 24), (3, .int (nI x))] I0 J0) (fun x hx ih I0 s hk hq he => ?_)
    refine mj_on (s265_67 _ ?_)
    rw [k1_at hk (q := 24) (j := 0) rfl, w1, nI_1, hq.1]
    refine if_le (by omega) (by omega) (fun c => ?_) (fun c => ?_)
    · rw [qsA_e c] at he
      rw [hQ]
      refine if_i (fun d => ⟨Or.inl rfl, _, _, _, rfl, ?_, hk, hj, he ▸ hq⟩) (fun d => ⟨Or.inr rfl, _, _, _, rfl, ?_, hk, hj, he ▸ hq⟩)
      · rw [tf_f]
        rw [← he]
        exact fun q => q d
      · rw [tf_t]
        rw [← he]
        exact d
    rw [qsA_s c] at he
    have inner := lp_up (n := Rn) (fun y => ∀ I0 s, k1 I0 = k1 I1 → qAt I0 s → qsA (lbit (J1 24 6)) v Rn (Rn - (x + 1)) (x + 1) (qsB (lbit (J1 24 6)) v x (Rn - y) y s) = s0 → E1 265 (D + 4) Q 80 [(0, .ref 53), (2, .ref 24), (3, .int (nI x)), (4, .int (nI y))] I0 J0) (fun y hy ih2 I0 s hk hq he => ?_) (x + 1) (by omega) I0 s hk hq he
    · exact inner
    refine mj_on (s265_80 _ _ ?_)
    rw [k1_at hk (q := 24) (j := 0) rfl, w1, nI_1, nI_1, kJ1_at hj (q := 24) rfl]
    refine if_le (by omega) (by omega) (fun d => ?_) (fun d => ?_)
    · rw [qsB_e d] at he
      exact ih c I0 s hk hq he
    rw [qsB_s d] at he
    refine ⟨trivial, _, _, _, c_isIn (by omega), if_tf (fun f => ?_) (fun f => ?_)⟩
    · rw [kJ1_at hj (q := 24) rfl]
      refine ⟨trivial, _, _, _, c_isIn (by omega), if_tf (fun f2 => ?_) (fun f2 => ?_)⟩
      · obtain ⟨I', hc, q1, q2⟩ := c_try (D := D + 2) c d w2 hL hq (lbit (J1 24 6)) ⟨f, f2⟩
        refine ⟨trivial, _, _, hc, ?_⟩
        rw [← hv] at q2
        exact ih2 d I' _ (q1.trans hk) q2 he
      · rw [qs1_f (fun q => f2 q.2.1)] at he
        exact ih2 d I0 s hk hq he
    · rw [qs1_f (fun q => f q.1)] at he
      exact ih2 d I0 s hk hq he
  -- the weighings
  have weighs : ∀ n, n ≤ (wl W g).length → ∀ I0 J0, k1 I0 = k1 I1 → kJ1 J0 = kJ1 J1 → lvP I1 J1 W Rn (fl P ((wl W g).take n)) J0 → E1 265 (D + 4) Q 24 [(0, .ref 53), (1, .ref 51), (2, .ref 24), (3, .int (nI n))] I0 J0 := by
    refine lp_up (n := (wl W g).length) (fun n => ∀ I0 J0, k1 I0 = k1 I1 → kJ1 J0 = kJ1 J1 → lvP I1 J1 W Rn (fl P ((wl W g).take n)) J0 → E1 265 (D + 4) Q 24 [(0, .ref 53), (1, .ref 51), (2, .ref 24), (3, .int (nI n))] I0 J0) (fun n hn ih I0 J0 hk hj hL => ?_)
    refine mj_on (s265_24 _ ?_)
    rw [k1_at hk (q := 51) (j := 2) rfl, g4, nI_1]
    refine if_le (by omega) (by omega) (fun c => ?_) (fun c => ?_)
    · rw [tk_e c, ← hA] at hL
      refine pairs J0 hj hL 0 (Nat.zero_le _) _ (-1, -1, -1) ?_ ⟨up_s, fun q => absurd rfl q⟩ hs0.symm
      rw [k1_up rfl]
      exact hk
    · obtain ⟨r, hr, -, -⟩ := gt_of c
      have ih := ih c
      rw [tk_s hr] at ih
      have hag : C1 (D + 4) 260 [.ref 53, .int (nI n), .ref 51, .ref 24] I0 J0 (.int (tf (P r))) I0 J0 := by
        rw [hP]
        have hRl : Rl b W Rn Kn Tn Hn Un g I1 J0 I2 J2 := Rl_same h rfl hj rfl rfl
        have e := c_isAg (D := D) hRl hS hS2 hk hr
        have e2 : sAg I1 J0 W S = sAg I1 J1 W S := by
          funext r
          unfold sAg saA
          rw [kJ1_at hj (q := 24) rfl]
        rw [e2] at e
        exact e
      refine ⟨trivial, _, _, _, hag, if_tf (fun d => ?_) (fun d => ?_)⟩
      · rw [fl_t d] at ih
        have hRl : Rl b W Rn Kn Tn Hn Un g I1 J0 I2 J2 := Rl_same h rfl hj rfl rfl
        obtain ⟨I', hc, q1, q2⟩ := c_firstBy (D := D + 2) hRl (d := 0) hk hr (by omega)
        have ef : fb I1 J0 W Rn (0 : Nat) r = fb I1 J1 W Rn 0 r := by
          unfold fb
          rw [kJ1_at hj (q := 24) rfl]
          rfl
        rw [ef] at hc
        have hk' := (k1_28 q1).trans hk
        obtain ⟨J', hc2, z1, z2⟩ := c_note (D := D + 3) h (A := fl P ((wl W g).take n)) (r := r) hk' q2 hL
        exact ⟨trivial, _, _, _, hc, trivial, _, _, hc2, ih I' J' hk' ((kJ1_56 z1).trans hj) z2⟩
      · rw [fl_f d] at ih
        exact ih I0 J0 hk hj hL
  -- the rows made empty
  have clr := lp_up (n := 1600) (fun i => ∀ J0, (∀ q, q ≠ 56 → J0 q = J1 q) → (∀ j, j < i → J0 56 j = 0) → E1 265 (D + 4) Q 2 [(0, .ref 53), (1, .ref 51), (2, .ref 24), (3, .int (nI i))] I1 J0) (fun i hi ih J0 hF h0 => ?_) 0 (Nat.zero_le _) J1 (fun _ _ => rfl) (fun j hj => absurd hj (Nat.not_lt_zero j))
  · exact clr
  refine mj_on (s265_2 _ ?_)
  rw [nI_1]
  refine if_le (a := 1600) (by decide) (by omega) (fun c => ?_) (fun c => ⟨vp_in_nI (by omega) (by decide), ?_⟩)
  · refine weighs 0 (Nat.zero_le _) I1 J0 rfl (kJ1_56 hF) fun x y hx hy => ?_
    rw [h0 _ (by omega)]
    rfl
  · rw [nI_clamp (by omega)]
    refine ih c _ (fun q hq => by rw [up_c hq, hF q hq]) fun j hj => ?_
    by_cases e : j = i
    · rw [e, up_s]
    · rw [up_j e]; exact h0 j (by omega)
theorem r_leaves {A : List (List Nat)} {x y : Nat} (hx : x < Rn) (hy : y < Rn) (hR : Rn ≤ 40) (hA : A.length ≤ 455) (bx : lbit (J1 24 6) x) (by' : lbit (J1 24 6) y) (hg : gaP I1 J1 W Rn A I J) : C2 (D + 2) 114 [.ref 0, .int (nI x), .int (nI y)] I J (.int (nI (pcL (lvs I1 J1 W Rn A x y)))) I J := by
  refine mj_mk (e114 _ _ ?_)
  refine lp_up (n := A.length) (fun n => E2 114 (D + 1) (fun q => q = (.int (nI (pcL (lvs I1 J1 W Rn A x y))), (I, J, mj_R2))) 5 [(0, .ref 0), (1, .int (nI x)), (2, .int (nI y)), (3, .long (lvs I1 J1 W Rn (A.take n) x y)), (5, .int (nI n))] I J) (fun n hn ih => ?_) 0 (Nat.zero_le _)
  refine mj_on (s114_5 _ _ _ _ ?_)
  rw [hg.1, nI_1]
  refine if_le (by omega) (by omega) (fun c => ?_) (fun c => ?_)
  · rw [tk_e c]
    exact ⟨trivial, _, _, _, r_bits, rfl⟩
  · obtain ⟨r, hr, -, -⟩ := gt_of c
    have ih := ih c
    rw [tk_s hr] at ih
    obtain ⟨q1, q2⟩ := hg.2 n r hr
    rw [ix40, ix40, nI_clamp (by omega), nI_clamp (by omega), nI_clamp (by omega), q2 x hx bx, q2 y hy by', q1]
    refine ⟨vp_in_nI (by omega) (by decide), vp_in_nI (by omega) (by decide), if_i (fun d => ?_) (fun d => ⟨vp_in_nI (by omega) (by decide), ?_⟩)⟩
    · have e : lvs I1 J1 W Rn (A.take n ++ [r]) x y = lvs I1 J1 W Rn (A.take n) x y := by
        unfold lvs
        rw [fl_f (Int32.not_le.mpr d)]
      rw [e] at ih
      rw [show lvs I1 J1 W Rn (A.take n) x y ||| 0 = lvs I1 J1 W Rn (A.take n) x y by simp]
      exact ih
    · have e : lvs I1 J1 W Rn (A.take n ++ [r]) x y = lvs I1 J1 W Rn (A.take n) x y ||| fb I1 J1 W Rn 0 r := by
        unfold lvs
        rw [fl_t (Int32.not_lt.mp d), lor_s]
      rw [e] at ih
      exact ih
theorem qok_1 {p : Nat → Prop} {v : Nat → Nat → Nat} {x y : Nat} {s : Int32 × Int32 × Int32} (hx : x < 64) (hy : y < 64) (hv : ∀ x y, v x y ≤ 64) (h : qok s) : qok (qs1 p v x y s) := by
  rcases Classical.em (p x ∧ p y ∧ (s.2.2 = -1 ∨ nI (v x y) < s.2.2)) with c | c
  · rw [qs1_t c]
    exact Or.inr ⟨x, y, v x y, hv x y, hx, hy, rfl⟩
  · rw [qs1_f c]
    exact h
theorem sb_2 {x : Int64} {a c : Nat} (ha : a < 64) (hc : c < 64) : lg_cmp (((x >>> ((nI a).toInt64 &&& 63)) &&& (x >>> ((nI c).toInt64 &&& 63))) &&& 1) 0 = 0 ↔ ¬ (lbit x a ∧ lbit x c) := by
  have e : ((x >>> ((nI a).toInt64 &&& 63)) &&& (x >>> ((nI c).toInt64 &&& 63))) &&& 1 = ((x >>> ((nI a).toInt64 &&& 63)) &&& 1) &&& ((x >>> ((nI c).toInt64 &&& 63)) &&& 1) := by
    apply Int64.toBitVec_inj.mp
    simp only [Int64.toBitVec_and]
    apply BitVec.eq_of_getLsbD_eq
    intro i hi
    simp only [BitVec.getLsbD_and]
    cases (x >>> ((nI a).toInt64 &&& 63)).toBitVec.getLsbD i <;> cases (x >>> ((nI c).toInt64 &&& 63)).toBitVec.getLsbD i <;> simp
  rw [cmp0, e, sb_v ha, sb_v hc]
  unfold lbit
  cases x.toBitVec.getLsbD a <;> cases x.toBitVec.getLsbD c <;> decide
theorem al_question {x : Int32} (h : Rl b W Rn Kn Tn Hn Un g I1 J1 I2 J2) : AI 264 113 [.int x] I1 J1 I2 J2 (Rl b W Rn Kn Tn Hn Un g) := by
  obtain ⟨S, s1, s2, -, -⟩ := h.S
  obtain ⟨hG, g1, g2, g3, g4, g5⟩ := h.G
  have hB := h.rB
  obtain ⟨b1, b2, b3, b4, b5, b6⟩ := id hB
  by_cases ok : ¬ x < 0 ∧ ¬ (2 : Int32) < x
  · obtain ⟨I1', J1', s, hc, p1, p2, p3, p4⟩ := c_ask (D := 894) h s2 s1
    obtain ⟨A, hA⟩ : ∃ A, A = fl (sAg I1 J1 W S) (wl W g) := ⟨_, rfl⟩
    obtain ⟨I', J', hc2, q1, q2, q3⟩ := r_gather (D := 892) h s2 s1
    rw [← hA] at p4 q3
    have hAl : A.length ≤ 455 := by rw [hA]; exact Nat.le_trans fl_len g5
    obtain ⟨v, hv⟩ : ∃ v, v = lvN I1 J1 W Rn A := ⟨_, rfl⟩
    have hv64 : ∀ x y, v x y ≤ 64 := fun x y => by rw [hv]; exact lvN_le
    rw [← hv] at p4
    have hBI := rB_k hB q1
    have out : ∀ t : Int32 × Int32 × Int32, qok t → t = s → mj_Cl mj_S2 mj_CD 899 = mj_Cl mj_S2 mj_CD 899 ∧ qok s := fun t h1 h2 => ⟨rfl, h2 ▸ h1⟩
    have rf : ∀ x0 : Int32, ¬ x0 < 0 → ¬ (2 : Int32) < x0 → C2 900 113 [.ref 0, .int x0] I2 J2 (.int (if x0 = 0 then s.1 else if x0 = 1 then s.2.1 else s.2.2)) I' J' ∧ qok s := by
      intro x0 k1 k2'
      have st : qok s ∧ mj_Ev mj_S2 (mj_CD 113) (mj_Cl mj_S2 mj_CD 899) (fun q => q = (.int (if x0 = 0 then s.1 else if x0 = 1 then s.2.1 else s.2.2), (I', J', mj_R2))) 32 [(0, .ref 0), (1, .int x0), (2, .long (J1 24 6)), (4, .int (-1)), (5, .int (-1)), (6, .int (-1)), (7, .int (nI 0))] [] (I', J', mj_R2) := by
        have outer := lp_up (n := Rn) (fun i => ∀ t : Int32 × Int32 × Int32, qok t → qsA (lbit (J1 24 6)) v Rn (Rn - i) i t = s → qok s ∧ E2 113 899 (fun q => q = (.int (if x0 = 0 then s.1 else if x0 = 1 then s.2.1 else s.2.2), (I', J', mj_R2))) 32 [(0, .ref 0), (1, .int x0), (2, .long (J1 24 6)), (4, .int t.1), (5, .int t.2.1), (6, .int t.2.2), (7, .int (nI i))] I' J') (fun i hi ih t ht he => ?_) 0 (Nat.zero_le _) (-1, -1, -1) (Or.inl rfl) p4.symm
        · exact outer
        by_cases c : i < Rn
        · rw [qsA_s c] at he
          have inner := lp_up (n := Rn) (fun y => ∀ t : Int32 × Int32 × Int32, qok t → qsA (lbit (J1 24 6)) v Rn (Rn - (i + 1)) (i + 1) (qsB (lbit (J1 24 6)) v i (Rn - y) y t) = s → qok s ∧ E2 113 899 (fun q => q = (.int (if x0 = 0 then s.1 else if x0 = 1 then s.2.1 else s.2.2), (I', J', mj_R2))) 52 [(0, .ref 0), (1, .int x0), (2, .long (J1 24 6)), (4, .int t.1), (5, .int t.2.1), (6, .int t.2.2), (7, .int (nI i)), (8, .int (nI y))] I' J') (fun y hy ih2 t ht he => ?_) (i + 1) (by omega) t ht he
          · refine ⟨inner.1, mj_on (s113_32 _ _ _ _ _ _ ?_)⟩
            rw [hBI.1, nI_clamp (by omega), hBI.2.2.2.2.1, nI_1]
            exact ⟨vp_in_nI b2 (by decide), if_le (by omega) (by omega) (fun d => absurd d (by omega)) (fun _ => inner.2)⟩
          by_cases d : y < Rn
          · rw [qsB_s d] at he
            have ih2 := ih2 d _ (qok_1 (by omega) (by omega) hv64 ht) he
            refine ⟨ih2.1, mj_on (s113_52 _ _ _ _ _ _ _ ?_)⟩
            rw [hBI.1, nI_clamp (by omega), hBI.2.2.2.2.1, nI_1, nI_1]
            refine ⟨vp_in_nI b2 (by decide), if_le (by omega) (by omega) (fun d2 => absurd d2 (by omega)) (fun _ => ?_)⟩
            refine if_i (fun f => ?_) (fun f => ?_)
            · have f := (sb_2 (by omega) (by omega)).mp f
              have ih2 := ih2.2
              rw [qs1_f (fun q => f ⟨q.1, q.2.1⟩)] at ih2
              exact ih2
            · have f : lbit (J1 24 6) i ∧ lbit (J1 24 6) y := Classical.byContradiction fun q => f ((sb_2 (by omega) (by omega)).mpr q)
              obtain ⟨ca, hca⟩ : ∃ n, n = pcL (lvs I1 J1 W Rn A i y) := ⟨_, rfl⟩
              obtain ⟨cb, hcb⟩ : ∃ n, n = pcL (lvs I1 J1 W Rn A y i) := ⟨_, rfl⟩
              have la : ca ≤ 64 := by rw [hca]; exact pcn_le 64 _
              have lb : cb ≤ 64 := by rw [hcb]; exact pcn_le 64 _
              have ka : C2 899 114 [.ref 0, .int (nI i), .int (nI y)] I' J' (.int (nI ca)) I' J' := by rw [hca]; exact r_leaves (D := 897) c d b6 hAl f.1 f.2 q3
              have kb : C2 899 114 [.ref 0, .int (nI y), .int (nI i)] I' J' (.int (nI cb)) I' J' := by rw [hcb]; exact r_leaves (D := 897) d c b6 hAl f.2 f.1 q3
              have hvN : v i y = max ca cb := by rw [hv, hca, hcb]; unfold lvN; rfl
              clear hca hcb
              refine ⟨trivial, _, _, _, ka, trivial, _, _, _, kb, ?_⟩
              have em := (i32_max (a := ca) (b := cb) (by omega) (by omega)).2
              rw [← hvN] at em
              have go : E2 113 899 (fun q => q = (.int (if x0 = 0 then s.1 else if x0 = 1 then s.2.1 else s.2.2), (I', J', mj_R2))) 121 [(0, .ref 0), (1, .int x0), (2, .long (J1 24 6)), (4, .int t.1), (5, .int t.2.1), (6, .int t.2.2), (7, .int (nI i)), (8, .int (nI y)), (11, .int (nI (v i y)))] I' J' := by
                refine mj_on (s113_121 _ _ _ _ _ _ _ _ ?_)
                rw [nI_1]
                have yes : (t.2.2 = -1 ∨ nI (v i y) < t.2.2) → E2 113 899 (fun q => q = (.int (if x0 = 0 then s.1 else if x0 = 1 then s.2.1 else s.2.2), (I', J', mj_R2))) 137 [(0, .ref 0), (1, .int x0), (2, .long (J1 24 6)), (7, .int (nI i)), (8, .int (nI y)), (11, .int (nI (v i y)))] I' J' := by
                  intro hh
                  refine mj_on (s113_137 _ _ _ _ _ ?_)
                  rw [nI_1]
                  have ih2 := ih2.2
                  rw [qs1_t ⟨f.1, f.2, hh⟩] at ih2
                  exact ih2
                refine if_i (fun z => yes (Or.inl z)) (fun z => if_i (fun z2 => yes (Or.inr z2)) (fun z2 => ?_))
                have ih2 := ih2.2
                rw [qs1_f] at ih2
                · exact ih2
                · rintro ⟨-, -, q | q⟩
                  · exact z q
                  · exact z2 q
              refine if_i (fun z => ?_) (fun z => ?_)
              · rw [if_pos z] at em; rw [em]; exact go
              · rw [if_neg z] at em; rw [em]; exact go
          · rw [qsB_e (by omega)] at he
            have ih := ih c t ht he
            refine ⟨ih.1, mj_on (s113_52 _ _ _ _ _ _ _ ?_)⟩
            rw [hBI.1, nI_clamp (by omega), hBI.2.2.2.2.1, nI_1, nI_1]
            exact ⟨vp_in_nI b2 (by decide), if_le (by omega) (by omega) (fun _ => ih.2) (fun d2 => absurd d2 d)⟩
        · rw [qsA_e (by omega)] at he
          refine ⟨he ▸ ht, mj_on (s113_32 _ _ _ _ _ _ ?_)⟩
          rw [hBI.1, nI_clamp (by omega), hBI.2.2.2.2.1]
          refine ⟨vp_in_nI b2 (by decide), if_le (by omega) (by omega) (fun _ => ?_) (fun d => absurd d c)⟩
          rw [he]
          refine if_i (fun z => by rw [if_pos z]) (fun z => if_i (fun z2 => by rw [if_neg z, if_pos z2]) (fun z2 => by rw [if_neg z, if_neg z2]))
      refine ⟨mj_mk (D := 899) (e113 _ ?_), st.1⟩
      exact ⟨trivial, _, _, _, r_is, if_tf (fun _ => ⟨trivial, _, _, _, h.rfront, trivial, _, _, hc2, st.2⟩) (fun f => absurd ⟨k1, k2'⟩ f)⟩
    obtain ⟨rc, hq⟩ := rf x ok.1 ok.2
    obtain ⟨n, hn, rfl⟩ := nI_of2 (n := 2) (by decide) ok.1 (Int32.not_lt.mp ok.2)
    refine ⟨_, I1', J1', I', J', mj_mk (D := 899) (e264 _ ?_), rc, Rl_same h p1 p2 q1 q2⟩
    rw [if_neg ok.1, if_neg ok.2]
    refine ⟨trivial, _, _, _, hc, if_tf (fun c => ?_) (fun c => ?_)⟩
    · have e7 := p3.1
      obtain ⟨e5, e6⟩ := p3.2 c
      rw [e5, e6, e7]
      match n, hn with
      | 0, _ => rfl
      | 1, _ => rfl
      | 2, _ => rfl
    · have c : s.2.2 = -1 := Classical.byContradiction fun q => c q
      rcases hq with rfl | ⟨x, y, m, m1, m2, m3, rfl⟩
      · match n, hn with
        | 0, _ => rfl
        | 1, _ => rfl
        | 2, _ => rfl
      · exfalso
        have c2 : nI m = -1 := c
        have := congrArg Int32.toInt c2
        rw [nI_toInt (by omega)] at this
        have h3 : (-1 : Int32).toInt = -1 := by decide
        omega
  · refine AI.same (-1) (mj_mk (D := 899) (e264 _ ?_)) (mj_mk (D := 899) (e113 _ ?_)) h
    · exact if_i (fun _ => rfl) (fun c => if_i (fun _ => rfl) (fun d => absurd ⟨c, d⟩ ok))
    · exact ⟨trivial, _, _, _, r_is, if_tf (fun f => absurd f ok) (fun _ => rfl)⟩
end S63
