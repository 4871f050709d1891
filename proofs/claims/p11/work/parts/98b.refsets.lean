/-! the reference says of a set whether the tests hold, and gathers the sets -/
theorem lZ_z {z : Int} (h1 : -2 ^ 62 < z) (h2 : z < 2 ^ 62) : lZ z = 0 ↔ z = 0 := by
  constructor
  · intro h
    have := congrArg Int64.toInt h
    rw [lZ_toInt h1 h2] at this
    exact this
  · rintro rfl; rfl
theorem n1_neg {n : Nat} : nI (n + 1) + -1 = nI n := by
  rw [← Int32.sub_eq_add_neg]
  exact n1_sub
section S98b
variable {D b W Rn Hn Un m : Nat} {A : Nat → List (Nat × Nat)} {hs : Nat → Nat} {I I1 : Nat → Nat → Int32} {J : Nat → Nat → Int64} {mo : Nat → Int32}
theorem r_over {a c : Int} (a1 : -1000000000 ≤ a) (a2 : a ≤ 1000000000) (c1 : -1000000000 ≤ c) (c2 : c ≤ 1000000000) : C2 (D + 1) 82 [.long (lZ a), .long (lZ c)] I J (.long (lZ (twov 8 a c))) I J := by
  refine mj_mk (e82 _ _ ?_)
  by_cases h0 : c = 0
  · subst h0
    rw [if_pos (cmp0.mpr (show lZ 0 = 0 from rfl))]
    rfl
  have n0 : ¬ lZ c = 0 := fun z => h0 ((lZ_z (by omega) (by omega)).mp z)
  have ht := tdiv_rng (c := c) a1 a2
  have ed : lZ a / lZ c = lZ (a.tdiv c) := by
    apply Int64.toInt_inj.mp
    rw [Int64.toInt_div, lZ_toInt (by omega) (by omega), lZ_toInt (by omega) (by omega), lZ_toInt (by omega) (by omega)]
    exact Int.bmod_eq_of_le (by omega) (by omega)
  have hm : (a.tdiv c * c).natAbs ≤ a.natAbs := by
    rw [Int.natAbs_mul, Int.natAbs_tdiv]
    exact Nat.div_mul_le_self _ _
  have es : lZ (a.tdiv c) - 1 = lZ (a.tdiv c - 1) := lZ_sub _ 1
  have ev : twov 8 a c = Int.fdiv a c := if_neg h0
  have sa : (lg_cmp (lZ a) 0 < 0) ↔ a < 0 := by rw [cmp_lt.1, lZ_toInt (by omega) (by omega), show (0 : Int64).toInt = 0 by decide]
  have sc : (lg_cmp (lZ c) 0 < 0) ↔ c < 0 := by rw [cmp_lt.1, lZ_toInt (by omega) (by omega), show (0 : Int64).toInt = 0 by decide]
  rw [if_neg (fun z => n0 (cmp0.mp z)), ed, lZ_mul, lZ_sub, es, ev, fd_t h0]
  refine ⟨n0, n0, if_i (fun x => ?_) (fun x => ?_)⟩
  · rw [if_pos (Or.inl (by have := (lZ_z (by omega) (by omega)).mp (cmp0.mp x); omega))]
  · have x2 : ¬ a.tdiv c * c = a := fun q => x (cmp0.mpr (by rw [q, Int.sub_self]; rfl))
    refine if_i (fun y => if_i (fun z => ?_) (fun z => ?_)) (fun y => if_i (fun z => ?_) (fun z => ?_))
    · rw [if_pos (Or.inr ⟨fun _ => sc.mp z, fun _ => sa.mp y⟩)]
    · rw [if_neg (fun q => q.elim x2 fun q => z (sc.mpr (q.mp (sa.mp y))))]
    · rw [if_neg (fun q => q.elim x2 fun q => y (sa.mpr (q.mpr (sc.mp z))))]
    · rw [if_pos (Or.inr ⟨fun q => absurd (sa.mpr q) y, fun q => absurd (sc.mpr q) z⟩)]
theorem r_two {op : Nat} {a c : Int} (h5 : 5 ≤ op) (h15 : op ≤ 15) (ha : vok1 (decide (14 ≤ op)) a) (hc : vok1 (decide (14 ≤ op)) c) : C2 (D + 2) 80 [.int (nI op), .long (lZ a), .long (lZ c)] I J (.long (lZ (twov op a c))) I J := by
  obtain ⟨ha0, a1, a2⟩ := ha
  obtain ⟨hc0, c1, c2⟩ := hc
  have l1 : lg_cmp (lZ a) (lZ c) < 0 ↔ a < c := by rw [cmp_lt.1, lZ_toInt (by omega) (by omega), lZ_toInt (by omega) (by omega)]
  have l2 : lg_cmp (lZ a) (lZ c) ≤ 0 ↔ a ≤ c := by rw [cmp_lt.2, lZ_toInt (by omega) (by omega), lZ_toInt (by omega) (by omega)]
  have l3 : lg_cmp (lZ (a + c)) 0 ≤ 0 ↔ a + c ≤ 0 := by rw [cmp_lt.2, lZ_toInt (by omega) (by omega), show (0 : Int64).toInt = 0 by decide]
  match op, h5, h15, ha0, hc0 with
  | 5, _, _, _, _ =>
    refine mj_mk (e80 _ _ _ ?_)
    rw [if_pos (show nI 5 = 5 from rfl), lZ_add]
    exact ⟨trivial, _, _, _, r_held (by omega) (by omega), rfl⟩
  | 6, _, _, _, _ =>
    refine mj_mk (e80 _ _ _ ?_)
    rw [if_neg (show ¬ nI 6 = 5 by decide), if_pos (show nI 6 = 6 from rfl), lZ_sub]
    exact ⟨trivial, _, _, _, r_held (by omega) (by omega), rfl⟩
  | 7, _, _, _, _ =>
    refine mj_mk (e80 _ _ _ ?_)
    rw [if_neg (show ¬ nI 7 = 5 by decide), if_neg (show ¬ nI 7 = 6 by decide), if_pos (show nI 7 = 7 from rfl), lZ_mul]
    have hm : (a * c).natAbs ≤ 1000000000 * 1000000000 := by
      rw [Int.natAbs_mul]
      exact Nat.mul_le_mul (by omega) (by omega)
    exact ⟨trivial, _, _, _, r_held (by omega) (by omega), rfl⟩
  | 8, _, _, _, _ =>
    refine mj_mk (e80 _ _ _ ?_)
    rw [if_neg (show ¬ nI 8 = 5 by decide), if_neg (show ¬ nI 8 = 6 by decide), if_neg (show ¬ nI 8 = 7 by decide), if_pos (show nI 8 = 8 from rfl)]
    exact ⟨trivial, _, _, _, r_over a1 a2 c1 c2, rfl⟩
  | 9, _, _, _, _ =>
    refine mj_mk (e80 _ _ _ ?_)
    rw [if_neg (show ¬ nI 9 = 5 by decide), if_neg (show ¬ nI 9 = 6 by decide), if_neg (show ¬ nI 9 = 7 by decide), if_neg (show ¬ nI 9 = 8 by decide), if_pos (show nI 9 = 9 from rfl), show twov 9 a c = if a < c then a else c from rfl]
    refine if_i (fun y => ?_) (fun y => ?_)
    · rw [if_pos (l1.mp y)]
    · rw [if_neg (fun z => y (l1.mpr z))]
  | 10, _, _, _, _ =>
    refine mj_mk (e80 _ _ _ ?_)
    rw [if_neg (show ¬ nI 10 = 5 by decide), if_neg (show ¬ nI 10 = 6 by decide), if_neg (show ¬ nI 10 = 7 by decide), if_neg (show ¬ nI 10 = 8 by decide), if_neg (show ¬ nI 10 = 9 by decide), if_pos (show nI 10 = 10 from rfl), show twov 10 a c = if a < c then c else a from rfl]
    refine if_i (fun y => ?_) (fun y => ?_)
    · by_cases z : a < c
      · rw [if_pos z]
      · rw [if_neg z, show a = c by have := l2.mp y; omega]
    · rw [if_neg (fun z => y (l2.mpr (by omega)))]
  | 11, _, _, _, _ =>
    refine mj_mk (e80 _ _ _ ?_)
    rw [if_neg (show ¬ nI 11 = 5 by decide), if_neg (show ¬ nI 11 = 6 by decide), if_neg (show ¬ nI 11 = 7 by decide), if_neg (show ¬ nI 11 = 8 by decide), if_neg (show ¬ nI 11 = 9 by decide), if_neg (show ¬ nI 11 = 10 by decide), if_pos (show nI 11 = 11 from rfl)]
    refine if_i (fun y => ?_) (fun y => ?_)
    · have e : twov 11 a c = 1 := if_pos (l1.mp y)
      rw [e]; rfl
    · have e : twov 11 a c = 0 := if_neg (fun z => y (l1.mpr z))
      rw [e]; rfl
  | 12, _, _, _, _ =>
    refine mj_mk (e80 _ _ _ ?_)
    rw [if_neg (show ¬ nI 12 = 5 by decide), if_neg (show ¬ nI 12 = 6 by decide), if_neg (show ¬ nI 12 = 7 by decide), if_neg (show ¬ nI 12 = 8 by decide), if_neg (show ¬ nI 12 = 9 by decide), if_neg (show ¬ nI 12 = 10 by decide), if_neg (show ¬ nI 12 = 11 by decide), if_pos (show nI 12 = 12 from rfl)]
    refine if_i (fun y => ?_) (fun y => ?_)
    · have e : twov 12 a c = 0 := if_neg (by have := l2.mp y; omega)
      rw [e]; rfl
    · have e : twov 12 a c = 1 := if_pos (Classical.byContradiction fun z => y (l2.mpr (by omega)))
      rw [e]; rfl
  | 13, _, _, _, _ =>
    refine mj_mk (e80 _ _ _ ?_)
    rw [if_neg (show ¬ nI 13 = 5 by decide), if_neg (show ¬ nI 13 = 6 by decide), if_neg (show ¬ nI 13 = 7 by decide), if_neg (show ¬ nI 13 = 8 by decide), if_neg (show ¬ nI 13 = 9 by decide), if_neg (show ¬ nI 13 = 10 by decide), if_neg (show ¬ nI 13 = 11 by decide), if_neg (show ¬ nI 13 = 12 by decide), if_pos (show nI 13 = 13 from rfl)]
    refine if_i (fun y => ?_) (fun y => ?_)
    · have q := congrArg Int64.toInt (cmp0.mp y)
      rw [lZ_toInt (by omega) (by omega), lZ_toInt (by omega) (by omega)] at q
      have e : twov 13 a c = 1 := if_pos q
      rw [e]; rfl
    · have e : twov 13 a c = 0 := if_neg (fun z => y (cmp0.mpr (by rw [z])))
      rw [e]; rfl
  | 14, _, _, ha0, hc0 =>
    refine mj_mk (e80 _ _ _ ?_)
    rw [if_neg (show ¬ nI 14 = 5 by decide), if_neg (show ¬ nI 14 = 6 by decide), if_neg (show ¬ nI 14 = 7 by decide), if_neg (show ¬ nI 14 = 8 by decide), if_neg (show ¬ nI 14 = 9 by decide), if_neg (show ¬ nI 14 = 10 by decide), if_neg (show ¬ nI 14 = 11 by decide), if_neg (show ¬ nI 14 = 12 by decide), if_neg (show ¬ nI 14 = 13 by decide), if_pos (show nI 14 = 14 from rfl), lZ_mul]
    have e : twov 14 a c = a * c := by
      show (if a ≠ 0 ∧ c ≠ 0 then 1 else 0) = a * c
      rcases ha0 rfl with rfl | rfl <;> rcases hc0 rfl with rfl | rfl <;> decide
    rw [e]
  | 15, _, _, ha0, hc0 =>
    refine mj_mk (e80 _ _ _ ?_)
    rw [if_neg (show ¬ nI 15 = 5 by decide), if_neg (show ¬ nI 15 = 6 by decide), if_neg (show ¬ nI 15 = 7 by decide), if_neg (show ¬ nI 15 = 8 by decide), if_neg (show ¬ nI 15 = 9 by decide), if_neg (show ¬ nI 15 = 10 by decide), if_neg (show ¬ nI 15 = 11 by decide), if_neg (show ¬ nI 15 = 12 by decide), if_neg (show ¬ nI 15 = 13 by decide), if_neg (show ¬ nI 15 = 14 by decide), lZ_add]
    have va := ha0 rfl
    have vc := hc0 rfl
    refine if_i (fun y => ?_) (fun y => ?_)
    · have e : twov 15 a c = 0 := if_neg (by have := l3.mp y; omega)
      rw [e]; rfl
    · have e : twov 15 a c = 1 := if_pos (by have : ¬ a + c ≤ 0 := fun z => y (l3.mpr z); omega)
      rw [e]; rfl
/-- the things of the reference's Tale, by the class' -/
def thr (b W Hn : Nat) (I1 I : Nat → Nat → Int32) : Prop := W ≤ 4 ∧ Hn ≤ 12 ∧ I 0 12 = nI b ∧ b < 2 ∧ I 6 b = nI Hn ∧ ∀ k, k < Hn → ∀ w, w < W → ∃ x, x ≤ 9999 ∧ I1 5 (640 + 4 * k + w) = nI x ∧ I 18 (4 * (12 * b + k) + w) = nI x
theorem r_setHas (ht : thr b W Hn I1 I) (h56 : I 0 56 = nI m) (hm : m < 4096) {w : Nat} (hw : w < W) : C2 (D + 1) 79 [.ref 0, .int (nI w)] I J (.int (nI (hsu I1 w m Hn))) I J := by
  obtain ⟨w4, n12, hb, hb2, h6, hA⟩ := ht
  refine mj_mk (e79 _ ?_)
  have lp := lp_up (n := Hn) (fun k => E2 79 D (fun x => x = (.int (nI (hsu I1 w m Hn)), (I, J, mj_R2))) 4 [(0, .ref 0), (1, .int (nI w)), (2, .int (nI (hsu I1 w m k))), (3, .int (nI k))] I J) (fun k hk ih => ?_) 0 (by omega)
  · exact lp
  refine mj_on (s79_4 _ _ _ ?_)
  rw [hb, nI_clamp (by omega), h6, h56]
  refine ⟨vp_in_nI hb2 (by decide), if_le (by omega) (by omega) (fun c => ?_) (fun c => ?_)⟩
  · obtain rfl : k = Hn := by omega
    rfl
  obtain ⟨x, hx, e1, e2⟩ := hA k c w hw
  have := ih c
  rw [hsu_s, e1, nI_clamp (by omega)] at this
  rw [hb_bit k (by omega) m hm, nI_1]
  refine if_i (fun e => ?_) (fun e => ?_)
  · have e1 : tbit m k = 1 := by
      rcases tbit_01 m k with q | q
      · rw [q] at e; exact absurd e (by decide)
      · exact q
    rw [e1, Nat.one_mul] at this
    rw [show (12 : Int32) = nI 12 from rfl, show (4 : Int32) = nI 4 from rfl, pk_mul, nI_add, pk_mul, nI_add, nI_clamp (by omega), e2, nI_add]
    exact ⟨vp_in_nI (by omega) (by decide), this⟩
  · have e0 : tbit m k = 0 := by
      rcases tbit_01 m k with q | q
      · exact q
      · rw [q] at e; exact absurd rfl e
    rw [e0, Nat.zero_mul] at this
    rw [show (0 : Int32) = nI 0 from rfl, nI_add]
    exact this
theorem r_leaf (hm : m < 4096) (h56 : I 0 56 = nI m) (hh : ∀ w, w < W → hs w ≤ 200000) (h79 : ∀ w, w < W → C2 (D + 1) 79 [.ref 0, .int (nI w)] I J (.int (nI (hs w))) I J) {op v : Nat} (h1 : op ≤ 4) (hH : Hn ≤ 12) (hc : (op = 0 → v ≤ 9999) ∧ (op = 2 → v < W) ∧ (op = 4 → v < Hn) ∧ (op = 1 ∨ op = 3 → v = 0)) : C2 (D + 2) 78 [.ref 0, .int (nI op), .int (nI v)] I J (.long (lZ (leafv hs m op v))) I J := by
  obtain ⟨q1, q2, q3, q4⟩ := hc
  have il : ∀ n : Nat, n < 2 ^ 31 → (nI n).toInt64 = lZ (n : Nat) := fun n hn => iI_lZ (z := (n : Nat)) (by omega) (by omega)
  match op, h1 with
  | 0, _ =>
    refine mj_mk (e78 _ _ ?_)
    rw [if_pos (show nI 0 = 0 from rfl), il v (by have := q1 rfl; omega)]
    rfl
  | 1, _ =>
    refine mj_mk (e78 _ _ ?_)
    rw [if_neg (show ¬ nI 1 = 0 by decide), if_pos (show nI 1 = 1 from rfl), h56, n_long m hm]
    refine ⟨trivial, _, _, _, r_bits, ?_⟩
    have := pcn_le 12 m
    rw [pcL_lN (by omega), pcn_big 12 52 m (by omega), il _ (by omega)]
    rfl
  | 2, _ =>
    refine mj_mk (e78 _ _ ?_)
    rw [if_neg (show ¬ nI 2 = 0 by decide), if_neg (show ¬ nI 2 = 1 by decide), if_pos (show nI 2 = 2 from rfl)]
    refine ⟨trivial, _, _, _, h79 v (q2 rfl), ?_⟩
    have := hh v (q2 rfl)
    rw [il _ (by omega)]
    rfl
  | 3, _ =>
    refine mj_mk (e78 _ _ ?_)
    rw [if_neg (show ¬ nI 3 = 0 by decide), if_neg (show ¬ nI 3 = 1 by decide), if_neg (show ¬ nI 3 = 2 by decide), if_pos (show nI 3 = 3 from rfl)]
    rfl
  | 4, _ =>
    refine mj_mk (e78 _ _ ?_)
    have := q3 rfl
    rw [if_neg (show ¬ nI 4 = 0 by decide), if_neg (show ¬ nI 4 = 1 by decide), if_neg (show ¬ nI 4 = 2 by decide), if_neg (show ¬ nI 4 = 3 by decide), h56, hb_bit v (by omega) m hm, il _ (by rcases tbit_01 m v with q | q <;> omega)]
    rfl
def jrt (J : Nat → Nat → Int64) : List Int → Prop
  | [] => True
  | v :: r => J 36 r.length = lZ v ∧ jrt J r
theorem jrt_cg {J J' : Nat → Nat → Int64} : ∀ {vs : List Int}, jrt J vs → (∀ k, k < vs.length → J' 36 k = J 36 k) → jrt J' vs
  | [], _, _ => trivial
  | v :: r, h, e => ⟨by rw [e _ (by simp)]; exact h.1, jrt_cg h.2 fun k hk => e k (by simp; omega)⟩
theorem r_works {f : Nat} {a : List (Nat × Nat)} (hb : I 0 12 = nI b) (hb2 : b < 2) (hm : m < 4096) (h56 : I 0 56 = nI m) (hH : Hn ≤ 12) (hh : ∀ w, w < W → hs w ≤ 200000) (h79 : ∀ J w, w < W → C2 (D + 1) 79 [.ref 0, .int (nI w)] I J (.int (nI (hs w))) I J) (hl : f + a.length ≤ 900) (hcd : cdR I (900 * b + f) a) (hty : tyc 950 W Hn a [] = some [true]) : ∃ r I' J', C2 (D + 3) 77 [.ref 0, .int (nI f), .int (nI (f + a.length))] I J (.long r) I' J' ∧ (∃ v, ev hs m a [] = [v] ∧ (v = 0 ∨ v = 1) ∧ r = lZ v) ∧ I' = I ∧ ∀ q, q ≠ 36 → J' q = J q := by
  refine mj_cL (e77 _ _ ?_)
  obtain ⟨Q, hQ⟩ : ∃ Q, Q = qL mj_R2 (fun r I' J' => (∃ v, ev hs m a [] = [v] ∧ (v = 0 ∨ v = 1) ∧ r = lZ v) ∧ I' = I ∧ ∀ q, q ≠ 36 → J' q = J q) := ⟨_, rfl⟩
  rw [← hQ, hb, show (900 : Int32) = nI 900 from rfl, pk_mul, nI_add]
  have inner : ∀ (rest : List (Nat × Nat)) (k : Nat) (st : List Bool) (vs : List Int) (J1 : Nat → Nat → Int64), k + rest.length = a.length → a.drop k = rest → tyc 950 W Hn rest st = some [true] → vok st vs → jrt J1 vs → vs.length ≤ 950 → (∀ q, q ≠ 36 → J1 q = J q) → ev hs m rest vs = ev hs m a [] → E2 77 (D + 2) Q 14 [(0, .ref 0), (2, .int (nI (f + a.length))), (3, .int (nI vs.length)), (4, .int (nI (900 * b + f + k)))] I J1 := by
    intro rest
    induction rest with
    | nil =>
      intro k st vs J1 hk hd ht hv hj hvl hf he
      have hk : k = a.length := by simpa using hk
      unfold tyc at ht
      cases ht
      obtain ⟨v, rfl, hv2⟩ := vok_one hv
      refine mj_on (s77_14 _ _ _ ?_)
      rw [hb, show (900 : Int32) = nI 900 from rfl, pk_mul, nI_add]
      refine if_le (by omega) (by omega) (fun _ => ?_) (fun z => absurd z (by omega))
      rw [show ((0 : Int32)).toNatClampNeg = 0 from rfl, hQ]
      exact ⟨vp_in_nI (n := 0) (by decide) (by decide), _, _, _, rfl, ⟨v, he.symm, hv2, hj.1⟩, rfl, hf⟩
    | cons x rest ihr =>
      intro k st vs J1 hk hd ht hv hj hvl hf he
      have hk2 : k + (rest.length + 1) = a.length := hk
      obtain ⟨st', w1, w2, w3⟩ := tyc_cons ht
      have hx : a[k]? = some x := by
        have : (a.drop k)[0]? = some x := by rw [hd]; rfl
        rw [List.getElem?_drop] at this
        exact this
      obtain ⟨x1, x2⟩ := hcd k x hx
      have hdr : a.drop (k + 1) = rest := by rw [← List.drop_drop, hd]; rfl
      have hv' := tys1_ok (m := m) hh w1 hv
      have hl' := vok_len hv'
      have next := fun J2 (hj2 : jrt J2 (ev1 hs m vs x)) hf2 => ihr (k + 1) st' (ev1 hs m vs x) J2 (by omega) hdr w3 hv' hj2 (by omega) hf2 (by rw [← he]; rfl)
      refine mj_on (s77_14 _ _ _ ?_)
      rw [hb, show (900 : Int32) = nI 900 from rfl, pk_mul, nI_add]
      refine if_le (by omega) (by omega) (fun z => absurd z (by omega)) (fun _ => ?_)
      rw [nI_clamp (by omega), x1, x2, show (4 : Int32) = nI 4 from rfl]
      refine ⟨vp_in_nI (by omega) (by decide), ?_⟩
      have hlen := vok_len hv
      rcases tys1_inv w1 with ⟨h1, h2, rfl⟩ | ⟨h1, h2, r, rfl, rfl⟩ | ⟨h1, h2, h3, r, rfl, rfl⟩
      · have ee : ev1 hs m vs x = leafv hs m x.1 x.2 :: vs := by unfold ev1; rw [if_pos h1]
        rw [ee] at next
        refine if_lt (by decide) (by omega) (fun z => absurd z (by omega)) (fun _ => ?_)
        have hn : vs.length < 950 := by
          have : st.length + 1 ≤ 950 := w2
          omega
        refine ⟨vp_in_nI (by omega) (by decide), trivial, _, _, _, r_leaf hm h56 hh (fun w hw => h79 J1 w hw) h1 hH h2, vp_in_nI hn (by decide), ?_⟩
        rw [nI_clamp (by omega), nI_1, nI_1]
        exact next _ ⟨up_s, jrt_cg hj fun k hk => by rw [up_j (by omega)]⟩ (fun q hq => by rw [up_c hq]; exact hf q hq)
      · match vs, hv, hj, hvl, next with
        | v :: vs, hv, hj, hvl, next =>
          have hvl : vs.length + 1 ≤ 950 := hvl
          have ee : ev1 hs m (v :: vs) x = (1 - v) :: vs := by unfold ev1; rw [if_neg (by omega), if_pos h1]
          rw [ee] at next
          rw [h1]
          refine if_lt (by decide) (by decide) (fun _ => ?_) (fun z => absurd z (by decide))
          rw [if_pos (show nI 16 = 16 from rfl), show (v :: vs).length = vs.length + 1 from rfl, n1_sub, nI_clamp (by omega), hj.1, show (1 : Int64) - lZ v = lZ (1 - v) from lZ_sub 1 v, nI_1]
          exact ⟨vp_in_nI (by omega) (by decide), vp_in_nI (by omega) (by decide), next _ ⟨up_s, jrt_cg hj.2 fun k hk => by rw [up_j (by omega)]⟩ (fun q hq => by rw [up_c hq]; exact hf q hq)⟩
      · match vs, hv, hj, hvl, next with
        | y :: z :: vs, hv, hj, hvl, next =>
          have hvl : vs.length + 2 ≤ 950 := hvl
          have ee : ev1 hs m (y :: z :: vs) x = twov x.1 z y :: vs := by unfold ev1; rw [if_neg (by omega), if_neg (by omega)]
          rw [ee] at next
          obtain ⟨v1, v2, -⟩ := hv
          obtain ⟨j1, j2, j3⟩ := hj
          refine if_lt (by decide) (by omega) (fun _ => ?_) (fun q => absurd q (by omega))
          rw [if_neg (show ¬ nI x.1 = 16 from fun q => by have := (nI_eq (a := x.1) (b := 16) (by omega) (by decide)).mp q; omega)]
          rw [show (y :: z :: vs).length = vs.length + 1 + 1 from rfl, n1_neg, n1_sub, nI_clamp (by omega), nI_clamp (by omega), show J1 36 (vs.length + 1) = lZ y from j1, j2, nI_1]
          exact ⟨vp_in_nI (by omega) (by decide), vp_in_nI (by omega) (by decide), trivial, _, _, _, r_two h1 h2 v2 v1, vp_in_nI (by omega) (by decide), next _ ⟨up_s, jrt_cg j3 fun k hk => by rw [up_j (by omega)]⟩ (fun q hq => by rw [up_c hq]; exact hf q hq)⟩
  have := inner a 0 [] [] J (by omega) rfl hty trivial trivial (by decide) (fun _ _ => rfl) rfl
  exact this
def ruR (I : Nat → Nat → Int32) (b W Hn Un : Nat) (A : Nat → List (Nat × Nat)) : Prop := ∀ u, u < Un → ∃ f, I 19 (12 * b + u) = nI f ∧ I 20 (12 * b + u) = nI (f + (A u).length) ∧ f + (A u).length ≤ 900 ∧ cdR I (900 * b + f) (A u) ∧ tyc 950 W Hn (A u) [] = some [true]
def sfr (I I' : Nat → Nat → Int32) : Prop := ∀ q j, q ≠ 29 → q ≠ 30 → q ≠ 31 → q ≠ 32 → (q ≠ 0 ∨ (j ≠ 48 ∧ j ≠ 56)) → I' q j = I q j
theorem sfr_tr {I I' I'' : Nat → Nat → Int32} (h : sfr I I') (h' : sfr I' I'') : sfr I I'' := fun q j q1 q2 q3 q4 q5 => by rw [h' q j q1 q2 q3 q4 q5, h q j q1 q2 q3 q4 q5]
theorem sfr_c {I I' : Nat → Nat → Int32} (h : sfr I I') (q : Nat) (h1 : 1 ≤ q) (h2 : q < 29) : I' q = I q := by
  funext j
  exact h q j (by omega) (by omega) (by omega) (by omega) (by omega)
theorem thr_cg {I' : Nat → Nat → Int32} (h : thr b W Hn I1 I) (e : sfr I I') : thr b W Hn I1 I' := by
  unfold thr at h ⊢
  rw [e 0 12 (by decide) (by decide) (by decide) (by decide) (by decide), sfr_c e 6 (by decide) (by decide), sfr_c e 18 (by decide) (by decide)]
  exact h
theorem r_sets (hB : rB I b W Rn) (ht : thr b W Hn I1 I) (hq : thq W Hn I1) (hU : I 7 b = nI Un) (hU2 : Un ≤ 12) (hA : ruR I b W Hn Un A) (hmo : ∀ w, w < W → I 9 (4 * b + w) = mo w) (h48 : I 0 48 = nI 0) : ∃ I' J', C2 (D + 5) 76 [.ref 0] I J .null I' J' ∧ (∃ R, gaL W (fun _ => True) R I' ∧ mnR W (rS mo (aA I1 Hn Un A (2 ^ Hn))) R) ∧ sfr I I' ∧ ∀ q, q ≠ 36 → J' q = J q := by
  obtain ⟨w4, n12, hb, hb2, h6, hTh⟩ := id ht
  have hp : (2 : Nat) ^ Hn ≤ 4096 := Nat.le_trans (Nat.pow_le_pow_right (by decide) n12) (by decide)
  refine mj_cN (e76 ?_)
  obtain ⟨Q, hQ⟩ : ∃ Q, Q = qN mj_R2 (fun I' J' => (∃ R, gaL W (fun _ => True) R I' ∧ mnR W (rS mo (aA I1 Hn Un A (2 ^ Hn))) R) ∧ sfr I I' ∧ ∀ q, q ≠ 36 → J' q = J q) := ⟨_, rfl⟩
  rw [← hQ]
  have lp := lp_up (n := 2 ^ Hn) (fun m => ∀ I0 J0 R, gaL W (fun _ => True) R I0 → mnR W (rS mo (aA I1 Hn Un A m)) R → sfr I I0 → (∀ q, q ≠ 36 → J0 q = J q) → E2 76 (D + 4) Q 2 [(0, .ref 0), (1, .int (nI m))] I0 J0) (fun m hm ih I0 J0 R h1 h2 h3 h4 => ?_) 0 (Nat.zero_le _) I J [] ⟨h48, fun k r hk => by simp at hk⟩ ⟨fun r hr => absurd hr List.not_mem_nil, List.Pairwise.nil, fun f ⟨v, ⟨m, q, _⟩, _⟩ => absurd q (by omega)⟩ (fun _ _ _ _ _ _ _ => rfl) (fun _ _ => rfl)
  · exact lp
  have b12 : I0 0 12 = nI b := by rw [h3 0 12 (by decide) (by decide) (by decide) (by decide) (by decide)]; exact hb
  refine mj_on (s76_2 _ ?_)
  rw [b12, nI_clamp (by omega), sfr_c h3 6 (by decide) (by decide), h6, sh_p2 Hn (by omega)]
  refine ⟨vp_in_nI hb2 (by decide), if_le (by omega) (by omega) (fun c => ?_) (fun c => ?_)⟩
  · obtain rfl : m = 2 ^ Hn := by omega
    rw [hQ]
    exact ⟨_, _, rfl, ⟨R, h1, h2⟩, h3, h4⟩
  have hm4 : m < 4096 := by omega
  have hRl : R.length < 8191 := by
    have := mnR_len (L := (List.range m).map fun m' => rho mo (fun w => hsu I1 w m' Hn)) h2 (fun f ⟨v, ⟨m', q1, _, q2⟩, q3⟩ => by rw [q3, q2]; exact List.mem_map.mpr ⟨m', List.mem_range.mpr q1, rfl⟩)
    rw [List.length_map, List.length_range] at this
    omega
  obtain ⟨Ia, hIa⟩ : ∃ Ia, Ia = mj_up I0 0 56 (nI m) := ⟨_, rfl⟩
  rw [← hIa]
  have fa : sfr I Ia := sfr_tr h3 fun q j q1 q2 q3 q4 q5 => by rw [hIa, up_n (by omega)]
  have a56 : Ia 0 56 = nI m := by rw [hIa, up_s]
  have ga : gaL W (fun _ => True) R Ia := gaL_cg h1 (by rw [hIa, up_j (by decide)]) (by rw [hIa, up_c (by decide)]) (by rw [hIa, up_c (by decide)])
  have ta := thr_cg ht fa
  obtain ⟨ok, hok⟩ : ∃ ok : Nat → Prop, ok = fun u => ev (hsf I1 Hn m) m (A u) [] = [1] := ⟨_, rfl⟩
  have hh : ∀ w, w < W → hsf I1 Hn m w ≤ 200000 := fun w hw => by have := hsu_le (m := m) hq hw Hn (Nat.le_refl _); show hsu I1 w m Hn ≤ 200000; omega
  have ab12 : Ia 0 12 = nI b := ta.2.2.1
  -- not all tests hold
  have end0 : ∀ J1, (∀ q, q ≠ 36 → J1 q = J q) → (∃ u, u < Un ∧ ¬ ok u) → E2 76 (D + 4) Q 92 [(0, .ref 0), (1, .int (nI m)), (2, .int 0)] Ia J1 := fun J1 k1 k2 => by
    refine mj_on (s76_92 _ _ ?_)
    rw [if_pos rfl, nI_1]
    refine ih c Ia J1 R ga (mnR_cg h2 fun f => ?_) fa k1
    obtain ⟨u, hu, hno⟩ := k2
    rw [hok] at hno
    constructor
    · rintro ⟨v, ⟨m', q1, q2⟩, q3⟩
      exact ⟨v, ⟨m', by omega, q2⟩, q3⟩
    · rintro ⟨v, ⟨m', q1, q2, q4⟩, q3⟩
      by_cases e : m' = m
      · subst e; exact absurd (q2 u hu) hno
      · exact ⟨v, ⟨m', by omega, q2, q4⟩, q3⟩
  -- all hold
  have end1 : ∀ J1, (∀ q, q ≠ 36 → J1 q = J q) → (∀ u, u < Un → ok u) → E2 76 (D + 4) Q 92 [(0, .ref 0), (1, .int (nI m)), (2, .int 1)] Ia J1 := fun J1 k1 k2 => by
    refine mj_on (s76_92 _ _ ?_)
    rw [if_neg (by decide)]
    obtain ⟨v, hv⟩ : ∃ v : Nat → Nat, v = fun w => hsu I1 w m Hn := ⟨_, rfl⟩
    have lp3 := lp_up (n := W) (fun w => ∀ I3, (∀ q, q ≠ 32 → I3 q = Ia q) → (∀ u, u < w → I3 32 u = rho mo v u) → E2 76 (D + 4) Q 101 [(0, .ref 0), (1, .int (nI m)), (3, .int (nI w))] I3 J1) (fun w hw ih3 I3 g1 g2 => ?_) 0 (by omega) Ia (fun _ _ => rfl) (fun u hu => by omega)
    · exact lp3
    have f3 : sfr I I3 := sfr_tr fa fun q j q1 q2 q3 q4 q5 => by rw [g1 q q4]
    have hB3 : rB I3 b W Rn := by
      unfold rB at hB ⊢
      rw [f3 0 12 (by decide) (by decide) (by decide) (by decide) (by decide), sfr_c f3 2 (by decide) (by decide), sfr_c f3 3 (by decide) (by decide)]
      exact hB
    refine mj_on (s76_101 _ _ ?_)
    rw [g1 0 (by decide), ab12, nI_clamp (by omega), hB3.2.2.1]
    refine ⟨vp_in_nI hb2 (by decide), if_le (by omega) (by omega) (fun d => ?_) (fun d => ?_)⟩
    · obtain rfl : w = W := by omega
      obtain ⟨I4, J4, c4, rfl, o1, o2⟩ := r_gathers (D := D + 2) (J := J1) (v := rho mo v) (x := m) (Wb := fun _ => True) hB3 (gaL_cg ga (by rw [g1 0 (by decide)]) (g1 29 (by decide)) (g1 30 (by decide))) g2 hRl trivial
      rw [nI_1]
      refine ⟨trivial, _, _, c4, ih c I4 J4 _ o1 (mnR_cg (mnR_gth h2) fun f => ?_) (sfr_tr f3 fun q j q1 q2 q3 q4 q5 => o2 q j q1 q2 q3 (by omega)) k1⟩
      constructor
      · rintro (⟨v', ⟨m', q1, q2⟩, q3⟩ | rfl)
        · exact ⟨v', ⟨m', by omega, q2⟩, q3⟩
        · exact ⟨v, ⟨m, by omega, fun u hu => by have := k2 u hu; rw [hok] at this; exact this, hv⟩, rfl⟩
      · rintro ⟨v', ⟨m', q1, q2, q4⟩, q3⟩
        by_cases e : m' = m
        · subst e
          right
          rw [q3, q4, hv]
        · exact Or.inl ⟨v', ⟨m', by omega, q2, q4⟩, q3⟩
    · refine ⟨trivial, _, _, _, r_setHas (D := D + 3) (thr_cg ht f3) (by rw [g1 0 (by decide)]; exact a56) hm4 d, trivial, _, _, _, r_lossOf hB3 d, vp_in_nI (by omega) (by decide), ?_⟩
      rw [nI_clamp (by omega), nI_1, sfr_c f3 9 (by decide) (by decide), hmo w d]
      refine ih3 d _ (fun q hq => by rw [up_c hq]; exact g1 q hq) (fun u hu => ?_)
      by_cases z : u = w
      · subst z
        rw [up_s, hv]
        rfl
      · rw [up_j z]; exact g2 u (by omega)
  have lp2 := lp_up (n := Un) (fun u => ∀ J1 (fl : Int32), (∀ q, q ≠ 36 → J1 q = J q) → ((fl = 1 ∧ ∀ v, v < u → ok v) ∨ (fl = 0 ∧ ∃ v, v < Un ∧ ¬ ok v)) → E2 76 (D + 4) Q 26 [(0, .ref 0), (1, .int (nI m)), (2, .int fl), (3, .int (nI u))] Ia J1) (fun u hu ih2 J1 fl k1 k2 => ?_) 0 (by omega) J0 1 h4 (Or.inl ⟨rfl, fun v hv => by omega⟩)
  · exact lp2
  refine mj_on (s76_26 _ _ _ ?_)
  rw [ab12, nI_clamp (by omega), sfr_c fa 7 (by decide) (by decide), hU]
  refine ⟨vp_in_nI hb2 (by decide), if_le (by omega) (by omega) (fun d => ?_) (fun d => ?_)⟩
  · obtain rfl : u = Un := by omega
    rcases k2 with ⟨rfl, k2⟩ | ⟨rfl, k2⟩
    · exact end1 J1 k1 k2
    · exact end0 J1 k1 k2
  rcases k2 with ⟨rfl, k2⟩ | ⟨rfl, k2⟩
  · obtain ⟨f, z1, z2, z3, z4, z5⟩ := hA u d
    rw [if_neg (by decide), show (12 : Int32) = nI 12 from rfl, pk_mul, nI_add, nI_clamp (by omega), sfr_c fa 19 (by decide) (by decide), sfr_c fa 20 (by decide) (by decide), z1, z2, nI_1]
    obtain ⟨r, Ib, Jb, cb, ⟨v, v1, v2, rfl⟩, rfl, fb⟩ := r_works (D := D + 1) (J := J1) (I := Ia) (a := A u) (f := f) (W := W) (Hn := Hn) (hs := hsf I1 Hn m) ab12 hb2 hm4 a56 n12 hh (fun J' w hw => r_setHas (D := D + 1) (J := J') ta a56 hm4 hw) z3 (by unfold cdR at z4 ⊢; rw [sfr_c fa 21 (by decide) (by decide), sfr_c fa 22 (by decide) (by decide)]; exact z4) z5
    refine ⟨vp_in_nI (by omega) (by decide), vp_in_nI (by omega) (by decide), trivial, _, _, _, cb, ?_⟩
    have k1b : ∀ q, q ≠ 36 → Jb q = J q := fun q hq => by rw [fb q hq, k1 q hq]
    rcases v2 with rfl | rfl
    · rw [if_neg (fun z => absurd (cmp0.mp z) (by decide))]
      refine ih2 d Jb 0 k1b (Or.inr ⟨rfl, u, d, ?_⟩)
      rw [hok]
      intro z
      have z : ev (hsf I1 Hn m) m (A u) [] = [1] := z
      rw [v1] at z
      exact absurd z (by decide)
    · rw [if_pos (cmp0.mpr (show lZ 1 = 1 from rfl))]
      refine ih2 d Jb 1 k1b (Or.inl ⟨rfl, fun v hv => ?_⟩)
      by_cases e : v = u
      · subst e; rw [hok]; exact v1
      · exact k2 v (by omega)
  · rw [if_pos rfl]
    exact end0 J1 k1 k2
end S98b
