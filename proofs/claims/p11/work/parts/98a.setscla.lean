/-! the class gathers all sets that the tests allow -/
theorem sh14 {x : Nat} (h : x < 2 ^ 31) : nI x >>> ((14 : Int32) &&& 31) = nI (x / 16384) := by
  apply Int32.toInt_inj.mp
  have e : (nI x >>> ((14 : Int32) &&& 31)).toInt = (nI x).toInt >>> 14 := by
    have hD : (((14 : Int32) &&& 31).toBitVec.smod 32).toNat = 14 := by decide
    rw [← hD]
    exact BitVec.toInt_sshiftRight ..
  rw [e, Int.shiftRight_eq_div_pow, nI_toInt h, nI_toInt (Nat.lt_of_le_of_lt (Nat.div_le_self _ _) h)]
  rfl
theorem sh_lo {x : Nat} : nI x &&& (16383 : Int32) = nI (x % 16384) := by
  rw [show (16383 : Int32) = nI 16383 from rfl, nx_and, show (16383 : Nat) = 2 ^ 14 - 1 from rfl, Nat.and_two_pow_sub_one_eq_mod]
theorem sh_p2 : ∀ k, k < 13 → ((1 : Int32) <<< (nI k &&& 31)) = nI (2 ^ k) := by decide +kernel
theorem n_long (m : Nat) (hm : m < 4096) : (nI m).toInt64 = lN m := iI_lZ (z := (m : Nat)) (by omega) (by omega)
theorem opc_le : ∀ op, op ≤ 16 → opc op < 64 := by decide
theorem opc_inj : ∀ a, a ≤ 16 → ∀ c, c ≤ 16 → opc a = opc c → a = c := by decide
section S98
variable {D W Hn Un m : Nat} {A : Nat → List (Nat × Nat)} {hs : Nat → Nat} {I : Nat → Nat → Int32} {J : Nat → Nat → Int64}
theorem tys1_rng {H : Nat} {c : Nat × Nat} {st st' : List Bool} (hW : W ≤ 4) (hH : H ≤ 12) (h : tys1 W H c st = some st') : c.1 ≤ 16 ∧ c.2 ≤ 9999 := by
  rcases tys1_inv h with ⟨h1, ⟨q1, q2, q3, q4⟩, -⟩ | ⟨h1, h2, -⟩ | ⟨h1, h2, h3, -⟩
  · refine ⟨by omega, ?_⟩
    rcases (by omega : c.1 = 0 ∨ c.1 = 1 ∨ c.1 = 2 ∨ c.1 = 3 ∨ c.1 = 4) with e | e | e | e | e
    · exact q1 e
    · have := q4 (Or.inl e); omega
    · have := q2 e; omega
    · have := q4 (Or.inr e); omega
    · have := q3 e; omega
  · omega
  · omega
theorem tyc_rng {M H : Nat} (hW : W ≤ 4) (hH : H ≤ 12) : ∀ {a : List (Nat × Nat)} {st s2 : List Bool}, tyc M W H a st = some s2 → ∀ c, c ∈ a → c.1 ≤ 16 ∧ c.2 ≤ 9999
  | [], _, _, _, c, hc => absurd hc List.not_mem_nil
  | d :: r, st, s2, h, c, hc => by
    obtain ⟨st', h1, h2, h3⟩ := tyc_cons h
    rcases List.mem_cons.mp hc with rfl | hc
    · exact tys1_rng hW hH h1
    · exact tyc_rng hW hH h3 c hc
/-- the steps of a rule can be read off but in one way -/
theorem cd_uniq {M H c p : Nat} {a a' : List (Nat × Nat)} (hW : W ≤ 4) (hH : H ≤ 12) (hl : a.length = a'.length) (h : cdC I c p a) (h' : cdC I c p a') {s s' : List Bool} (t : tyc M W H a [] = some s) (t' : tyc M W H a' [] = some s') : a = a' := by
  apply List.ext_getElem? 
  intro k
  by_cases hk : k < a.length
  · have e1 : a[k]? = some a[k] := List.getElem?_eq_getElem hk
    have e2 : a'[k]? = some (a'[k]'(by omega)) := List.getElem?_eq_getElem (by omega)
    have r1 := tyc_rng hW hH t _ (List.getElem_mem hk)
    have r2 := tyc_rng hW hH t' _ (List.getElem_mem (show k < a'.length by omega))
    have q := (h k _ e1).symm.trans (h' k _ e2)
    have o1 := opc_le _ r1.1
    have o2 := opc_le _ r2.1
    have q := (nI_eq (by omega) (by omega)).mp q
    have q1 : opc a[k].1 = opc (a'[k]'(by omega)).1 := by omega
    have q2 : a[k].2 = (a'[k]'(by omega)).2 := by omega
    rw [e1, e2, Prod.ext (opc_inj _ r1.1 _ r2.1 q1) q2]
  · rw [List.getElem?_eq_none (by omega), List.getElem?_eq_none (by omega)]
/-- the rules of the class' Tale, as rows of steps -/
def ruA (I : Nat → Nat → Int32) (W Hn Un : Nat) (A : Nat → List (Nat × Nat)) : Prop := ∀ u, u < Un → tyc 64 W Hn (A u) [] = some [true] ∧ I 10 u = nI (rb I 10 u + (A u).length) ∧ rb I 10 u + (A u).length ≤ 900 ∧ cdC I 9 (rb I 10 u) (A u)
theorem ruA_ruT (hW : W ≤ 4) (hH : Hn ≤ 12) (h : ruA I W Hn Un A) {u : Nat} (hu : u < Un) : ruT I W Hn u m ↔ ev (hsf I Hn m) m (A u) [] = [1] := by
  obtain ⟨h1, h2, h3, h4⟩ := h u hu
  constructor
  · rintro ⟨a, a1, a2, a3, a4, a5⟩
    have hl : a.length = (A u).length := by
      have := (nI_eq (by omega) (by omega)).mp (a1.symm.trans h2)
      omega
    rw [cd_uniq hW hH hl a3 h4 a4 h1] at a5
    exact a5
  · exact fun e => ⟨A u, h2, h3, h4, h1, e⟩
theorem c_allows (hW : W ≤ 4) (hH : Hn ≤ 12) (hm : m < 4096) (hU : I 2 5 = nI Un) (hU2 : Un ≤ 12) (hA : ruA I W Hn Un A) (hh : ∀ w, w < W → hs w ≤ 200000 ∧ I 36 w = nI (hs w)) : ∃ r I' J', C1 (D + 6) 223 [.ref 34, .ref 1, .int (nI m), .ref 36] I J (.int r) I' J' ∧ r = tf (∀ u, u < Un → ev hs m (A u) [] = [1]) ∧ J' = J ∧ jfr I I' := by
  refine mj_cI (e223 _ ?_)
  obtain ⟨Q, hQ⟩ : ∃ Q, Q = qI mj_R1 (fun r I' J' => r = tf (∀ u, u < Un → ev hs m (A u) [] = [1]) ∧ J' = J ∧ jfr I I') := ⟨_, rfl⟩
  rw [← hQ]
  have lp := lp_up (n := Un) (fun u => ∀ I0, jfr I I0 → (∀ v, v < u → ev hs m (A v) [] = [1]) → E1 223 (D + 5) Q 6 [(0, .ref 34), (1, .ref 1), (2, .int (nI m)), (3, .ref 36), (4, .int (nI (rb I 10 u))), (5, .int (nI u))] I0 J) (fun u hu ih I0 h1 h2 => ?_) 0 (by omega) I (fun _ _ _ => rfl) (fun v hv => by omega)
  · exact lp
  refine mj_on (s223_6 _ _ _ ?_)
  rw [show ((5 : Int32)).toNatClampNeg = 5 from rfl, h1 2 (by decide) (by decide), hU]
  refine ⟨vp_in_nI (n := 5) (by decide) (by decide), if_le (by omega) (by omega) (fun c => ?_) (fun c => ?_)⟩
  · obtain rfl : u = Un := by omega
    rw [hQ]
    exact ⟨Or.inr rfl, _, _, _, rfl, (tf_t h2).symm, rfl, h1⟩
  obtain ⟨t1, t2, t3, t4⟩ := hA u c
  have inner : ∀ (rest : List (Nat × Nat)) (k : Nat) (st : List Bool) (vs : List Int) (I1 : Nat → Nat → Int32), k + rest.length = (A u).length → (A u).drop k = rest → tyc 64 W Hn rest st = some [true] → vok st vs → jS vs I1 → jfr I I1 → ev hs m rest vs = ev hs m (A u) [] → E1 223 (D + 5) Q 22 [(0, .ref 34), (1, .ref 1), (2, .int (nI m)), (3, .ref 36), (4, .int (nI (rb I 10 u + k))), (5, .int (nI u))] I1 J := by
    intro rest
    induction rest with
    | nil =>
      intro k st vs I1 hk hd ht hv hj hf he
      have hk : k = (A u).length := by simpa using hk
      unfold tyc at ht
      cases ht
      obtain ⟨v, rfl, hv2⟩ := vok_one hv
      refine mj_on (s223_22 _ _ _ ?_)
      rw [nI_clamp (by omega), hf 10 (by decide) (by decide), t2]
      refine ⟨vp_in_nI (by omega) (by decide), if_le (by omega) (by omega) (fun _ => ?_) (fun z => absurd z (by omega))⟩
      obtain ⟨r1, Ia, Ja, ca, rfl, rfl, g1, g2⟩ := c_jpop (D := D + 4) (J := J) hj
      refine ⟨trivial, _, _, _, ca, ?_⟩
      have he : [v] = ev hs m (A u) [] := he
      rcases hv2 with rfl | rfl
      · rw [if_pos (show iI 0 = 0 from rfl), hQ]
        refine ⟨Or.inl rfl, _, _, _, rfl, (tf_f (fun q => ?_)).symm, rfl, jfr_tr hf g2⟩
        have := q u c
        rw [← he] at this
        exact absurd this (by decide)
      · rw [if_neg (show ¬ iI 1 = 0 by decide), nI_1]
        have e : rb I 10 (u + 1) = rb I 10 u + k := by
          show (I 10 u).toNatClampNeg = _
          rw [t2, nI_clamp (by omega), hk]
        have := ih c Ia (jfr_tr hf g2) (fun v hv => ?_)
        · rw [e] at this
          exact this
        · by_cases z : v = u
          · subst z; exact he.symm
          · exact h2 v (by omega)
    | cons x rest ihr =>
      intro k st vs I1 hk hd ht hv hj hf he
      have hk2 : k + (rest.length + 1) = (A u).length := hk
      obtain ⟨st', w1, w2, w3⟩ := tyc_cons ht
      have hx : (A u)[k]? = some x := by
        have : ((A u).drop k)[0]? = some x := by rw [hd]; rfl
        rw [List.getElem?_drop] at this
        exact this
      have hr := tys1_rng hW hH w1
      have ho := opc_le _ hr.1
      refine mj_on (s223_22 _ _ _ ?_)
      rw [nI_clamp (by omega), hf 10 (by decide) (by decide), t2]
      refine ⟨vp_in_nI (by omega) (by decide), if_le (by omega) (by omega) (fun z => absurd z (by omega)) (fun _ => ?_)⟩
      rw [nI_clamp (by omega), hf 9 (by decide) (by decide), t4 k x hx, sh14 (by omega), sh_lo, show (opc x.1 * 16384 + x.2) / 16384 = opc x.1 by omega, show (opc x.1 * 16384 + x.2) % 16384 = x.2 by omega, nI_1]
      refine ⟨vp_in_nI (by omega) (by decide), vp_in_nI (by omega) (by decide), ?_⟩
      obtain ⟨Ia, Ja, ca, rfl, g1, g2⟩ := c_work (D := D) (J := J) (hs := hs) hW hH hm (fun w hw => ⟨(hh w hw).1, by rw [hf 36 (by decide) (by decide)]; exact (hh w hw).2⟩) w1 hv hj w2
      refine ⟨trivial, _, _, ca, ?_⟩
      exact ihr (k + 1) st' _ Ia (by omega) (by rw [← List.drop_drop, hd]; rfl) w3 (tys1_ok (fun w hw => (hh w hw).1) w1 hv) g1 (jfr_tr hf g2) (by rw [← he]; rfl)
  have := inner (A u) 0 [] [] (mj_up I0 34 1 0) (by omega) rfl t1 trivial ⟨up_s, by decide, trivial⟩ (jfr_tr h1 fun q q1 q2 => up_c q1) rfl
  exact this
/-- the things of the class' Tale -/
def thq (W Hn : Nat) (I : Nat → Nat → Int32) : Prop := W ≤ 4 ∧ Hn ≤ 12 ∧ I 2 0 = nI W ∧ I 2 4 = nI Hn ∧ ∀ k, k < Hn → ∀ w, w < W → ∃ x, x ≤ 9999 ∧ I 5 (640 + 4 * k + w) = nI x
theorem hsu_le (h : thq W Hn I) {w : Nat} (hw : w < W) : ∀ n, n ≤ Hn → hsu I w m n ≤ 9999 * n
  | 0, _ => by simp [hsu]
  | n + 1, hn => by
    have ih := hsu_le h hw n (by omega)
    obtain ⟨x, hx, e⟩ := h.2.2.2.2 n (by omega) w hw
    rw [hsu_s, e, nI_clamp (by omega)]
    rcases tbit_01 m n with q | q <;> rw [q] <;> omega
theorem c_addUp (h : thq W Hn I) (hm : m < 4096) : ∃ I' J', C1 (D + 2) 222 [.ref 33, .ref 1, .int (nI m)] I J .null I' J' ∧ J' = J ∧ (∀ w, w < W → I' 36 w = nI (hsu I w m Hn)) ∧ ∀ q, q ≠ 36 → I' q = I q := by
  obtain ⟨w4, n12, aW, aH, aA⟩ := id h
  refine mj_cN (e222 _ ?_)
  obtain ⟨Q, hQ⟩ : ∃ Q, Q = qN mj_R1 (fun I' J' => J' = J ∧ (∀ w, w < W → I' 36 w = nI (hsu I w m Hn)) ∧ ∀ q, q ≠ 36 → I' q = I q) := ⟨_, rfl⟩
  rw [← hQ]
  have lp := lp_up (n := W) (fun w => ∀ I0, (∀ q, q ≠ 36 → I0 q = I q) → (∀ u, u < w → I0 36 u = nI (hsu I u m Hn)) → E1 222 (D + 1) Q 2 [(0, .ref 33), (1, .ref 1), (2, .int (nI m)), (3, .int (nI w))] I0 J) (fun w hw ih I0 h1 h2 => ?_) 0 (by omega) I (fun _ _ => rfl) (fun u hu => by omega)
  · exact lp
  refine mj_on (s222_2 _ _ ?_)
  rw [show ((0 : Int32)).toNatClampNeg = 0 from rfl, h1 2 (by decide), aW]
  refine ⟨vp_in_nI (n := 0) (by decide) (by decide), if_le (by omega) (by omega) (fun c => ?_) (fun c => ?_)⟩
  · obtain rfl : w = W := by omega
    rw [hQ]
    exact ⟨_, _, rfl, rfl, h2, h1⟩
  rw [nI_clamp (by omega)]
  refine ⟨vp_in_nI (by omega) (by decide), ?_⟩
  have lp2 := lp_up (n := Hn) (fun k => ∀ I1, (∀ q, q ≠ 36 → I1 q = I q) → (∀ u, u < w → I1 36 u = nI (hsu I u m Hn)) → I1 36 w = nI (hsu I w m k) → E1 222 (D + 1) Q 22 [(0, .ref 33), (1, .ref 1), (2, .int (nI m)), (3, .int (nI w)), (4, .int (nI k))] I1 J) (fun k hk ih2 I1 k1 k2 k3 => ?_) 0 (by omega) (mj_up I0 36 w 0) (fun q hq => by rw [up_c hq]; exact h1 q hq) (fun u hu => by rw [up_j (by omega)]; exact h2 u hu) (by rw [up_s]; rfl)
  · exact lp2
  refine mj_on (s222_22 _ _ _ ?_)
  rw [show ((4 : Int32)).toNatClampNeg = 4 from rfl, k1 2 (by decide), aH]
  refine ⟨vp_in_nI (n := 4) (by decide) (by decide), if_le (by omega) (by omega) (fun d => ?_) (fun d => ?_)⟩
  · obtain rfl : k = Hn := by omega
    rw [nI_1]
    refine ih c I1 k1 (fun u hu => ?_)
    by_cases e : u = w
    · subst e; exact k3
    · exact k2 u (by omega)
  obtain ⟨x, hx, ex⟩ := aA k d w c
  have hle := hsu_le (m := m) h c k (by omega)
  rw [hb_bit k (by omega) m hm, nI_1]
  refine if_i (fun e => ?_) (fun e => ?_)
  · have e0 : tbit m k = 0 := by
      rcases tbit_01 m k with q | q
      · exact q
      · rw [q] at e; exact absurd e (by decide)
    refine ih2 d I1 k1 k2 ?_
    rw [hsu_s, e0, Nat.zero_mul, Nat.add_zero]
    exact k3
  · have e1 : tbit m k = 1 := by
      rcases tbit_01 m k with q | q
      · rw [q] at e; exact absurd rfl e
      · exact q
    rw [nI_clamp (by omega)]
    refine ⟨vp_in_nI (by omega) (by decide), trivial, _, _, _, c_slot (k := 4), vp_in_nI (by omega) (by decide), vp_in_nI (by omega) (by decide), ?_⟩
    rw [nI_clamp (by omega), show 160 * 4 + 4 * k + w = 640 + 4 * k + w by omega, k3, k1 5 (by decide), ex, nI_add]
    refine ih2 d _ (fun q hq => by rw [up_c hq]; exact k1 q hq) (fun u hu => by rw [up_j (by omega)]; exact k2 u hu) ?_
    rw [up_s, hsu_s, e1, ex, nI_clamp (by omega), Nat.one_mul]
/-- what the first sets have that the tests allow -/
def aA (I : Nat → Nat → Int32) (Hn Un : Nat) (A : Nat → List (Nat × Nat)) (n : Nat) (v : Nat → Nat) : Prop := ∃ m, m < n ∧ (∀ u, u < Un → ev (hsf I Hn m) m (A u) [] = [1]) ∧ v = fun w => hsu I w m Hn
theorem hsu_cg {I' : Nat → Nat → Int32} (e : I' 5 = I 5) : hsu I' = hsu I := by
  funext w m n
  unfold hsu
  rw [e]
theorem c_gatherSets (h : thq W Hn I) (hU : I 2 5 = nI Un) (hU2 : Un ≤ 12) (hA : ruA I W Hn Un A) : ∃ I' J', C1 (D + 8) 221 [.ref 33, .ref 1, .ref 29] I J .null I' J' ∧ (∃ L, plL W L I' J' ∧ ∀ v, v ∈ L ↔ aA I Hn Un A (2 ^ Hn) v) ∧ (∀ q, q ≠ 29 → q ≠ 30 → q ≠ 32 → q ≠ 34 → q ≠ 35 → q ≠ 36 → q ≠ 37 → I' q = I q) ∧ ∀ q, q ≠ 31 → J' q = J q := by
  obtain ⟨w4, n12, aW, aH, aAm⟩ := id h
  have hp : (2 : Nat) ^ Hn ≤ 4096 := Nat.le_trans (Nat.pow_le_pow_right (by decide) n12) (by decide)
  refine mj_cN (e221 ?_)
  rw [show ((0 : Int32)).toNatClampNeg = 0 from rfl, aW]
  refine ⟨vp_in_nI (n := 0) (by decide) (by decide), trivial, _, _, mj_mk (e208 _ rfl), ?_⟩
  obtain ⟨Q, hQ⟩ : ∃ Q, Q = qN mj_R1 (fun I' J' => (∃ L, plL W L I' J' ∧ ∀ v, v ∈ L ↔ aA I Hn Un A (2 ^ Hn) v) ∧ (∀ q, q ≠ 29 → q ≠ 30 → q ≠ 32 → q ≠ 34 → q ≠ 35 → q ≠ 36 → q ≠ 37 → I' q = I q) ∧ ∀ q, q ≠ 31 → J' q = J q) := ⟨_, rfl⟩
  rw [← hQ]
  have lp := lp_up (n := 2 ^ Hn) (fun m => ∀ I0 J0 L, plL W L I0 J0 → L.length ≤ m → (∀ v, v ∈ L ↔ aA I Hn Un A m v) → (∀ q, q ≠ 29 → q ≠ 30 → q ≠ 32 → q ≠ 34 → q ≠ 35 → q ≠ 36 → q ≠ 37 → I0 q = I q) → (∀ q, q ≠ 31 → J0 q = J q) → E1 221 (D + 7) Q 12 [(0, .ref 33), (1, .ref 1), (2, .ref 29), (3, .int (nI m))] I0 J0) (fun m hm ih I0 J0 L h1 h2 h3 h4 h5 => ?_) 0 (Nat.zero_le _) (mj_up (mj_up I 29 3 0) 29 4 (nI W)) J [] ⟨by rw [up_j (by decide), up_s]; rfl, up_s, by decide, fun x v hx => by simp at hx⟩ (Nat.le_refl 0) (fun v => ⟨fun q => absurd q List.not_mem_nil, fun ⟨m, q, _⟩ => absurd q (by omega)⟩) (fun q q1 _ _ _ _ _ _ => by rw [up_c q1, up_c q1]) (fun _ _ => rfl)
  · exact lp
  refine mj_on (s221_12 _ ?_)
  rw [show ((4 : Int32)).toNatClampNeg = 4 from rfl, h4 2 (by decide) (by decide) (by decide) (by decide) (by decide) (by decide) (by decide), aH, sh_p2 Hn (by omega)]
  refine ⟨vp_in_nI (n := 4) (by decide) (by decide), if_le (by omega) (by omega) (fun c => ?_) (fun c => ?_)⟩
  · obtain rfl : m = 2 ^ Hn := by omega
    rw [hQ]
    exact ⟨_, _, rfl, ⟨L, h1, h3⟩, h4, h5⟩
  have hm4 : m < 4096 := by omega
  have t0 : thq W Hn I0 := by
    unfold thq at h ⊢
    rw [h4 2 (by decide) (by decide) (by decide) (by decide) (by decide) (by decide) (by decide), h4 5 (by decide) (by decide) (by decide) (by decide) (by decide) (by decide) (by decide)]
    exact h
  have hsu0 : hsu I0 = hsu I := hsu_cg (h4 5 (by decide) (by decide) (by decide) (by decide) (by decide) (by decide) (by decide))
  obtain ⟨Ia, Ja, ca, rfl, a1, a2⟩ := c_addUp (D := D + 5) (J := J0) t0 hm4
  rw [hsu0] at a1
  have fa : ∀ q, q ≠ 29 → q ≠ 30 → q ≠ 32 → q ≠ 34 → q ≠ 35 → q ≠ 36 → q ≠ 37 → Ia q = I q := fun q q1 q2 q3 q4 q5 q6 q7 => by rw [a2 q q6, h4 q q1 q2 q3 q4 q5 q6 q7]
  have ra : ruA Ia W Hn Un A := by
    have e10 := fa 10 (by decide) (by decide) (by decide) (by decide) (by decide) (by decide) (by decide)
    have e9 := fa 9 (by decide) (by decide) (by decide) (by decide) (by decide) (by decide) (by decide)
    have er : ∀ u, rb Ia 10 u = rb I 10 u := fun u => by
      cases u with
      | zero => rfl
      | succ u => show (Ia 10 u).toNatClampNeg = (I 10 u).toNatClampNeg; rw [e10]
    intro u hu
    obtain ⟨z1, z2, z3, z4⟩ := hA u hu
    refine ⟨z1, by rw [e10, er]; exact z2, by rw [er]; exact z3, ?_⟩
    unfold cdC at z4 ⊢
    rw [e9, er]
    exact z4
  obtain ⟨r, Ib, Jb, cb, hr, rfl, fb⟩ := c_allows (D := D + 1) (J := Ja) (A := A) (m := m) (hs := hsf I Hn m) w4 n12 hm4 (by rw [fa 2 (by decide) (by decide) (by decide) (by decide) (by decide) (by decide) (by decide)]; exact hU) hU2 ra (fun w hw => ⟨by have := hsu_le (m := m) h hw Hn (Nat.le_refl _); show hsu I w m Hn ≤ 200000; omega, a1 w hw⟩)
  refine ⟨trivial, _, _, ca, trivial, _, _, _, cb, ?_⟩
  rw [hr, nI_1]
  have fbq : ∀ q, q ≠ 29 → q ≠ 30 → q ≠ 32 → q ≠ 34 → q ≠ 35 → q ≠ 36 → q ≠ 37 → Ib q = I q := fun q q1 q2 q3 q4 q5 q6 q7 => by rw [fb q q4 q5, fa q q1 q2 q3 q4 q5 q6 q7]
  have plb : plL W L Ib Jb := plL_cg h1 (by rw [fb 29 (by decide) (by decide), a2 29 (by decide)]) (by rw [fb 30 (by decide) (by decide), a2 30 (by decide)]) (by rw [fb 32 (by decide) (by decide), a2 32 (by decide)]) (by rw [fb 4 (by decide) (by decide), a2 4 (by decide)]) rfl
  refine if_tf (fun ok => ?_) (fun no => ?_)
  · obtain ⟨Ic, Jc, cc, rfl, p1, p2⟩ := c_putLosses (D := D + 5) (I := Ib) (J := Jb) (a := 0) (W := W) (by rw [fbq 2 (by decide) (by decide) (by decide) (by decide) (by decide) (by decide) (by decide)]; exact aW) w4 (by omega)
    have plc : plL W L Ic Jc := plL_cg plb (p2 29 (by decide)) (p2 30 (by decide)) (p2 32 (by decide)) (p2 4 (by decide)) rfl
    have hl : L.length < 6561 := by omega
    rw [n_long m hm4]
    refine ⟨trivial, _, _, cc, trivial, _, _, c_padd plc.1 hl, ?_⟩
    refine ih c _ _ (L ++ [fun w => hsu I w m Hn]) (plL_add plc w4 hl (fun w hw => ?_) ⟨m, by omega, rfl⟩) (by rw [List.length_append]; simp; omega) (fun v => ?_) (fun q q1 q2 q3 q4 q5 q6 q7 => by rw [paI_f q1 q2 q3, p2 q q7, fbq q q1 q2 q3 q4 q5 q6 q7]) (fun q hq => by rw [up_c hq]; exact h5 q hq)
    · rw [p1 w hw, p2 4 (by decide), fb 36 (by decide) (by decide), show 0 + w = w by omega, a1 w hw]
    · rw [List.mem_append, List.mem_singleton, h3]
      constructor
      · rintro (⟨m', q1, q2, q3⟩ | rfl)
        · exact ⟨m', by omega, q2, q3⟩
        · exact ⟨m, by omega, ok, rfl⟩
      · rintro ⟨m', q1, q2, q3⟩
        by_cases e : m' = m
        · subst e; exact Or.inr q3
        · exact Or.inl ⟨m', by omega, q2, q3⟩
  · refine ih c Ib Jb L plb (by omega) (fun v => ?_) fbq h5
    rw [h3]
    constructor
    · rintro ⟨m', q1, q2, q3⟩
      exact ⟨m', by omega, q2, q3⟩
    · rintro ⟨m', q1, q2, q3⟩
      by_cases e : m' = m
      · subst e; exact absurd q2 no
      · exact ⟨m', by omega, q2, q3⟩
end S98
