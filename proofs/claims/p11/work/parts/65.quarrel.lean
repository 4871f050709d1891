/-! quarrel -/
theorem nar_1 : vp_nar .boolean 1 = 1 := by decide +kernel
theorem nar_0 : vp_nar .boolean 0 = 0 := by decide +kernel
theorem i64_small (m : Nat) (h : m < 4096) : (nI m).toInt64 = lN m := by
  have : ∀ a, a < 64 → ∀ c, c < 64 → (nI (64 * a + c)).toInt64 = lN (64 * a + c) := by decide +kernel
  have e := this (m / 64) (by omega) (m % 64) (by omega)
  rwa [Nat.div_add_mod] at e
theorem pw12 {S : Nat} (h : S ≤ 12) : 1 ≤ 2 ^ S ∧ 2 ^ S ≤ 4096 := ⟨Nat.two_pow_pos S, Nat.pow_le_pow_right (by decide) h⟩
def ahd (x y : Nat) : Prop := nI (pcn 32 x) - nI (pcn 32 y) < 0 ∨ (nI (pcn 32 x) - nI (pcn 32 y) = 0 ∧ ¬ ((nI x &&& (nI x ^^^ nI y)) &&& (-(nI x ^^^ nI y))) = 0)
noncomputable def qr1 (P : Nat → Prop) (i f : Nat) : Nat := @ite _ (¬ P i ∧ (f = 0 ∨ ahd i f)) (Classical.propDecidable _) i f
theorem qr1_t {P : Nat → Prop} {i f : Nat} (h : ¬ P i ∧ (f = 0 ∨ ahd i f)) : qr1 P i f = i := @if_pos _ (Classical.propDecidable _) h _ _ _
theorem qr1_f {P : Nat → Prop} {i f : Nat} (h : ¬ (¬ P i ∧ (f = 0 ∨ ahd i f))) : qr1 P i f = f := @if_neg _ (Classical.propDecidable _) h _ _ _
noncomputable def qr (P : Nat → Prop) : Nat → Nat → Nat → Nat
  | 0, _, f => f
  | k + 1, i, f => qr P k (i + 1) (qr1 P i f)
theorem qr_s {P : Nat → Prop} {n i f : Nat} (h : i < n) : qr P (n - i) i f = qr P (n - (i + 1)) (i + 1) (qr1 P i f) := by
  rw [show n - i = n - (i + 1) + 1 by omega]
  rfl
theorem qr_e {P : Nat → Prop} {n i f : Nat} (h : n ≤ i) : qr P (n - i) i f = f := by
  rw [show n - i = 0 by omega]
  rfl
theorem clr_at {x s : Nat} (hx : x < 4096) (hs : s < 12) : ∃ y, y < 4096 ∧ nI x &&& (((1 : Int32) <<< (nI s &&& 31)) ^^^ (-1)) = nI y ∧ ∀ i, y.testBit i = (x.testBit i && !decide (s = i)) := by
  have hb : ∀ i, (x &&& (4095 ^^^ 2 ^ s)).testBit i = (x.testBit i && !decide (s = i)) := fun i => by
    rw [Nat.testBit_and, Nat.testBit_xor, Nat.testBit_two_pow, show (4095 : Nat) = 2 ^ 12 - 1 from rfl, Nat.testBit_two_pow_sub_one]
    by_cases c : i < 12
    · simp [c]
    · have hp : 2 ^ 12 ≤ 2 ^ i := Nat.pow_le_pow_right (by decide) (by omega)
      have : x.testBit i = false := Nat.testBit_lt_two_pow (Nat.lt_of_lt_of_le hx hp)
      rw [this, Bool.false_and, Bool.false_and]
  refine ⟨x &&& (4095 ^^^ 2 ^ s), Nat.lt_of_le_of_lt Nat.and_le_left hx, ?_, hb⟩
  rw [sh1 (by omega)]
  apply b_ext
  intro i hi
  rw [b_and, b_xor, b_m1 i hi, xb_nI hi, xb_nI hi, xb_nI hi, hb, Nat.testBit_two_pow]
  simp
section S65
variable {D b W Rn Kn Tn Hn Un g : Nat} {I I1 I2 : Nat → Nat → Int32} {J J1 J2 : Nat → Nat → Int64}
theorem saA_k1 (e1 : k1 I = k1 I1) {s : Nat} {r : List Nat} : saA I J1 W s r ↔ saA I1 J1 W s r := by
  unfold saA rwo
  rw [k1_at e1 (q := 54) rfl, k1_at e1 (q := 55) rfl]
  rw [wo_c (f' := fun w => I1 25 (4 * (I1 54 s).toNatClampNeg + w)) fun w _ => k1_at e1 rfl, wo_c (f' := fun w => I1 25 (4 * (I1 55 s).toNatClampNeg + w)) fun w _ => k1_at e1 rfl]
theorem c_agSet (h : Rl b W Rn Kn Tn Hn Un g I1 J1 I2 J2) {n S : Nat} {r : List Nat} (hS : I1 53 0 = nI S) (hS2 : S ≤ 12) (e1 : k1 I = k1 I1) (hr : (wl W g)[n]? = some r) : C1 (D + 4) 270 [.ref 53, .int (nI n), .ref 51, .ref 24] I J1 (.int (nI (nb S (fun s => saA I1 J1 W s r)))) I J1 := by
  obtain ⟨S', s1, s2, s3, s4⟩ := h.S
  obtain ⟨hG, g1, g2, g3, g4, g5⟩ := h.G
  obtain ⟨w1, w2, w3, w4⟩ := h.W24
  have hn : n < 455 := by
    have := (List.getElem?_eq_some_iff.mp hr).1
    omega
  obtain rfl : S = S' := by rw [hS] at s2; exact (nI_eq (by omega) (by omega)).mp s2
  have hwr : wro I W n r := fun w hw => by rw [k1_at e1 rfl]; exact h.wr hr w hw
  refine mj_mk (e270 _ ?_)
  refine lp_up (n := S) (fun i => E1 270 (D + 3) (fun q => q = (.int (nI (nb S (fun s => saA I1 J1 W s r))), (I, J1, mj_R1))) 6 [(0, .ref 53), (1, .int (nI n)), (2, .ref 51), (3, .ref 24), (4, .int (nI (nb i (fun s => saA I1 J1 W s r)))), (5, .int (nI i))] I J1) (fun i hi ih => ?_) 0 (Nat.zero_le _)
  refine mj_on (s270_6 _ _ _ ?_)
  rw [k1_at e1 (q := 53) (j := 0) rfl, s2, nI_1]
  refine if_le (by omega) (by omega) (fun c => ?_) (fun c => ?_)
  · obtain rfl : i = S := by omega
    rfl
  obtain ⟨x, y, q1, q2, q3, q4, -, -⟩ := s4 i c
  refine ⟨trivial, _, _, _, c_sayAg (by rw [k1_at e1 rfl]; exact w1) w2 (by rw [k1_at e1 rfl]; exact g3) w4 (by omega) (by rw [k1_at e1 rfl]; exact q3) (by rw [k1_at e1 rfl]; exact q4) q1 q2 hn hwr, if_tf (fun d => ?_) (fun d => ?_)⟩
  · rw [nb_or (by omega) ((saA_k1 e1).mp d)]
    exact ih c
  · have z := ih c
    rw [nb_f (fun q => d ((saA_k1 e1).mpr q))] at z
    exact z
/-- what is held of the sets -/
def hdP (I : Nat → Nat → Int32) (T : Nat) (H : Nat → Prop) : Prop := ∀ x, x < T → I 57 x = tf (H x)
theorem hdP_up {T y : Nat} {H H' : Nat → Prop} (h : hdP I T H) (e : ∀ x, x < T → (H' x ↔ H x ∨ x = y)) : hdP (mj_up I 57 y 1) T H' := fun x hx => by
  by_cases c : x = y
  · rw [c, up_s, tf_t ((e y (c ▸ hx)).mpr (Or.inr rfl))]
  · rw [up_j c, h x hx]
    exact tf_iff ⟨fun q => (e x hx).mpr (Or.inl q), fun q => ((e x hx).mp q).resolve_right c⟩
theorem hdP_c {T : Nat} {H H' : Nat → Prop} (h : hdP I T H) (e : ∀ x, x < T → (H' x ↔ H x)) : hdP I T H' := fun x hx => by
  rw [h x hx]
  exact tf_iff (e x hx).symm
def spc (L : Nat → Prop) (p x : Nat) : Prop := ∃ a, L a ∧ ∀ i, (i < p → x.testBit i = true → a.testBit i = true) ∧ (p ≤ i → x.testBit i = a.testBit i)
theorem c_spread {S : Nat} {L : Nat → Prop} (hS : I 53 0 = nI S) (hS2 : S ≤ 12) (hH : hdP I (2 ^ S) L) : ∃ I', C1 (D + 1) 271 [.ref 53, .int (nI (2 ^ S))] I J .null I' J ∧ k1 I' = k1 I ∧ hdP I' (2 ^ S) (spc L S) := by
  obtain ⟨p1, p2⟩ := pw12 hS2
  suffices hs : ∃ I' J', C1 (D + 1) 271 [.ref 53, .int (nI (2 ^ S))] I J .null I' J' ∧ k1 I' = k1 I ∧ J' = J ∧ hdP I' (2 ^ S) (spc L S) by
    obtain ⟨I', J', q1, q2, rfl, q3⟩ := hs
    exact ⟨I', q1, q2, q3⟩
  refine mj_cN (e271 _ ?_)
  obtain ⟨Q, hQ⟩ : ∃ Q, Q = qN mj_R1 (fun I' J' => k1 I' = k1 I ∧ J' = J ∧ hdP I' (2 ^ S) (spc L S)) := ⟨_, rfl⟩
  rw [← hQ]
  refine lp_up (n := S) (fun p => ∀ I0, k1 I0 = k1 I → hdP I0 (2 ^ S) (spc L p) → E1 271 D Q 2 [(0, .ref 53), (1, .int (nI (2 ^ S))), (2, .int (nI p))] I0 J) (fun p hp ih I0 hk hh => ?_) 0 (Nat.zero_le _) I rfl (hdP_c hH fun x hx => ?_)
  · refine mj_on (s271_2 _ _ ?_)
    rw [k1_at hk (q := 53) (j := 0) rfl, hS]
    refine if_le (by omega) (by omega) (fun c => ?_) (fun c => ?_)
    · obtain rfl : p = S := by omega
      rw [hQ]
      exact ⟨_, _, rfl, hk, rfl, hh⟩
    refine lp_up (n := 2 ^ S) (fun j => ∀ I0, k1 I0 = k1 I → hdP I0 (2 ^ S) (fun x => spc L p x ∨ (x.testBit p = false ∧ ∃ x', x' < j ∧ spc L p x' ∧ x'.testBit p = true ∧ ∀ i, i ≠ p → x.testBit i = x'.testBit i)) → E1 271 D Q 12 [(0, .ref 53), (1, .int (nI (2 ^ S))), (2, .int (nI p)), (3, .int (nI j))] I0 J) (fun j hj ih2 I0 hk hh => ?_) 0 (Nat.zero_le _) I0 hk (hdP_c hh fun x hx => ⟨fun q => q.resolve_right (fun ⟨_, x', q, _⟩ => absurd q (Nat.not_lt_zero _)), Or.inl⟩)
    refine mj_on (s271_12 _ _ _ ?_)
    rw [nI_1, nI_1, nI_clamp (by omega)]
    refine if_le (by omega) (by omega) (fun d => ?_) (fun d => ⟨vp_in_nI (by omega) (by decide), ?_⟩)
    · refine ih c I0 hk (hdP_c hh fun x hx => ⟨?_, ?_⟩)
      · rintro ⟨a, ha, hi⟩
        by_cases e : x.testBit p = a.testBit p
        · refine Or.inl ⟨a, ha, fun i => ⟨fun q => (hi i).1 (by omega), fun q => ?_⟩⟩
          by_cases z : i = p
          · rw [z]; exact e
          · exact (hi i).2 (by omega)
        · have xf : x.testBit p = false := by
            cases hx1 : x.testBit p with
            | false => rfl
            | true => exact absurd (hx1.trans ((hi p).1 (by omega) hx1).symm) e
          have hb : ∀ i, (x ||| 2 ^ p).testBit i = (x.testBit i || decide (p = i)) := fun i => by rw [Nat.testBit_or, Nat.testBit_two_pow]
          have at1 : a.testBit p = true := by
            cases ha1 : a.testBit p with
            | false => exact absurd (xf.trans ha1.symm) e
            | true => rfl
          refine Or.inr ⟨xf, x ||| 2 ^ p, Nat.lt_of_lt_of_le (Nat.or_lt_two_pow hx (wb_lt2 c)) (by omega), ⟨a, ha, fun i => ⟨fun q y => ?_, fun q => ?_⟩⟩, by rw [hb]; simp, fun i hi2 => ?_⟩
          · rw [hb] at y
            have : ¬ p = i := by omega
            simp [this] at y
            exact (hi i).1 (by omega) y
          · rw [hb]
            by_cases z : p = i
            · subst z; simp [at1]
            · simp [z]; exact (hi i).2 (by omega)
          · rw [hb]
            have : ¬ p = i := fun e => hi2 e.symm
            simp [this]
      · rintro (⟨a, ha, hi⟩ | ⟨xf, x', q1, ⟨a, ha, hi⟩, q3, q4⟩)
        · refine ⟨a, ha, fun i => ⟨fun q y => ?_, fun q => (hi i).2 (by omega)⟩⟩
          by_cases z : i < p
          · exact (hi i).1 z y
          · rw [← (hi i).2 (by omega)]; exact y
        · refine ⟨a, ha, fun i => ⟨fun q y => ?_, fun q => ?_⟩⟩
          · by_cases z : i = p
            · rw [z, xf] at y; cases y
            · rw [q4 i z] at y
              exact (hi i).1 (by omega) y
          · rw [q4 i (by omega)]
            exact (hi i).2 (by omega)
    · rw [hh j d]
      obtain ⟨y, y1, y2, y3⟩ := clr_at (x := j) (s := p) (by omega) (by omega)
      rw [y2, nI_clamp (by omega)]
      have same : (∀ x, x < 2 ^ S → (spc L p x ∨ (x.testBit p = false ∧ ∃ x', x' < j + 1 ∧ spc L p x' ∧ x'.testBit p = true ∧ ∀ i, i ≠ p → x.testBit i = x'.testBit i) ↔ (spc L p x ∨ (x.testBit p = false ∧ ∃ x', x' < j ∧ spc L p x' ∧ x'.testBit p = true ∧ ∀ i, i ≠ p → x.testBit i = x'.testBit i)) ∨ (spc L p j ∧ j.testBit p = true ∧ x = y))) := fun x hx => by
        constructor
        · rintro (q | ⟨q1, x', q2, q3, q4, q5⟩)
          · exact Or.inl (Or.inl q)
          · by_cases z : x' = j
            · subst z
              refine Or.inr ⟨q3, q4, Nat.eq_of_testBit_eq fun i => ?_⟩
              rw [y3]
              by_cases w : p = i
              · subst w; simp [q1]
              · simp [w]; exact q5 i (fun e => w e.symm)
            · exact Or.inl (Or.inr ⟨q1, x', by omega, q3, q4, q5⟩)
        · rintro ((q | ⟨q1, x', q2, q3, q4, q5⟩) | ⟨q1, q2, q3⟩)
          · exact Or.inl q
          · exact Or.inr ⟨q1, x', by omega, q3, q4, q5⟩
          · refine Or.inr ⟨by rw [q3, y3]; simp, j, by omega, q1, q2, fun i hi => ?_⟩
            rw [q3, y3]
            have : ¬ p = i := fun e => hi e.symm
            simp [this]
      refine if_tf (fun f => ⟨vp_in_nI (by omega) (by decide), ?_⟩) (fun f => ?_)
      · rw [nar_1]
        refine ih2 d _ (by rw [k1_up rfl]; exact hk) (hdP_up hh fun x hx => ?_)
        rw [same x hx]
        constructor
        · rintro (q | q)
          · exact Or.inl q
          · exact Or.inr q.2.2
        · rintro (q | q)
          · exact Or.inl q
          · cases jb : j.testBit p with
            | true => exact Or.inr ⟨f.resolve_right (fun z => by rw [jb] at z; cases z.1), rfl, q⟩
            | false =>
              have : y = j := Nat.eq_of_testBit_eq fun i => by
                rw [y3]
                by_cases w : p = i
                · subst w; simp [jb]
                · simp [w]
              rw [q, this]
              exact Or.inl f
      · refine ih2 d _ hk (hdP_c hh fun x hx => ?_)
        rw [same x hx]
        exact ⟨fun q => q.resolve_right (fun z => f (Or.inl z.1)), Or.inl⟩
  · constructor
    · rintro ⟨a, ha, hi⟩
      have : x = a := Nat.eq_of_testBit_eq fun i => (hi i).2 (Nat.zero_le _)
      rw [this]; exact ha
    · exact fun q => ⟨x, q, fun i => ⟨fun z => absurd z (Nat.not_lt_zero _), fun _ => rfl⟩⟩
theorem c_ahead {x y : Nat} (hx : x < 4096) (hy : y < 4096) : C1 (D + 2) 272 [.int (nI x), .int (nI y)] I J (.int (tf (ahd x y))) I J := by
  refine mj_mk (e272 _ _ ?_)
  have cx : C1 (D + 1) 3 [.int (nI x)] I J (.int (nI (pcn 32 x))) I J := c_bcI (by omega)
  have cy : C1 (D + 1) 3 [.int (nI y)] I J (.int (nI (pcn 32 y))) I J := c_bcI (by omega)
  unfold ahd
  generalize nI (pcn 32 x) = u at *
  generalize nI (pcn 32 y) = v at *
  refine ⟨trivial, _, _, _, cx, trivial, _, _, _, cy, if_i (fun c => mzT (Or.inl c)) (fun c => if_i (fun d => if_i (fun f => mzF ?_) (fun f => mzT (Or.inr ⟨d, f⟩))) (fun d => mzF ?_))⟩
  · rintro (q | q)
    · exact c q
    · exact q.2 f
  · rintro (q | q)
    · exact c q
    · exact d q.1
def qaP (I : Nat → Nat → Int32) (J : Nat → Nat → Int64) (W g S x : Nat) : Prop := ∃ r, r ∈ wl W g ∧ ∀ s, s < S → x.testBit s = true → saA I J W s r
theorem c_fewest (h : Rl b W Rn Kn Tn Hn Un g I1 J1 I2 J2) {S : Nat} (hS : I1 53 0 = nI S) (hS2 : S ≤ 12) : ∃ r I' J', C1 (D + 5) 269 [.ref 53, .ref 51, .ref 24] I1 J1 (.int r) I' J' ∧ (r = nI (qr (qaP I1 J1 W g S) (2 ^ S - 1) 1 0) ∧ k1 I' = k1 I1 ∧ J' = J1) := by
  obtain ⟨p1, p2⟩ := pw12 hS2
  obtain ⟨hG, g1, g2, g3, g4, g5⟩ := h.G
  obtain ⟨v, hv⟩ : ∃ v, v = qr (qaP I1 J1 W g S) (2 ^ S - 1) 1 0 := ⟨_, rfl⟩
  rw [← hv]
  refine mj_cI (e269 ?_)
  rw [hS, sh1 (by omega)]
  obtain ⟨Q, hQ⟩ : ∃ Q, Q = qI mj_R1 (fun r I' J' => r = nI v ∧ k1 I' = k1 I1 ∧ J' = J1) := ⟨_, rfl⟩
  rw [← hQ]
  refine lp_up (n := 2 ^ S) (fun i => ∀ I0, k1 I0 = k1 I1 → (∀ x, x < i → I0 57 x = 0) → E1 269 (D + 4) Q 10 [(0, .ref 53), (1, .ref 51), (2, .ref 24), (3, .int (nI (2 ^ S))), (4, .int (nI i))] I0 J1) (fun i hi ih I0 hk hz => ?_) 0 (Nat.zero_le _) I1 rfl (fun x hx => absurd hx (Nat.not_lt_zero x))
  refine mj_on (s269_10 _ _ ?_)
  rw [nI_1, nI_clamp (by omega), nar_0]
  refine if_le (by omega) (by omega) (fun c => ?_) (fun c => ⟨vp_in_nI (by omega) (by decide), ih c _ (by rw [k1_up rfl]; exact hk) fun x hx => by
    by_cases e : x = i
    · rw [e, up_s]
    · rw [up_j e]; exact hz x (by omega)⟩)
  refine lp_up (n := (wl W g).length) (fun n => ∀ I0, k1 I0 = k1 I1 → hdP I0 (2 ^ S) (fun x => ∃ r, r ∈ (wl W g).take n ∧ x = nb S (fun s => saA I1 J1 W s r)) → E1 269 (D + 4) Q 33 [(0, .ref 53), (1, .ref 51), (2, .ref 24), (3, .int (nI (2 ^ S))), (4, .int (nI n))] I0 J1) (fun n hn ih2 I0 hk hh => ?_) 0 (Nat.zero_le _) I0 hk (fun x hx => by
    rw [hz x (by omega), tf_f]
    rintro ⟨r, hr, -⟩
    cases hr)
  refine mj_on (s269_33 _ _ ?_)
  rw [k1_at hk (q := 51) (j := 2) rfl, g4, nI_1]
  refine if_le (by omega) (by omega) (fun d => ?_) (fun d => ?_)
  · rw [tk_e d] at hh
    obtain ⟨I', hc, q1, q2⟩ := c_spread (D := D + 3) (J := J1) (by rw [k1_at hk rfl]; exact hS) hS2 hh
    refine ⟨trivial, _, _, hc, ?_⟩
    have hk' := q1.trans hk
    have hq : ∀ x, x < 2 ^ S → I' 57 x = tf (qaP I1 J1 W g S x) := fun x hx => by
      rw [q2 x hx]
      refine tf_iff ⟨?_, ?_⟩
      · rintro ⟨a, ⟨r, hr, rfl⟩, hi⟩
        exact ⟨r, hr, fun s hs hb => (nb_bit.mp ((hi s).1 hs hb)).2⟩
      · rintro ⟨r, hr, hs⟩
        refine ⟨_, ⟨r, hr, rfl⟩, fun i => ⟨fun q y => nb_bit.mpr ⟨q, hs i q y⟩, fun q => ?_⟩⟩
        have hp := Nat.pow_le_pow_right (n := 2) (by decide) q
        rw [Nat.testBit_lt_two_pow (Nat.lt_of_lt_of_le hx hp), Nat.testBit_lt_two_pow (Nat.lt_of_lt_of_le nb_lt hp)]
    refine lp_up (n := 2 ^ S) (fun i => ∀ f, f < 2 ^ S → 1 ≤ i → qr (qaP I1 J1 W g S) (2 ^ S - i) i f = v → E1 269 (D + 4) Q 73 [(0, .ref 53), (3, .int (nI (2 ^ S))), (4, .int (nI f)), (5, .int (nI i))] I' J1) (fun i hi ih3 f hf hi1 hs => ?_) 1 p1 0 p1 (Nat.le_refl _) hv.symm
    refine mj_on (s269_73 _ _ _ ?_)
    rw [nI_1, nI_clamp (by omega)]
    refine if_le (by omega) (by omega) (fun u => ?_) (fun u => ⟨vp_in_nI (by omega) (by decide), ?_⟩)
    · rw [qr_e u] at hs
      rw [hQ]
      exact ⟨_, _, _, rfl, by rw [hs], hk', rfl⟩
    rw [qr_s u] at hs
    rw [hq i u]
    have no : ¬ (¬ qaP I1 J1 W g S i ∧ (f = 0 ∨ ahd i f)) → E1 269 (D + 4) Q 73 [(0, .ref 53), (3, .int (nI (2 ^ S))), (4, .int (nI f)), (5, .int (nI (i + 1)))] I' J1 := fun z => by
      rw [qr1_f z] at hs
      exact ih3 u f hf (by omega) hs
    have yes : (¬ qaP I1 J1 W g S i ∧ (f = 0 ∨ ahd i f)) → E1 269 (D + 4) Q 73 [(0, .ref 53), (3, .int (nI (2 ^ S))), (4, .int (nI i)), (5, .int (nI (i + 1)))] I' J1 := fun z => by
      rw [qr1_t z] at hs
      exact ih3 u i u (by omega) hs
    refine if_tf (fun y => no fun z => z.1 y) (fun y => if_eq (b := 0) (by omega) (by decide) (fun e => yes ⟨y, Or.inl e⟩) (fun e => ⟨trivial, _, _, _, c_ahead (by omega) (by omega), if_tf (fun z => yes ⟨y, Or.inr z⟩) (fun z => no fun w => ?_)⟩))
    rcases w.2 with w | w
    · exact e w
    · exact z w
  · obtain ⟨r, hr, hm, -⟩ := gt_of d
    have hl := nb_lt (n := S) (p := fun s => saA I1 J1 W s r)
    refine ⟨trivial, _, _, _, c_agSet h hS hS2 hk hr, vp_in_nI (by omega) (by decide), ?_⟩
    rw [nar_1, nI_clamp (by omega)]
    refine ih2 d _ (by rw [k1_up rfl]; exact hk) (hdP_up hh fun x hx => ?_)
    rw [tk_s hr]
    constructor
    · rintro ⟨r', q1, q2⟩
      rcases List.mem_append.mp q1 with z | z
      · exact Or.inl ⟨r', z, q2⟩
      · rw [List.mem_singleton.mp z] at q2
        exact Or.inr q2
    · rintro (⟨r', q1, q2⟩ | q)
      · exact ⟨r', List.mem_append_left _ q1, q2⟩
      · exact ⟨r, List.mem_append_right _ List.mem_cons_self, q⟩
theorem r_isAgreed {S x : Nat} (hI : ∀ k r, (wl W g)[k]? = some r → I 47 k = nI (nb S (fun s => saA I1 J1 W s r))) (hL : (wl W g).length ≤ 455) (hS2 : S ≤ 12) (hx : x < 2 ^ S) : C2 (D + 1) 116 [.ref 0, .int (nI (wl W g).length), .int (nI x)] I J (.int (tf (qaP I1 J1 W g S x))) I J := by
  obtain ⟨p1, p2⟩ := pw12 hS2
  refine mj_mk (e116 _ _ ?_)
  refine lp_up (n := (wl W g).length) (fun i => (∀ k r, k < i → (wl W g)[k]? = some r → ¬ ∀ s, s < S → x.testBit s = true → saA I1 J1 W s r) → E2 116 D (fun q => q = (.int (tf (qaP I1 J1 W g S x)), (I, J, mj_R2))) 2 [(0, .ref 0), (1, .int (nI (wl W g).length)), (2, .int (nI x)), (3, .int (nI i))] I J) (fun i hi ih hp => ?_) 0 (Nat.zero_le _) (fun k r hk => absurd hk (Nat.not_lt_zero k))
  refine mj_on (s116_2 _ _ _ ?_)
  rw [nI_1, nI_clamp (by omega)]
  refine if_le (by omega) (by omega) (fun c => mzF ?_) (fun c => ⟨vp_in_nI (by omega) (by decide), ?_⟩)
  · rintro ⟨r, hr, hs⟩
    obtain ⟨k, hk, rfl⟩ := List.getElem_of_mem hr
    exact hp k _ (by omega) (List.getElem?_eq_getElem hk) hs
  · obtain ⟨r, hr, hm, -⟩ := gt_of c
    rw [hI i r hr, nx_and]
    have hl := nb_lt (n := S) (p := fun s => saA I1 J1 W s r)
    have hle : nb S (fun s => saA I1 J1 W s r) &&& x ≤ x := Nat.and_le_right
    have e : (nb S (fun s => saA I1 J1 W s r) &&& x = x) ↔ ∀ s, s < S → x.testBit s = true → saA I1 J1 W s r := by
      constructor
      · intro q s hs hb
        rw [← q, Nat.testBit_and, Bool.and_eq_true] at hb
        exact (nb_bit.mp hb.1).2
      · intro q
        apply Nat.eq_of_testBit_eq
        intro i
        rw [Nat.testBit_and]
        cases hb : x.testBit i with
        | false => simp
        | true =>
          have hi : i < S := by
            refine Nat.lt_of_not_le fun z => ?_
            rw [Nat.testBit_lt_two_pow (Nat.lt_of_lt_of_le hx (Nat.pow_le_pow_right (by decide) z))] at hb
            cases hb
          rw [nb_bit.mpr ⟨hi, q i hi hb⟩]
          rfl
    refine if_eq (by omega) (by omega) (fun d => mzT ⟨r, hm, e.mp d⟩) (fun d => ih c fun k r' hk hr' => ?_)
    by_cases z : k = i
    · subst z
      rw [hr] at hr'
      cases hr'
      exact fun q => d (e.mpr q)
    · exact hp k r' (by omega) hr'
theorem al_quarrel (h : Rl b W Rn Kn Tn Hn Un g I1 J1 I2 J2) : AI 268 115 [] I1 J1 I2 J2 (Rl b W Rn Kn Tn Hn Un g) := by
  obtain ⟨S, s1, s2, s3, -⟩ := h.S
  obtain ⟨p1, p2⟩ := pw12 s1
  obtain ⟨hG, g1, g2, g3, g4, g5⟩ := h.G
  have hB := h.rB
  obtain ⟨b1, b2, b3, b4, b5, b6⟩ := id hB
  obtain ⟨r, I1', J1', hc, rfl, q1, q5⟩ := c_fewest (D := 894) h s2 s1
  rw [q5] at hc
  obtain ⟨v, hv⟩ : ∃ v, v = qr (qaP I1 J1 W g S) (2 ^ S - 1) 1 0 := ⟨_, rfl⟩
  rw [← hv] at hc
  have cl : C1 900 268 [.ref 0] I1 J1 (.int (nI v)) I1' J1 := mj_mk (D := 899) (e268 ⟨trivial, _, _, _, hc, rfl⟩)
  have hN : wnum g W ≤ 2197 := wnum_le hG.2 b4
  have rf : ∃ r I2' J2', C2 900 115 [.ref 0] I2 J2 (.int r) I2' J2' ∧ (r = nI v ∧ k2 I2' = k2 I2 ∧ J2' = J2) := by
    refine mj_cI (D := 899) (e115 ?_)
    obtain ⟨Q, hQ⟩ : ∃ Q, Q = qI mj_R2 (fun r I' J' => r = nI v ∧ k2 I' = k2 I2 ∧ J' = J2) := ⟨_, rfl⟩
    rw [← hQ]
    refine lp_up (n := wnum g W) (fun n => ∀ I, k2 I = k2 I2 → (∀ k r, (wpre g W n)[k]? = some r → I 47 k = nI (nb S (fun s => saA I1 J1 W s r))) → E2 115 899 Q 4 [(0, .ref 0), (1, .int (nI (wpre g W n).length)), (2, .int (nI n))] I J2) (fun n hn ih I hI ha => ?_) 0 (Nat.zero_le _) I2 rfl (fun k r hr => by cases hr)
    have hpl : (wpre g W n).length ≤ (wl W g).length := by
      rw [← (wl_ok hG.2 b4).1]
      unfold wpre
      have : List.range (wnum g W) = List.range n ++ (List.range' n (wnum g W - n)) := by
        rw [List.range_eq_range', List.range_eq_range']
        have := List.range'_append_1 (s := 0) (m := n) (n := wnum g W - n)
        rw [Nat.zero_add] at this
        rw [this]
        congr 1
        omega
      rw [this, List.filterMap_append, List.length_append]
      omega
    refine mj_on (s115_4 _ _ ?_)
    rw [nI_1, nI_1]
    refine ⟨trivial, _, _, _, r_numbers (rB_k hB hI) (rG_k hG hI), if_le (by omega) (by omega) (fun c => ?_) (fun c => ?_)⟩
    · obtain rfl : n = wnum g W := by omega
      have eL : wpre g W (wnum g W) = wl W g := (wl_ok hG.2 b4).1
      rw [eL] at ha ⊢
      refine lp_up (n := 2 ^ S) (fun i => ∀ f, f < 2 ^ S → 1 ≤ i → qr (qaP I1 J1 W g S) (2 ^ S - i) i f = v → E2 115 899 Q 46 [(0, .ref 0), (1, .int (nI (wl W g).length)), (2, .int (nI f)), (3, .int (nI i))] I J2) (fun i hi ih3 f hf hi1 hs => ?_) 1 p1 0 p1 (Nat.le_refl _) hv.symm
      refine mj_on (s115_46 _ _ _ ?_)
      rw [k2_at hI (q := 0) (j := 68) rfl, s3, sh1 (by omega), nI_1]
      refine if_le (by omega) (by omega) (fun u => ?_) (fun u => ?_)
      · rw [qr_e u] at hs
        rw [hQ]
        exact ⟨_, _, _, rfl, by rw [hs], hI, rfl⟩
      rw [qr_s u] at hs
      have no : ¬ (¬ qaP I1 J1 W g S i ∧ (f = 0 ∨ ahd i f)) → E2 115 899 Q 46 [(0, .ref 0), (1, .int (nI (wl W g).length)), (2, .int (nI f)), (3, .int (nI (i + 1)))] I J2 := fun z => by
        rw [qr1_f z] at hs
        exact ih3 u f hf (by omega) hs
      have yes : (¬ qaP I1 J1 W g S i ∧ (f = 0 ∨ ahd i f)) → E2 115 899 Q 46 [(0, .ref 0), (1, .int (nI (wl W g).length)), (2, .int (nI i)), (3, .int (nI (i + 1)))] I J2 := fun z => by
        rw [qr1_t z] at hs
        exact ih3 u i u (by omega) hs
      refine ⟨trivial, _, _, _, r_isAgreed ha g5 s1 u, if_tf (fun y => no fun z => z.1 y) (fun y => if_eq (b := 0) (by omega) (by decide) (fun e => ?_) (fun e => ?_))⟩
      · refine mj_on (s115_89 _ _ _ _ ?_)
        rw [if_pos (by decide), nI_1]
        exact yes ⟨y, Or.inl e⟩
      · rw [i64_small i (by omega), i64_small f (by omega)]
        have pe : ∀ m, m < 4096 → pcL (lN m) = pcn 32 m := fun m hm => by
          rw [pcL_lN (by omega)]
          exact pcn_big 32 32 m (by omega)
        have ci : C2 899 63 [.long (lN i)] I J2 (.int (nI (pcn 32 i))) I J2 := by rw [← pe i (by omega)]; exact r_bits
        have cf : C2 899 63 [.long (lN f)] I J2 (.int (nI (pcn 32 f))) I J2 := by rw [← pe f (by omega)]; exact r_bits
        unfold ahd at yes no
        generalize nI (pcn 32 i) = pi at *
        generalize nI (pcn 32 f) = pf at *
        refine ⟨trivial, _, _, _, ci, trivial, _, _, _, cf, ?_⟩
        refine mj_on (s115_89 _ _ _ _ ?_)
        rw [nI_1]
        refine if_i (fun z => yes ⟨y, Or.inr (Or.inl z)⟩) (fun z => if_i (fun d => if_i (fun w => no ?_) (fun w => yes ⟨y, Or.inr (Or.inr ⟨d, w⟩)⟩)) (fun d => no ?_))
        · rintro ⟨-, q | q | q⟩
          · exact e q
          · exact z q
          · exact q.2 w
        · rintro ⟨-, q | q | q⟩
          · exact e q
          · exact z q
          · exact d q.1
    · obtain ⟨I', hc, q1, q2⟩ := r_isWeighing (D := 898) (J := J2) (rB_k hB hI) (rG_k hG hI) (by
        refine Nat.pos_of_ne_zero fun e => ?_
        rw [e] at c
        exact absurd c (Nat.not_lt_zero _)) (show n < 2197 by omega)
      have hI' : k2 I' = k2 I2 := (k2_40 q1).trans hI
      have ha' : ∀ k r, (wpre g W n)[k]? = some r → I' 47 k = nI (nb S (fun s => saA I1 J1 W s r)) := fun k r hr => by
        rw [q1 47 (by decide)]
        exact ha k r hr
      refine ⟨trivial, _, _, _, hc, if_tf (fun d => ?_) (fun d => ?_)⟩
      · obtain ⟨r, hr⟩ := Option.ne_none_iff_exists'.mp d
        have hl2 : (wpre g W (n + 1)).length ≤ 455 := by
          have e := (wl_ok hG.2 b4).1
          have : (wpre g W (n + 1)).length ≤ (wl W g).length := by
            rw [← e]
            unfold wpre
            have : List.range (wnum g W) = List.range (n + 1) ++ (List.range' (n + 1) (wnum g W - (n + 1))) := by
              rw [List.range_eq_range', List.range_eq_range']
              have := List.range'_append_1 (s := 0) (m := n + 1) (n := wnum g W - (n + 1))
              rw [Nat.zero_add] at this
              rw [this]
              congr 1
              omega
            rw [this, List.filterMap_append, List.length_append]
            omega
          omega
        rw [wpre_t hr, List.length_append] at hl2
        have hl2 : (wpre g W n).length + 1 ≤ 455 := hl2
        have hs := ih c
        rw [wpre_t hr, List.length_append] at hs
        refine ⟨trivial, _, _, _, r_agreed h hI' s2 s1 (q2 r hr), vp_in_nI (by omega) (by decide), ?_⟩
        rw [nI_clamp (by omega)]
        refine hs _ (by rw [k2_up rfl]; exact hI') (fun k r' hr' => ?_)
        by_cases z : k < (wpre g W n).length
        · rw [List.getElem?_append_left z] at hr'
          rw [up_j (by omega)]
          exact ha' k r' hr'
        · rw [List.getElem?_append_right (by omega)] at hr'
          cases hz : k - (wpre g W n).length with
          | zero =>
            rw [hz] at hr'
            cases hr'
            obtain rfl : k = (wpre g W n).length := by omega
            rw [up_s]
          | succ z => rw [hz] at hr'; cases hr'
      · have d : wval g W n = none := Classical.byContradiction fun q => d q
        have hs := ih c I' hI'
        rw [wpre_f d] at hs
        exact hs ha'
  obtain ⟨r, I2', J2', hc2, rfl, q2, rfl⟩ := rf
  exact ⟨_, _, _, _, _, cl, hc2, Rl_same h q1 rfl q2 rfl⟩
end S65
