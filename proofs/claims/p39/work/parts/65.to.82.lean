section
/-! quarrel -/
theorem nar_1 : vp_nar .boolean 1 = 1 := by decide +kernel
theorem nar_0 : vp_nar .boolean 0 = 0 := by decide +kernel
theorem i64_small (m : Nat) (h : m < 4096) : (nI m).toInt64 = lN m := by
  have : ∀ a, a < 64 → ∀ c, c < 64 → (nI (64 * a + c)).toInt64 = lN (64 * a + c) := by decide +kernel
  have e := this (m / 64) (by omega) (m % 64) (by omega)
  rwa [Nat.div_add_mod] at e
theorem pw12 {S : Nat} (h : S ≤ 12) : 1 ≤ 2 ^ S ∧ 2 ^ S ≤ 4096 := ⟨Nat.two_pow_pos S, Nat.pow_le_pow_right (by decide) h⟩
def ahd (x y : Nat) : Prop := nI (pcn 32 x) - nI (pcn 32 y) < 0 ∨ (nI (pcn 32 x) - nI (pcn 32 y) = 0 ∧ ¬ ((nI x &&& (nI x ^^^ nI y)) &&& (-(nI x ^^^ nI y))) = 0)
noncomputable def qr1 (P : Nat → Prop) (i f : Nat) : Nat := @ite _ (¬ P i ∧ (f = 0 ∨ ahd i f)) (Classical.propDecidable _) i f
theorem qr1_t {P : Nat → Prop} {i f : Nat} (h : ¬ P i ∧ (f = 0 ∨ ahd i f)) : qr1 P i f = i := @if_pos _ (Classical.propDecidable _) h _ _ _
theorem qr1_f {P : Nat → Prop} {i f : Nat} (h : ¬ (¬ P i ∧ (f = 0 ∨ ahd i f))) : qr1 P i f = f := @if_neg _ (Classical.propDecidable _) h _ _ _
noncomputable def qr (P : Nat → Prop) : Nat → Nat → Nat → Nat
  | 0, _, f => f
  | k + 1, i, f => qr P k (i + 1) (qr1 P i f)
theorem qr_s {P : Nat → Prop} {n i f : Nat} (h : i < n) : qr P (n - i) i f = qr P (n - (i + 1)) (i + 1) (qr1 P i f) := by
  rw [show n - i = n - (i + 1) + 1 by omega]
  rfl
theorem qr_e {P : Nat → Prop} {n i f : Nat} (h : n ≤ i) : qr P (n - i) i f = f := by
  rw [show n - i = 0 by omega]
  rfl
theorem clr_at {x s : Nat} (hx : x < 4096) (hs : s < 12) : ∃ y, y < 4096 ∧ nI x &&& (((1 : Int32) <<< (nI s &&& 31)) ^^^ (-1)) = nI y ∧ ∀ i, y.testBit i = (x.testBit i && !decide (s = i)) := by
  have hb : ∀ i, (x &&& (4095 ^^^ 2 ^ s)).testBit i = (x.testBit i && !decide (s = i)) := fun i => by
    rw [Nat.testBit_and, Nat.testBit_xor, Nat.testBit_two_pow, show (4095 : Nat) = 2 ^ 12 - 1 from rfl, Nat.testBit_two_pow_sub_one]
    by_cases c : i < 12
    · simp [c]
    · have hp : 2 ^ 12 ≤ 2 ^ i := Nat.pow_le_pow_right (by decide) (by omega)
      have : x.testBit i = false := Nat.testBit_lt_two_pow (Nat.lt_of_lt_of_le hx hp)
      rw [this, Bool.false_and, Bool.false_and]
  refine ⟨x &&& (4095 ^^^ 2 ^ s), Nat.lt_of_le_of_lt Nat.and_le_left hx, ?_, hb⟩
  rw [sh1 (by omega)]
  apply b_ext
  intro i hi
  rw [b_and, b_xor, b_m1 i hi, xb_nI hi, xb_nI hi, xb_nI hi, hb, Nat.testBit_two_pow]
  simp
section S65
variable {D b W Rn Kn Tn Hn Un g : Nat} {I I1 I2 : Nat → Nat → Int32} {J J1 J2 : Nat → Nat → Int64}
theorem saA_k1 (e1 : k1 I = k1 I1) {s : Nat} {r : List Nat} : saA I J1 W s r ↔ saA I1 J1 W s r := by
  unfold saA rwo
  rw [k1_at e1 (q := 54) rfl, k1_at e1 (q := 55) rfl]
  rw [wo_c (f' := fun w => I1 25 (4 * (I1 54 s).toNatClampNeg + w)) fun w _ => k1_at e1 rfl, wo_c (f' := fun w => I1 25 (4 * (I1 55 s).toNatClampNeg + w)) fun w _ => k1_at e1 rfl]
theorem c_agSet (h : Rl b W Rn Kn Tn Hn Un g I1 J1 I2 J2) {n S : Nat} {r : List Nat} (hS : I1 53 0 = nI S) (hS2 : S ≤ 12) (e1 : k1 I = k1 I1) (hr : (wl W g)[n]? = some r) : C1 (D + 4) 270 [.ref 53, .int (nI n), .ref 51, .ref 24] I J1 (.int (nI (nb S (fun s => saA I1 J1 W s r)))) I J1 := by
  obtain ⟨S', s1, s2, s3, s4⟩ := h.S
  obtain ⟨hG, g1, g2, g3, g4, g5⟩ := h.G
  obtain ⟨w1, w2, w3, w4⟩ := h.W24
  have hn : n < 455 := by
    have := (List.getElem?_eq_some_iff.mp hr).1
    omega
  obtain rfl : S = S' := by rw [hS] at s2; exact (nI_eq (by omega) (by omega)).mp s2
  have hwr : wro I W n r := fun w hw => by rw [k1_at e1 rfl]; exact h.wr hr w hw
  refine mj_mk (e270 _ ?_)
  refine lp_up (n := S) (fun i => E1 270 (D + 3) (fun q => q = (.int (nI (nb S (fun s => saA I1 J1 W s r))), (I, J1, mj_R1))) 6 [(0, .ref 53), (1, .int (nI n)), (2, .ref 51), (3, .ref 24), (4, .int (nI (nb i (fun s => saA I1 J1 W s r)))), (5, .int (nI i))] I J1) (fun i hi ih => ?_) 0 (Nat.zero_le _)
  refine mj_on (s270_6 _ _ _ ?_)
  rw [k1_at e1 (q := 53) (j := 0) rfl, s2, nI_1]
  refine if_le (by omega) (by omega) (fun c => ?_) (fun c => ?_)
  · obtain rfl : i = S := by omega
    rfl
  obtain ⟨x, y, q1, q2, q3, q4, -, -⟩ := s4 i c
  refine ⟨trivial, _, _, _, c_sayAg (by rw [k1_at e1 rfl]; exact w1) w2 (by rw [k1_at e1 rfl]; exact g3) w4 (by omega) (by rw [k1_at e1 rfl]; exact q3) (by rw [k1_at e1 rfl]; exact q4) q1 q2 hn hwr, if_tf (fun d => ?_) (fun d => ?_)⟩
  · rw [nb_or (by omega) ((saA_k1 e1).mp d)]
    exact ih c
  · have z := ih c
    rw [nb_f (fun q => d ((saA_k1 e1).mpr q))] at z
    exact z
/-- what is held of the sets -/
def hdP (I : Nat → Nat → Int32) (T : Nat) (H : Nat → Prop) : Prop := ∀ x, x < T → I 57 x = tf (H x)
theorem hdP_up {T y : Nat} {H H' : Nat → Prop} (h : hdP I T H) (e : ∀ x, x < T → (H' x ↔ H x ∨ x = y)) : hdP (mj_up I 57 y 1) T H' := fun x hx => by
  by_cases c : x = y
  · rw [c, up_s, tf_t ((e y (c ▸ hx)).mpr (Or.inr rfl))]
  · rw [up_j c, h x hx]
    exact tf_iff ⟨fun q => (e x hx).mpr (Or.inl q), fun q => ((e x hx).mp q).resolve_right c⟩
theorem hdP_c {T : Nat} {H H' : Nat → Prop} (h : hdP I T H) (e : ∀ x, x < T → (H' x ↔ H x)) : hdP I T H' := fun x hx => by
  rw [h x hx]
  exact tf_iff (e x hx).symm
def spc (L : Nat → Prop) (p x : Nat) : Prop := ∃ a, L a ∧ ∀ i, (i < p → x.testBit i = true → a.testBit i = true) ∧ (p ≤ i → x.testBit i = a.testBit i)
theorem c_spread {S : Nat} {L : Nat → Prop} (hS : I 53 0 = nI S) (hS2 : S ≤ 12) (hH : hdP I (2 ^ S) L) : ∃ I', C1 (D + 1) 271 [.ref 53, .int (nI (2 ^ S))] I J .null I' J ∧ k1 I' = k1 I ∧ hdP I' (2 ^ S) (spc L S) := by
  obtain ⟨p1, p2⟩ := pw12 hS2
  suffices hs : ∃ I' J', C1 (D + 1) 271 [.ref 53, .int (nI (2 ^ S))] I J .null I' J' ∧ k1 I' = k1 I ∧ J' = J ∧ hdP I' (2 ^ S) (spc L S) by
    obtain ⟨I', J', q1, q2, rfl, q3⟩ := hs
    exact ⟨I', q1, q2, q3⟩
  refine mj_cN (e271 _ ?_)
  obtain ⟨Q, hQ⟩ : ∃ Q, Q = qN mj_R1 (fun I' J' => k1 I' = k1 I ∧ J' = J ∧ hdP I' (2 ^ S) (spc L S)) := ⟨_, rfl⟩
  rw [← hQ]
  refine lp_up (n := S) (fun p => ∀ I0, k1 I0 = k1 I → hdP I0 (2 ^ S) (spc L p) → E1 271 D Q 2 [(0, .ref 53), (1, .int (nI (2 ^ S))), (2, .int (nI p))] I0 J) (fun p hp ih I0 hk hh => ?_) 0 (Nat.zero_le _) I rfl (hdP_c hH fun x hx => ?_)
  · refine mj_on (s271_2 _ _ ?_)
    rw [k1_at hk (q := 53) (j := 0) rfl, hS]
    refine if_le (by omega) (by omega) (fun c => ?_) (fun c => ?_)
    · obtain rfl : p = S := by omega
      rw [hQ]
      exact ⟨_, _, rfl, hk, rfl, hh⟩
    refine lp_up (n := 2 ^ S) (fun j => ∀ I0, k1 I0 = k1 I → hdP I0 (2 ^ S) (fun x => spc L p x ∨ (x.testBit p = false ∧ ∃ x', x' < j ∧ spc L p x' ∧ x'.testBit p = true ∧ ∀ i, i ≠ p → x.testBit i = x'.testBit i)) → E1 271 D Q 12 [(0, .ref 53), (1, .int (nI (2 ^ S))), (2, .int (nI p)), (3, .int (nI j))] I0 J) (fun j hj ih2 I0 hk hh => ?_) 0 (Nat.zero_le _) I0 hk (hdP_c hh fun x hx => ⟨fun q => q.resolve_right (fun ⟨_, x', q, _⟩ => absurd q (Nat.not_lt_zero _)), Or.inl⟩)
    refine mj_on (s271_12 _ _ _ ?_)
    rw [nI_1, nI_1, nI_clamp (by omega)]
    refine if_le (by omega) (by omega) (fun d => ?_) (fun d => ⟨vp_in_nI (by omega) (by decide), ?_⟩)
    · refine ih c I0 hk (hdP_c hh fun x hx => ⟨?_, ?_⟩)
      · rintro ⟨a, ha, hi⟩
        by_cases e : x.testBit p = a.testBit p
        · refine Or.inl ⟨a, ha, fun i => ⟨fun q => (hi i).1 (by omega), fun q => ?_⟩⟩
          by_cases z : i = p
          · rw [z]; exact e
          · exact (hi i).2 (by omega)
        · have xf : x.testBit p = false := by
            cases hx1 : x.testBit p with
            | false => rfl
            | true => exact absurd (hx1.trans ((hi p).1 (by omega) hx1).symm) e
          have hb : ∀ i, (x ||| 2 ^ p).testBit i = (x.testBit i || decide (p = i)) := fun i => by rw [Nat.testBit_or, Nat.testBit_two_pow]
          have at1 : a.testBit p = true := by
            cases ha1 : a.testBit p with
            | false => exact absurd (xf.trans ha1.symm) e
            | true => rfl
          refine Or.inr ⟨xf, x ||| 2 ^ p, Nat.lt_of_lt_of_le (Nat.or_lt_two_pow hx (wb_lt2 c)) (by omega), ⟨a, ha, fun i => ⟨fun q y => ?_, fun q => ?_⟩⟩, by rw [hb]; simp, fun i hi2 => ?_⟩
          · rw [hb] at y
            have : ¬ p = i := by omega
            simp [this] at y
            exact (hi i).1 (by omega) y
          · rw [hb]
            by_cases z : p = i
            · subst z; simp [at1]
            · simp [z]; exact (hi i).2 (by omega)
          · rw [hb]
            have : ¬ p = i := fun e => hi2 e.symm
            simp [this]
      · rintro (⟨a, ha, hi⟩ | ⟨xf, x', q1, ⟨a, ha, hi⟩, q3, q4⟩)
        · refine ⟨a, ha, fun i => ⟨fun q y => ?_, fun q => (hi i).2 (by omega)⟩⟩
          by_cases z : i < p
          · exact (hi i).1 z y
          · rw [← (hi i).2 (by omega)]; exact y
        · refine ⟨a, ha, fun i => ⟨fun q y => ?_, fun q => ?_⟩⟩
          · by_cases z : i = p
            · rw [z, xf] at y; cases y
            · rw [q4 i z] at y
              exact (hi i).1 (by omega) y
          · rw [q4 i (by omega)]
            exact (hi i).2 (by omega)
    · rw [hh j d]
      obtain ⟨y, y1, y2, y3⟩ := clr_at (x := j) (s := p) (by omega) (by omega)
      rw [y2, nI_clamp (by omega)]
      have same : (∀ x, x < 2 ^ S → (spc L p x ∨ (x.testBit p = false ∧ ∃ x', x' < j + 1 ∧ spc L p x' ∧ x'.testBit p = true ∧ ∀ i, i ≠ p → x.testBit i = x'.testBit i) ↔ (spc L p x ∨ (x.testBit p = false ∧ ∃ x', x' < j ∧ spc L p x' ∧ x'.testBit p = true ∧ ∀ i, i ≠ p → x.testBit i = x'.testBit i)) ∨ (spc L p j ∧ j.testBit p = true ∧ x = y))) := fun x hx => by
        constructor
        · rintro (q | ⟨q1, x', q2, q3, q4, q5⟩)
          · exact Or.inl (Or.inl q)
          · by_cases z : x' = j
            · subst z
              refine Or.inr ⟨q3, q4, Nat.eq_of_testBit_eq fun i => ?_⟩
              rw [y3]
              by_cases w : p = i
              · subst w; simp [q1]
              · simp [w]; exact q5 i (fun e => w e.symm)
            · exact Or.inl (Or.inr ⟨q1, x', by omega, q3, q4, q5⟩)
        · rintro ((q | ⟨q1, x', q2, q3, q4, q5⟩) | ⟨q1, q2, q3⟩)
          · exact Or.inl q
          · exact Or.inr ⟨q1, x', by omega, q3, q4, q5⟩
          · refine Or.inr ⟨by rw [q3, y3]; simp, j, by omega, q1, q2, fun i hi => ?_⟩
            rw [q3, y3]
            have : ¬ p = i := fun e => hi e.symm
            simp [this]
      refine if_tf (fun f => ⟨vp_in_nI (by omega) (by decide), ?_⟩) (fun f => ?_)
      · rw [nar_1]
        refine ih2 d _ (by rw [k1_up rfl]; exact hk) (hdP_up hh fun x hx => ?_)
        rw [same x hx]
        constructor
        · rintro (q | q)
          · exact Or.inl q
          · exact Or.inr q.2.2
        · rintro (q | q)
          · exact Or.inl q
          · cases jb : j.testBit p with
            | true => exact Or.inr ⟨f.resolve_right (fun z => by rw [jb] at z; cases z.1), rfl, q⟩
            | false =>
              have : y = j := Nat.eq_of_testBit_eq fun i => by
                rw [y3]
                by_cases w : p = i
                · subst w; simp [jb]
                · simp [w]
              rw [q, this]
              exact Or.inl f
      · refine ih2 d _ hk (hdP_c hh fun x hx => ?_)
        rw [same x hx]
        exact ⟨fun q => q.resolve_right (fun z => f (Or.inl z.1)), Or.inl⟩
  · constructor
    · rintro ⟨a, ha, hi⟩
      have : x = a := Nat.eq_of_testBit_eq fun i => (hi i).2 (Nat.zero_le _)
      rw [this]; exact ha
    · exact fun q => ⟨x, q, fun i => ⟨fun z => absurd z (Nat.not_lt_zero _), fun _ => rfl⟩⟩
theorem c_ahead {x y : Nat} (hx : x < 4096) (hy : y < 4096) : C1 (D + 2) 272 [.int (nI x), .int (nI y)] I J (.int (tf (ahd x y))) I J := by
  refine mj_mk (e272 _ _ ?_)
  have cx : C1 (D + 1) 3 [.int (nI x)] I J (.int (nI (pcn 32 x))) I J := c_bcI (by omega)
  have cy : C1 (D + 1) 3 [.int (nI y)] I J (.int (nI (pcn 32 y))) I J := c_bcI (by omega)
  unfold ahd
  generalize nI (pcn 32 x) = u at *
  generalize nI (pcn 32 y) = v at *
  refine ⟨trivial, _, _, _, cx, trivial, _, _, _, cy, if_i (fun c => mzT (Or.inl c)) (fun c => if_i (fun d => if_i (fun f => mzF ?_) (fun f => mzT (Or.inr ⟨d, f⟩))) (fun d => mzF ?_))⟩
  · rintro (q | q)
    · exact c q
    · exact q.2 f
  · rintro (q | q)
    · exact c q
    · exact d q.1
def qaP (I : Nat → Nat → Int32) (J : Nat → Nat → Int64) (W g S x : Nat) : Prop := ∃ r, r ∈ wl W g ∧ ∀ s, s < S → x.testBit s = true → saA I J W s r
theorem c_fewest (h : Rl b W Rn Kn Tn Hn Un g I1 J1 I2 J2) {S : Nat} (hS : I1 53 0 = nI S) (hS2 : S ≤ 12) : ∃ r I' J', C1 (D + 5) 269 [.ref 53, .ref 51, .ref 24] I1 J1 (.int r) I' J' ∧ (r = nI (qr (qaP I1 J1 W g S) (2 ^ S - 1) 1 0) ∧ k1 I' = k1 I1 ∧ J' = J1) := by
  obtain ⟨p1, p2⟩ := pw12 hS2
  obtain ⟨hG, g1, g2, g3, g4, g5⟩ := h.G
  obtain ⟨v, hv⟩ : ∃ v, v = qr (qaP I1 J1 W g S) (2 ^ S - 1) 1 0 := ⟨_, rfl⟩
  rw [← hv]
  refine mj_cI (e269 ?_)
  rw [hS, sh1 (by omega)]
  obtain ⟨Q, hQ⟩ : ∃ Q, Q = qI mj_R1 (fun r I' J' => r = nI v ∧ k1 I' = k1 I1 ∧ J' = J1) := ⟨_, rfl⟩
  rw [← hQ]
  refine lp_up (n := 2 ^ S) (fun i => ∀ I0, k1 I0 = k1 I1 → (∀ x, x < i → I0 57 x = 0) → E1 269 (D + 4) Q 10 [(0, .ref 53), (1, .ref 51), (2, .ref 24), (3, .int (nI (2 ^ S))), (4, .int (nI i))] I0 J1) (fun i hi ih I0 hk hz => ?_) 0 (Nat.zero_le _) I1 rfl (fun x hx => absurd hx (Nat.not_lt_zero x))
  refine mj_on (s269_10 _ _ ?_)
  rw [nI_1, nI_clamp (by omega), nar_0]
  refine if_le (by omega) (by omega) (fun c => ?_) (fun c => ⟨vp_in_nI (by omega) (by decide), ih c _ (by rw [k1_up rfl]; exact hk) fun x hx => by
    by_cases e : x = i
    · rw [e, up_s]
    · rw [up_j e]; exact hz x (by omega)⟩)
  refine lp_up (n := (wl W g).length) (fun n => ∀ I0, k1 I0 = k1 I1 → hdP I0 (2 ^ S) (fun x => ∃ r, r ∈ (wl W g).take n ∧ x = nb S (fun s => saA I1 J1 W s r)) → E1 269 (D + 4) Q 33 [(0, .ref 53), (1, .ref 51), (2, .ref 24), (3, .int (nI (2 ^ S))), (4, .int (nI n))] I0 J1) (fun n hn ih2 I0 hk hh => ?_) 0 (Nat.zero_le _) I0 hk (fun x hx => by
    rw [hz x (by omega), tf_f]
    rintro ⟨r, hr, -⟩
    cases hr)
  refine mj_on (s269_33 _ _ ?_)
  rw [k1_at hk (q := 51) (j := 2) rfl, g4, nI_1]
  refine if_le (by omega) (by omega) (fun d => ?_) (fun d => ?_)
  · rw [tk_e d] at hh
    obtain ⟨I', hc, q1, q2⟩ := c_spread (D := D + 3) (J := J1) (by rw [k1_at hk rfl]; exact hS) hS2 hh
    refine ⟨trivial, _, _, hc, ?_⟩
    have hk' := q1.trans hk
    have hq : ∀ x, x < 2 ^ S → I' 57 x = tf (qaP I1 J1 W g S x) := fun x hx => by
      rw [q2 x hx]
      refine tf_iff ⟨?_, ?_⟩
      · rintro ⟨a, ⟨r, hr, rfl⟩, hi⟩
        exact ⟨r, hr, fun s hs hb => (nb_bit.mp ((hi s).1 hs hb)).2⟩
      · rintro ⟨r, hr, hs⟩
        refine ⟨_, ⟨r, hr, rfl⟩, fun i => ⟨fun q y => nb_bit.mpr ⟨q, hs i q y⟩, fun q => ?_⟩⟩
        have hp := Nat.pow_le_pow_right (n := 2) (by decide) q
        rw [Nat.testBit_lt_two_pow (Nat.lt_of_lt_of_le hx hp), Nat.testBit_lt_two_pow (Nat.lt_of_lt_of_le nb_lt hp)]
    refine lp_up (n := 2 ^ S) (fun i => ∀ f, f < 2 ^ S → 1 ≤ i → qr (qaP I1 J1 W g S) (2 ^ S - i) i f = v → E1 269 (D + 4) Q 73 [(0, .ref 53), (3, .int (nI (2 ^ S))), (4, .int (nI f)), (5, .int (nI i))] I' J1) (fun i hi ih3 f hf hi1 hs => ?_) 1 p1 0 p1 (Nat.le_refl _) hv.symm
    refine mj_on (s269_73 _ _ _ ?_)
    rw [nI_1, nI_clamp (by omega)]
    refine if_le (by omega) (by omega) (fun u => ?_) (fun u => ⟨vp_in_nI (by omega) (by decide), ?_⟩)
    · rw [qr_e u] at hs
      rw [hQ]
      exact ⟨_, _, _, rfl, by rw [hs], hk', rfl⟩
    rw [qr_s u] at hs
    rw [hq i u]
    have no : ¬ (¬ qaP I1 J1 W g S i ∧ (f = 0 ∨ ahd i f)) → E1 269 (D + 4) Q 73 [(0, .ref 53), (3, .int (nI (2 ^ S))), (4, .int (nI f)), (5, .int (nI (i + 1)))] I' J1 := fun z => by
      rw [qr1_f z] at hs
      exact ih3 u f hf (by omega) hs
    have yes : (¬ qaP I1 J1 W g S i ∧ (f = 0 ∨ ahd i f)) → E1 269 (D + 4) Q 73 [(0, .ref 53), (3, .int (nI (2 ^ S))), (4, .int (nI i)), (5, .int (nI (i + 1)))] I' J1 := fun z => by
      rw [qr1_t z] at hs
      exact ih3 u i u (by omega) hs
    refine if_tf (fun y => no fun z => z.1 y) (fun y => if_eq (b := 0) (by omega) (by decide) (fun e => yes ⟨y, Or.inl e⟩) (fun e => ⟨trivial, _, _, _, c_ahead (by omega) (by omega), if_tf (fun z => yes ⟨y, Or.inr z⟩) (fun z => no fun w => ?_)⟩))
    rcases w.2 with w | w
    · exact e w
    · exact z w
  · obtain ⟨r, hr, hm, -⟩ := gt_of d
    have hl := nb_lt (n := S) (p := fun s => saA I1 J1 W s r)
    refine ⟨trivial, _, _, _, c_agSet h hS hS2 hk hr, vp_in_nI (by omega) (by decide), ?_⟩
    rw [nar_1, nI_clamp (by omega)]
    refine ih2 d _ (by rw [k1_up rfl]; exact hk) (hdP_up hh fun x hx => ?_)
    rw [tk_s hr]
    constructor
    · rintro ⟨r', q1, q2⟩
      rcases List.mem_append.mp q1 with z | z
      · exact Or.inl ⟨r', z, q2⟩
      · rw [List.mem_singleton.mp z] at q2
        exact Or.inr q2
    · rintro (⟨r', q1, q2⟩ | q)
      · exact ⟨r', List.mem_append_left _ q1, q2⟩
      · exact ⟨r, List.mem_append_right _ List.mem_cons_self, q⟩
theorem r_isAgreed {S x : Nat} (hI : ∀ k r, (wl W g)[k]? = some r → I 47 k = nI (nb S (fun s => saA I1 J1 W s r))) (hL : (wl W g).length ≤ 455) (hS2 : S ≤ 12) (hx : x < 2 ^ S) : C2 (D + 1) 116 [.ref 0, .int (nI (wl W g).length), .int (nI x)] I J (.int (tf (qaP I1 J1 W g S x))) I J := by
  obtain ⟨p1, p2⟩ := pw12 hS2
  refine mj_mk (e116 _ _ ?_)
  refine lp_up (n := (wl W g).length) (fun i => (∀ k r, k < i → (wl W g)[k]? = some r → ¬ ∀ s, s < S → x.testBit s = true → saA I1 J1 W s r) → E2 116 D (fun q => q = (.int (tf (qaP I1 J1 W g S x)), (I, J, mj_R2))) 2 [(0, .ref 0), (1, .int (nI (wl W g).length)), (2, .int (nI x)), (3, .int (nI i))] I J) (fun i hi ih hp => ?_) 0 (Nat.zero_le _) (fun k r hk => absurd hk (Nat.not_lt_zero k))
  refine mj_on (s116_2 _ _ _ ?_)
  rw [nI_1, nI_clamp (by omega)]
  refine if_le (by omega) (by omega) (fun c => mzF ?_) (fun c => ⟨vp_in_nI (by omega) (by decide), ?_⟩)
  · rintro ⟨r, hr, hs⟩
    obtain ⟨k, hk, rfl⟩ := List.getElem_of_mem hr
    exact hp k _ (by omega) (List.getElem?_eq_getElem hk) hs
  · obtain ⟨r, hr, hm, -⟩ := gt_of c
    rw [hI i r hr, nx_and]
    have hl := nb_lt (n := S) (p := fun s => saA I1 J1 W s r)
    have hle : nb S (fun s => saA I1 J1 W s r) &&& x ≤ x := Nat.and_le_right
    have e : (nb S (fun s => saA I1 J1 W s r) &&& x = x) ↔ ∀ s, s < S → x.testBit s = true → saA I1 J1 W s r := by
      constructor
      · intro q s hs hb
        rw [← q, Nat.testBit_and, Bool.and_eq_true] at hb
        exact (nb_bit.mp hb.1).2
      · intro q
        apply Nat.eq_of_testBit_eq
        intro i
        rw [Nat.testBit_and]
        cases hb : x.testBit i with
        | false => simp
        | true =>
          have hi : i < S := by
            refine Nat.lt_of_not_le fun z => ?_
            rw [Nat.testBit_lt_two_pow (Nat.lt_of_lt_of_le hx (Nat.pow_le_pow_right (by decide) z))] at hb
            cases hb
          rw [nb_bit.mpr ⟨hi, q i hi hb⟩]
          rfl
    refine if_eq (by omega) (by omega) (fun d => mzT ⟨r, hm, e.mp d⟩) (fun d => ih c fun k r' hk hr' => ?_)
    by_cases z : k = i
    · subst z
      rw [hr] at hr'
      cases hr'
      exact fun q => d (e.mpr q)
    · exact hp k r' (by omega) hr'
theorem al_quarrel (h : Rl b W Rn Kn Tn Hn Un g I1 J1 I2 J2) : AI 268 115 [] I1 J1 I2 J2 (Rl b W Rn Kn Tn Hn Un g) := by
  obtain ⟨S, s1, s2, s3, -⟩ := h.S
  obtain ⟨p1, p2⟩ := pw12 s1
  obtain ⟨hG, g1, g2, g3, g4, g5⟩ := h.G
  have hB := h.rB
  obtain ⟨b1, b2, b3, b4, b5, b6⟩ := id hB
  obtain ⟨r, I1', J1', hc, rfl, q1, q5⟩ := c_fewest (D := 894) h s2 s1
  rw [q5] at hc
  obtain ⟨v, hv⟩ : ∃ v, v = qr (qaP I1 J1 W g S) (2 ^ S - 1) 1 0 := ⟨_, rfl⟩
  rw [← hv] at hc
  have cl : C1 900 268 [.ref 0] I1 J1 (.int (nI v)) I1' J1 := mj_mk (D := 899) (e268 ⟨trivial, _, _, _, hc, rfl⟩)
  have hN : wnum g W ≤ 2197 := wnum_le hG.2 b4
  have rf : ∃ r I2' J2', C2 900 115 [.ref 0] I2 J2 (.int r) I2' J2' ∧ (r = nI v ∧ k2 I2' = k2 I2 ∧ J2' = J2) := by
    refine mj_cI (D := 899) (e115 ?_)
    obtain ⟨Q, hQ⟩ : ∃ Q, Q = qI mj_R2 (fun r I' J' => r = nI v ∧ k2 I' = k2 I2 ∧ J' = J2) := ⟨_, rfl⟩
    rw [← hQ]
    refine lp_up (n := wnum g W) (fun n => ∀ I, k2 I = k2 I2 → (∀ k r, (wpre g W n)[k]? = some r → I 47 k = nI (nb S (fun s => saA I1 J1 W s r))) → E2 115 899 Q 4 [(0, .ref 0), (1, .int (nI (wpre g W n).length)), (2, .int (nI n))] I J2) (fun n hn ih I hI ha => ?_) 0 (Nat.zero_le _) I2 rfl (fun k r hr => by cases hr)
    have hpl : (wpre g W n).length ≤ (wl W g).length := by
      rw [← (wl_ok hG.2 b4).1]
      unfold wpre
      have : List.range (wnum g W) = List.range n ++ (List.range' n (wnum g W - n)) := by
        rw [List.range_eq_range', List.range_eq_range']
        have := List.range'_append_1 (s := 0) (m := n) (n := wnum g W - n)
        rw [Nat.zero_add] at this
        rw [this]
        congr 1
        omega
      rw [this, List.filterMap_append, List.length_append]
      omega
    refine mj_on (s115_4 _ _ ?_)
    rw [nI_1, nI_1]
    refine ⟨trivial, _, _, _, r_numbers (rB_k hB hI) (rG_k hG hI), if_le (by omega) (by omega) (fun c => ?_) (fun c => ?_)⟩
    · obtain rfl : n = wnum g W := by omega
      have eL : wpre g W (wnum g W) = wl W g := (wl_ok hG.2 b4).1
      rw [eL] at ha ⊢
      refine lp_up (n := 2 ^ S) (fun i => ∀ f, f < 2 ^ S → 1 ≤ i → qr (qaP I1 J1 W g S) (2 ^ S - i) i f = v → E2 115 899 Q 46 [(0, .ref 0), (1, .int (nI (wl W g).length)), (2, .int (nI f)), (3, .int (nI i))] I J2) (fun i hi ih3 f hf hi1 hs => ?_) 1 p1 0 p1 (Nat.le_refl _) hv.symm
      refine mj_on (s115_46 _ _ _ ?_)
      rw [k2_at hI (q := 0) (j := 68) rfl, s3, sh1 (by omega), nI_1]
      refine if_le (by omega) (by omega) (fun u => ?_) (fun u => ?_)
      · rw [qr_e u] at hs
        rw [hQ]
        exact ⟨_, _, _, rfl, by rw [hs], hI, rfl⟩
      rw [qr_s u] at hs
      have no : ¬ (¬ qaP I1 J1 W g S i ∧ (f = 0 ∨ ahd i f)) → E2 115 899 Q 46 [(0, .ref 0), (1, .int (nI (wl W g).length)), (2, .int (nI f)), (3, .int (nI (i + 1)))] I J2 := fun z => by
        rw [qr1_f z] at hs
        exact ih3 u f hf (by omega) hs
      have yes : (¬ qaP I1 J1 W g S i ∧ (f = 0 ∨ ahd i f)) → E2 115 899 Q 46 [(0, .ref 0), (1, .int (nI (wl W g).length)), (2, .int (nI i)), (3, .int (nI (i + 1)))] I J2 := fun z => by
        rw [qr1_t z] at hs
        exact ih3 u i u (by omega) hs
      refine ⟨trivial, _, _, _, r_isAgreed ha g5 s1 u, if_tf (fun y => no fun z => z.1 y) (fun y => if_eq (b := 0) (by omega) (by decide) (fun e => ?_) (fun e => ?_))⟩
      · refine mj_on (s115_89 _ _ _ _ ?_)
        rw [if_pos (by decide), nI_1]
        exact yes ⟨y, Or.inl e⟩
      · rw [i64_small i (by omega), i64_small f (by omega)]
        have pe : ∀ m, m < 4096 → pcL (lN m) = pcn 32 m := fun m hm => by
          rw [pcL_lN (by omega)]
          exact pcn_big 32 32 m (by omega)
        have ci : C2 899 63 [.long (lN i)] I J2 (.int (nI (pcn 32 i))) I J2 := by rw [← pe i (by omega)]; exact r_bits
        have cf : C2 899 63 [.long (lN f)] I J2 (.int (nI (pcn 32 f))) I J2 := by rw [← pe f (by omega)]; exact r_bits
        unfold ahd at yes no
        generalize nI (pcn 32 i) = pi at *
        generalize nI (pcn 32 f) = pf at *
        refine ⟨trivial, _, _, _, ci, trivial, _, _, _, cf, ?_⟩
        refine mj_on (s115_89 _ _ _ _ ?_)
        rw [nI_1]
        refine if_i (fun z => yes ⟨y, Or.inr (Or.inl z)⟩) (fun z => if_i (fun d => if_i (fun w => no ?_) (fun w => yes ⟨y, Or.inr (Or.inr ⟨d, w⟩)⟩)) (fun d => no ?_))
        · rintro ⟨-, q | q | q⟩
          · exact e q
          · exact z q
          · exact q.2 w
        · rintro ⟨-, q | q | q⟩
          · exact e q
          · exact z q
          · exact d q.1
    · obtain ⟨I', hc, q1, q2⟩ := r_isWeighing (D := 898) (J := J2) (rB_k hB hI) (rG_k hG hI) (by
        refine Nat.pos_of_ne_zero fun e => ?_
        rw [e] at c
        exact absurd c (Nat.not_lt_zero _)) (show n < 2197 by omega)
      have hI' : k2 I' = k2 I2 := (k2_40 q1).trans hI
      have ha' : ∀ k r, (wpre g W n)[k]? = some r → I' 47 k = nI (nb S (fun s => saA I1 J1 W s r)) := fun k r hr => by
        rw [q1 47 (by decide)]
        exact ha k r hr
      refine ⟨trivial, _, _, _, hc, if_tf (fun d => ?_) (fun d => ?_)⟩
      · obtain ⟨r, hr⟩ := Option.ne_none_iff_exists'.mp d
        have hl2 : (wpre g W (n + 1)).length ≤ 455 := by
          have e := (wl_ok hG.2 b4).1
          have : (wpre g W (n + 1)).length ≤ (wl W g).length := by
            rw [← e]
            unfold wpre
            have : List.range (wnum g W) = List.range (n + 1) ++ (List.range' (n + 1) (wnum g W - (n + 1))) := by
              rw [List.range_eq_range', List.range_eq_range']
              have := List.range'_append_1 (s := 0) (m := n + 1) (n := wnum g W - (n + 1))
              rw [Nat.zero_add] at this
              rw [this]
              congr 1
              omega
            rw [this, List.filterMap_append, List.length_append]
            omega
          omega
        rw [wpre_t hr, List.length_append] at hl2
        have hl2 : (wpre g W n).length + 1 ≤ 455 := hl2
        have hs := ih c
        rw [wpre_t hr, List.length_append] at hs
        refine ⟨trivial, _, _, _, r_agreed h hI' s2 s1 (q2 r hr), vp_in_nI (by omega) (by decide), ?_⟩
        rw [nI_clamp (by omega)]
        refine hs _ (by rw [k2_up rfl]; exact hI') (fun k r' hr' => ?_)
        by_cases z : k < (wpre g W n).length
        · rw [List.getElem?_append_left z] at hr'
          rw [up_j (by omega)]
          exact ha' k r' hr'
        · rw [List.getElem?_append_right (by omega)] at hr'
          cases hz : k - (wpre g W n).length with
          | zero =>
            rw [hz] at hr'
            cases hr'
            obtain rfl : k = (wpre g W n).length := by omega
            rw [up_s]
          | succ z => rw [hz] at hr'; cases hr'
      · have d : wval g W n = none := Classical.byContradiction fun q => d q
        have hs := ih c I' hI'
        rw [wpre_f d] at hs
        exact hs ha'
  obtain ⟨r, I2', J2', hc2, rfl, q2, rfl⟩ := rf
  exact ⟨_, _, _, _, _, cl, hc2, Rl_same h q1 rfl q2 rfl⟩
end S65
end
section
/-! person, bar -/
theorem leI {a b : Nat} (ha : a < 2 ^ 31) (hb : b < 2 ^ 31) : nI a ≤ nI b ↔ a ≤ b := by
  rw [Int32.le_iff_toInt_le, nI_toInt ha, nI_toInt hb]
  omega
theorem up4_at {F : Nat → Nat → Int32} {c p q w : Nat} {x y z u : Int32} (hw : w < 4) : mj_up (mj_up (mj_up (mj_up F c (4 * p) x) c (4 * p + 1) y) c (4 * p + 2) z) c (4 * p + 3) u c (4 * q + w) = if q = p then (if w = 0 then x else if w = 1 then y else if w = 2 then z else u) else F c (4 * q + w) := by
  by_cases e : q = p
  · subst e
    rw [if_pos rfl]
    rcases (by omega : w = 0 ∨ w = 1 ∨ w = 2 ∨ w = 3) with rfl | rfl | rfl | rfl
    · rw [up_j (by omega), up_j (by omega), up_j (by omega), Nat.add_zero, up_s]; rfl
    · rw [up_j (by omega), up_j (by omega), up_s]; rfl
    · rw [up_j (by omega), up_s]; rfl
    · rw [up_s]; rfl
  · rw [if_neg e, up_j (by omega), up_j (by omega), up_j (by omega), up_j (by omega)]
theorem up4_c {F : Nat → Nat → Int32} {c k p j : Nat} {x y z u : Int32} (h : k ≠ c) : mj_up (mj_up (mj_up (mj_up F c (4 * p) x) c (4 * p + 1) y) c (4 * p + 2) z) c (4 * p + 3) u k j = F k j := by
  rw [up_c h, up_c h, up_c h, up_c h]
section S66
variable {D b W Rn Kn Tn Hn Un g : Nat} {I I1 I2 : Nat → Nat → Int32} {J J1 J2 : Nat → Nat → Int64}
theorem c_isOne {x : Int32} : C1 (D + 1) 275 [.int x] I J (.int (tf (∃ j, j < 6 ∧ x = nI j))) I J := by
  refine mj_mk (e275 _ ?_)
  rw [show (6 : Int32) = nI 6 from rfl]
  refine if_rg (by decide) (fun j hj e => mzT ⟨j, hj, e⟩) (fun q => mzF fun ⟨j, hj, e⟩ => q j hj e)
theorem r_isPerson {x : Int32} : C2 (D + 1) 119 [.int x] I J (.int (tf (∃ j, j < 6 ∧ x = nI j))) I J := by
  refine mj_mk (e119 _ ?_)
  rw [show (6 : Int32) = nI 6 from rfl]
  refine if_rg (by decide) (fun j hj e => mzT ⟨j, hj, e⟩) (fun q => mzF fun ⟨j, hj, e⟩ => q j hj e)
/-- a weight of the wish w -/
def wtk (W w : Nat) (x : Int32) : Prop := ∃ n, n ≤ 9 ∧ x = nI n ∧ (W ≤ w → n = 0)
theorem wtk_ref {W w : Nat} {x : Int32} (h1 : ¬ x < 0 ∧ ¬ 9 < x) (h2 : W ≤ w → x ≤ 0) : wtk W w x := by
  obtain ⟨n, hn, rfl⟩ := nI_of2 (n := 9) (by decide) h1.1 (Int32.not_lt.mp h1.2)
  exact ⟨n, hn, rfl, fun q => Nat.le_zero.mp ((leI (a := n) (b := 0) (by omega) (by decide)).mp (h2 q))⟩
theorem wtk_of {W w : Nat} {x : Int32} (h : wtk W w x) : (¬ x < 0 ∧ ¬ 9 < x) ∧ (W ≤ w → x ≤ 0) := by
  obtain ⟨n, hn, rfl, hw⟩ := h
  exact ⟨⟨nI_pos (by omega), Int32.not_lt.mpr ((leI (a := n) (b := 9) (by omega) (by decide)).mpr hn)⟩, fun q => by rw [hw q]; decide⟩
theorem c_isWeight {w : Nat} {x : Int32} (hW : W ≤ 4) (hw : w < 4) : C1 (D + 1) 276 [.int x, .int (nI w), .int (nI W)] I J (.int (tf (wtk W w x))) I J := by
  refine mj_mk (e276 _ _ _ ?_)
  refine if_i (fun c => mzF fun q => (wtk_of q).1.1 c) (fun c => if_le (by omega) (by omega) (fun d => if_i (fun f => mzF fun q => absurd ((wtk_of q).2 d) (Int32.not_le.mpr f)) (fun f => mzT ?_)) (fun d => if_i (fun f => mzF fun q => (wtk_of q).1.2 f) (fun f => mzT (wtk_ref ⟨c, f⟩ fun z => ?_))))
  · have f := Int32.not_lt.mp f
    refine wtk_ref ⟨c, fun z => ?_⟩ (fun _ => f)
    exact absurd (Int32.lt_of_lt_of_le z f) (by decide)
  · exact absurd z (by omega)
theorem al_person {x1 x2 x3 x4 x5 : Int32} (h : Rl b W Rn Kn Tn Hn Un g I1 J1 I2 J2) : AI 274 118 [.int x1, .int x2, .int x3, .int x4, .int x5] I1 J1 I2 J2 (Rl b W Rn Kn Tn Hn Un g) := by
  obtain ⟨a1, a2, -⟩ := h.N
  have hB := h.rB
  obtain ⟨b1, b2, b3, b4, b5, b6⟩ := id hB
  have hv0 : vp_in 0 6 := vp_in_nI (n := 0) (by decide) (by decide)
  by_cases all : (∃ j, j < 6 ∧ x1 = nI j) ∧ wtk W 0 x2 ∧ wtk W 1 x3 ∧ wtk W 2 x4 ∧ wtk W 3 x5
  · obtain ⟨h0, k2', k3, k4, k5⟩ := id all
    obtain ⟨p, hp, rfl⟩ := h0
    obtain ⟨n2, m2, rfl, z2⟩ := id k2'
    obtain ⟨n3, m3, rfl, z3⟩ := id k3
    obtain ⟨n4, m4, rfl, z4⟩ := id k4
    obtain ⟨n5, m5, rfl, z5⟩ := id k5
    obtain ⟨f, hf⟩ : ∃ f : Nat → Nat, f = fun w => if w = 0 then n2 else if w = 1 then n3 else if w = 2 then n4 else n5 := ⟨_, rfl⟩
    have hff : ∀ w, w < 4 → (if w = 0 then nI n2 else if w = 1 then nI n3 else if w = 2 then nI n4 else nI n5) = nI (f w) ∧ f w ≤ 9 ∧ (W ≤ w → f w = 0) := fun w hw => by
      rw [hf]
      rcases (by omega : w = 0 ∨ w = 1 ∨ w = 2 ∨ w = 3) with rfl | rfl | rfl | rfl
      · exact ⟨rfl, m2, z2⟩
      · exact ⟨rfl, m3, z3⟩
      · exact ⟨rfl, m4, z4⟩
      · exact ⟨rfl, m5, z5⟩
    have hz : (((nI n2 ||| nI n3) ||| nI n4) ||| nI n5) = nI (n2 ||| n3 ||| n4 ||| n5) := by rw [nx_or, nx_or, nx_or]
    have hz0 : (((nI n2 ||| nI n3) ||| nI n4) ||| nI n5) = 0 ↔ ∀ w, w < 4 → f w = 0 := by
      rw [hz]
      have hl : ∀ {x y : Nat}, x < 16 → y < 16 → x ||| y < 16 := fun h1 h2 => Nat.or_lt_two_pow (n := 4) h1 h2
      have hb : n2 ||| n3 ||| n4 ||| n5 < 16 := hl (hl (hl (by omega) (by omega)) (by omega)) (by omega)
      rw [show (0 : Int32) = nI 0 from rfl, nI_eq (by omega) (by decide), Nat.or_eq_zero_iff, Nat.or_eq_zero_iff, Nat.or_eq_zero_iff, hf]
      constructor
      · rintro ⟨⟨⟨q1, q2⟩, q3⟩, q4⟩ w hw
        rcases (by omega : w = 0 ∨ w = 1 ∨ w = 2 ∨ w = 3) with rfl | rfl | rfl | rfl
        · exact q1
        · exact q2
        · exact q3
        · exact q4
      · exact fun q => ⟨⟨⟨q 0 (by decide), q 1 (by decide)⟩, q 2 (by decide)⟩, q 3 (by decide)⟩
    have ix : ∀ (j : Nat), j < 4 → nI p * 4 + nI j = nI (4 * p + j) ∧ vp_in (nI (4 * p + j)) 24 := fun j hj => ⟨ix4 _ _, vp_in_nI (by omega) (by decide)⟩
    obtain ⟨F1, hF1⟩ : ∃ F1, F1 = mj_up (mj_up (mj_up (mj_up I1 59 (4 * p) (nI n2)) 59 (4 * p + 1) (nI n3)) 59 (4 * p + 2) (nI n4)) 59 (4 * p + 3) (nI n5) := ⟨_, rfl⟩
    obtain ⟨F2, hF2⟩ : ∃ F2, F2 = mj_up (mj_up (mj_up (mj_up I2 48 (4 * p) (nI n2)) 48 (4 * p + 1) (nI n3)) 48 (4 * p + 2) (nI n4)) 48 (4 * p + 3) (nI n5) := ⟨_, rfl⟩
    have at1 : ∀ q w, w < 4 → F1 59 (4 * q + w) = if q = p then nI (f w) else I1 59 (4 * q + w) := fun q w hw => by rw [hF1, up4_at hw, (hff w hw).1]
    have at2 : ∀ q w, w < 4 → F2 48 (4 * q + w) = if q = p then nI (f w) else I2 48 (4 * q + w) := fun q w hw => by rw [hF2, up4_at hw, (hff w hw).1]
    have c1 : ∀ k j, k ≠ 59 → F1 k j = I1 k j := fun k j hk => by rw [hF1, up4_c hk]
    have rl : ∀ v : Int32, ((v = 0 ∧ ∀ w, w < 4 → f w = 0) ∨ (v = 1 ∧ ∃ w, w < 4 ∧ f w ≠ 0)) → Rl b W Rn Kn Tn Hn Un g (mj_up F1 60 p v) J1 F2 J2 := fun v hv => by
      refine Rl_P h ?_ rfl ?_ rfl ?_
      · rw [mkI_up rfl, hF1, mkI_up rfl, mkI_up rfl, mkI_up rfl, mkI_up rfl]
      · rw [hF2, mkI_up rfl, mkI_up rfl, mkI_up rfl, mkI_up rfl]
      · intro q hq
        obtain ⟨o1, o2, o3⟩ := h.2.2.2.2.2.2.2.2.2.1 q hq
        by_cases e : q = p
        · subst e
          refine ⟨o1, fun w hw => ⟨f w, (hff w hw).2.1, by rw [at2 q w hw, if_pos rfl], (hff w hw).2.2⟩, ?_⟩
          rw [up_s]
          rcases hv with ⟨rfl, hv⟩ | ⟨rfl, w, hw, hv⟩
          · exact Or.inl ⟨rfl, fun w hw => by rw [at2 q w hw, if_pos rfl, hv w hw]⟩
          · refine Or.inr ⟨rfl, fun w hw => by rw [up_c (by decide), at1 q w hw, at2 q w hw, if_pos rfl, if_pos rfl], w, hw, ?_⟩
            rw [at2 q w hw, if_pos rfl]
            have := (hff w hw).2.1
            exact fun z => hv ((nI_eq (by omega) (by decide)).mp z)
        · have o2' : ∀ w, w < 4 → F2 48 (4 * q + w) = I2 48 (4 * q + w) := fun w hw => by rw [at2 q w hw, if_neg e]
          have o1' : ∀ w, w < 4 → mj_up F1 60 p v 59 (4 * q + w) = I1 59 (4 * q + w) := fun w hw => by rw [up_c (by decide), at1 q w hw, if_neg e]
          refine ⟨o1, fun w hw => by rw [o2' w hw]; exact o2 w hw, ?_⟩
          rw [up_j e, c1 60 q (by decide)]
          rcases o3 with ⟨y1, y2⟩ | ⟨y1, y2, w, y3, y4⟩
          · exact Or.inl ⟨y1, fun w hw => by rw [o2' w hw]; exact y2 w hw⟩
          · exact Or.inr ⟨y1, fun w hw => by rw [o2' w hw, o1' w hw]; exact y2 w hw, w, y3, by rw [o2' w y3]; exact y4⟩
    have rf : C2 900 118 [.ref 0, .int (nI p), .int (nI n2), .int (nI n3), .int (nI n4), .int (nI n5)] I2 J2 (.int 1) F2 J2 := by
      obtain ⟨g2, y2⟩ := wtk_of k2'
      obtain ⟨g3, y3⟩ := wtk_of k3
      obtain ⟨g4, y4⟩ := wtk_of k4
      obtain ⟨g5, y5⟩ := wtk_of k5
      refine mj_mk (D := 899) (e118 _ _ _ _ _ ?_)
      refine ⟨trivial, _, _, _, r_isPerson, if_tf (fun _ => ?_) (fun q => absurd ⟨p, hp, rfl⟩ q)⟩
      refine ⟨trivial, _, _, _, r_is, if_tf (fun _ => ?_) (fun q => absurd g2 q)⟩
      refine ⟨trivial, _, _, _, r_is, if_tf (fun _ => ?_) (fun q => absurd g3 q)⟩
      refine ⟨trivial, _, _, _, r_is, if_tf (fun _ => ?_) (fun q => absurd g4 q)⟩
      refine ⟨trivial, _, _, _, r_is, if_tf (fun _ => ?_) (fun q => absurd g5 q)⟩
      rw [b1, nI_clamp (by omega), b3]
      refine ⟨vp_in_nI b2 (by decide), ?_⟩
      have go4 : E2 118 899 (fun q => q = (.int 1, (F2, J2, mj_R2))) 106 [(0, .ref 0), (1, .int (nI p)), (2, .int (nI n2)), (3, .int (nI n3)), (4, .int (nI n4)), (5, .int (nI n5))] I2 J2 := by
        refine mj_on (s118_106 _ _ _ _ _ ?_)
        rw [show (4 : Int32) * nI p = nI (4 * p) from pk_mul 4 p, show (1 : Int32) = nI 1 from rfl, show (2 : Int32) = nI 2 from rfl, show (3 : Int32) = nI 3 from rfl, nI_add, nI_add, nI_add, nI_clamp (by omega), nI_clamp (by omega), nI_clamp (by omega), nI_clamp (by omega), ← hF2]
        exact ⟨vp_in_nI (by omega) (by decide), vp_in_nI (by omega) (by decide), vp_in_nI (by omega) (by decide), vp_in_nI (by omega) (by decide), mj_on (s118_150 ⟨Or.inr rfl, rfl⟩)⟩
      have go3 : E2 118 899 (fun q => q = (.int 1, (F2, J2, mj_R2))) 93 [(0, .ref 0), (1, .int (nI p)), (2, .int (nI n2)), (3, .int (nI n3)), (4, .int (nI n4)), (5, .int (nI n5)), (6, .int (nI W))] I2 J2 :=
        mj_on (s118_93 _ _ _ _ _ _ (if_le (a := 4) (by decide) (by omega) (fun z => go4) (fun z => if_i (fun _ => go4) (fun y => absurd (y5 (by omega)) y))))
      have go2 : E2 118 899 (fun q => q = (.int 1, (F2, J2, mj_R2))) 82 [(0, .ref 0), (1, .int (nI p)), (2, .int (nI n2)), (3, .int (nI n3)), (4, .int (nI n4)), (5, .int (nI n5)), (6, .int (nI W))] I2 J2 :=
        mj_on (s118_82 _ _ _ _ _ _ (if_le (a := 3) (by decide) (by omega) (fun z => go3) (fun z => if_i (fun _ => go3) (fun y => absurd (y4 (by omega)) y))))
      have go1 : E2 118 899 (fun q => q = (.int 1, (F2, J2, mj_R2))) 72 [(0, .ref 0), (1, .int (nI p)), (2, .int (nI n2)), (3, .int (nI n3)), (4, .int (nI n4)), (5, .int (nI n5)), (6, .int (nI W))] I2 J2 :=
        mj_on (s118_72 _ _ _ _ _ _ (if_le (a := 2) (by decide) (by omega) (fun z => go2) (fun z => if_i (fun _ => go2) (fun y => absurd (y3 (by omega)) y))))
      exact if_le (a := 1) (by decide) (by omega) (fun z => go1) (fun z => if_i (fun _ => go1) (fun y => absurd (y2 (by omega)) y))
    have cl : ∃ v : Int32, C1 900 274 [.ref 0, .int (nI p), .int (nI n2), .int (nI n3), .int (nI n4), .int (nI n5)] I1 J1 (.int 1) (mj_up F1 60 p v) J1 ∧ ((v = 0 ∧ ∀ w, w < 4 → f w = 0) ∨ (v = 1 ∧ ∃ w, w < 4 ∧ f w ≠ 0)) := by
      have main : ∀ v : Int32, (E1 274 899 (fun q => q = (.int 1, (mj_up F1 60 p v, J1, mj_R1))) 119 [(0, .ref 0), (1, .int (nI p)), (2, .int (nI n2)), (3, .int (nI n3)), (4, .int (nI n4)), (5, .int (nI n5))] F1 J1) → C1 900 274 [.ref 0, .int (nI p), .int (nI n2), .int (nI n3), .int (nI n4), .int (nI n5)] I1 J1 (.int 1) (mj_up F1 60 p v) J1 := fun v e => by
        refine mj_mk (D := 899) (e274 _ _ _ _ _ ?_)
        rw [show ((0 : Int32)).toNatClampNeg = 0 from rfl, a1]
        refine ⟨hv0, trivial, _, _, _, c_isOne, if_tf (fun _ => ?_) (fun q => absurd ⟨p, hp, rfl⟩ q)⟩
        refine ⟨trivial, _, _, _, c_isWeight (w := 0) b4 (by decide), if_tf (fun _ => ?_) (fun q => absurd k2' q)⟩
        refine ⟨trivial, _, _, _, c_isWeight (w := 1) b4 (by decide), if_tf (fun _ => ?_) (fun q => absurd k3 q)⟩
        refine ⟨trivial, _, _, _, c_isWeight (w := 2) b4 (by decide), if_tf (fun _ => ?_) (fun q => absurd k4 q)⟩
        refine ⟨trivial, _, _, _, c_isWeight (w := 3) b4 (by decide), if_tf (fun _ => ?_) (fun q => absurd k5 q)⟩
        rw [ix4m, show (1 : Int32) = nI 1 from rfl, show (2 : Int32) = nI 2 from rfl, show (3 : Int32) = nI 3 from rfl, nI_add, nI_add, nI_add, nI_clamp (by omega), nI_clamp (by omega), nI_clamp (by omega), nI_clamp (by omega), ← hF1]
        exact ⟨vp_in_nI (by omega) (by decide), vp_in_nI (by omega) (by decide), vp_in_nI (by omega) (by decide), vp_in_nI (by omega) (by decide), e⟩
      by_cases z : ∀ w, w < 4 → f w = 0
      · refine ⟨0, main 0 (mj_on (s274_119 _ _ _ _ _ ?_)), Or.inl ⟨rfl, z⟩⟩
        rw [if_pos (hz0.mpr z), nar_0, nI_clamp (by omega)]
        exact ⟨vp_in_nI hp (by decide), Or.inr rfl, rfl⟩
      · refine ⟨1, main 1 (mj_on (s274_119 _ _ _ _ _ ?_)), Or.inr ⟨rfl, ?_⟩⟩
        · rw [if_neg (fun q => z (hz0.mp q)), nar_1, nI_clamp (by omega)]
          exact ⟨vp_in_nI hp (by decide), Or.inr rfl, rfl⟩
        · refine Classical.byContradiction fun q => z fun w hw => Classical.byContradiction fun y => q ⟨w, hw, y⟩
    obtain ⟨v, hc, hv⟩ := cl
    exact ⟨_, _, _, _, _, hc, rf, rl v hv⟩
  · refine AI.same 0 (mj_mk (D := 899) (e274 _ _ _ _ _ ?_)) (mj_mk (D := 899) (e118 _ _ _ _ _ ?_)) h
    · rw [show ((0 : Int32)).toNatClampNeg = 0 from rfl, a1]
      refine ⟨hv0, trivial, _, _, _, c_isOne, if_tf (fun q1 => ?_) (fun _ => ⟨Or.inl rfl, rfl⟩)⟩
      refine ⟨trivial, _, _, _, c_isWeight (w := 0) b4 (by decide), if_tf (fun q2 => ?_) (fun _ => ⟨Or.inl rfl, rfl⟩)⟩
      refine ⟨trivial, _, _, _, c_isWeight (w := 1) b4 (by decide), if_tf (fun q3 => ?_) (fun _ => ⟨Or.inl rfl, rfl⟩)⟩
      refine ⟨trivial, _, _, _, c_isWeight (w := 2) b4 (by decide), if_tf (fun q4 => ?_) (fun _ => ⟨Or.inl rfl, rfl⟩)⟩
      refine ⟨trivial, _, _, _, c_isWeight (w := 3) b4 (by decide), if_tf (fun q5 => ?_) (fun _ => ⟨Or.inl rfl, rfl⟩)⟩
      exact absurd ⟨q1, q2, q3, q4, q5⟩ all
    · refine ⟨trivial, _, _, _, r_isPerson, if_tf (fun q1 => ?_) (fun _ => ⟨Or.inl rfl, rfl⟩)⟩
      refine ⟨trivial, _, _, _, r_is, if_tf (fun q2 => ?_) (fun _ => ⟨Or.inl rfl, rfl⟩)⟩
      refine ⟨trivial, _, _, _, r_is, if_tf (fun q3 => ?_) (fun _ => ⟨Or.inl rfl, rfl⟩)⟩
      refine ⟨trivial, _, _, _, r_is, if_tf (fun q4 => ?_) (fun _ => ⟨Or.inl rfl, rfl⟩)⟩
      refine ⟨trivial, _, _, _, r_is, if_tf (fun q5 => ?_) (fun _ => ⟨Or.inl rfl, rfl⟩)⟩
      rw [b1, nI_clamp (by omega), b3]
      refine ⟨vp_in_nI b2 (by decide), ?_⟩
      have go : ∀ (w1 : W ≤ 0 → x2 ≤ 0), E2 118 899 (fun q => q = (.int 0, (I2, J2, mj_R2))) 72 [(0, .ref 0), (1, .int x1), (2, .int x2), (3, .int x3), (4, .int x4), (5, .int x5), (6, .int (nI W))] I2 J2 := fun w1 => by
        refine mj_on (s118_72 _ _ _ _ _ _ ?_)
        have go : ∀ (w2 : W ≤ 1 → x3 ≤ 0), E2 118 899 (fun q => q = (.int 0, (I2, J2, mj_R2))) 82 [(0, .ref 0), (1, .int x1), (2, .int x2), (3, .int x3), (4, .int x4), (5, .int x5), (6, .int (nI W))] I2 J2 := fun w2 => by
          refine mj_on (s118_82 _ _ _ _ _ _ ?_)
          have go : ∀ (w3 : W ≤ 2 → x4 ≤ 0), E2 118 899 (fun q => q = (.int 0, (I2, J2, mj_R2))) 93 [(0, .ref 0), (1, .int x1), (2, .int x2), (3, .int x3), (4, .int x4), (5, .int x5), (6, .int (nI W))] I2 J2 := fun w3 => by
            refine mj_on (s118_93 _ _ _ _ _ _ ?_)
            have no : ∀ w4 : W ≤ 3 → x5 ≤ 0, False := fun w4 => all ⟨q1, wtk_ref q2 w1, wtk_ref q3 w2, wtk_ref q4 w3, wtk_ref q5 w4⟩
            exact if_le (a := 4) (by decide) (by omega) (fun z => (no fun y => by omega).elim) (fun z => if_i (fun y => (no fun _ => y).elim) (fun _ => ⟨Or.inl rfl, rfl⟩))
          exact if_le (a := 3) (by decide) (by omega) (fun z => go fun y => by omega) (fun z => if_i (fun y => go fun _ => y) (fun _ => ⟨Or.inl rfl, rfl⟩))
        exact if_le (a := 2) (by decide) (by omega) (fun z => go fun y => by omega) (fun z => if_i (fun y => go fun _ => y) (fun _ => ⟨Or.inl rfl, rfl⟩))
      exact if_le (a := 1) (by decide) (by omega) (fun z => go fun y => by omega) (fun z => if_i (fun y => go fun _ => y) (fun _ => ⟨Or.inl rfl, rfl⟩))
theorem al_bar {x1 x2 x3 : Int32} (h : Rl b W Rn Kn Tn Hn Un g I1 J1 I2 J2) : AI 277 120 [.int x1, .int x2, .int x3] I1 J1 I2 J2 (Rl b W Rn Kn Tn Hn Un g) := by
  obtain ⟨a1, a2, -⟩ := h.N
  have hB := h.rB
  obtain ⟨b1, b2, b3, b4, b5, b6⟩ := id hB
  by_cases all : (∃ j, j < 6 ∧ x1 = nI j) ∧ ∃ j, j < Rn ∧ x2 = nI j
  · obtain ⟨⟨p, hp, rfl⟩, ⟨r, hr, rfl⟩⟩ := id all
    have rl : ∀ v : Int64, Rl b W Rn Kn Tn Hn Un g I1 (mj_up J1 61 p v) I2 (mj_up J2 49 p v) := fun v => by
      refine Rl_P h rfl (mkJ_up rfl) rfl (mkJ_up rfl) fun q hq => ?_
      obtain ⟨o1, o2, o3⟩ := h.2.2.2.2.2.2.2.2.2.1 q hq
      refine ⟨?_, o2, o3⟩
      by_cases e : q = p
      · rw [e]
        show mj_up J2 49 p v 49 p = mj_up J1 61 p v 61 p
        simp [mj_up]
      · show mj_up J2 49 p v 49 q = mj_up J1 61 p v 61 q
        simp [mj_up, e, o1]
    have e49 : J2 49 p = J1 61 p := (h.2.2.2.2.2.2.2.2.2.1 p hp).1
    have hv : vp_in (nI p) 6 := vp_in_nI hp (by decide)
    by_cases c : x3 = 0
    · refine ⟨1, I1, mj_up J1 61 p ((J1 61 p) &&& (((1 : Int64) <<< ((nI r).toInt64 &&& 63)) ^^^ (-1))), I2, mj_up J2 49 p ((J1 61 p) &&& (((1 : Int64) <<< ((nI r).toInt64 &&& 63)) ^^^ (-1))), mj_mk (D := 899) (e277 _ _ _ ?_), mj_mk (D := 899) (e120 _ _ _ ?_), rl _⟩
      · refine ⟨trivial, _, _, _, c_isOne, if_tf (fun _ => ?_) (fun q => absurd ⟨p, hp, rfl⟩ q)⟩
        refine ⟨trivial, _, _, _, c_there (k := 1) a2 b6 (by decide), if_tf (fun _ => ?_) (fun q => absurd ⟨r, hr, rfl⟩ q)⟩
        rw [if_pos c, nI_clamp (by omega)]
        exact ⟨hv, hv, Or.inr rfl, rfl⟩
      · refine ⟨trivial, _, _, _, r_isPerson, if_tf (fun _ => ?_) (fun q => absurd ⟨p, hp, rfl⟩ q)⟩
        refine ⟨trivial, _, _, _, r_isRow hB, if_tf (fun _ => ?_) (fun q => absurd ⟨r, hr, rfl⟩ q)⟩
        rw [if_pos c, nI_clamp (by omega), e49]
        exact ⟨hv, hv, Or.inr rfl, rfl⟩
    · refine ⟨1, I1, mj_up J1 61 p ((J1 61 p) ||| ((1 : Int64) <<< ((nI r).toInt64 &&& 63))), I2, mj_up J2 49 p ((J1 61 p) ||| ((1 : Int64) <<< ((nI r).toInt64 &&& 63))), mj_mk (D := 899) (e277 _ _ _ ?_), mj_mk (D := 899) (e120 _ _ _ ?_), rl _⟩
      · refine ⟨trivial, _, _, _, c_isOne, if_tf (fun _ => ?_) (fun q => absurd ⟨p, hp, rfl⟩ q)⟩
        refine ⟨trivial, _, _, _, c_there (k := 1) a2 b6 (by decide), if_tf (fun _ => ?_) (fun q => absurd ⟨r, hr, rfl⟩ q)⟩
        rw [if_neg c, nI_clamp (by omega)]
        exact ⟨hv, hv, Or.inr rfl, rfl⟩
      · refine ⟨trivial, _, _, _, r_isPerson, if_tf (fun _ => ?_) (fun q => absurd ⟨p, hp, rfl⟩ q)⟩
        refine ⟨trivial, _, _, _, r_isRow hB, if_tf (fun _ => ?_) (fun q => absurd ⟨r, hr, rfl⟩ q)⟩
        rw [if_neg c, nI_clamp (by omega), e49]
        exact ⟨hv, hv, Or.inr rfl, rfl⟩
  · refine AI.same 0 (mj_mk (D := 899) (e277 _ _ _ ?_)) (mj_mk (D := 899) (e120 _ _ _ ?_)) h
    · refine ⟨trivial, _, _, _, c_isOne, if_tf (fun q1 => ?_) (fun _ => ⟨Or.inl rfl, rfl⟩)⟩
      exact ⟨trivial, _, _, _, c_there (k := 1) a2 b6 (by decide), if_tf (fun q2 => absurd ⟨q1, q2⟩ all) (fun _ => ⟨Or.inl rfl, rfl⟩)⟩
    · refine ⟨trivial, _, _, _, r_isPerson, if_tf (fun q1 => ?_) (fun _ => ⟨Or.inl rfl, rfl⟩)⟩
      exact ⟨trivial, _, _, _, r_isRow hB, if_tf (fun q2 => absurd ⟨q1, q2⟩ all) (fun _ => ⟨Or.inl rfl, rfl⟩)⟩
end S66
end
section
/-! those who have a say: what they weigh, whom they put where -/
theorem upJ_s {f : Nat → Nat → Int64} {q j : Nat} {v : Int64} : mj_up f q j v q j = v := by simp [mj_up]
theorem ct_up {p : Nat → Prop} {n : Nat} : ∀ {m : Nat}, n ≤ m → (∀ i, n ≤ i → i < m → ¬ p i) → ct m p = ct n p
  | 0, h, _ => by rw [show n = 0 by omega]
  | m + 1, h, q => by
    by_cases e : n = m + 1
    · rw [e]
    · rw [ct_f (q m (by omega) (by omega))]
      exact ct_up (by omega) fun i h1 h2 => q i h1 (by omega)
theorem ct_pos {p : Nat → Prop} : ∀ {n : Nat}, 0 < ct n p ↔ ∃ i, i < n ∧ p i
  | 0 => ⟨fun h => absurd h (Nat.lt_irrefl 0), fun ⟨i, h, _⟩ => absurd h (Nat.not_lt_zero i)⟩
  | n + 1 => by
    rcases Classical.em (p n) with h | h
    · rw [ct_t h]
      exact ⟨fun _ => ⟨n, by omega, h⟩, fun _ => by omega⟩
    · rw [ct_f h, ct_pos]
      refine ⟨fun ⟨i, h1, h2⟩ => ⟨i, by omega, h2⟩, fun ⟨i, h1, h2⟩ => ⟨i, ?_, h2⟩⟩
      by_cases e : i = n
      · exact absurd (e ▸ h2) h
      · omega
def vot (I : Nat → Nat → Int32) (p : Nat) : Prop := I 60 p ≠ 0
def pwo (I : Nat → Nat → Int32) (p r : Nat) : Nat → Int32
  | 0 => 0
  | k + 1 => pwo I p r k + I 59 (4 * p + k) * I 25 (4 * r + k)
def cnd (J : Nat → Nat → Int64) : Nat → Int64
  | 0 => J 24 6
  | k + 1 => cnd J k &&& (J 61 k ^^^ (-1))
def aP (I : Nat → Nat → Int32) (W p o u : Nat) : Prop := pwo I p o W < pwo I p u W ∨ (pwo I p o W = pwo I p u W ∧ o < u)
noncomputable def vN (I : Nat → Nat → Int32) : Nat := ct 6 (vot I)
def wn (I : Nat → Nat → Int32) (W o u : Nat) : Prop := vN I < 2 * ct 6 (fun p => vot I p ∧ aP I W p o u)
noncomputable def rk (I : Nat → Nat → Int32) (W Rn : Nat) (C : Int64) (p u : Nat) : Nat := ct Rn (fun o => lbit C o ∧ aP I W p o u)
theorem cnd_bit {J : Nat → Nat → Int64} {i : Nat} : ∀ {k : Nat}, lbit (cnd J k) i → lbit (J 24 6) i
  | 0, h => h
  | k + 1, h => by
    refine cnd_bit (k := k) ?_
    unfold lbit cnd at h
    rw [Int64.toBitVec_and, BitVec.getLsbD_and, Bool.and_eq_true] at h
    exact h.1
section S67
variable {D b W Rn Kn Tn Hn Un g : Nat} {I I1 I2 : Nat → Nat → Int32} {J J1 J2 : Nat → Nat → Int64}
theorem Rl.cbit (h : Rl b W Rn Kn Tn Hn Un g I1 J1 I2 J2) {i : Nat} (q : lbit (cnd J1 6) i) : i < Rn := by
  have q := cnd_bit q
  rw [h.2.2.2.2.1.2.2.2.2] at q
  exact ((bs_bit (by have := h.rB.2.2.2.2.2; omega) i).mp q).1
theorem Rl.vw (h : Rl b W Rn Kn Tn Hn Un g I1 J1 I2 J2) {p : Nat} (hp : p < 6) : (I1 60 p = 0 ∨ I1 60 p = 1) ∧ (vot I1 p ↔ ∃ w, w < 4 ∧ I2 48 (4 * p + w) ≠ nI 0) ∧ (vot I1 p → ∀ w, w < 4 → I1 59 (4 * p + w) = I2 48 (4 * p + w)) ∧ ∀ w, w < 4 → ∃ x, x ≤ 9 ∧ I2 48 (4 * p + w) = nI x := by
  obtain ⟨o1, o2, o3⟩ := h.2.2.2.2.2.2.2.2.2.1 p hp
  have o4 : ∀ w, w < 4 → ∃ x, x ≤ 9 ∧ I2 48 (4 * p + w) = nI x := fun w hw => by
    obtain ⟨x, q1, q2, -⟩ := o2 w hw
    exact ⟨x, q1, q2⟩
  rcases o3 with ⟨y1, y2⟩ | ⟨y1, y2, y3⟩
  · exact ⟨Or.inl y1, ⟨fun q => absurd y1 q, fun ⟨w, hw, q⟩ => absurd (y2 w hw) q⟩, fun q => absurd y1 q, o4⟩
  · exact ⟨Or.inr y1, ⟨fun _ => y3, fun _ => by unfold vot; rw [y1]; decide⟩, fun _ => y2, o4⟩
theorem Rl.prng (h : Rl b W Rn Kn Tn Hn Un g I1 J1 I2 J2) {p r : Nat} (hp : p < 6) (hv : vot I1 p) (hr : r < Rn) : ∀ k, k ≤ W → ∃ z : Int, -(89991 * (k : Int)) ≤ z ∧ z ≤ 89991 * (k : Int) ∧ pwo I1 p r k = iI z
  | 0, _ => ⟨0, by omega, by omega, rfl⟩
  | k + 1, hk => by
    obtain ⟨z, z1, z2, z3⟩ := h.prng hp hv hr k (by omega)
    obtain ⟨y, y1, y2, y3⟩ := h.lrng hr (w := k) (by omega)
    have b4 := h.rB.2.2.2.1
    obtain ⟨-, -, q3, q4⟩ := h.vw hp
    obtain ⟨x, x1, x2⟩ := q4 k (by omega)
    refine ⟨z + x * y, ?_, ?_, ?_⟩
    · have : -(9 * 9999 : Int) ≤ x * y := by
        have e1 : (x : Int) * y ≥ x * (-9999) := Int.mul_le_mul_of_nonneg_left y1 (by omega)
        omega
      rw [Int.natCast_add, Int.mul_add]
      omega
    · have : x * y ≤ (9 * 9999 : Int) := by
        have e1 : (x : Int) * y ≤ x * 9999 := Int.mul_le_mul_of_nonneg_left y2 (by omega)
        omega
      rw [Int.natCast_add, Int.mul_add]
      omega
    · show pwo I1 p r k + I1 59 (4 * p + k) * I1 25 (4 * r + k) = _
      rw [z3, y3, q3 hv k (by omega), x2, ← iI_nI, iI_mul, iI_add]
theorem Rl.acmp (h : Rl b W Rn Kn Tn Hn Un g I1 J1 I2 J2) {p o u : Nat} (hp : p < 6) (hv : vot I1 p) (ho : o < Rn) (hu : u < Rn) : (pwo I1 p o W - pwo I1 p u W < 0 ↔ pwo I1 p o W < pwo I1 p u W) ∧ (pwo I1 p o W - pwo I1 p u W = 0 ↔ pwo I1 p o W = pwo I1 p u W) := by
  have b4 := h.rB.2.2.2.1
  obtain ⟨z, z1, z2, z3⟩ := h.prng hp hv ho W (Nat.le_refl _)
  obtain ⟨y, y1, y2, y3⟩ := h.prng hp hv hu W (Nat.le_refl _)
  have hW : (W : Int) ≤ 4 := by omega
  rw [z3, y3, iI_sub]
  constructor
  · rw [Int32.lt_iff_toInt_lt, Int32.lt_iff_toInt_lt, iI_toInt (by omega) (by omega), iI_toInt (by omega) (by omega), iI_toInt (by omega) (by omega)]
    show z - y < 0 ↔ _
    omega
  · rw [show (0 : Int32) = iI 0 from rfl, ← Int32.toInt_inj, ← Int32.toInt_inj, iI_toInt (by omega) (by omega), iI_toInt (by omega) (by omega), iI_toInt (by omega) (by omega), iI_toInt (by omega) (by omega)]
    omega
/-- what the class has gathered -/
def gat (I1 : Nat → Nat → Int32) (J1 : Nat → Nat → Int64) (W Rn n : Nat) (I : Nat → Nat → Int32) (J : Nat → Nat → Int64) : Prop := k1 I = k1 I1 ∧ kJ1 J = kJ1 J1 ∧ I 58 4 = nI (ct n (vot I1)) ∧ J 58 5 = cnd J1 n ∧ ∀ p, p < n → vot I1 p → ∀ r, r < Rn → I 62 (40 * p + r) = pwo I1 p r W
theorem c_weighAll (h : Rl b W Rn Kn Tn Hn Un g I1 J1 I2 J2) {p : Nat} (hp : p < 6) (hk : k1 I = k1 I1) : ∃ I' J', C1 (D + 1) 280 [.ref 58, .int (nI p), .ref 24] I J .null I' J' ∧ J' = J ∧ (∀ q, q ≠ 62 → I' q = I q) ∧ (∀ j, j < 40 * p → I' 62 j = I 62 j) ∧ ∀ r, r < Rn → I' 62 (40 * p + r) = pwo I1 p r W := by
  obtain ⟨w1, w2, w3, w4⟩ := h.W24
  refine mj_cN (e280 _ ?_)
  refine lp_up (n := Rn) (fun r => ∀ I', (∀ q, q ≠ 62 → I' q = I q) → (∀ j, j < 40 * p → I' 62 j = I 62 j) → (∀ o, o < r → I' 62 (40 * p + o) = pwo I1 p o W) → E1 280 D (qN mj_R1 (fun I' J' => J' = J ∧ (∀ q, q ≠ 62 → I' q = I q) ∧ (∀ j, j < 40 * p → I' 62 j = I 62 j) ∧ ∀ r, r < Rn → I' 62 (40 * p + r) = pwo I1 p r W)) 2 [(0, .ref 58), (1, .int (nI p)), (2, .ref 24), (3, .int (nI r))] I' J) (fun r hr ih I' q1 q2 q3 => ?_) 0 (Nat.zero_le _) I (fun _ _ => rfl) (fun _ _ => rfl) (fun o ho => absurd ho (Nat.not_lt_zero o))
  refine mj_on (s280_2 _ _ ?_)
  have hI' : k1 I' = k1 I1 := by
    rw [← hk]
    funext q j
    unfold k1
    by_cases e : q = 62
    · rw [e]; rfl
    · rw [q1 q e]
  rw [k1_at hI' (q := 24) (j := 0) rfl, w1]
  refine if_le (by omega) (by omega) (fun c => ⟨_, _, rfl, rfl, q1, q2, fun o ho => q3 o (by omega)⟩) (fun c => ?_)
  refine lp_up (n := W) (fun k => E1 280 D (qN mj_R1 (fun I' J' => J' = J ∧ (∀ q, q ≠ 62 → I' q = I q) ∧ (∀ j, j < 40 * p → I' 62 j = I 62 j) ∧ ∀ r, r < Rn → I' 62 (40 * p + r) = pwo I1 p r W)) 16 [(0, .ref 58), (1, .int (nI p)), (2, .ref 24), (3, .int (nI r)), (4, .int (pwo I1 p r k)), (5, .int (nI k))] I' J) (fun k hk2 ih2 => ?_) 0 (Nat.zero_le _)
  refine mj_on (s280_16 _ _ _ _ ?_)
  rw [k1_at hI' (q := 24) (j := 1) rfl, w3, show nI p * (40 : Int32) = nI (40 * p) from (pk_mul p 40).trans (by rw [Nat.mul_comm]), nI_add, nI_1, ix4, ix4, nI_1, nI_clamp (by omega), nI_clamp (by omega), nI_clamp (by omega), k1_at hI' (q := 59) rfl, k1_at hI' (q := 25) rfl]
  refine if_le (by omega) (by omega) (fun d => ⟨vp_in_nI (by omega) (by decide), ?_⟩) (fun d => ⟨vp_in_nI (by omega) (by decide), vp_in_nI (by omega) (by decide), ih2 d⟩)
  obtain rfl : k = W := by omega
  refine ih c _ (fun q hq => by rw [up_c hq]; exact q1 q hq) (fun j hj => by rw [up_j (by omega)]; exact q2 j hj) (fun o ho => ?_)
  by_cases e : o = r
  · rw [e, up_s]
  · rw [up_j (by omega)]; exact q3 o (by omega)
theorem c_gatherP (h : Rl b W Rn Kn Tn Hn Un g I1 J1 I2 J2) : ∃ r I' J', C1 (D + 2) 279 [.ref 58, .ref 24] I1 J1 (.int r) I' J' ∧ r = tf (0 < vN I1) ∧ gat I1 J1 W Rn 6 I' J' := by
  refine mj_cI (e279 ?_)
  have hR := h.rB.2.2.2.2.2
  refine lp_up (n := 6) (fun i => ∀ I J, gat I1 J1 W Rn i I J → E1 279 (D + 1) (qI mj_R1 (fun r I' J' => r = tf (0 < vN I1) ∧ gat I1 J1 W Rn 6 I' J')) 15 [(0, .ref 58), (1, .ref 24), (2, .int (nI i))] I J) (fun i hi ih I J hg => ?_) 0 (Nat.zero_le _) _ _ ⟨by rw [k1_up rfl], by rw [kJ1_up rfl], by rw [up_s]; rfl, upJ_s, fun p hp => absurd hp (Nat.not_lt_zero p)⟩
  obtain ⟨g1, g2, g3, g4, g5⟩ := id hg
  refine mj_on (s279_15 _ ?_)
  rw [nI_1, nI_clamp (by omega), show (6 : Int32) = nI 6 from rfl]
  refine if_le (by omega) (by omega) (fun c => ?_) (fun c => ⟨vp_in_nI (by omega) (by decide), vp_in_nI (by omega) (by decide), ?_⟩)
  · obtain rfl : i = 6 := by omega
    have hv : ct 6 (vot I1) ≤ 6 := ct_le
    rw [g3]
    refine if_le (b := 0) (by omega) (by decide) (fun d => ⟨Or.inl rfl, _, _, _, rfl, ?_, hg⟩) (fun d => ⟨Or.inr rfl, _, _, _, rfl, ?_, hg⟩)
    · rw [tf_f]
      intro q
      exact absurd d (Nat.not_le.mpr q)
    · rw [tf_t]
      exact d
  rw [k1_at g1 (q := 60) rfl, kJ1_at g2 (q := 61) rfl, g4, g3]
  have eJ : kJ1 (mj_up J 58 5 (cnd J1 i &&& (J1 61 i ^^^ (-1)))) = kJ1 J1 := by rw [kJ1_up rfl]; exact g2
  have eC : mj_up J 58 5 (cnd J1 i &&& (J1 61 i ^^^ (-1))) 58 5 = cnd J1 (i + 1) := upJ_s
  refine if_i (fun d => ih c _ _ ⟨g1, eJ, ?_, eC, fun p hp hv r hr => ?_⟩) (fun d => ?_)
  · rw [g3, ct_f (fun q => q d)]
  · by_cases e : p = i
    · rw [e] at hv; exact absurd d hv
    · exact g5 p (by omega) hv r hr
  · have hk : k1 (mj_up I 58 4 (nI (ct i (vot I1)) + 1)) = k1 I1 := by rw [k1_up rfl]; exact g1
    obtain ⟨I', J', hc, hJ', q1, q2, q3⟩ := c_weighAll (D := D) (J := mj_up J 58 5 (cnd J1 i &&& (J1 61 i ^^^ (-1)))) h c hk
    subst hJ'
    refine ⟨trivial, _, _, hc, ih c _ _ ⟨?_, eJ, ?_, eC, fun p hp hv r hr => ?_⟩⟩
    · rw [← hk]
      funext q j
      unfold k1
      by_cases e : q = 62
      · rw [e]; rfl
      · rw [q1 q e]
    · rw [q1 58 (by decide), up_s, nI_1, ct_t d]
    · by_cases e : p = i
      · rw [e]; exact q3 r hr
      · rw [q2 _ (by omega), up_c (by decide)]; exact g5 p (by omega) hv r hr
theorem c_aheadP (h : Rl b W Rn Kn Tn Hn Un g I1 J1 I2 J2) (hg : gat I1 J1 W Rn 6 I J) {p o u : Nat} (hp : p < 6) (hv : vot I1 p) (ho : o < Rn) (hu : u < Rn) : C1 (D + 1) 284 [.ref 58, .int (nI p), .int (nI o), .int (nI u)] I J (.int (tf (aP I1 W p o u))) I J := by
  obtain ⟨g1, g2, g3, g4, g5⟩ := id hg
  have hR := h.rB.2.2.2.2.2
  obtain ⟨q1, q2⟩ := h.acmp hp hv ho hu
  refine mj_mk (e284 _ _ _ ?_)
  rw [show nI p * (40 : Int32) = nI (40 * p) from (pk_mul p 40).trans (by rw [Nat.mul_comm]), nI_add, nI_add, nI_clamp (by omega), nI_clamp (by omega), g5 p hp hv o ho, g5 p hp hv u hu]
  refine ⟨vp_in_nI (by omega) (by decide), vp_in_nI (by omega) (by decide), if_i (fun c => mzT (Or.inl (q1.mp c))) (fun c => if_i (fun d => if_le (by omega) (by omega) (fun f => mzF ?_) (fun f => mzT (Or.inr ⟨q2.mp d, f⟩))) (fun d => mzF ?_))⟩
  · rintro (z | z)
    · exact c (q1.mpr z)
    · exact absurd z.2 (by omega)
  · rintro (z | z)
    · exact c (q1.mpr z)
    · exact d (q2.mpr z.1)
theorem c_most (h : Rl b W Rn Kn Tn Hn Un g I1 J1 I2 J2) (hg : gat I1 J1 W Rn 6 I J) {o u : Nat} (ho : o < Rn) (hu : u < Rn) : C1 (D + 2) 283 [.ref 58, .int (nI o), .int (nI u)] I J (.int (tf (wn I1 W o u))) I J := by
  obtain ⟨g1, g2, g3, g4, g5⟩ := id hg
  have hR := h.rB.2.2.2.2.2
  have hv : ct 6 (vot I1) ≤ 6 := ct_le
  refine mj_mk (e283 _ _ ?_)
  refine lp_up (n := 6) (fun i => E1 283 (D + 1) (fun q => q = (.int (tf (wn I1 W o u)), (I, J, mj_R1))) 5 [(0, .ref 58), (1, .int (nI o)), (2, .int (nI u)), (3, .int (nI (ct i (fun p => vot I1 p ∧ aP I1 W p o u)))), (4, .int (nI i))] I J) (fun i hi ih => ?_) 0 (Nat.zero_le _)
  have hl : ct i (fun p => vot I1 p ∧ aP I1 W p o u) ≤ i := ct_le
  refine mj_on (s283_5 _ _ _ _ ?_)
  rw [nI_1, nI_1, nI_clamp (by omega), show (6 : Int32) = nI 6 from rfl, show (2 : Int32) = nI 2 from rfl, pk_mul, g3, k1_at g1 (q := 60) rfl]
  refine if_le (by omega) (by omega) (fun c => ?_) (fun c => ⟨vp_in_nI (by omega) (by decide), if_i (fun d => ?_) (fun d => ?_)⟩)
  · obtain rfl : i = 6 := by omega
    refine if_le (by omega) (by omega) (fun d => mzF fun q => ?_) (fun d => mzT d)
    exact absurd d (Nat.not_le.mpr q)
  · have z := ih c
    rw [ct_f (fun q => q.1 d)] at z
    exact z
  · refine ⟨trivial, _, _, _, c_aheadP h hg c d ho hu, if_tf (fun f => ?_) (fun f => ?_)⟩
    · have z := ih c
      rw [ct_t ⟨d, f⟩] at z
      exact z
    · have z := ih c
      rw [ct_f (fun q => f q.2)] at z
      exact z
theorem c_rank (h : Rl b W Rn Kn Tn Hn Un g I1 J1 I2 J2) (hg : gat I1 J1 W Rn 6 I J) {p u : Nat} {C : Int64} (hC : ∀ i, lbit C i → i < Rn) (hp : p < 6) (hv : vot I1 p) (hu : u < Rn) : C1 (D + 2) 286 [.ref 58, .int (nI p), .int (nI u), .long C] I J (.int (nI (rk I1 W Rn C p u))) I J := by
  have hR := h.rB.2.2.2.2.2
  have e40 : rk I1 W Rn C p u = ct 40 (fun o => lbit C o ∧ aP I1 W p o u) := (ct_up (by omega) fun i q1 q2 q3 => by have := hC i q3.1; omega).symm
  rw [e40]
  refine mj_mk (e286 _ _ _ ?_)
  refine lp_up (n := 40) (fun i => E1 286 (D + 1) (fun q => q = (.int (nI (ct 40 (fun o => lbit C o ∧ aP I1 W p o u))), (I, J, mj_R1))) 6 [(0, .ref 58), (1, .int (nI p)), (2, .int (nI u)), (3, .long C), (5, .int (nI (ct i (fun o => lbit C o ∧ aP I1 W p o u)))), (6, .int (nI i))] I J) (fun i hi ih => ?_) 0 (Nat.zero_le _)
  refine mj_on (s286_6 _ _ _ _ _ ?_)
  rw [nI_1, nI_1, show (40 : Int32) = nI 40 from rfl]
  refine if_le (by omega) (by omega) (fun c => ?_) (fun c => ⟨trivial, _, _, _, c_isIn (by omega), if_tf (fun d => ?_) (fun d => ?_)⟩)
  · obtain rfl : i = 40 := by omega
    rfl
  · refine ⟨trivial, _, _, _, c_aheadP h hg hp hv (hC i d) hu, if_tf (fun f => ?_) (fun f => ?_)⟩
    · have z := ih c
      rw [ct_t (n := i) ⟨d, f⟩] at z
      exact z
    · have z := ih c
      rw [ct_f (n := i) (fun q => f q.2)] at z
      exact z
  · have z := ih c
    rw [ct_f (n := i) (fun q => d q.1)] at z
    exact z
-- the reference
theorem r_votes (h : Rl b W Rn Kn Tn Hn Un g I1 J1 I2 J2) {p : Nat} (hp : p < 6) : C2 (D + 1) 123 [.ref 0, .int (nI p)] I2 J2 (.int (tf (vot I1 p))) I2 J2 := by
  obtain ⟨-, q2, -, q4⟩ := h.vw hp
  obtain ⟨x0, a0, e0⟩ := q4 0 (by decide)
  obtain ⟨x1, a1, e1⟩ := q4 1 (by decide)
  obtain ⟨x2, a2, e2⟩ := q4 2 (by decide)
  obtain ⟨x3, a3, e3⟩ := q4 3 (by decide)
  refine mj_mk (e123 _ ?_)
  rw [show (4 : Int32) * nI p = nI (4 * p) from pk_mul 4 p, show (1 : Int32) = nI 1 from rfl, show (2 : Int32) = nI 2 from rfl, show (3 : Int32) = nI 3 from rfl, nI_add, nI_add, nI_add, nI_clamp (by omega), nI_clamp (by omega), nI_clamp (by omega), nI_clamp (by omega), e1, e2, e3]
  rw [show I2 48 (4 * p) = nI x0 from e0, nI_add, nI_add, nI_add]
  refine ⟨vp_in_nI (by omega) (by decide), vp_in_nI (by omega) (by decide), vp_in_nI (by omega) (by decide), vp_in_nI (by omega) (by decide), if_le (b := 0) (by omega) (by decide) (fun c => ?_) (fun c => ?_)⟩
  · refine mzF fun q => ?_
    obtain ⟨w, hw, y⟩ := q2.mp q
    rcases (by omega : w = 0 ∨ w = 1 ∨ w = 2 ∨ w = 3) with rfl | rfl | rfl | rfl
    · rw [e0] at y; exact y (by rw [show x0 = 0 by omega])
    · rw [e1] at y; exact y (by rw [show x1 = 0 by omega])
    · rw [e2] at y; exact y (by rw [show x2 = 0 by omega])
    · rw [e3] at y; exact y (by rw [show x3 = 0 by omega])
  · refine mzT (q2.mpr (Classical.byContradiction fun q => ?_))
    have z : ∀ w, w < 4 → I2 48 (4 * p + w) = nI 0 := fun w hw => Classical.byContradiction fun y => q ⟨w, hw, y⟩
    have z0 := z 0 (by decide)
    have z1 := z 1 (by decide)
    have z2 := z 2 (by decide)
    have z3 := z 3 (by decide)
    rw [e0, nI_eq (by omega) (by decide)] at z0
    rw [e1, nI_eq (by omega) (by decide)] at z1
    rw [e2, nI_eq (by omega) (by decide)] at z2
    rw [e3, nI_eq (by omega) (by decide)] at z3
    omega
theorem r_voters (h : Rl b W Rn Kn Tn Hn Un g I1 J1 I2 J2) : C2 (D + 2) 122 [.ref 0] I2 J2 (.int (nI (vN I1))) I2 J2 := by
  refine mj_mk (e122 ?_)
  refine lp_up (n := 6) (fun i => E2 122 (D + 1) (fun q => q = (.int (nI (vN I1)), (I2, J2, mj_R2))) 4 [(0, .ref 0), (1, .int (nI (ct i (vot I1)))), (2, .int (nI i))] I2 J2) (fun i hi ih => ?_) 0 (Nat.zero_le _)
  refine mj_on (s122_4 _ _ ?_)
  rw [nI_1, nI_1, show (6 : Int32) = nI 6 from rfl, show (0 : Int32) = nI 0 from rfl, nI_add, Nat.add_zero]
  refine if_le (by omega) (by omega) (fun c => ?_) (fun c => ⟨trivial, _, _, _, r_votes h c, if_tf (fun d => ?_) (fun d => ?_)⟩)
  · obtain rfl : i = 6 := by omega
    rfl
  · have z := ih c
    rw [ct_t d] at z
    exact z
  · have z := ih c
    rw [ct_f d] at z
    exact z
theorem r_cand (h : Rl b W Rn Kn Tn Hn Un g I1 J1 I2 J2) : C2 (D + 5) 124 [.ref 0] I2 J2 (.long (cnd J1 6)) I2 J2 := by
  refine mj_mk (e124 ?_)
  refine ⟨trivial, _, _, _, h.rfront, ?_⟩
  refine lp_up (n := 6) (fun i => E2 124 (D + 4) (fun q => q = (.long (cnd J1 6), (I2, J2, mj_R2))) 7 [(0, .ref 0), (1, .long (cnd J1 i)), (3, .int (nI i))] I2 J2) (fun i hi ih => ?_) 0 (Nat.zero_le _)
  refine mj_on (s124_7 _ _ ?_)
  rw [nI_1, nI_clamp (by omega), show (6 : Int32) = nI 6 from rfl]
  refine if_le (by omega) (by omega) (fun c => ?_) (fun c => ⟨vp_in_nI (by omega) (by decide), ?_⟩)
  · obtain rfl : i = 6 := by omega
    rfl
  · rw [(h.2.2.2.2.2.2.2.2.2.1 i c).1]
    exact ih c
theorem r_pw (h : Rl b W Rn Kn Tn Hn Un g I1 J1 I2 J2) {p r : Nat} (hp : p < 6) (hv : vot I1 p) (hr : r < Rn) : C2 (D + 3) 129 [.ref 0, .int (nI p), .int (nI r)] I2 J2 (.int (pwo I1 p r W)) I2 J2 := by
  have hB := h.rB
  obtain ⟨b1, b2, b3, b4, b5, b6⟩ := id hB
  obtain ⟨-, -, q3, -⟩ := h.vw hp
  refine mj_mk (e129 _ _ ?_)
  refine lp_up (n := W) (fun k => E2 129 (D + 2) (fun q => q = (.int (pwo I1 p r W), (I2, J2, mj_R2))) 5 [(0, .ref 0), (1, .int (nI p)), (2, .int (nI r)), (3, .int (pwo I1 p r k)), (4, .int (nI k))] I2 J2) (fun k hk ih => ?_) 0 (Nat.zero_le _)
  refine mj_on (s129_5 _ _ _ _ ?_)
  rw [b1, nI_clamp (by omega), b3, nI_1, show (4 : Int32) * nI p = nI (4 * p) from pk_mul 4 p, nI_add, nI_clamp (by omega)]
  refine ⟨vp_in_nI b2 (by decide), if_le (by omega) (by omega) (fun c => ?_) (fun c => ⟨vp_in_nI (by omega) (by decide), trivial, _, _, _, r_rowLoss hB (by omega) c, ?_⟩)⟩
  · obtain rfl : k = W := by omega
    rfl
  · rw [h.ls hr c, ← q3 hv k (by omega)]
    exact ih c
theorem r_before (h : Rl b W Rn Kn Tn Hn Un g I1 J1 I2 J2) {p o u : Nat} (hp : p < 6) (hv : vot I1 p) (ho : o < Rn) (hu : u < Rn) : C2 (D + 4) 128 [.ref 0, .int (nI p), .int (nI o), .int (nI u)] I2 J2 (.int (tf (aP I1 W p o u))) I2 J2 := by
  have hR := h.rB.2.2.2.2.2
  refine mj_mk (e128 _ _ _ ?_)
  refine ⟨trivial, _, _, _, r_pw h hp hv ho, trivial, _, _, _, r_pw h hp hv hu, if_i (fun c => mzT (Or.inl c)) (fun c => if_i (fun d => if_le (by omega) (by omega) (fun f => mzF ?_) (fun f => mzT (Or.inr ⟨d, f⟩))) (fun d => mzF ?_))⟩
  · rintro (z | z)
    · exact c z
    · exact absurd z.2 (by omega)
  · rintro (z | z)
    · exact c z
    · exact d z.1
theorem r_wins (h : Rl b W Rn Kn Tn Hn Un g I1 J1 I2 J2) {o u : Nat} (ho : o < Rn) (hu : u < Rn) : C2 (D + 5) 130 [.ref 0, .int (nI o), .int (nI u)] I2 J2 (.int (tf (wn I1 W o u))) I2 J2 := by
  have hvN : vN I1 ≤ 6 := ct_le
  refine mj_mk (e130 _ _ ?_)
  refine lp_up (n := 6) (fun i => E2 130 (D + 4) (fun q => q = (.int (tf (wn I1 W o u)), (I2, J2, mj_R2))) 5 [(0, .ref 0), (1, .int (nI o)), (2, .int (nI u)), (3, .int (nI (ct i (fun p => vot I1 p ∧ aP I1 W p o u)))), (4, .int (nI i))] I2 J2) (fun i hi ih => ?_) 0 (Nat.zero_le _)
  have hl : ct i (fun p => vot I1 p ∧ aP I1 W p o u) ≤ i := ct_le
  refine mj_on (s130_5 _ _ _ _ ?_)
  rw [nI_1, nI_1, show (6 : Int32) = nI 6 from rfl, show (2 : Int32) = nI 2 from rfl, pk_mul, show (0 : Int32) = nI 0 from rfl, nI_add, Nat.add_zero]
  refine if_le (by omega) (by omega) (fun c => ?_) (fun c => ⟨trivial, _, _, _, r_votes h c, if_tf (fun d => ?_) (fun d => ?_)⟩)
  · obtain rfl : i = 6 := by omega
    refine ⟨trivial, _, _, _, r_voters h, if_le (by omega) (by omega) (fun d => mzF fun q => ?_) (fun d => mzT d)⟩
    exact absurd d (Nat.not_le.mpr q)
  · refine ⟨trivial, _, _, _, r_before h c d ho hu, if_tf (fun f => ?_) (fun f => ?_)⟩
    · have z := ih c
      rw [ct_t ⟨d, f⟩] at z
      exact z
    · have z := ih c
      rw [ct_f (fun q => f q.2)] at z
      exact z
  · have z := ih c
    rw [ct_f (fun q => d q.1)] at z
    exact z
theorem r_place (h : Rl b W Rn Kn Tn Hn Un g I1 J1 I2 J2) {p u : Nat} {C : Int64} (hp : p < 6) (hv : vot I1 p) (hu : u < Rn) : C2 (D + 5) 127 [.ref 0, .int (nI p), .int (nI u), .long C] I2 J2 (.int (nI (rk I1 W Rn C p u))) I2 J2 := by
  obtain ⟨b1, b2, b3, b4, b5, b6⟩ := h.rB
  refine mj_mk (e127 _ _ _ ?_)
  refine lp_up (n := Rn) (fun i => E2 127 (D + 4) (fun q => q = (.int (nI (rk I1 W Rn C p u)), (I2, J2, mj_R2))) 6 [(0, .ref 0), (1, .int (nI p)), (2, .int (nI u)), (3, .long C), (5, .int (nI (ct i (fun o => lbit C o ∧ aP I1 W p o u)))), (6, .int (nI i))] I2 J2) (fun i hi ih => ?_) 0 (Nat.zero_le _)
  refine mj_on (s127_6 _ _ _ _ _ ?_)
  rw [b1, nI_clamp (by omega), b5, nI_1, nI_1, show (0 : Int32) = nI 0 from rfl, nI_add, Nat.add_zero]
  refine ⟨vp_in_nI b2 (by decide), if_le (by omega) (by omega) (fun c => ?_) (fun c => if_i (fun d => ?_) (fun d => ?_))⟩
  · obtain rfl : i = Rn := by omega
    rfl
  · have d := (sb_1 (by omega)).mp d
    refine ⟨trivial, _, _, _, r_before h hp hv c hu, if_tf (fun f => ?_) (fun f => ?_)⟩
    · have z := ih c
      rw [ct_t ⟨d, f⟩] at z
      exact z
    · have z := ih c
      rw [ct_f (fun q => f q.2)] at z
      exact z
  · have z := ih c
    rw [ct_f (fun q => d ((sb_1 (by omega)).mpr q.1))] at z
    exact z
end S67
end
section
/-! choose, breaks, place -/
noncomputable def rz (I : Nat → Nat → Int32) (W Rn : Nat) (C : Int64) (p u : Nat) : Nat := @ite _ (vot I p) (Classical.propDecidable _) (rk I W Rn C p u) 0
noncomputable def smN (f : Nat → Nat) : Nat → Nat
  | 0 => 0
  | n + 1 => smN f n + f n
noncomputable def mxN (f : Nat → Nat) : Nat → Nat
  | 0 => 0
  | n + 1 => max (mxN f n) (f n)
theorem rz_t {I : Nat → Nat → Int32} {W Rn p u : Nat} {C : Int64} (h : vot I p) : rz I W Rn C p u = rk I W Rn C p u := @if_pos _ (Classical.propDecidable _) h _ _ _
theorem rz_f {I : Nat → Nat → Int32} {W Rn p u : Nat} {C : Int64} (h : ¬ vot I p) : rz I W Rn C p u = 0 := @if_neg _ (Classical.propDecidable _) h _ _ _
theorem smN_le {f : Nat → Nat} {B : Nat} (h : ∀ i, f i ≤ B) : ∀ n, smN f n ≤ B * n
  | 0 => Nat.le_refl _
  | n + 1 => by
    have := smN_le h n
    have := h n
    show smN f n + f n ≤ B * (n + 1)
    rw [Nat.mul_add]
    omega
theorem mxN_le {f : Nat → Nat} {B : Nat} (h : ∀ i, f i ≤ B) : ∀ n, mxN f n ≤ B
  | 0 => Nat.zero_le _
  | n + 1 => Nat.max_le.mpr ⟨mxN_le h n, h n⟩
/-- firsts, by law 0 -/
def fiP (I : Nat → Nat → Int32) (W Rn : Nat) (C : Int64) (u p : Nat) : Prop := vot I p ∧ rk I W Rn C p u = 0
noncomputable def blN (I : Nat → Nat → Int32) (W Rn : Nat) (C : Int64) (k u n : Nat) : Int32 :=
  if k = 0 then -(nI (ct n (fiP I W Rn C u))) else if k = 1 then nI (smN (fun p => rz I W Rn C p u) n) else nI (mxN (fun p => rz I W Rn C p u) n)
theorem nI_nm1 {n : Nat} (h : n < 2 ^ 31) : nI n ≠ -1 := fun e => by
  have := congrArg Int32.toInt e
  rw [nI_toInt h, show ((-1 : Int32)).toInt = -1 from rfl] at this
  omega
theorem ng_s {a : Nat} : -(nI a) - 1 = -(nI (a + 1)) ∧ -(nI a) - 0 = -(nI a) := by
  constructor
  · rw [← iI_nI, ← iI_nI, iI_neg, iI_neg, show (1 : Int32) = iI 1 from rfl, iI_sub]
    congr 1
    omega
  · rw [← iI_nI, iI_neg, show (0 : Int32) = iI 0 from rfl, iI_sub]
    congr 1
    omega
/-- the first of the least -/
noncomputable def pkN (v : Nat → Int32) (C : Int64) : Nat → Nat → Int32 → Int32 → Int32
  | 0, _, x, _ => x
  | m + 1, i, x, y => @ite _ (lbit C i ∧ (x = -1 ∨ v i < y)) (Classical.propDecidable _) (pkN v C m (i + 1) (nI i) (v i)) (pkN v C m (i + 1) x y)
section PK
variable {v : Nat → Int32} {C : Int64} {n i : Nat} {x y : Int32}
theorem pkN_t (hi : i < n) (h : lbit C i ∧ (x = -1 ∨ v i < y)) : pkN v C (n - i) i x y = pkN v C (n - (i + 1)) (i + 1) (nI i) (v i) := by
  rw [show n - i = n - (i + 1) + 1 by omega]
  exact @if_pos _ (Classical.propDecidable _) h _ _ _
theorem pkN_f (hi : i < n) (h : ¬ (lbit C i ∧ (x = -1 ∨ v i < y))) : pkN v C (n - i) i x y = pkN v C (n - (i + 1)) (i + 1) x y := by
  rw [show n - i = n - (i + 1) + 1 by omega]
  exact @if_neg _ (Classical.propDecidable _) h _ _ _
theorem pkN_e (hi : n ≤ i) : pkN v C (n - i) i x y = x := by
  rw [show n - i = 0 by omega]
  rfl
theorem pkN_no : ∀ {m i : Nat}, (∀ j, i ≤ j → ¬ lbit C j) → pkN v C m i x y = x
  | 0, _, _ => rfl
  | m + 1, i, h => by
    have e : pkN v C (m + 1) i x y = pkN v C m (i + 1) x y := @if_neg _ (Classical.propDecidable _) (fun q => h i (Nat.le_refl _) q.1) _ _ _
    rw [e]
    exact pkN_no fun j hj => h j (by omega)
theorem pkN_in : ∀ {m i : Nat} {x y : Int32}, pkN v C m i x y = x ∨ ∃ j, lbit C j ∧ pkN v C m i x y = nI j
  | 0, _, _, _ => Or.inl rfl
  | m + 1, i, x, y => by
    rcases Classical.em (lbit C i ∧ (x = -1 ∨ v i < y)) with q | q
    · have e : pkN v C (m + 1) i x y = pkN v C m (i + 1) (nI i) (v i) := @if_pos _ (Classical.propDecidable _) q _ _ _
      rw [e]
      rcases pkN_in (m := m) (i := i + 1) (x := nI i) (y := v i) with z | z
      · exact Or.inr ⟨i, q.1, z⟩
      · exact Or.inr z
    · have e : pkN v C (m + 1) i x y = pkN v C m (i + 1) x y := @if_neg _ (Classical.propDecidable _) q _ _ _
      rw [e]
      exact pkN_in
end PK
theorem fs_in {P : Nat → Prop} : ∀ {k i : Nat}, fs P k i = -1 ∨ ∃ j, P j ∧ fs P k i = nI j
  | 0, _ => Or.inl rfl
  | k + 1, i => by
    rcases Classical.em (P i) with q | q
    · exact Or.inr ⟨i, q, @if_pos _ (Classical.propDecidable _) q _ _ _⟩
    · have e : fs P (k + 1) i = fs P k (i + 1) := @if_neg _ (Classical.propDecidable _) q _ _ _
      rw [e]
      exact fs_in
def w3P (I : Nat → Nat → Int32) (W Rn : Nat) (C : Int64) (o : Nat) : Prop := lbit C o ∧ ∀ u, u < Rn → u ≠ o → lbit C u → wn I W o u
noncomputable def pkC (I : Nat → Nat → Int32) (W Rn : Nat) (C : Int64) (k : Nat) : Int32 := if k = 3 then fs (w3P I W Rn C) (40 - 0) 0 else pkN (fun u => blN I W Rn C k u 6) C (40 - 0) 0 (-1) 0
theorem pkC_in {I : Nat → Nat → Int32} {W Rn k : Nat} {C : Int64} : pkC I W Rn C k = -1 ∨ ∃ j, lbit C j ∧ pkC I W Rn C k = nI j := by
  unfold pkC
  by_cases e : k = 3
  · rw [if_pos e]
    rcases fs_in (P := w3P I W Rn C) (k := 40 - 0) (i := 0) with q | ⟨j, q1, q2⟩
    · exact Or.inl q
    · exact Or.inr ⟨j, q1.1, q2⟩
  · rw [if_neg e]
    exact pkN_in
section S68
variable {D b W Rn Kn Tn Hn Un g : Nat} {I I1 I2 : Nat → Nat → Int32} {J J1 J2 : Nat → Nat → Int64}
theorem rz_le {C : Int64} {u : Nat} (hR : Rn ≤ 40) (p : Nat) : rz I W Rn C p u ≤ 40 := by
  rcases Classical.em (vot I p) with q | q
  · rw [rz_t q]
    exact Nat.le_trans ct_le hR
  · rw [rz_f q]
    exact Nat.zero_le _
theorem c_blame {k u : Nat} {C : Int64} (h : Rl b W Rn Kn Tn Hn Un g I1 J1 I2 J2) (hg : gat I1 J1 W Rn 6 I J) (hC : ∀ i, lbit C i → i < Rn) (hk : k < 3) (hu : u < Rn) : C1 (D + 3) 285 [.ref 58, .int (nI k), .int (nI u), .long C] I J (.int (blN I1 W Rn C k u 6)) I J := by
  obtain ⟨g1, g2, g3, g4, g5⟩ := id hg
  have hR := h.rB.2.2.2.2.2
  obtain ⟨v, hv⟩ : ∃ v, v = blN I1 W Rn C k u 6 := ⟨_, rfl⟩
  rw [← hv]
  refine mj_mk (e285 _ _ _ ?_)
  have z0 : blN I1 W Rn C k u 0 = 0 := by
    unfold blN
    rcases (by omega : k = 0 ∨ k = 1 ∨ k = 2) with rfl | rfl | rfl
    · exact (by decide : -(nI 0) = 0)
    · rfl
    · rfl
  have key := lp_up (n := 6) (fun i => E1 285 (D + 2) (fun q => q = (.int v, (I, J, mj_R1))) 6 [(0, .ref 58), (1, .int (nI k)), (2, .int (nI u)), (3, .long C), (5, .int (blN I1 W Rn C k u i)), (6, .int (nI i))] I J) (fun i hi ih => ?_) 0 (Nat.zero_le _)
  · rw [z0] at key
    exact key
  refine mj_on (s285_6 _ _ _ _ _ ?_)
  rw [nI_1, nI_clamp (by omega), show (6 : Int32) = nI 6 from rfl, k1_at g1 (q := 60) rfl]
  refine if_le (by omega) (by omega) (fun c => ?_) (fun c => ⟨vp_in_nI (by omega) (by decide), if_i (fun d => ?_) (fun d => ⟨trivial, _, _, _, c_rank h hg hC c d hu, ?_⟩)⟩)
  · obtain rfl : i = 6 := by omega
    rw [hv]
  · have e : blN I1 W Rn C k u (i + 1) = blN I1 W Rn C k u i := by
      have nv : ¬ vot I1 i := fun q => q d
      unfold blN
      rw [ct_f (n := i) (fun q : fiP I1 W Rn C u i => nv q.1)]
      show (if k = 0 then _ else if k = 1 then nI (smN (fun p => rz I1 W Rn C p u) i + rz I1 W Rn C i u) else nI (max (mxN (fun p => rz I1 W Rn C p u) i) (rz I1 W Rn C i u))) = _
      rw [rz_f nv, Nat.add_zero, Nat.max_zero]
    have z := ih c
    rw [e] at z
    exact z
  have hv' : vot I1 i := d
  have hrk : rk I1 W Rn C i u ≤ 40 := Nat.le_trans ct_le hR
  have z := ih c
  rcases (by omega : k = 0 ∨ k = 1 ∨ k = 2) with rfl | rfl | rfl
  · have e0 : ∀ n, blN I1 W Rn C 0 u n = -(nI (ct n (fiP I1 W Rn C u))) := fun n => rfl
    rw [e0] at z
    rw [e0, if_pos (show nI 0 = 0 from rfl), ng_s.1, ng_s.2]
    refine if_eq (b := 0) (by omega) (by decide) (fun f => ?_) (fun f => ?_)
    · rw [ct_t (n := i) (p := fiP I1 W Rn C u) ⟨hv', f⟩] at z
      exact z
    · rw [ct_f (n := i) (p := fiP I1 W Rn C u) (fun q => f q.2)] at z
      exact z
  · have e1 : ∀ n, blN I1 W Rn C 1 u n = nI (smN (fun p => rz I1 W Rn C p u) n) := fun n => rfl
    rw [e1, if_neg (show ¬ nI 1 = 0 by decide), if_pos (show nI 1 = 1 from rfl), nI_add]
    rw [e1, show smN (fun p => rz I1 W Rn C p u) (i + 1) = smN (fun p => rz I1 W Rn C p u) i + rz I1 W Rn C i u from rfl, rz_t hv'] at z
    exact z
  · have e2 : ∀ n, blN I1 W Rn C 2 u n = nI (mxN (fun p => rz I1 W Rn C p u) n) := fun n => rfl
    have hm : mxN (fun p => rz I1 W Rn C p u) i ≤ 40 := mxN_le (rz_le hR) i
    rw [e2, if_neg (show ¬ nI 2 = 0 by decide), if_neg (show ¬ nI 2 = 1 by decide)]
    rw [e2, show mxN (fun p => rz I1 W Rn C p u) (i + 1) = max (mxN (fun p => rz I1 W Rn C p u) i) (rz I1 W Rn C i u) from rfl, rz_t hv'] at z
    refine ⟨trivial, _, _, _, c_max, ?_⟩
    rw [(i32_max (by omega) (by omega)).1]
    exact z
theorem blN_no {C : Int64} {k u : Nat} (hR : Rn ≤ 40) : blN I1 W Rn C k u 6 ≠ -2000000000 := by
  have h0 : ct 6 (fiP I1 W Rn C u) ≤ 6 := ct_le
  have h1 : smN (fun p => rz I1 W Rn C p u) 6 ≤ 40 * 6 := smN_le (rz_le hR) 6
  have h2 : mxN (fun p => rz I1 W Rn C p u) 6 ≤ 40 := mxN_le (rz_le hR) 6
  have no : ∀ n, n ≤ 240 → nI n ≠ -2000000000 := fun n hn e => by
    have := congrArg Int32.toInt e
    rw [nI_toInt (by omega), show ((-2000000000 : Int32)).toInt = -2000000000 from rfl] at this
    omega
  unfold blN
  by_cases e : k = 0
  · rw [if_pos e, ← iI_nI, iI_neg]
    intro q
    have := congrArg Int32.toInt q
    rw [iI_toInt (by omega) (by omega), show ((-2000000000 : Int32)).toInt = -2000000000 from rfl] at this
    omega
  · rw [if_neg e]
    by_cases f : k = 1
    · rw [if_pos f]; exact no _ (by omega)
    · rw [if_neg f]; exact no _ (by omega)
theorem c_pick3 {C : Int64} (h : Rl b W Rn Kn Tn Hn Un g I1 J1 I2 J2) (hg : gat I1 J1 W Rn 6 I J) (hC : ∀ i, lbit C i → i < Rn) : C1 (D + 3) 282 [.ref 58, .long C] I J (.int (pkC I1 W Rn C 3)) I J := by
  have hR := h.rB.2.2.2.2.2
  obtain ⟨v, hv⟩ : ∃ v, v = fs (w3P I1 W Rn C) (40 - 0) 0 := ⟨_, rfl⟩
  rw [show pkC I1 W Rn C 3 = v from hv.symm]
  refine mj_mk (e282 _ ?_)
  refine lp_up (n := 40) (fun o => fs (w3P I1 W Rn C) (40 - o) o = v → E1 282 (D + 2) (fun q => q = (.int v, (I, J, mj_R1))) 2 [(0, .ref 58), (1, .long C), (3, .int (nI o))] I J) (fun o ho ih he => ?_) 0 (Nat.zero_le _) hv.symm
  refine mj_on (s282_2 _ _ ?_)
  rw [show (40 : Int32) = nI 40 from rfl]
  refine if_le (by omega) (by omega) (fun c => ?_) (fun c => ⟨trivial, _, _, _, c_isIn (by omega), ?_⟩)
  · rw [← he, fs_e c]
  have last : ∀ B : Prop, (B ↔ w3P I1 W Rn C o) → E1 282 (D + 2) (fun q => q = (.int v, (I, J, mj_R1))) 68 [(0, .ref 58), (1, .long C), (3, .int (nI o)), (4, .int (tf B))] I J := fun B hB => by
    refine mj_on (s282_68 _ _ _ ?_)
    rw [nI_1]
    refine if_tf (fun q => ?_) (fun q => ih c ?_)
    · rw [← he, fs_t c (hB.mp q)]
    · rw [← he, fs_f c (fun z => q (hB.mpr z))]
  refine lp_up (n := 40) (fun u => ∀ B : Prop, (B ↔ lbit C o ∧ ∀ u', u' < u → u' ≠ o → lbit C u' → wn I1 W o u') → E1 282 (D + 2) (fun q => q = (.int v, (I, J, mj_R1))) 18 [(0, .ref 58), (1, .long C), (3, .int (nI o)), (4, .int (tf B)), (5, .int (nI u))] I J) (fun u hu ih2 B hB => ?_) 0 (Nat.zero_le _) (lbit C o) ⟨fun q => ⟨q, fun u' q' => absurd q' (Nat.not_lt_zero u')⟩, fun q => q.1⟩
  refine mj_on (s282_18 _ _ _ _ ?_)
  rw [show (40 : Int32) = nI 40 from rfl, nI_1]
  have nx : u < 40 → (lbit C o ∧ (∀ u', u' < u → u' ≠ o → lbit C u' → wn I1 W o u')) → (u ≠ o → lbit C u → wn I1 W o u) → E1 282 (D + 2) (fun q => q = (.int v, (I, J, mj_R1))) 18 [(0, .ref 58), (1, .long C), (3, .int (nI o)), (4, .int 1), (5, .int (nI (u + 1)))] I J := fun y q1 q2 => by
    have z := ih2 y True ⟨fun _ => ⟨q1.1, fun u' h1 h2 h3 => ?_⟩, fun _ => trivial⟩
    · rw [tf_t trivial] at z
      exact z
    · by_cases e : u' = u
      · subst e; exact q2 h2 h3
      · exact q1.2 u' (by omega) h2 h3
  refine if_le (by omega) (by omega) (fun d => last B ?_) (fun d => if_tf (fun f => ?_) (fun f => last B ?_))
  · rw [hB]
    exact ⟨fun q => ⟨q.1, fun u' h1 h2 h3 => q.2 u' (by omega) h2 h3⟩, fun q => ⟨q.1, fun u' h1 h2 h3 => q.2 u' (hC u' h3) h2 h3⟩⟩
  · have f' := hB.mp f
    refine if_eq (by omega) (by omega) (fun e => nx d f' fun q => absurd e q) (fun e => ⟨trivial, _, _, _, c_isIn (by omega), if_tf (fun y => ?_) (fun y => nx d f' fun _ q => absurd q y)⟩)
    refine ⟨trivial, _, _, _, c_most h hg (hC o f'.1) (hC u y), if_tf (fun z => nx d f' fun _ _ => z) (fun z => ?_)⟩
    have w := ih2 d False ⟨fun q => q.elim, fun q => z (q.2 u (by omega) e y)⟩
    rw [tf_f id] at w
    exact w
  · refine ⟨fun q => absurd q f, fun q => absurd (hB.mpr ⟨q.1, fun u' h1 h2 h3 => q.2 u' (hC u' h3) h2 h3⟩) f⟩
theorem c_pick {k : Nat} {C : Int64} (h : Rl b W Rn Kn Tn Hn Un g I1 J1 I2 J2) (hg : gat I1 J1 W Rn 6 I J) (hC : ∀ i, lbit C i → i < Rn) (hk : k ≤ 3) : C1 (D + 4) 281 [.ref 58, .int (nI k), .long C] I J (.int (pkC I1 W Rn C k)) I J := by
  have hR := h.rB.2.2.2.2.2
  refine mj_mk (e281 _ _ ?_)
  rw [show (3 : Int32) = nI 3 from rfl]
  refine if_eq (by omega) (by omega) (fun e => ?_) (fun e => ?_)
  · subst e
    exact ⟨trivial, _, _, _, c_pick3 h hg hC, rfl⟩
  rw [if_neg (nI_pos (by omega))]
  refine if_le (by omega) (by omega) (fun _ => ?_) (fun q => absurd q (by omega))
  obtain ⟨v, hv⟩ : ∃ v, v = pkC I1 W Rn C k := ⟨_, rfl⟩
  rw [← hv]
  obtain ⟨vf, hvf⟩ : ∃ vf : Nat → Int32, vf = fun u => blN I1 W Rn C k u 6 := ⟨_, rfl⟩
  have hv2 : pkN vf C (40 - 0) 0 (-1) 0 = v := by
    rw [hv, hvf]
    unfold pkC
    rw [if_neg e]
  have cb : ∀ i, i < Rn → C1 (D + 3) 285 [.ref 58, .int (nI k), .int (nI i), .long C] I J (.int (vf i)) I J := fun i q => by
    rw [hvf]
    exact c_blame h hg hC (by omega) q
  clear hvf hv
  refine lp_up (n := 40) (fun i => ∀ x y, pkN vf C (40 - i) i x y = v → E1 281 (D + 3) (fun q => q = (.int v, (I, J, mj_R1))) 31 [(0, .ref 58), (1, .int (nI k)), (2, .long C), (4, .int x), (5, .int y), (6, .int (nI i))] I J) (fun i hi ih x y he => ?_) 0 (Nat.zero_le _) (-1) 0 hv2
  refine mj_on (s281_31 _ _ _ _ _ ?_)
  rw [show (40 : Int32) = nI 40 from rfl, nI_1]
  have no : i < 40 → ¬ (lbit C i ∧ (x = -1 ∨ vf i < y)) → E1 281 (D + 3) (fun q => q = (.int v, (I, J, mj_R1))) 31 [(0, .ref 58), (1, .int (nI k)), (2, .long C), (4, .int x), (5, .int y), (6, .int (nI (i + 1)))] I J := fun c q => ih c x y (by rw [← he, pkN_f c q])
  have yes : i < 40 → (lbit C i ∧ (x = -1 ∨ vf i < y)) → E1 281 (D + 3) (fun q => q = (.int v, (I, J, mj_R1))) 70 [(0, .ref 58), (1, .int (nI k)), (2, .long C), (6, .int (nI i)), (7, .int (vf i))] I J := fun c q => by
    refine mj_on (s281_70 _ _ _ _ ?_)
    rw [nI_1]
    exact ih c _ _ (by rw [← he, pkN_t c q])
  refine if_le (by omega) (by omega) (fun c => ?_) (fun c => ⟨trivial, _, _, _, c_isIn (by omega), if_tf (fun d => ?_) (fun d => no c fun q => d q.1)⟩)
  · rw [← he, pkN_e c]
  · refine ⟨trivial, _, _, _, cb i (hC i d), if_i (fun f => yes c ⟨d, Or.inl f⟩) (fun f => if_i (fun w => no c fun q => ?_) (fun w => yes c ⟨d, Or.inr (Int32.not_le.mp w)⟩))⟩
    rcases q.2 with z | z
    · exact f z
    · exact absurd w (Int32.not_le.mpr z)
theorem c_pickBad {x : Int32} {C : Int64} (hx : ¬ ∃ k, k ≤ 3 ∧ x = nI k) : C1 (D + 4) 281 [.ref 58, .int x, .long C] I J (.int (-1)) I J := by
  refine mj_mk (e281 _ _ ?_)
  refine if_i (fun e => absurd ⟨3, by decide, e⟩ hx) (fun _ => if_i (fun _ => rfl) (fun c => if_i (fun d => ?_) (fun _ => rfl)))
  obtain ⟨k, hk, e⟩ := nI_of2 (n := 3) (by decide) c d
  exact absurd ⟨k, hk, e⟩ hx
-- the reference
theorem r_against {k u : Nat} {C : Int64} (h : Rl b W Rn Kn Tn Hn Un g I1 J1 I2 J2) (hk : k < 3) (hu : u < Rn) : C2 (D + 6) 126 [.ref 0, .int (nI k), .int (nI u), .long C] I2 J2 (.int (blN I1 W Rn C k u 6)) I2 J2 := by
  have hR := h.rB.2.2.2.2.2
  obtain ⟨v, hv⟩ : ∃ v, v = blN I1 W Rn C k u 6 := ⟨_, rfl⟩
  rw [← hv]
  obtain ⟨f, hf⟩ : ∃ f : Nat → Nat, f = fun p => rz I1 W Rn C p u := ⟨_, rfl⟩
  refine mj_mk (e126 _ _ _ ?_)
  refine lp_up (n := 6) (fun i => E2 126 (D + 5) (fun q => q = (.int v, (I2, J2, mj_R2))) 12 [(0, .ref 0), (1, .int (nI k)), (2, .int (nI u)), (3, .long C), (5, .int (nI (ct i (fiP I1 W Rn C u)))), (6, .int (nI (smN f i))), (7, .int (nI (mxN f i))), (8, .int (nI i))] I2 J2) (fun i hi ih => ?_) 0 (Nat.zero_le _)
  have nx : i < 6 → E2 126 (D + 5) (fun q => q = (.int v, (I2, J2, mj_R2))) 79 [(0, .ref 0), (1, .int (nI k)), (2, .int (nI u)), (3, .long C), (5, .int (nI (ct (i + 1) (fiP I1 W Rn C u)))), (6, .int (nI (smN f (i + 1)))), (7, .int (nI (mxN f (i + 1)))), (8, .int (nI i))] I2 J2 := fun c => by
    refine mj_on (s126_79 _ _ _ _ _ _ _ ?_)
    rw [nI_1]
    exact ih c
  have hm : mxN f i ≤ 40 := by rw [hf]; exact mxN_le (rz_le hR) i
  refine mj_on (s126_12 _ _ _ _ _ _ _ ?_)
  rw [show (6 : Int32) = nI 6 from rfl, show (3 : Int32) = nI 3 from rfl, nI_1, show (0 : Int32) = nI 0 from rfl, nI_add, Nat.add_zero]
  refine if_le (by omega) (by omega) (fun c => if_le (by omega) (by omega) (fun d => absurd d (by omega)) (fun _ => ?_)) (fun c => ⟨trivial, _, _, _, r_votes h c, if_tf (fun d => ?_) (fun d => ?_)⟩)
  · obtain rfl : i = 6 := by omega
    rw [hv, hf]
    rcases (by omega : k = 0 ∨ k = 1 ∨ k = 2) with rfl | rfl | rfl
    · rw [if_pos rfl]; rfl
    · rw [if_neg (by decide), if_pos (show nI 1 = 1 from rfl)]; rfl
    · rw [if_neg (by decide), if_neg (by decide)]; rfl
  · have hrk : rk I1 W Rn C i u ≤ 40 := Nat.le_trans ct_le hR
    have fi : f i = rk I1 W Rn C i u := by rw [hf]; exact rz_t d
    have mid : E2 126 (D + 5) (fun q => q = (.int v, (I2, J2, mj_R2))) 56 [(0, .ref 0), (1, .int (nI k)), (2, .int (nI u)), (3, .long C), (5, .int (nI (ct (i + 1) (fiP I1 W Rn C u)))), (6, .int (nI (smN f i))), (7, .int (nI (mxN f i))), (8, .int (nI i)), (9, .int (nI (rk I1 W Rn C i u)))] I2 J2 := by
      refine mj_on (s126_56 _ _ _ _ _ _ _ _ ?_)
      have z := nx c
      rw [show smN f (i + 1) = smN f i + f i from rfl, show mxN f (i + 1) = max (mxN f i) (f i) from rfl, fi] at z
      rw [nI_add]
      refine if_le (by omega) (by omega) (fun y => ?_) (fun y => ?_)
      · rw [Nat.max_eq_left y] at z; exact z
      · rw [Nat.max_eq_right (by omega)] at z; exact z
    refine ⟨trivial, _, _, _, r_place h c d hu, if_eq (b := 0) (by omega) (by decide) (fun y => ?_) (fun y => ?_)⟩
    · rw [ct_t (n := i) (p := fiP I1 W Rn C u) ⟨d, y⟩] at mid
      exact mid
    · rw [ct_f (n := i) (p := fiP I1 W Rn C u) (fun q => y q.2)] at mid
      exact mid
  · have z := nx c
    have fi : f i = 0 := by rw [hf]; exact rz_f d
    rw [show smN f (i + 1) = smN f i + f i from rfl, show mxN f (i + 1) = max (mxN f i) (f i) from rfl, fi, Nat.add_zero, Nat.max_zero, ct_f (n := i) (p := fiP I1 W Rn C u) (fun q => d q.1)] at z
    exact z
theorem r_against3 {u : Nat} {C : Int64} (h : Rl b W Rn Kn Tn Hn Un g I1 J1 I2 J2) (hu : u < Rn) (hb : lbit C u) : ∃ r : Int32, C2 (D + 6) 126 [.ref 0, .int (nI 3), .int (nI u), .long C] I2 J2 (.int r) I2 J2 ∧ (w3P I1 W Rn C u → r = 0) ∧ (¬ w3P I1 W Rn C u → r = -2000000000) := by
  obtain ⟨b1, b2, b3, b4, b5, b6⟩ := h.rB
  obtain ⟨r, hr⟩ : ∃ r : Int32, (w3P I1 W Rn C u → r = 0) ∧ (¬ w3P I1 W Rn C u → r = -2000000000) := by
    rcases Classical.em (w3P I1 W Rn C u) with q | q
    · exact ⟨0, fun _ => rfl, fun z => absurd q z⟩
    · exact ⟨-2000000000, fun z => absurd z q, fun _ => rfl⟩
  refine ⟨r, ?_, hr⟩
  refine mj_mk (e126 _ _ _ ?_)
  refine lp_up (n := 6) (fun i => ∀ x y z, E2 126 (D + 5) (fun q => q = (.int r, (I2, J2, mj_R2))) 12 [(0, .ref 0), (1, .int (nI 3)), (2, .int (nI u)), (3, .long C), (5, .int x), (6, .int y), (7, .int z), (8, .int (nI i))] I2 J2) (fun i hi ih x y z => ?_) 0 (Nat.zero_le _) _ _ _
  have nx : i < 6 → ∀ x y z, E2 126 (D + 5) (fun q => q = (.int r, (I2, J2, mj_R2))) 79 [(0, .ref 0), (1, .int (nI 3)), (2, .int (nI u)), (3, .long C), (5, .int x), (6, .int y), (7, .int z), (8, .int (nI i))] I2 J2 := fun c x y z => by
    refine mj_on (s126_79 _ _ _ _ _ _ _ ?_)
    rw [nI_1]
    exact ih c _ _ _
  have mid : i < 6 → ∀ x y z t, E2 126 (D + 5) (fun q => q = (.int r, (I2, J2, mj_R2))) 56 [(0, .ref 0), (1, .int (nI 3)), (2, .int (nI u)), (3, .long C), (5, .int x), (6, .int y), (7, .int z), (8, .int (nI i)), (9, .int t)] I2 J2 := fun c x y z t => by
    refine mj_on (s126_56 _ _ _ _ _ _ _ _ ?_)
    exact if_i (fun _ => nx c _ _ _) (fun _ => nx c _ _ _)
  refine mj_on (s126_12 _ _ _ _ _ _ _ ?_)
  rw [show (6 : Int32) = nI 6 from rfl]
  refine if_le (by omega) (by omega) (fun c => ?_) (fun c => ⟨trivial, _, _, _, r_votes h c, if_tf (fun d => ⟨trivial, _, _, _, r_place h c d hu, if_i (fun _ => mid c _ _ _ _) (fun _ => mid c _ _ _ _)⟩) (fun d => nx c _ _ _)⟩)
  rw [if_pos (by decide)]
  refine lp_up (n := Rn) (fun j => (∀ o, o < j → o ≠ u → lbit C o → wn I1 W u o) → E2 126 (D + 5) (fun q => q = (.int r, (I2, J2, mj_R2))) 116 [(0, .ref 0), (2, .int (nI u)), (3, .long C), (8, .int (nI j))] I2 J2) (fun j hj ih2 hp => ?_) 0 (Nat.zero_le _) (fun o ho => absurd ho (Nat.not_lt_zero o))
  refine mj_on (s126_116 _ _ _ ?_)
  rw [b1, nI_clamp (by omega), b5, nI_1]
  have nx2 : j < Rn → (j ≠ u → lbit C j → wn I1 W u j) → E2 126 (D + 5) (fun q => q = (.int r, (I2, J2, mj_R2))) 116 [(0, .ref 0), (2, .int (nI u)), (3, .long C), (8, .int (nI (j + 1)))] I2 J2 := fun c q => ih2 c fun o ho h1 h2 => by
    by_cases e : o = j
    · subst e; exact q h1 h2
    · exact hp o (by omega) h1 h2
  refine ⟨vp_in_nI b2 (by decide), if_le (by omega) (by omega) (fun d => ?_) (fun d => if_eq (by omega) (by omega) (fun e => nx2 d fun q => absurd e q) (fun e => if_i (fun f => ?_) (fun f => nx2 d fun _ q => absurd ((sb_1 (by omega)).mpr q) f)))⟩
  · rw [hr.1 ⟨hb, fun o h1 h2 h3 => hp o (by omega) h2 h3⟩]
  · have f := (sb_1 (by omega)).mp f
    refine ⟨trivial, _, _, _, r_wins h hu d, if_tf (fun w => nx2 d fun _ _ => w) (fun w => ?_)⟩
    rw [hr.2 (fun q => w (q.2 j d e f))]
theorem r_chosen {k : Nat} {C : Int64} (h : Rl b W Rn Kn Tn Hn Un g I1 J1 I2 J2) (hC : ∀ i, lbit C i → i < Rn) (hk : k ≤ 3) : C2 (D + 7) 125 [.ref 0, .int (nI k), .long C] I2 J2 (.int (pkC I1 W Rn C k)) I2 J2 := by
  obtain ⟨b1, b2, b3, b4, b5, b6⟩ := h.rB
  refine mj_mk (e125 _ _ ?_)
  obtain ⟨v, hv⟩ : ∃ v, v = pkC I1 W Rn C k := ⟨_, rfl⟩
  rw [← hv]
  by_cases e : k = 3
  · subst e
    have hv2 : fs (w3P I1 W Rn C) (40 - 0) 0 = v := hv.symm
    refine lp_up (n := Rn) (fun i => ∀ x y, (x = -1 ∧ fs (w3P I1 W Rn C) (40 - i) i = v ∨ x ≠ -1 ∧ x = v ∧ y = 0) → E2 125 (D + 6) (fun q => q = (.int v, (I2, J2, mj_R2))) 9 [(0, .ref 0), (1, .int (nI 3)), (2, .long C), (4, .int x), (5, .int y), (6, .int (nI i))] I2 J2) (fun i hi ih x y he => ?_) 0 (Nat.zero_le _) (-1) 0 (Or.inl ⟨rfl, hv2⟩)
    refine mj_on (s125_9 _ _ _ _ _ ?_)
    rw [b1, nI_clamp (by omega), b5, nI_1]
    have sk : i < Rn → ¬ w3P I1 W Rn C i → E2 125 (D + 6) (fun q => q = (.int v, (I2, J2, mj_R2))) 9 [(0, .ref 0), (1, .int (nI 3)), (2, .long C), (4, .int x), (5, .int y), (6, .int (nI (i + 1)))] I2 J2 := fun c q => by
      refine ih c x y ?_
      rcases he with ⟨e1, e2⟩ | e2
      · rw [fs_f (by omega) q] at e2
        exact Or.inl ⟨e1, e2⟩
      · exact Or.inr e2
    refine ⟨vp_in_nI b2 (by decide), if_le (by omega) (by omega) (fun c => ?_) (fun c => if_i (fun d => sk c fun q => (sb_0 (by omega)).mp d q.1) (fun d => ?_))⟩
    · rcases he with ⟨e1, e2⟩ | e2
      · rw [e1, ← e2]
        have : fs (w3P I1 W Rn C) (40 - i) i = -1 := by
          rcases fs_in (P := w3P I1 W Rn C) (k := 40 - i) (i := i) with q | q
          · exact q
          · have : ∀ k i, Rn ≤ i → fs (w3P I1 W Rn C) k i = -1 := by
              intro k
              induction k with
              | zero => intro i _; rfl
              | succ k ih3 =>
                intro i hi
                have e : fs (w3P I1 W Rn C) (k + 1) i = fs (w3P I1 W Rn C) k (i + 1) := @if_neg _ (Classical.propDecidable _) (fun q => by
                  have := hC i q.1
                  omega) _ _ _
                rw [e]
                exact ih3 (i + 1) (by omega)
            exact this _ _ c
        rw [this]
      · rw [e2.2.1]
    · have d : lbit C i := Classical.byContradiction fun q => d ((sb_0 (by omega)).mpr q)
      obtain ⟨r, hc, r1, r2⟩ := r_against3 (D := D) h c d
      refine ⟨trivial, _, _, _, hc, ?_⟩
      rcases Classical.em (w3P I1 W Rn C i) with q | q
      · rw [r1 q, if_neg (by decide)]
        refine if_i (fun z => ?_) (fun z => ?_)
        · refine mj_on (s125_71 _ _ _ _ ?_)
          rw [nI_1]
          rcases he with ⟨e1, e2⟩ | e2
          · rw [fs_t (by omega) q] at e2
            exact ih c _ _ (Or.inr ⟨nI_nm1 (by omega), e2, rfl⟩)
          · exact absurd z e2.1
        · rcases he with ⟨e1, e2⟩ | e2
          · exact absurd e1 z
          · rw [e2.2.2, if_neg (by decide)]
            exact ih c x 0 (Or.inr ⟨e2.1, e2.2.1, rfl⟩)
      · rw [r2 q, if_pos rfl]
        exact sk c q
  · obtain ⟨vf, hvf⟩ : ∃ vf : Nat → Int32, vf = fun u => blN I1 W Rn C k u 6 := ⟨_, rfl⟩
    have hv2 : pkN vf C (40 - 0) 0 (-1) 0 = v := by
      rw [hv, hvf]
      unfold pkC
      rw [if_neg e]
    have cb : ∀ i, i < Rn → C2 (D + 6) 126 [.ref 0, .int (nI k), .int (nI i), .long C] I2 J2 (.int (vf i)) I2 J2 ∧ vf i ≠ -2000000000 := fun i q => by
      rw [hvf]
      exact ⟨r_against h (by omega) q, blN_no b6⟩
    clear hvf hv
    refine lp_up (n := Rn) (fun i => ∀ x y, pkN vf C (40 - i) i x y = v → E2 125 (D + 6) (fun q => q = (.int v, (I2, J2, mj_R2))) 9 [(0, .ref 0), (1, .int (nI k)), (2, .long C), (4, .int x), (5, .int y), (6, .int (nI i))] I2 J2) (fun i hi ih x y he => ?_) 0 (Nat.zero_le _) (-1) 0 hv2
    refine mj_on (s125_9 _ _ _ _ _ ?_)
    rw [b1, nI_clamp (by omega), b5, nI_1]
    have no : i < Rn → ¬ (lbit C i ∧ (x = -1 ∨ vf i < y)) → E2 125 (D + 6) (fun q => q = (.int v, (I2, J2, mj_R2))) 9 [(0, .ref 0), (1, .int (nI k)), (2, .long C), (4, .int x), (5, .int y), (6, .int (nI (i + 1)))] I2 J2 := fun c q => ih c x y (by rw [← he, pkN_f (by omega) q])
    have yes : i < Rn → (lbit C i ∧ (x = -1 ∨ vf i < y)) → E2 125 (D + 6) (fun q => q = (.int v, (I2, J2, mj_R2))) 71 [(0, .ref 0), (1, .int (nI k)), (2, .long C), (6, .int (nI i)), (7, .int (vf i))] I2 J2 := fun c q => by
      refine mj_on (s125_71 _ _ _ _ ?_)
      rw [nI_1]
      exact ih c _ _ (by rw [← he, pkN_t (by omega) q])
    refine ⟨vp_in_nI b2 (by decide), if_le (by omega) (by omega) (fun c => ?_) (fun c => if_i (fun d => no c fun q => (sb_0 (by omega)).mp d q.1) (fun d => ?_))⟩
    · rw [← he, pkN_no fun j hj q => by have := hC j q; omega]
    · have d : lbit C i := Classical.byContradiction fun q => d ((sb_0 (by omega)).mpr q)
      refine ⟨trivial, _, _, _, (cb i c).1, ?_⟩
      rw [if_neg (cb i c).2]
      refine if_i (fun f => yes c ⟨d, Or.inl f⟩) (fun f => if_i (fun w => yes c ⟨d, Or.inr w⟩) (fun w => no c fun q => ?_))
      rcases q.2 with z | z
      · exact f z
      · exact w z
end S68
end
section
/-! choose, breaks, place: the calls -/
theorem pcn_eq0 : ∀ {k m : Nat}, m < 2 ^ k → pcn k m = 0 → m = 0
  | 0, m, h, _ => by omega
  | k + 1, m, h, e => by
    have e : m % 2 + pcn k (m / 2) = 0 := e
    have := pcn_eq0 (k := k) (m := m / 2) (by rw [Nat.pow_succ] at h; omega) (by omega)
    omega
theorem pcn_one : ∀ {k m o : Nat}, m < 2 ^ k → m.testBit o = true → pcn k m ≤ 1 → m = 2 ^ o
  | 0, m, o, h, t, _ => by
    have : m = 0 := by omega
    rw [this, Nat.zero_testBit] at t
    cases t
  | k + 1, m, o, h, t, e => by
    have e : m % 2 + pcn k (m / 2) ≤ 1 := e
    have h2 : m / 2 < 2 ^ k := by rw [Nat.pow_succ] at h; omega
    cases o with
    | zero =>
      have t1 : m % 2 = 1 := by
        rw [Nat.testBit_zero] at t
        exact of_decide_eq_true t
      have := pcn_eq0 h2 (by omega)
      omega
    | succ o =>
      rw [Nat.testBit_succ] at t
      have n0 : pcn k (m / 2) ≠ 0 := fun q => by
        have := pcn_eq0 h2 q
        rw [this, Nat.zero_testBit] at t
        cases t
      have := pcn_one h2 t (by omega)
      rw [Nat.pow_succ]
      omega
theorem pcn_pw : ∀ o, o < 64 → pcn 64 (2 ^ o) = 1 := by decide +kernel
theorem pcL_one {C : Int64} {o : Nat} (ho : o < 64) (hb : lbit C o) : pcL C ≤ 1 ↔ C = (1 : Int64) <<< ((nI o).toInt64 &&& 63) := by
  obtain ⟨m, hm, rfl⟩ := wb_of C
  have e : (1 : Int64) <<< ((nI o).toInt64 &&& 63) = lN (2 ^ o) := by
    have := wb_shl 1 ho
    rw [Nat.one_mul] at this
    exact this
  have h2 : 2 ^ o < 2 ^ 64 := wb_lt2 ho
  rw [pcL_lN hm, e]
  constructor
  · intro q
    rw [pcn_one hm ((lb_nat hm ho).mp hb) q]
  · intro q
    have := congrArg (fun y => y.toBitVec.toNat) q
    simp only [wb_tn hm, wb_tn h2] at this
    rw [this, pcn_pw o ho]
    exact Nat.le_refl 1
theorem bs_up {p : Nat → Prop} {n : Nat} : ∀ {m : Nat}, n ≤ m → (∀ i, n ≤ i → i < m → ¬ p i) → bs m p = bs n p
  | 0, h, _ => by rw [show n = 0 by omega]
  | m + 1, h, q => by
    by_cases e : n = m + 1
    · rw [e]
    · rw [bs_f0 (q m (by omega) (by omega))]
      exact bs_up (by omega) fun i h1 h2 => q i h1 (by omega)
def b2P (I : Nat → Nat → Int32) (W Rn : Nat) (C : Int64) (o : Nat) : Prop := C ≠ (1 : Int64) <<< ((nI o).toInt64 &&& 63) ∧ ∀ u, u < Rn → u ≠ o → lbit C u → wn I W u o
def efP (I : Nat → Nat → Int32) (W Rn : Nat) (C : Int64) (u : Nat) : Prop := lbit C u ∧ ∃ p, p < 6 ∧ fiP I W Rn C u p
noncomputable def efC (I : Nat → Nat → Int32) (W Rn : Nat) (C : Int64) : Int64 := bs Rn (efP I W Rn C)
noncomputable def brA (B1 B2 B3 : Prop) : Int32 := tf B1 + 2 * tf B2 + 4 * tf B3
noncomputable def brk (I : Nat → Nat → Int32) (W Rn : Nat) (C : Int64) (k o : Nat) : Int32 := brA (pkC I W Rn C 3 ≠ -1 ∧ pkC I W Rn C 3 ≠ nI o) (b2P I W Rn C o) (pkC I W Rn (efC I W Rn C) k ≠ nI o)
theorem efC_bit {I : Nat → Nat → Int32} {W Rn i : Nat} {C : Int64} (hR : Rn ≤ 40) (h : lbit (efC I W Rn C) i) : i < Rn := ((bs_bit (by omega) i).mp h).1
section S69
variable {D b W Rn Kn Tn Hn Un g : Nat} {I I1 I2 : Nat → Nat → Int32} {J J1 J2 : Nat → Nat → Int64}
theorem r_choose {x : Int32} (h : Rl b W Rn Kn Tn Hn Un g I1 J1 I2 J2) : ∃ r : Int32, C2 (D + 8) 121 [.ref 0, .int x] I2 J2 (.int r) I2 J2 ∧ (∀ k, k ≤ 3 → x = nI k → 0 < vN I1 → r = pkC I1 W Rn (cnd J1 6) k) ∧ ((¬ ∃ k, k ≤ 3 ∧ x = nI k) → r = -1) ∧ (¬ 0 < vN I1 → r = -1) := by
  have hv : vN I1 ≤ 6 := ct_le
  by_cases q : ∃ k, k ≤ 3 ∧ x = nI k
  · obtain ⟨k, hk, rfl⟩ := q
    have q : ∃ k', k' ≤ 3 ∧ nI k = nI k' := ⟨k, hk, rfl⟩
    have go : ∀ r : Int32, (0 < vN I1 → r = pkC I1 W Rn (cnd J1 6) k) → (¬ 0 < vN I1 → r = -1) → C2 (D + 8) 121 [.ref 0, .int (nI k)] I2 J2 (.int r) I2 J2 := fun r r1 r2 => by
      refine mj_mk (e121 _ ?_)
      refine ⟨trivial, _, _, _, r_is, if_tf (fun _ => ?_) (fun z => ?_)⟩
      · refine ⟨trivial, _, _, _, r_voters h, if_eq (b := 0) (by omega) (by decide) (fun y => ?_) (fun y => ?_)⟩
        · rw [r2 (by omega)]
        · refine ⟨trivial, _, _, _, r_cand h, trivial, _, _, _, r_chosen h (fun i q => h.cbit q) hk, ?_⟩
          rw [r1 (by omega)]
      · refine absurd ⟨nI_pos (by omega), ?_⟩ z
        exact Int32.not_lt.mpr ((leI (b := 3) (by omega) (by decide)).mpr hk)
    by_cases y : 0 < vN I1
    · refine ⟨_, go _ (fun _ => rfl) (fun z => absurd y z), fun k' hk' e _ => ?_, fun z => absurd q z, fun z => absurd y z⟩
      rw [(nI_eq (by omega) (by omega)).mp e]
    · exact ⟨-1, go _ (fun z => absurd z y) (fun _ => rfl), fun k' hk' e z => absurd z y, fun z => absurd q z, fun _ => rfl⟩
  · refine ⟨-1, mj_mk (e121 _ ⟨trivial, _, _, _, r_is, if_tf (fun z => ?_) (fun _ => rfl)⟩), fun k hk e _ => absurd ⟨k, hk, e⟩ q, fun _ => rfl, fun _ => rfl⟩
    obtain ⟨k, hk, e⟩ := nI_of2 (n := 3) (by decide) z.1 (Int32.not_lt.mp z.2)
    exact absurd ⟨k, hk, e⟩ q
theorem al_choose {x : Int32} (h : Rl b W Rn Kn Tn Hn Un g I1 J1 I2 J2) : AI 278 121 [.int x] I1 J1 I2 J2 (Rl b W Rn Kn Tn Hn Un g) := by
  obtain ⟨r, hr, r1, r2, r3⟩ := r_choose (D := 892) (x := x) h
  obtain ⟨t, I', J', hc, ht, hg⟩ := c_gatherP (D := 897) h
  rw [ht] at hc
  obtain ⟨g1, g2, g3, g4, g5⟩ := id hg
  refine ⟨r, I', J', I2, J2, mj_mk (D := 899) (e278 _ ?_), hr, Rl_same h g1 g2 rfl rfl⟩
  refine ⟨trivial, _, _, _, hc, if_tf (fun q => ?_) (fun q => by rw [r3 q])⟩
  rw [g4]
  by_cases e : ∃ k, k ≤ 3 ∧ x = nI k
  · obtain ⟨k, hk, rfl⟩ := e
    refine ⟨trivial, _, _, _, c_pick h hg (fun i q => h.cbit q) hk, ?_⟩
    rw [r1 k hk rfl q]
  · refine ⟨trivial, _, _, _, c_pickBad e, ?_⟩
    rw [r2 e]
theorem c_behind {o : Nat} (h : Rl b W Rn Kn Tn Hn Un g I1 J1 I2 J2) (hg : gat I1 J1 W Rn 6 I J) (ho : o < Rn) : C1 (D + 3) 289 [.ref 58, .int (nI o)] I J (.int (tf (b2P I1 W Rn (cnd J1 6) o))) I J := by
  obtain ⟨g1, g2, g3, g4, g5⟩ := id hg
  have hR := h.rB.2.2.2.2.2
  obtain ⟨C, hCe⟩ : ∃ C, C = cnd J1 6 := ⟨_, rfl⟩
  have hC : ∀ i, lbit C i → i < Rn := fun i q => h.cbit (hCe ▸ q)
  rw [← hCe] at g4 ⊢
  refine mj_mk (e289 _ ?_)
  refine lp_up (n := 40) (fun i => (∀ u, u < i → u ≠ o → lbit C u → wn I1 W u o) → E1 289 (D + 2) (fun q => q = (.int (tf (b2P I1 W Rn C o)), (I, J, mj_R1))) 2 [(0, .ref 58), (1, .int (nI o)), (2, .int (nI i))] I J) (fun i hi ih hp => ?_) 0 (Nat.zero_le _) (fun u hu => absurd hu (Nat.not_lt_zero u))
  refine mj_on (s289_2 _ _ ?_)
  rw [show (40 : Int32) = nI 40 from rfl, nI_1, g4]
  have nx : i < 40 → (i ≠ o → lbit C i → wn I1 W i o) → E1 289 (D + 2) (fun q => q = (.int (tf (b2P I1 W Rn C o)), (I, J, mj_R1))) 2 [(0, .ref 58), (1, .int (nI o)), (2, .int (nI (i + 1)))] I J := fun c q => ih c fun u h1 h2 h3 => by
    by_cases e : u = i
    · subst e; exact q h2 h3
    · exact hp u (by omega) h2 h3
  refine if_le (by omega) (by omega) (fun c => if_i (fun d => mzF fun q => q.1 (cmp0.mp d)) (fun d => mzT ⟨fun q => d (cmp0.mpr q), fun u h1 h2 h3 => hp u (by omega) h2 h3⟩)) (fun c => if_eq (by omega) (by omega) (fun e => nx c fun q => absurd e q) (fun e => ⟨trivial, _, _, _, c_isIn (by omega), if_tf (fun d => ?_) (fun d => nx c fun _ q => absurd q d)⟩))
  exact ⟨trivial, _, _, _, c_most h hg (hC i d) ho, if_tf (fun w => nx c fun _ _ => w) (fun w => mzF fun q => w (q.2 i (hC i d) e d))⟩
theorem c_ever (h : Rl b W Rn Kn Tn Hn Un g I1 J1 I2 J2) (hg : gat I1 J1 W Rn 6 I J) : C1 (D + 4) 290 [.ref 58] I J (.long (efC I1 W Rn (cnd J1 6))) I J := by
  obtain ⟨g1, g2, g3, g4, g5⟩ := id hg
  have hR := h.rB.2.2.2.2.2
  obtain ⟨C, hCe⟩ : ∃ C, C = cnd J1 6 := ⟨_, rfl⟩
  have hC : ∀ i, lbit C i → i < Rn := fun i q => h.cbit (hCe ▸ q)
  rw [← hCe] at g4 ⊢
  have e40 : efC I1 W Rn C = bs 40 (efP I1 W Rn C) := (bs_up (by omega) fun i q1 _ q3 => by have := hC i q3.1; omega).symm
  obtain ⟨v, hv⟩ : ∃ v, v = bs 40 (efP I1 W Rn C) := ⟨_, rfl⟩
  rw [e40, ← hv]
  refine mj_mk (e290 ?_)
  refine lp_up (n := 40) (fun i => E1 290 (D + 3) (fun q => q = (.long v, (I, J, mj_R1))) 4 [(0, .ref 58), (1, .long (bs i (efP I1 W Rn C))), (3, .int (nI i))] I J) (fun i hi ih => ?_) 0 (Nat.zero_le _)
  refine mj_on (s290_4 _ _ ?_)
  rw [show (40 : Int32) = nI 40 from rfl, nI_1, g4]
  have no : i < 40 → ¬ efP I1 W Rn C i → E1 290 (D + 3) (fun q => q = (.long v, (I, J, mj_R1))) 4 [(0, .ref 58), (1, .long (bs i (efP I1 W Rn C))), (3, .int (nI (i + 1)))] I J := fun c q => by
    have z := ih c
    rw [bs_f0 q] at z
    exact z
  refine if_le (by omega) (by omega) (fun c => ?_) (fun c => ⟨trivial, _, _, _, c_isIn (by omega), if_tf (fun d => ?_) (fun d => no c fun q => d q.1)⟩)
  · obtain rfl : i = 40 := by omega
    rw [hv]
  rw [g4]
  have cb := c_blame (D := D) (k := 0) h hg hC (by decide) (hC i d)
  have hl : ct 6 (fiP I1 W Rn C i) ≤ 6 := ct_le
  have eb : blN I1 W Rn C 0 i 6 = -(nI (ct 6 (fiP I1 W Rn C i))) := rfl
  rw [eb] at cb
  have lt : -(nI (ct 6 (fiP I1 W Rn C i))) < 0 ↔ ∃ p, p < 6 ∧ fiP I1 W Rn C i p := by
    rw [← ct_pos, ← iI_nI, iI_neg, Int32.lt_iff_toInt_lt, iI_toInt (by omega) (by omega)]
    show -((ct 6 (fiP I1 W Rn C i) : Nat) : Int) < 0 ↔ _
    omega
  generalize -(nI (ct 6 (fiP I1 W Rn C i))) = y at *
  refine ⟨trivial, _, _, _, cb, if_i (fun f => ?_) (fun f => no c fun q => f (lt.mpr q.2))⟩
  have z := ih c
  rw [bs_t (n := i) (p := efP I1 W Rn C) ⟨d, lt.mp f⟩] at z
  exact z
theorem br_4 {B1 B2 B3 : Prop} : (B2 → B3 → tf B1 + 2 + 4 = brA B1 B2 B3) ∧ (B2 → ¬ B3 → tf B1 + 2 = brA B1 B2 B3) ∧ (¬ B2 → B3 → tf B1 + 4 = brA B1 B2 B3) ∧ (¬ B2 → ¬ B3 → tf B1 = brA B1 B2 B3) := by
  unfold brA
  refine ⟨fun h2 h3 => ?_, fun h2 h3 => ?_, fun h2 h3 => ?_, fun h2 h3 => ?_⟩
  · rw [tf_t h2, tf_t h3]; rcases tf_01 B1 with e | e <;> rw [e] <;> rfl
  · rw [tf_t h2, tf_f h3]; rcases tf_01 B1 with e | e <;> rw [e] <;> rfl
  · rw [tf_f h2, tf_t h3]; rcases tf_01 B1 with e | e <;> rw [e] <;> rfl
  · rw [tf_f h2, tf_f h3]; rcases tf_01 B1 with e | e <;> rw [e] <;> rfl
theorem br_5 {B1 B2 B3 : Prop} : (B2 → B3 → (tf B1 ||| 2) ||| 4 = brA B1 B2 B3) ∧ (B2 → ¬ B3 → (tf B1 ||| 2) ||| 0 = brA B1 B2 B3) ∧ (¬ B2 → B3 → (tf B1 ||| 0) ||| 4 = brA B1 B2 B3) ∧ (¬ B2 → ¬ B3 → (tf B1 ||| 0) ||| 0 = brA B1 B2 B3) := by
  unfold brA
  refine ⟨fun h2 h3 => ?_, fun h2 h3 => ?_, fun h2 h3 => ?_, fun h2 h3 => ?_⟩
  · rw [tf_t h2, tf_t h3]; rcases tf_01 B1 with e | e <;> rw [e] <;> rfl
  · rw [tf_t h2, tf_f h3]; rcases tf_01 B1 with e | e <;> rw [e] <;> rfl
  · rw [tf_f h2, tf_t h3]; rcases tf_01 B1 with e | e <;> rw [e] <;> rfl
  · rw [tf_f h2, tf_f h3]; rcases tf_01 B1 with e | e <;> rw [e] <;> rfl
theorem c_broken {k : Nat} (h : Rl b W Rn Kn Tn Hn Un g I1 J1 I2 J2) (hg : gat I1 J1 W Rn 6 I J) (hk : k ≤ 3) : ∃ r : Int32, C1 (D + 5) 288 [.ref 58, .int (nI k)] I J (.int r) I J ∧ (pkC I1 W Rn (cnd J1 6) k = -1 → r = -1) ∧ ∀ o, lbit (cnd J1 6) o → pkC I1 W Rn (cnd J1 6) k = nI o → r = brk I1 W Rn (cnd J1 6) k o := by
  obtain ⟨g1, g2, g3, g4, g5⟩ := id hg
  have hR := h.rB.2.2.2.2.2
  have cbe : ∀ o, o < Rn → _ := fun o ho => c_behind (D := D + 1) (o := o) h hg ho
  have cev := c_ever (D := D) h hg
  have cbit : ∀ i, lbit (cnd J1 6) i → i < Rn := fun i q => h.cbit q
  obtain ⟨C, hCe⟩ : ∃ C, C = cnd J1 6 := ⟨_, rfl⟩
  rw [← hCe] at g4 cev cbit ⊢
  rw [← hCe] at cbe
  have cp : ∀ k, k ≤ 3 → C1 (D + 4) 281 [.ref 58, .int (nI k), .long C] I J (.int (pkC I1 W Rn C k)) I J := fun k hk => c_pick h hg cbit hk
  have cp3 : C1 (D + 4) 282 [.ref 58, .long C] I J (.int (pkC I1 W Rn C 3)) I J := c_pick3 h hg cbit
  have cpe : C1 (D + 4) 281 [.ref 58, .int (nI k), .long (efC I1 W Rn C)] I J (.int (pkC I1 W Rn (efC I1 W Rn C) k)) I J := c_pick h hg (fun i q => efC_bit hR q) hk
  have hin := pkC_in (I := I1) (W := W) (Rn := Rn) (C := C) (k := k)
  unfold brk
  have cpk := cp k hk
  generalize pkC I1 W Rn C k = f at *
  generalize pkC I1 W Rn C 3 = s at *
  generalize efC I1 W Rn C = E at *
  generalize pkC I1 W Rn E k = f' at *
  rcases hin with e | ⟨o, ho, e⟩
  · refine ⟨-1, mj_mk (e288 _ ?_), fun _ => rfl, fun o q1 q2 => ?_⟩
    · rw [g4]
      exact ⟨trivial, _, _, _, cpk, by rw [if_pos e]⟩
    · have := cbit o q1
      rw [e] at q2
      exact absurd q2.symm (nI_nm1 (by omega))
  · have hoR := cbit o ho
    subst e
    obtain ⟨r4, r5, r6, r7⟩ := br_4 (B1 := s ≠ -1 ∧ s ≠ nI o) (B2 := b2P I1 W Rn C o) (B3 := f' ≠ nI o)
    obtain ⟨ans, hans⟩ : ∃ ans, ans = brA (s ≠ -1 ∧ s ≠ nI o) (b2P I1 W Rn C o) (f' ≠ nI o) := ⟨_, rfl⟩
    rw [← hans] at r4 r5 r6 r7
    refine ⟨ans, mj_mk (e288 _ ?_), fun q => absurd q (nI_nm1 (by omega)), fun o' q1 q2 => ?_⟩
    · rw [g4]
      refine ⟨trivial, _, _, _, cpk, ?_⟩
      rw [if_neg (nI_nm1 (by omega)), g4]
      refine ⟨trivial, _, _, _, cp3, ?_⟩
      have go : ∀ B : Prop, (B ↔ s ≠ -1 ∧ s ≠ nI o) → E1 288 (D + 4) (fun q => q = (.int ans, (I, J, mj_R1))) 43 [(0, .ref 58), (1, .int (nI k)), (2, .int (nI o)), (4, .int (tf B))] I J := fun B hB => by
        rw [tf_iff hB]
        refine mj_on (s288_43 _ _ _ ?_)
        refine ⟨trivial, _, _, _, cbe o hoR, if_tf (fun q => ?_) (fun q => ?_)⟩
        · refine mj_on (s288_54 _ _ _ ?_)
          refine ⟨trivial, _, _, _, cev, trivial, _, _, _, cpe, if_i (fun y => ?_) (fun y => ?_)⟩
          · rw [← r5 q (fun z => z y)]
          · rw [← r4 q y]
        · refine mj_on (s288_54 _ _ _ ?_)
          refine ⟨trivial, _, _, _, cev, trivial, _, _, _, cpe, if_i (fun y => ?_) (fun y => ?_)⟩
          · rw [← r7 q (fun z => z y)]
          · rw [← r6 q y]
      refine if_i (fun q => ?_) (fun q => if_i (fun y => ?_) (fun y => ?_))
      · have z := go False ⟨fun z => z.elim, fun z => z.1 q⟩
        rw [tf_f id] at z
        exact z
      · have z := go False ⟨fun z => z.elim, fun z => z.2 y⟩
        rw [tf_f id] at z
        exact z
      · have z := go True ⟨fun _ => ⟨q, y⟩, fun _ => trivial⟩
        rw [tf_t trivial] at z
        exact z
    · have := cbit o' q1
      obtain rfl := (nI_eq (by omega) (by omega)).mp q2
      exact hans
end S69
end
section
/-! breaks and place -/
section S70
variable {D b W Rn Kn Tn Hn Un g : Nat} {I I1 I2 : Nat → Nat → Int32} {J J1 J2 : Nat → Nat → Int64}
theorem r_breaks {k o : Nat} (h : Rl b W Rn Kn Tn Hn Un g I1 J1 I2 J2) (hk : k ≤ 3) (hV : 0 < vN I1) (ho : lbit (cnd J1 6) o) (hp : pkC I1 W Rn (cnd J1 6) k = nI o) : C2 (D + 9) 131 [.ref 0, .int (nI k)] I2 J2 (.int (brk I1 W Rn (cnd J1 6) k o)) I2 J2 := by
  obtain ⟨b1, b2, b3, b4, b5, b6⟩ := h.rB
  have cbit : ∀ i, lbit (cnd J1 6) i → i < Rn := fun i q => h.cbit q
  obtain ⟨r, hr, r1, -, -⟩ := r_choose (D := D) (x := nI k) h
  rw [r1 k hk rfl hV, hp] at hr
  have ca := r_cand (D := D + 3) h
  obtain ⟨C, hCe⟩ : ∃ C, C = cnd J1 6 := ⟨_, rfl⟩
  rw [← hCe] at cbit ho ca ⊢
  have cp3 := r_chosen (D := D + 1) (k := 3) h cbit (by decide)
  have cpe := r_chosen (D := D + 1) (k := k) h (fun i q => efC_bit (I := I1) (W := W) (C := C) b6 q) hk
  obtain ⟨q4, q5, q6, q7⟩ := br_5 (B1 := pkC I1 W Rn C 3 ≠ -1 ∧ pkC I1 W Rn C 3 ≠ nI o) (B2 := b2P I1 W Rn C o) (B3 := pkC I1 W Rn (efC I1 W Rn C) k ≠ nI o)
  obtain ⟨ans, hans⟩ : ∃ ans, ans = brk I1 W Rn C k o := ⟨_, rfl⟩
  have hans2 := hans
  unfold brk at hans2
  rw [← hans2] at q4 q5 q6 q7
  rw [← hans]
  clear hans hans2 hp r1
  have hoR := cbit o ho
  generalize pkC I1 W Rn C 3 = s at *
  generalize pkC I1 W Rn (efC I1 W Rn C) k = f' at *
  refine mj_mk (e131 _ ?_)
  refine ⟨trivial, _, _, _, hr, ?_⟩
  rw [if_neg (nI_nm1 (by omega))]
  refine ⟨trivial, _, _, _, ca, trivial, _, _, _, cp3, ?_⟩
  have go : ∀ B : Prop, (B ↔ s ≠ -1 ∧ s ≠ nI o) → E2 131 (D + 8) (fun q => q = (.int ans, (I2, J2, mj_R2))) 45 [(0, .ref 0), (1, .int (nI k)), (2, .int (nI o)), (3, .long C), (6, .int (tf B))] I2 J2 := fun B hB => by
    rw [tf_iff hB]
    obtain ⟨x6, hx6⟩ : ∃ x6, x6 = tf (s ≠ -1 ∧ s ≠ nI o) := ⟨_, rfl⟩
    rw [← hx6] at q4 q5 q6 q7 ⊢
    refine mj_on (s131_45 _ _ _ _ ?_)
    have loop : ∀ B0 : Prop, (B0 ↔ C ≠ (1 : Int64) <<< ((nI o).toInt64 &&& 63)) → E2 131 (D + 8) (fun q => q = (.int ans, (I2, J2, mj_R2))) 60 [(0, .ref 0), (1, .int (nI k)), (2, .int (nI o)), (3, .long C), (6, .int x6), (7, .int (tf B0))] I2 J2 := fun B0 hB0 => by
      refine mj_on (s131_60 _ _ _ _ _ ?_)
      refine lp_up (n := Rn) (fun i => ∀ B : Prop, (B ↔ C ≠ (1 : Int64) <<< ((nI o).toInt64 &&& 63) ∧ ∀ u, u < i → u ≠ o → lbit C u → wn I1 W u o) → E2 131 (D + 8) (fun q => q = (.int ans, (I2, J2, mj_R2))) 66 [(0, .ref 0), (1, .int (nI k)), (2, .int (nI o)), (3, .long C), (6, .int x6), (7, .int (tf B)), (8, .long (bs i (efP I1 W Rn C))), (10, .int (nI i))] I2 J2) (fun i hi ih B hB => ?_) 0 (Nat.zero_le _) B0 ⟨fun q => ⟨hB0.mp q, fun u hu => absurd hu (Nat.not_lt_zero u)⟩, fun q => hB0.mpr q.1⟩
      refine mj_on (s131_66 _ _ _ _ _ _ _ ?_)
      rw [b1, nI_clamp (by omega), b5, nI_1]
      refine ⟨vp_in_nI b2 (by decide), if_le (by omega) (by omega) (fun c => ?_) (fun c => if_i (fun d => ?_) (fun d => ?_))⟩
      · obtain rfl : i = Rn := by omega
        have fin : ∀ y : Int32, (f' = nI o → y ||| 0 = ans) → (f' ≠ nI o → y ||| 4 = ans) → E2 131 (D + 8) (fun q => q = (.int ans, (I2, J2, mj_R2))) 193 [(0, .ref 0), (1, .int (nI k)), (2, .int (nI o)), (6, .int y), (8, .long (bs i (efP I1 W i C)))] I2 J2 := fun y y1 y2 => by
          refine mj_on (s131_193 _ _ _ _ ?_)
          refine ⟨trivial, _, _, _, cpe, if_i (fun z => ?_) (fun z => ?_)⟩
          · rw [y1 z]
          · rw [y2 z]
        have hBb : B ↔ b2P I1 W i C o := hB
        refine if_tf (fun q => fin _ (fun z => q5 (hBb.mp q) (fun w => w z)) (fun z => q4 (hBb.mp q) z)) (fun q => fin _ (fun z => q7 (fun w => q (hBb.mpr w)) (fun w => w z)) (fun z => q6 (fun w => q (hBb.mpr w)) z))
      · have d := (sb_0 (by omega)).mp d
        have z := ih c B (by
          rw [hB]
          refine and_congr Iff.rfl ⟨fun q u h1 h2 h3 => ?_, fun q u h1 h2 h3 => q u (by omega) h2 h3⟩
          by_cases e : u = i
          · subst e; exact absurd h3 d
          · exact q u (by omega) h2 h3)
        rw [bs_f0 (fun q => d q.1)] at z
        exact z
      · have d : lbit C i := Classical.byContradiction fun q => d ((sb_0 (by omega)).mpr q)
        have inner : ∀ B' : Prop, (B' ↔ C ≠ (1 : Int64) <<< ((nI o).toInt64 &&& 63) ∧ ∀ u, u < i + 1 → u ≠ o → lbit C u → wn I1 W u o) → E2 131 (D + 8) (fun q => q = (.int ans, (I2, J2, mj_R2))) 122 [(0, .ref 0), (1, .int (nI k)), (2, .int (nI o)), (3, .long C), (6, .int x6), (7, .int (tf B')), (8, .long (bs i (efP I1 W Rn C))), (10, .int (nI i))] I2 J2 := fun B' hB' => by
          refine mj_on (s131_122 _ _ _ _ _ _ _ ?_)
          refine lp_up (n := 6) (fun p => ∀ x8, ((∃ p', p' < p ∧ fiP I1 W Rn C i p') ∧ x8 = bs i (efP I1 W Rn C) ||| ((1 : Int64) <<< ((nI i).toInt64 &&& 63)) ∨ (¬ ∃ p', p' < p ∧ fiP I1 W Rn C i p') ∧ x8 = bs i (efP I1 W Rn C)) → E2 131 (D + 8) (fun q => q = (.int ans, (I2, J2, mj_R2))) 125 [(0, .ref 0), (1, .int (nI k)), (2, .int (nI o)), (3, .long C), (6, .int x6), (7, .int (tf B')), (8, .long x8), (10, .int (nI i)), (11, .int (nI p))] I2 J2) (fun p hp2 ih2 x8 h8 => ?_) 0 (Nat.zero_le _) _ (Or.inr ⟨fun ⟨p', q, _⟩ => absurd q (Nat.not_lt_zero p'), rfl⟩)
          refine mj_on (s131_125 _ _ _ _ _ _ _ _ ?_)
          rw [show (6 : Int32) = nI 6 from rfl, nI_1, nI_1, Int64.or_zero]
          have skp : p < 6 → ¬ fiP I1 W Rn C i p → E2 131 (D + 8) (fun q => q = (.int ans, (I2, J2, mj_R2))) 125 [(0, .ref 0), (1, .int (nI k)), (2, .int (nI o)), (3, .long C), (6, .int x6), (7, .int (tf B')), (8, .long x8), (10, .int (nI i)), (11, .int (nI (p + 1)))] I2 J2 := fun c2 q => ih2 c2 x8 (by
            rcases h8 with ⟨⟨p', h1, h2⟩, h3⟩ | ⟨h1, h2⟩
            · exact Or.inl ⟨⟨p', by omega, h2⟩, h3⟩
            · refine Or.inr ⟨fun ⟨p', z1, z2⟩ => ?_, h2⟩
              by_cases e : p' = p
              · subst e; exact q z2
              · exact h1 ⟨p', by omega, z2⟩)
          refine if_le (by omega) (by omega) (fun c2 => ?_) (fun c2 => ⟨trivial, _, _, _, r_votes h c2, if_tf (fun v => ?_) (fun v => skp c2 fun q => v q.1)⟩)
          · obtain rfl : p = 6 := by omega
            have z := ih c B' hB'
            rcases h8 with ⟨h1, h2⟩ | ⟨h1, h2⟩
            · rw [bs_t (n := i) (p := efP I1 W Rn C) ⟨d, h1⟩] at z
              rw [h2]
              exact z
            · rw [bs_f0 (n := i) (p := efP I1 W Rn C) (fun q => h1 q.2)] at z
              rw [h2]
              exact z
          · have hrk : rk I1 W Rn C p i ≤ 40 := Nat.le_trans ct_le b6
            refine ⟨trivial, _, _, _, r_place h c2 v c, if_eq (b := 0) (by omega) (by decide) (fun y => ih2 c2 _ (Or.inl ⟨⟨p, by omega, v, y⟩, ?_⟩)) (fun y => skp c2 fun q => y q.2)⟩
            rcases h8 with ⟨h1, h2⟩ | ⟨h1, h2⟩
            · rw [h2, Int64.or_assoc, Int64.or_self]
            · rw [h2]
        have yes : (C ≠ (1 : Int64) <<< ((nI o).toInt64 &&& 63) ∧ ∀ u, u < i → u ≠ o → lbit C u → wn I1 W u o) → (i ≠ o → wn I1 W i o) → E2 131 (D + 8) (fun q => q = (.int ans, (I2, J2, mj_R2))) 122 [(0, .ref 0), (1, .int (nI k)), (2, .int (nI o)), (3, .long C), (6, .int x6), (7, .int 1), (8, .long (bs i (efP I1 W Rn C))), (10, .int (nI i))] I2 J2 := fun w1 w2 => by
          have z := inner True ⟨fun _ => ⟨w1.1, fun u h1 h2 h3 => ?_⟩, fun _ => trivial⟩
          · rw [tf_t trivial] at z
            exact z
          · by_cases e : u = i
            · subst e; exact w2 h2
            · exact w1.2 u (by omega) h2 h3
        have no : ¬ ((C ≠ (1 : Int64) <<< ((nI o).toInt64 &&& 63) ∧ ∀ u, u < i → u ≠ o → lbit C u → wn I1 W u o) ∧ (i ≠ o → wn I1 W i o)) → E2 131 (D + 8) (fun q => q = (.int ans, (I2, J2, mj_R2))) 122 [(0, .ref 0), (1, .int (nI k)), (2, .int (nI o)), (3, .long C), (6, .int x6), (7, .int 0), (8, .long (bs i (efP I1 W Rn C))), (10, .int (nI i))] I2 J2 := fun w => by
          have z := inner False ⟨fun q => q.elim, fun q => w ⟨⟨q.1, fun u h1 h2 h3 => q.2 u (by omega) h2 h3⟩, fun e => q.2 i (by omega) e d⟩⟩
          rw [tf_f id] at z
          exact z
        refine if_tf (fun q => if_eq (by omega) (by omega) (fun e => yes (hB.mp q) fun y => absurd e y) (fun e => ⟨trivial, _, _, _, r_wins h c hoR, if_tf (fun y => yes (hB.mp q) fun _ => y) (fun y => no fun w => y (w.2 e))⟩)) (fun q => no fun w => q (hB.mpr w.1))
    have hp1 := pcL_one (C := C) (o := o) (by omega) ho
    have hp2 : pcL C ≤ 64 := pcn_le 64 _
    have cr : C2 (D + 8) 63 [.long C] I2 J2 (.int (nI (pcL C))) I2 J2 := r_bits
    generalize pcL C = n at *
    refine ⟨trivial, _, _, _, cr, if_le (b := 1) (by omega) (by decide) (fun q => ?_) (fun q => ?_)⟩
    · have z := loop False ⟨fun y => y.elim, fun y => y (hp1.mp q)⟩
      rw [tf_f id] at z
      exact z
    · have z := loop True ⟨fun _ y => absurd (hp1.mpr y) (by omega), fun _ => trivial⟩
      rw [tf_t trivial] at z
      exact z
  refine if_i (fun q => ?_) (fun q => if_i (fun y => ?_) (fun y => ?_))
  · have z := go False ⟨fun z => z.elim, fun z => z.1 q⟩
    rw [tf_f id] at z
    exact z
  · have z := go False ⟨fun z => z.elim, fun z => z.2 y⟩
    rw [tf_f id] at z
    exact z
  · have z := go True ⟨fun _ => ⟨q, y⟩, fun _ => trivial⟩
    rw [tf_t trivial] at z
    exact z
theorem al_breaks {x : Int32} (h : Rl b W Rn Kn Tn Hn Un g I1 J1 I2 J2) : AI 287 131 [.int x] I1 J1 I2 J2 (Rl b W Rn Kn Tn Hn Un g) := by
  obtain ⟨t, I', J', hc, ht, hg⟩ := c_gatherP (D := 897) h
  rw [ht] at hc
  obtain ⟨g1, g2, g3, g4, g5⟩ := id hg
  have hR := h.rB.2.2.2.2.2
  obtain ⟨r, hr, r1, r2, r3⟩ := r_choose (D := 891) (x := x) h
  have m1 : r = -1 → C2 900 131 [.ref 0, .int x] I2 J2 (.int (-1)) I2 J2 := fun e => by
    refine mj_mk (D := 899) (e131 _ ⟨trivial, _, _, _, hr, ?_⟩)
    rw [if_pos e]
  by_cases hV : 0 < vN I1
  · by_cases e : ∃ k, k ≤ 3 ∧ x = nI k
    · obtain ⟨k, hk, rfl⟩ := e
      obtain ⟨a, ha, a1, a2⟩ := c_broken (D := 894) h hg hk
      have cl : C1 900 287 [.ref 0, .int (nI k)] I1 J1 (.int a) I' J' := by
        refine mj_mk (D := 899) (e287 _ ⟨trivial, _, _, _, hc, if_tf (fun q => ?_) (fun q => absurd hV q)⟩)
        exact ⟨trivial, _, _, _, ha, rfl⟩
      rcases pkC_in (I := I1) (W := W) (Rn := Rn) (C := cnd J1 6) (k := k) with e | ⟨o, ho, e⟩
      · rw [a1 e] at cl
        exact ⟨-1, I', J', I2, J2, cl, m1 (by rw [r1 k hk rfl hV, e]), Rl_same h g1 g2 rfl rfl⟩
      · rw [a2 o ho e] at cl
        exact ⟨_, I', J', I2, J2, cl, r_breaks (D := 891) h hk hV ho e, Rl_same h g1 g2 rfl rfl⟩
    · refine ⟨-1, I', J', I2, J2, mj_mk (D := 899) (e287 _ ⟨trivial, _, _, _, hc, if_tf (fun q => ?_) (fun q => rfl)⟩), m1 (r2 e), Rl_same h g1 g2 rfl rfl⟩
      refine ⟨trivial, _, _, _, mj_mk (D := 898) (e288 _ ⟨trivial, _, _, _, c_pickBad (D := 894) e, ?_⟩), rfl⟩
      rw [if_pos rfl]
  · refine ⟨-1, I', J', I2, J2, mj_mk (D := 899) (e287 _ ⟨trivial, _, _, _, hc, if_tf (fun q => absurd q hV) (fun q => rfl)⟩), m1 (r3 hV), Rl_same h g1 g2 rfl rfl⟩
theorem al_place {x y : Int32} (h : Rl b W Rn Kn Tn Hn Un g I1 J1 I2 J2) : AI 291 132 [.int x, .int y] I1 J1 I2 J2 (Rl b W Rn Kn Tn Hn Un g) := by
  obtain ⟨t, I', J', hc, ht, hg⟩ := c_gatherP (D := 897) h
  rw [ht] at hc
  obtain ⟨g1, g2, g3, g4, g5⟩ := id hg
  have hB := h.rB
  have hR := hB.2.2.2.2.2
  obtain ⟨a1, a2, -⟩ := h.N
  have cbit : ∀ i, lbit (cnd J1 6) i → i < Rn := fun i q => h.cbit q
  by_cases e : ∃ p, p < 6 ∧ x = nI p
  · obtain ⟨p, hp, rfl⟩ := e
    have vp6 : vp_in (nI p) 6 := vp_in_nI hp (by decide)
    have e60 : I' 60 (nI p).toNatClampNeg = I1 60 p := by rw [nI_clamp (by omega), k1_at g1 (q := 60) rfl]
    by_cases hv : vot I1 p
    · have hV : 0 < vN I1 := ct_pos.mpr ⟨p, hp, hv⟩
      obtain ⟨ans, hA1, hA2⟩ : ∃ ans : Int32, (∀ r, y = nI r → lbit (cnd J1 6) r → ans = nI (rk I1 W Rn (cnd J1 6) p r)) ∧ ((¬ ∃ r, r < Rn ∧ y = nI r ∧ lbit (cnd J1 6) r) → ans = -1) := by
        by_cases q : ∃ r, r < Rn ∧ y = nI r ∧ lbit (cnd J1 6) r
        · obtain ⟨r, hr, rfl, hb⟩ := q
          refine ⟨nI (rk I1 W Rn (cnd J1 6) p r), fun r' e' hb' => ?_, fun z => absurd ⟨r, hr, rfl, hb⟩ z⟩
          have := cbit r' hb'
          obtain rfl := (nI_eq (by omega) (by omega)).mp e'
          rfl
        · exact ⟨-1, fun r e hb => absurd ⟨r, cbit r hb, e, hb⟩ q, fun _ => rfl⟩
      refine ⟨ans, I', J', I2, J2, mj_mk (D := 899) (e291 _ _ ?_), mj_mk (D := 899) (e132 _ _ ?_), Rl_same h g1 g2 rfl rfl⟩
      · refine ⟨trivial, _, _, _, c_isOne, if_tf (fun _ => ?_) (fun q => absurd ⟨p, hp, rfl⟩ q)⟩
        refine ⟨trivial, _, _, _, hc, if_tf (fun _ => ⟨vp6, ?_⟩) (fun q => absurd hV q)⟩
        rw [e60, if_neg hv]
        have there : C1 899 192 [.ref 1, .int 1, .int y] I' J' (.int (tf (∃ j, j < Rn ∧ y = nI j))) I' J' := c_there (k := 1) (by rw [k1_at g1 rfl]; exact a2) hR (by decide)
        refine ⟨trivial, _, _, _, there, if_tf (fun q => ?_) (fun q => by rw [hA2 (fun ⟨r, z1, z2, _⟩ => q ⟨r, z1, z2⟩)])⟩
        obtain ⟨r, hr, rfl⟩ := q
        rw [g4]
        refine ⟨trivial, _, _, _, c_isIn (by omega), if_tf (fun d => ?_) (fun d => ?_)⟩
        · rw [g4]
          refine ⟨trivial, _, _, _, c_rank h hg cbit hp hv hr, ?_⟩
          rw [hA1 r rfl d]
        · rw [hA2]
          rintro ⟨r', z1, z2, z3⟩
          obtain rfl := (nI_eq (by omega) (by omega)).mp z2
          exact d z3
      · refine ⟨trivial, _, _, _, r_isPerson, if_tf (fun _ => ?_) (fun q => absurd ⟨p, hp, rfl⟩ q)⟩
        refine ⟨trivial, _, _, _, r_votes h hp, if_tf (fun _ => ?_) (fun q => absurd hv q)⟩
        refine ⟨trivial, _, _, _, r_isRow hB, if_tf (fun q => ?_) (fun q => by rw [hA2 (fun ⟨r, z1, z2, _⟩ => q ⟨r, z1, z2⟩)])⟩
        obtain ⟨r, hr, rfl⟩ := q
        refine ⟨trivial, _, _, _, r_cand h, if_i (fun d => ?_) (fun d => ?_)⟩
        · rw [hA2]
          rintro ⟨r', z1, z2, z3⟩
          obtain rfl := (nI_eq (by omega) (by omega)).mp z2
          exact (sb_0 (by omega)).mp d z3
        · have d : lbit (cnd J1 6) r := Classical.byContradiction fun q => d ((sb_0 (by omega)).mpr q)
          refine ⟨trivial, _, _, _, r_cand h, trivial, _, _, _, r_place h hp hv hr, ?_⟩
          rw [hA1 r rfl d]
    · refine ⟨-1, I', J', I2, J2, mj_mk (D := 899) (e291 _ _ ?_), mj_mk (D := 899) (e132 _ _ ?_), Rl_same h g1 g2 rfl rfl⟩
      · refine ⟨trivial, _, _, _, c_isOne, if_tf (fun _ => ?_) (fun q => absurd ⟨p, hp, rfl⟩ q)⟩
        refine ⟨trivial, _, _, _, hc, if_tf (fun _ => ⟨vp6, ?_⟩) (fun q => rfl)⟩
        rw [e60, if_pos (Classical.byContradiction hv)]
      · refine ⟨trivial, _, _, _, r_isPerson, if_tf (fun _ => ?_) (fun q => absurd ⟨p, hp, rfl⟩ q)⟩
        exact ⟨trivial, _, _, _, r_votes h hp, if_tf (fun q => absurd q hv) (fun _ => rfl)⟩
  · refine AI.same (-1) (mj_mk (D := 899) (e291 _ _ ?_)) (mj_mk (D := 899) (e132 _ _ ?_)) h
    · exact ⟨trivial, _, _, _, c_isOne, if_tf (fun q => absurd q e) (fun _ => rfl)⟩
    · exact ⟨trivial, _, _, _, r_isPerson, if_tf (fun q => absurd q e) (fun _ => rfl)⟩
end S70
end
section
/-! kept, letter, hole -/
def stA (dz : Nat → Int) : Nat → Nat
  | 0 => 0
  | j + 1 => if dz j ≤ 0 then stA dz j else if stA dz j = 0 ∨ dz j < stA dz j then (dz j).toNat else stA dz j
section S71
variable {D b W Rn Kn Tn Hn Un g : Nat} {I I1 I2 : Nat → Nat → Int32} {J J1 J2 : Nat → Nat → Int64}
theorem al_kept {x : Int32} (h : Rl b W Rn Kn Tn Hn Un g I1 J1 I2 J2) : AI 251 101 [.int x] I1 J1 I2 J2 (Rl b W Rn Kn Tn Hn Un g) := by
  obtain ⟨n, n1, n2, n3, n4⟩ := h.2.2.2.2.2.2.2.1
  by_cases e : ∃ i, i < n ∧ x = nI i
  · obtain ⟨i, hi, rfl⟩ := e
    refine AI.same (I1 50 i) (mj_mk (D := 899) (e251 _ ?_)) (mj_mk (D := 899) (e101 _ ?_)) h
    · rw [n2, if_neg (nI_pos (by omega)), nI_clamp (by omega)]
      exact if_le (by omega) (by omega) (fun q => absurd q (by omega)) (fun _ => ⟨vp_in_nI (by omega) (by decide), rfl⟩)
    · rw [n3, if_neg (nI_pos (by omega)), nI_clamp (by omega), n4 i hi]
      exact if_le (by omega) (by omega) (fun q => absurd q (by omega)) (fun _ => ⟨vp_in_nI (by omega) (by decide), rfl⟩)
  · refine AI.same (-1) (mj_mk (D := 899) (e251 _ ?_)) (mj_mk (D := 899) (e101 _ ?_)) h
    · rw [n2]
      exact if_rg (by omega) (fun j hj q => absurd ⟨j, hj, q⟩ e) (fun _ => rfl)
    · rw [n3]
      exact if_rg (by omega) (fun j hj q => absurd ⟨j, hj, q⟩ e) (fun _ => rfl)
theorem c_letK {κ N : Nat} {x2 x3 : Int32} (hκ : κ < 6) (hN : I1 2 κ = nI N) (hN2 : N ≤ 40) : (∀ j l, j < N → x2 = nI j → l.length ≤ 6 → (∀ a ∈ l, 1 ≤ a ∧ a ≤ 26) → I1 3 (40 * κ + j) = nI (nmC l) → E1 191 899 (fun q => q = (.int (lett l x3), (I1, J1, mj_R1))) 23 [(0, .ref 0), (2, .int x2), (3, .int x3), (4, .int (nI κ))] I1 J1) ∧ ((¬ ∃ j, j < N ∧ x2 = nI j) → E1 191 899 (fun q => q = (.int (-1), (I1, J1, mj_R1))) 23 [(0, .ref 0), (2, .int x2), (3, .int x3), (4, .int (nI κ))] I1 J1) := by
  constructor
  · rintro j l hj rfl h1 h2 h3
    refine mj_on (s191_23 _ _ _ ?_)
    refine ⟨trivial, _, _, _, c_there (k := κ) hN hN2 hκ, if_tf (fun _ => ?_) (fun q => absurd ⟨j, hj, rfl⟩ q)⟩
    rw [show nI κ * (40 : Int32) = nI (40 * κ) from (pk_mul κ 40).trans (by rw [Nat.mul_comm]), nI_add, nI_clamp (by omega), h3]
    exact ⟨vp_in_nI (by omega) (by decide), trivial, _, _, _, c_letterOf h1 h2, rfl⟩
  · intro q
    refine mj_on (s191_23 _ _ _ ?_)
    exact ⟨trivial, _, _, _, c_there (k := κ) hN hN2 hκ, if_tf (fun f => absurd f q) (fun _ => rfl)⟩
theorem al_letter {x1 x2 x3 : Int32} (h : Rl b W Rn Kn Tn Hn Un g I1 J1 I2 J2) : AI 191 47 [.int x1, .int x2, .int x3] I1 J1 I2 J2 (Rl b W Rn Kn Tn Hn Un g) := by
  obtain ⟨a1, a2, a3, a4, a5, a6, d1, d2, d3, d4, d5, d6, e1, e2, e3, e4, e5, e6, e7⟩ := h.N
  obtain ⟨n1, n2, n3, n4⟩ := h.2.1.2.2.2.2.2.1
  have hB := h.rB
  have b0 := hB.1
  -- the class
  have cl : ∀ (κ : Nat) (r : Int32), κ ≤ 3 → x1 = nI κ → E1 191 899 (fun q => q = (.int r, (I1, J1, mj_R1))) 23 [(0, .ref 0), (2, .int x2), (3, .int x3), (4, .int (nI (if κ = 3 then 4 else κ)))] I1 J1 → C1 900 191 [.ref 0, .int x1, .int x2, .int x3] I1 J1 (.int r) I1 J1 := fun κ r hκ e w => by
    refine mj_mk (D := 899) (e191 _ _ _ ?_)
    rw [e, if_neg (nI_pos (by omega)), show (3 : Int32) = nI 3 from rfl]
    refine if_le (by omega) (by omega) (fun _ => if_eq (by omega) (by omega) (fun y => ?_) (fun y => ?_)) (fun y => absurd y (by omega))
    · rw [if_pos y] at w; exact w
    · rw [if_neg y] at w; exact w
  -- the reference's three doors
  have go2 : ∀ r : Int32, x1 ≠ nI 0 → x1 ≠ nI 1 → E2 47 899 (fun q => q = (.int r, (I2, J2, mj_R2))) 62 [(0, .ref 0), (1, .int x1), (2, .int x2), (3, .int x3)] I2 J2 → C2 900 47 [.ref 0, .int x1, .int x2, .int x3] I2 J2 (.int r) I2 J2 := fun r z0 z1 w => by
    refine mj_mk (D := 899) (e47 _ _ _ ?_)
    rw [if_neg (show ¬ x1 = 0 from z0)]
    refine mj_on (s47_30 _ _ _ ?_)
    rw [if_neg (show ¬ x1 = 1 from z1)]
    exact w
  by_cases c0 : x1 = nI 0
  · subst c0
    have k := c_letK (J1 := J1) (x2 := x2) (x3 := x3) (κ := 0) (by decide) a1 (by omega)
    by_cases q : ∃ j, j < W ∧ x2 = nI j
    · obtain ⟨j, hj, rfl⟩ := id q
      obtain ⟨l, l1, l2, l3, l4, l5⟩ := n1 j hj
      refine AI.same (lett l x3) (cl 0 _ (by decide) rfl (k.1 j l hj rfl l2 l3 (by rw [Nat.mul_zero, Nat.zero_add]; exact l4))) (mj_mk (D := 899) (e47 _ _ _ ?_)) h
      rw [if_pos (show nI 0 = 0 from rfl)]
      refine ⟨trivial, _, _, _, r_isWish hB, if_tf (fun _ => ?_) (fun f => absurd q f)⟩
      rw [b0, ix4', nI_clamp (by omega), l5]
      exact ⟨vp_in_nI (by omega) (by decide), trivial, _, _, _, r_letterOf l2 l3, rfl⟩
    · refine AI.same (-1) (cl 0 _ (by decide) rfl (k.2 q)) (mj_mk (D := 899) (e47 _ _ _ ?_)) h
      rw [if_pos (show nI 0 = 0 from rfl)]
      refine ⟨trivial, _, _, _, r_isWish hB, if_tf (fun f => absurd f q) (fun _ => ?_)⟩
      refine mj_on (s47_30 _ _ _ ?_)
      rw [if_neg (show ¬ nI 0 = 1 by decide)]
      refine mj_on (s47_62 _ _ _ ?_)
      rw [if_neg (show ¬ nI 0 = 2 by decide)]
      refine mj_on (s47_105 _ _ _ ?_)
      rw [if_neg (show ¬ nI 0 = 3 by decide)]
  by_cases c1 : x1 = nI 1
  · subst c1
    have k := c_letK (J1 := J1) (x2 := x2) (x3 := x3) (κ := 1) (by decide) a2 (by omega)
    by_cases q : ∃ j, j < Rn ∧ x2 = nI j
    · obtain ⟨j, hj, rfl⟩ := id q
      obtain ⟨l, l1, l2, l3, l4, l5⟩ := n2 j hj
      refine AI.same (lett l x3) (cl 1 _ (by decide) rfl (k.1 j l hj rfl l2 l3 l4)) (mj_mk (D := 899) (e47 _ _ _ ?_)) h
      rw [if_neg (show ¬ nI 1 = 0 by decide)]
      refine mj_on (s47_30 _ _ _ ?_)
      rw [if_pos (show nI 1 = 1 from rfl)]
      refine ⟨trivial, _, _, _, r_isRow hB, if_tf (fun _ => ?_) (fun f => absurd q f)⟩
      rw [b0, ix40, nI_clamp (by omega), l5]
      exact ⟨vp_in_nI (by omega) (by decide), trivial, _, _, _, r_letterOf l2 l3, rfl⟩
    · refine AI.same (-1) (cl 1 _ (by decide) rfl (k.2 q)) (mj_mk (D := 899) (e47 _ _ _ ?_)) h
      rw [if_neg (show ¬ nI 1 = 0 by decide)]
      refine mj_on (s47_30 _ _ _ ?_)
      rw [if_pos (show nI 1 = 1 from rfl)]
      refine ⟨trivial, _, _, _, r_isRow hB, if_tf (fun f => absurd f q) (fun _ => ?_)⟩
      refine mj_on (s47_62 _ _ _ ?_)
      rw [if_neg (show ¬ nI 1 = 2 by decide)]
      refine mj_on (s47_105 _ _ _ ?_)
      rw [if_neg (show ¬ nI 1 = 3 by decide)]
  by_cases c2 : x1 = nI 2
  · subst c2
    have k := c_letK (J1 := J1) (x2 := x2) (x3 := x3) (κ := 2) (by decide) a3 (by omega)
    by_cases q : ∃ j, j < Kn ∧ x2 = nI j
    · obtain ⟨j, hj, rfl⟩ := id q
      obtain ⟨l, l1, l2, l3, l4, l5⟩ := n3 j hj
      refine AI.same (lett l x3) (cl 2 _ (by decide) rfl (k.1 j l hj rfl l2 l3 l4)) (go2 _ c0 c1 (mj_on (s47_62 _ _ _ ?_))) h
      rw [if_pos (show nI 2 = 2 from rfl), b0, nI_clamp (by omega), d3]
      refine ⟨vp_in_nI e1 (by decide), trivial, _, _, _, r_is, if_tf (fun _ => ?_) (fun f => absurd ((r_rg (by omega)).mpr q) f)⟩
      rw [b0, show (10 : Int32) * nI b = nI (10 * b) from pk_mul 10 b, nI_add, nI_clamp (by omega), l5]
      exact ⟨vp_in_nI (by omega) (by decide), trivial, _, _, _, r_letterOf l2 l3, rfl⟩
    · refine AI.same (-1) (cl 2 _ (by decide) rfl (k.2 q)) (go2 _ c0 c1 (mj_on (s47_62 _ _ _ ?_))) h
      rw [if_pos (show nI 2 = 2 from rfl), b0, nI_clamp (by omega), d3]
      refine ⟨vp_in_nI e1 (by decide), trivial, _, _, _, r_is, if_tf (fun f => absurd ((r_rg (by omega)).mp f) q) (fun _ => ?_)⟩
      refine mj_on (s47_105 _ _ _ ?_)
      rw [if_neg (show ¬ nI 2 = 3 by decide)]
  by_cases c3 : x1 = nI 3
  · subst c3
    have k := c_letK (J1 := J1) (x2 := x2) (x3 := x3) (κ := 4) (by decide) a5 (by omega)
    by_cases q : ∃ j, j < Hn ∧ x2 = nI j
    · obtain ⟨j, hj, rfl⟩ := id q
      obtain ⟨l, l1, l2, l3, l4, l5⟩ := n4 j hj
      refine AI.same (lett l x3) (cl 3 _ (by decide) rfl (k.1 j l hj rfl l2 l3 l4)) (go2 _ c0 c1 (mj_on (s47_62 _ _ _ ?_))) h
      rw [if_neg (show ¬ nI 3 = 2 by decide)]
      refine mj_on (s47_105 _ _ _ ?_)
      rw [if_pos (show nI 3 = 3 from rfl), b0, nI_clamp (by omega), d5]
      refine ⟨vp_in_nI e1 (by decide), trivial, _, _, _, r_is, if_tf (fun _ => ?_) (fun f => absurd ((r_rg (by omega)).mpr q) f)⟩
      rw [b0, show (12 : Int32) * nI b = nI (12 * b) from pk_mul 12 b, nI_add, nI_clamp (by omega), l5]
      exact ⟨vp_in_nI (by omega) (by decide), trivial, _, _, _, r_letterOf l2 l3, rfl⟩
    · refine AI.same (-1) (cl 3 _ (by decide) rfl (k.2 q)) (go2 _ c0 c1 (mj_on (s47_62 _ _ _ ?_))) h
      rw [if_neg (show ¬ nI 3 = 2 by decide)]
      refine mj_on (s47_105 _ _ _ ?_)
      rw [if_pos (show nI 3 = 3 from rfl), b0, nI_clamp (by omega), d5]
      exact ⟨vp_in_nI e1 (by decide), trivial, _, _, _, r_is, if_tf (fun f => absurd ((r_rg (by omega)).mp f) q) (fun _ => rfl)⟩
  · refine AI.same (-1) (mj_mk (D := 899) (e191 _ _ _ ?_)) (go2 _ c0 c1 (mj_on (s47_62 _ _ _ ?_))) h
    · refine if_i (fun _ => rfl) (fun y => if_i (fun z => ?_) (fun _ => rfl))
      obtain ⟨k, hk, rfl⟩ := nI_of2 (n := 3) (by decide) y z
      rcases (by omega : k = 0 ∨ k = 1 ∨ k = 2 ∨ k = 3) with rfl | rfl | rfl | rfl
      · exact absurd rfl c0
      · exact absurd rfl c1
      · exact absurd rfl c2
      · exact absurd rfl c3
    · rw [if_neg (show ¬ x1 = 2 from c2)]
      refine mj_on (s47_105 _ _ _ ?_)
      rw [if_neg (show ¬ x1 = 3 from c3)]
/-- the front at hand, by short names -/
theorem Rl.H (h : Rl b W Rn Kn Tn Hn Un g I1 J1 I2 J2) : (I1 38 0 = -1 ∧ I1 38 1 = nI 0 ∧ I2 0 58 = -1) ∨ ∃ n, n ≤ 100 ∧ I1 38 0 ≠ -1 ∧ I1 38 1 = nI n ∧ I2 0 58 = nI n ∧ 1 ≤ W ∧ ∀ k, k < n → ∀ w, w < W → I2 37 (4 * k + w) = I1 39 (4 * k + w) ∧ ∃ x : Int, -1000000 ≤ x ∧ x ≤ 1000000 ∧ I1 39 (4 * k + w) = iI x := by
  rcases h.2.2.2.2.2.1 with q | ⟨kd, n, h1, h2, h3, h4, h5, h6, h7, h8, h9⟩
  · exact Or.inl q
  · refine Or.inr ⟨n, h2, ?_, h4, h5, h7, h8⟩
    rw [h3]
    exact nI_nm1 (by omega)
def dfz (I : Nat → Nat → Int32) (j k w : Nat) : Int := (I 39 (4 * j + w)).toInt - (I 39 (4 * k + w)).toInt
theorem dfz_at {j k w : Nat} (hj : ∃ x : Int, -1000000 ≤ x ∧ x ≤ 1000000 ∧ I 39 (4 * j + w) = iI x) (hk : ∃ x : Int, -1000000 ≤ x ∧ x ≤ 1000000 ∧ I 39 (4 * k + w) = iI x) : I 39 (4 * j + w) - I 39 (4 * k + w) = iI (dfz I j k w) ∧ -2000000 ≤ dfz I j k w ∧ dfz I j k w ≤ 2000000 := by
  obtain ⟨x, x1, x2, x3⟩ := hj
  obtain ⟨y, y1, y2, y3⟩ := hk
  unfold dfz
  rw [x3, y3, iI_sub, iI_toInt (by omega) (by omega), iI_toInt (by omega) (by omega)]
  exact ⟨rfl, by omega, by omega⟩
theorem c_dif {j k w : Nat} (hj : j < 100) (hk : k < 100) (hw : w < 4) : C1 (D + 1) 245 [.ref 38, .int (nI j), .int (nI k), .int (nI w)] I J (.int (I 39 (4 * j + w) - I 39 (4 * k + w))) I J := by
  refine mj_mk (e245 _ _ _ ?_)
  rw [ix4, ix4, nI_clamp (by omega), nI_clamp (by omega)]
  exact ⟨vp_in_nI (by omega) (by decide), vp_in_nI (by omega) (by decide), rfl⟩
theorem iI_le0 {z : Int} (h1 : -2000000 ≤ z) (h2 : z ≤ 2000000) : iI z ≤ 0 ↔ z ≤ 0 := by
  rw [Int32.le_iff_toInt_le, iI_toInt (by omega) (by omega)]
  exact Iff.rfl
theorem stA_le {dz : Nat → Int} (h : ∀ j, dz j ≤ 2000000) : ∀ n, stA dz n ≤ 2000000
  | 0 => Nat.zero_le _
  | n + 1 => by
    have := stA_le h n
    have := h n
    unfold stA
    split
    · assumption
    · split
      · omega
      · assumption
theorem iI_toNat {z : Int} (h : 0 < z) : iI z = nI z.toNat := by
  rw [← iI_nI]
  congr 1
  omega
theorem al_hole {x : Int32} (h : Rl b W Rn Kn Tn Hn Un g I1 J1 I2 J2) : AI 254 104 [.int x] I1 J1 I2 J2 (Rl b W Rn Kn Tn Hn Un g) := by
  obtain ⟨a1, a2, -⟩ := h.N
  have hB := h.rB
  have b4 := hB.2.2.2.1
  rcases h.H with ⟨h1, h2, h3⟩ | ⟨n, h1, h2, h3, h4, h5, h6⟩
  · refine AI.same (-1) (mj_mk (D := 899) (e254 _ ⟨trivial, _, _, _, mj_mk (D := 898) (e242 ?_), if_tf (P := False) (fun q => q.elim) (fun _ => rfl)⟩)) (mj_mk (D := 899) (e104 _ ?_)) h
    · rw [if_pos h1]
      exact mzF id
    · rw [if_pos h3]
  have hand : C1 899 242 [.ref 38] I1 J1 (.int (tf True)) I1 J1 := by
    refine mj_mk (D := 898) (e242 ?_)
    rw [if_neg h2]
    exact mzT trivial
  have nn : I2 0 58 ≠ -1 := by rw [h4]; exact nI_nm1 (by omega)
  by_cases q : ∃ w, w < W ∧ x = nI w
  · obtain ⟨w, hw, rfl⟩ := q
    have q : ∃ j, j < W ∧ nI w = nI j := ⟨w, hw, rfl⟩
    obtain ⟨dz, hdz⟩ : ∃ dz : Nat → Nat → Int, dz = fun k j => if j < n then dfz I1 j k w else 0 := ⟨_, rfl⟩
    have dz1 : ∀ k j, k < n → j < n → I1 39 (4 * j + w) - I1 39 (4 * k + w) = iI (dz k j) ∧ -2000000 ≤ dz k j := fun k j hk hj => by
      have := dfz_at (I := I1) (h6 j hj w hw).2 (h6 k hk w hw).2
      rw [hdz]
      show _ = iI (if j < n then _ else 0) ∧ _ ≤ (if j < n then _ else 0)
      rw [if_pos hj]
      exact ⟨this.1, this.2.1⟩
    have dz2 : ∀ k, k < n → ∀ j, dz k j ≤ 2000000 := fun k hk j => by
      rw [hdz]
      show (if j < n then _ else 0) ≤ _
      by_cases hj : j < n
      · rw [if_pos hj]
        exact (dfz_at (I := I1) (h6 j hj w hw).2 (h6 k hk w hw).2).2.2
      · rw [if_neg hj]
        decide
    obtain ⟨f, hf⟩ : ∃ f : Nat → Nat, f = fun k => stA (dz k) n := ⟨_, rfl⟩
    have fle : ∀ k, k < n → f k ≤ 2000000 := fun k hk => by rw [hf]; exact stA_le (dz2 k hk) n
    have mle : ∀ k, k ≤ n → mxN f k ≤ 2000000 := by
      intro k
      induction k with
      | zero => intro _; exact Nat.zero_le _
      | succ k ih => intro hk; exact Nat.max_le.mpr ⟨ih (by omega), fle k (by omega)⟩
    have step : ∀ k, k < n → C1 899 255 [.ref 38, .int (nI k), .int (nI w)] I1 J1 (.int (nI (f k))) I1 J1 := fun k hk => by
      refine mj_mk (D := 898) (e255 _ _ ?_)
      refine lp_up (n := n) (fun j => E1 255 898 (fun q => q = (.int (nI (f k)), (I1, J1, mj_R1))) 5 [(0, .ref 38), (1, .int (nI k)), (2, .int (nI w)), (3, .int (nI (stA (dz k) j))), (4, .int (nI j))] I1 J1) (fun j hj ih => ?_) 0 (Nat.zero_le _)
      refine mj_on (s255_5 _ _ _ _ ?_)
      rw [h3, nI_1]
      refine if_le (by omega) (by omega) (fun c => ?_) (fun c => ⟨trivial, _, _, _, c_dif (D := 897) (by omega) (by omega) (by omega), ?_⟩)
      · obtain rfl : j = n := by omega
        rw [hf]
      obtain ⟨y1, y2⟩ := dz1 k j hk c
      have y3 := dz2 k hk j
      have y4 := stA_le (dz2 k hk) j
      rw [y1]
      have z := ih c
      have es : stA (dz k) (j + 1) = if dz k j ≤ 0 then stA (dz k) j else if stA (dz k) j = 0 ∨ dz k j < stA (dz k) j then (dz k j).toNat else stA (dz k) j := rfl
      refine if_i (fun d => ?_) (fun d => ?_)
      · rw [es, if_pos ((iI_le0 y2 y3).mp d)] at z
        exact z
      have d' : ¬ dz k j ≤ 0 := fun q => d ((iI_le0 y2 y3).mpr q)
      rw [es, if_neg d'] at z
      rw [iI_toNat (by omega)]
      refine if_eq (b := 0) (by omega) (by decide) (fun e => ?_) (fun e => if_le (by omega) (by omega) (fun e2 => ?_) (fun e2 => ?_))
      · rw [if_pos (Or.inl e)] at z; exact z
      · rw [if_neg (by omega)] at z; exact z
      · rw [if_pos (by omega)] at z; exact z
    refine AI.same (nI (mxN f n)) (mj_mk (D := 899) (e254 _ ?_)) (mj_mk (D := 899) (e104 _ ?_)) h
    · refine ⟨trivial, _, _, _, hand, if_tf (fun _ => ?_) (fun q => absurd trivial q)⟩
      refine ⟨trivial, _, _, _, c_there (k := 0) a1 (by omega) (by decide), if_tf (fun _ => ?_) (fun f => absurd q f)⟩
      refine lp_up (n := n) (fun k => E1 254 899 (fun q => q = (.int (nI (mxN f n)), (I1, J1, mj_R1))) 28 [(0, .ref 0), (1, .int (nI w)), (2, .int (nI (mxN f k))), (3, .int (nI k))] I1 J1) (fun k hk ih => ?_) 0 (Nat.zero_le _)
      refine mj_on (s254_28 _ _ _ ?_)
      rw [h3, nI_1]
      refine if_le (by omega) (by omega) (fun c => ?_) (fun c => ⟨trivial, _, _, _, step k c, trivial, _, _, _, c_max, ?_⟩)
      · obtain rfl : k = n := by omega
        rfl
      · rw [(i32_max (by have := mle k hk; omega) (by have := fle k c; omega)).1]
        exact ih c
    · rw [if_neg nn]
      refine ⟨trivial, _, _, _, r_isWish hB, if_tf (fun _ => ?_) (fun f => absurd q f)⟩
      refine lp_up (n := n) (fun k => E2 104 899 (fun q => q = (.int (nI (mxN f n)), (I2, J2, mj_R2))) 22 [(0, .ref 0), (1, .int (nI w)), (2, .int (nI (mxN f k))), (3, .int (nI k))] I2 J2) (fun k hk ih => ?_) 0 (Nat.zero_le _)
      refine mj_on (s104_22 _ _ _ ?_)
      rw [h4]
      refine if_le (by omega) (by omega) (fun c => ?_) (fun c => ?_)
      · obtain rfl : k = n := by omega
        rfl
      have mk := mle k hk
      refine lp_up (n := n) (fun j => E2 104 899 (fun q => q = (.int (nI (mxN f n)), (I2, J2, mj_R2))) 36 [(0, .ref 0), (1, .int (nI w)), (2, .int (nI (mxN f k))), (3, .int (nI k)), (4, .int (if stA (dz k) j = 0 then -1 else nI (stA (dz k) j))), (5, .int (nI j))] I2 J2) (fun j hj ih2 => ?_) 0 (Nat.zero_le _)
      refine mj_on (s104_36 _ _ _ _ _ ?_)
      rw [h4, nI_1, nI_1]
      have y4 := stA_le (dz2 k c) j
      refine if_le (by omega) (by omega) (fun d => ?_) (fun d => ?_)
      · obtain rfl : j = n := by omega
        have z := ih c
        have ef : f k = stA (dz k) j := by rw [hf]
        rw [show mxN f (k + 1) = max (mxN f k) (f k) from rfl, ef] at z
        by_cases e : stA (dz k) j = 0
        · rw [if_pos e, if_pos]
          · rw [e, Nat.max_zero] at z
            exact z
          · rw [Int32.le_iff_toInt_le, nI_toInt (by omega)]
            show (-1 : Int) ≤ _
            omega
        · rw [if_neg e]
          refine if_le (by omega) (by omega) (fun y => ?_) (fun y => ?_)
          · rw [Nat.max_eq_left y] at z; exact z
          · rw [Nat.max_eq_right (by omega)] at z; exact z
      obtain ⟨y1, y2⟩ := dz1 k j c d
      have y3 := dz2 k c j
      rw [ix4', ix4', nI_clamp (by omega), nI_clamp (by omega), (h6 j d w hw).1, (h6 k c w hw).1, y1]
      have z := ih2 d
      have es : stA (dz k) (j + 1) = if dz k j ≤ 0 then stA (dz k) j else if stA (dz k) j = 0 ∨ dz k j < stA (dz k) j then (dz k j).toNat else stA (dz k) j := rfl
      refine ⟨vp_in_nI (by omega) (by decide), vp_in_nI (by omega) (by decide), if_i (fun y => ?_) (fun y => ?_)⟩
      · rw [es, if_pos ((iI_le0 y2 y3).mp y)] at z
        exact z
      have y' : ¬ dz k j ≤ 0 := fun q => y ((iI_le0 y2 y3).mpr q)
      rw [if_neg y'] at es
      rw [iI_toNat (by omega)]
      by_cases e : stA (dz k) j = 0
      · rw [if_pos e, if_pos rfl]
        rw [if_pos (Or.inl e)] at es
        rw [es, if_neg (by omega)] at z
        exact z
      · rw [if_neg e, if_neg (nI_nm1 (by omega))]
        refine if_le (by omega) (by omega) (fun e2 => ?_) (fun e2 => ?_)
        · rw [if_neg (by omega)] at es
          rw [es, if_neg e] at z; exact z
        · rw [if_pos (by omega)] at es
          rw [es, if_neg (by omega)] at z; exact z
  · refine AI.same (-1) (mj_mk (D := 899) (e254 _ ?_)) (mj_mk (D := 899) (e104 _ ?_)) h
    · refine ⟨trivial, _, _, _, hand, if_tf (fun _ => ?_) (fun q => absurd trivial q)⟩
      exact ⟨trivial, _, _, _, c_there (k := 0) a1 (by omega) (by decide), if_tf (fun f => absurd f q) (fun _ => rfl)⟩
    · rw [if_neg nn]
      exact ⟨trivial, _, _, _, r_isWish hB, if_tf (fun f => absurd f q) (fun _ => rfl)⟩
end S71
end
section
/-! cost -/
theorem lNtI {m : Nat} (h : m < 2 ^ 62) : (lN m).toInt = m := by
  have h64 : m < 2 ^ 64 := Nat.lt_of_lt_of_le h (by decide)
  show (lN m).toBitVec.toInt = _
  have e := wb_tn h64
  rw [BitVec.toInt_eq_toNat_of_lt (by rw [e]; omega), e]
theorem cmp_lt {x y : Int64} : (lg_cmp x y < 0 ↔ x.toInt < y.toInt) ∧ (lg_cmp x y ≤ 0 ↔ x.toInt ≤ y.toInt) := by
  unfold lg_cmp
  by_cases h : x > y
  · rw [if_pos h]
    have h : y.toInt < x.toInt := Int64.lt_iff_toInt_lt.mp h
    exact ⟨⟨fun q => absurd q (by decide), fun q => absurd q (by omega)⟩, ⟨fun q => absurd q (by decide), fun q => absurd q (by omega)⟩⟩
  · rw [if_neg h]
    have h' : ¬ y.toInt < x.toInt := fun q => h (Int64.lt_iff_toInt_lt.mpr q)
    by_cases e : x = y
    · rw [if_pos e, e]
      exact ⟨⟨fun q => absurd q (by decide), fun q => absurd q (by omega)⟩, ⟨fun _ => Int.le_refl _, fun _ => by decide⟩⟩
    · rw [if_neg e]
      have e' : x.toInt ≠ y.toInt := fun q => e (Int64.toInt_inj.mp q)
      exact ⟨⟨fun _ => by omega, fun _ => by decide⟩, ⟨fun _ => by omega, fun _ => by decide⟩⟩
theorem lNmu {a c : Nat} : lN a * lN c = lN (a * c) := by
  apply wb_inj
  rw [Int64.toBitVec_mul]
  apply BitVec.eq_of_toNat_eq
  rw [wb_tb, wb_tb, wb_tb, BitVec.toNat_mul, BitVec.toNat_ofNat, BitVec.toNat_ofNat, BitVec.toNat_ofNat, ← Nat.mul_mod]
theorem lNsu {a c : Nat} (h : c ≤ a) (ha : a < 2 ^ 62) : lN a - lN c = lN (a - c) := by
  rw [← Int64.toInt_inj, Int64.toInt_sub, lNtI ha, lNtI (by omega), lNtI (by omega), Int.bmod_eq_of_le (by omega) (by omega)]
  omega
theorem lNdi {a c : Nat} (ha : a < 2 ^ 62) (hc : c < 2 ^ 62) : lN a / lN c = lN (a / c) := by
  have hq : a / c ≤ a := Nat.div_le_self _ _
  rw [← Int64.toInt_inj, Int64.toInt_div, lNtI ha, lNtI hc, lNtI (by omega), ← Int.ofNat_tdiv]
  generalize a / c = q at *
  rw [Int.bmod_eq_of_le (by omega) (by omega)]
theorem nI_div {a c : Nat} (ha : a < 2 ^ 30) (hc : c < 2 ^ 30) : nI a / nI c = nI (a / c) := by
  have hq : a / c ≤ a := Nat.div_le_self _ _
  rw [← Int32.toInt_inj, Int32.toInt_div, nI_toInt (by omega), nI_toInt (by omega), nI_toInt (n := a / c) (by omega), ← Int.ofNat_tdiv]
  generalize a / c = q at *
  rw [Int.bmod_eq_of_le (by omega) (by omega)]
theorem nI_toL {m : Nat} (h : m < 2 ^ 30) : (nI m).toInt64 = lN m := by
  rw [← Int64.toInt_inj, Int32.toInt_toInt64, nI_toInt (by omega), lNtI (by omega)]
theorem sub_dm (a c : Nat) : a - a / c * c = a % c := by
  have := Nat.div_add_mod a c
  rw [Nat.mul_comm] at this
  omega
def coS (a c : Int) (s : Nat × Nat) : Nat × Nat := if a ≤ 0 ∨ c ≤ 0 then s else if s.2 = 0 ∨ c.toNat * s.2 < s.1 * a.toNat then (c.toNat, a.toNat) else s
def coA (a c : Nat → Int) : Nat → Nat × Nat
  | 0 => (0, 0)
  | j + 1 => coS (a j) (c j) (coA a c j)
def coB (s : Nat × Nat) : Prop := s.1 ≤ 2000000 ∧ s.2 ≤ 2000000 ∧ (s.2 ≠ 0 → 1 ≤ s.1)
theorem coS_b {a c : Int} {s : Nat × Nat} (ha : a ≤ 2000000) (hc : c ≤ 2000000) (h : coB s) : coB (coS a c s) := by
  unfold coS
  split
  · exact h
  · split
    · refine ⟨?_, ?_, fun _ => ?_⟩
      · show c.toNat ≤ _; omega
      · show a.toNat ≤ _; omega
      · show 1 ≤ c.toNat; omega
    · exact h
section S72
variable {D b W Rn Kn Tn Hn Un g : Nat} {I I1 I2 : Nat → Nat → Int32} {J J1 J2 : Nat → Nat → Int64}
theorem c_gcd {x y : Nat} (hx : 1 ≤ x) (hx2 : x ≤ 2000000) (hy : y ≤ 2000000) : C1 (D + 2) 253 [.long (lN x), .long (lN y)] I J (.long (lN (Nat.gcd x y))) I J := by
  refine mj_mk (e253 _ _ ?_)
  obtain ⟨v, hv⟩ : ∃ v, v = Nat.gcd x y := ⟨_, rfl⟩
  rw [← hv]
  have fin : ∀ a, 1 ≤ a → a ≤ 2000000 → C1 (D + 1) 5 [.long 1, .long (lN a)] I J (.long (lN a)) I J := fun a h1 h2 => by
    refine mj_mk (e5 _ _ ?_)
    refine if_i (fun _ => rfl) (fun q => ?_)
    have : ¬ lg_cmp (lN 1) (lN a) < 0 := q
    rw [cmp_lt.1, lNtI (by decide), lNtI (by omega)] at this
    have e : a = 1 := by omega
    rw [e]
    rfl
  have key : ∀ t i a c, c < 2 ^ t → i + 2 * t ≤ 200 → 1 ≤ a → a ≤ 2000000 → c ≤ 2000000 → Nat.gcd a c = v → E1 253 (D + 1) (fun q => q = (.long (lN v), (I, J, mj_R1))) 9 [(4, .long (lN a)), (6, .long (lN c)), (8, .int (nI i))] I J := by
    intro t
    induction t with
    | zero =>
      intro i a c h1 h2 h3 h4 h5 h6
      obtain rfl : c = 0 := by omega
      rw [Nat.gcd_zero_right] at h6
      refine mj_on (s253_9 _ _ _ ?_)
      have z : lg_cmp (lN 0) 0 ≤ 0 := cmp_lt.2.mpr (Int.le_refl _)
      refine if_i (fun _ => ⟨trivial, _, _, _, fin a h3 h4, by rw [h6]⟩) (fun _ => ?_)
      rw [if_pos z]
      exact ⟨trivial, _, _, _, fin a h3 h4, by rw [h6]⟩
    | succ t ih =>
      intro i a c h1 h2 h3 h4 h5 h6
      refine mj_on (s253_9 _ _ _ ?_)
      rw [show (200 : Int32) = nI 200 from rfl]
      refine if_le (by omega) (by omega) (fun q => absurd q (by omega)) (fun _ => if_i (fun q => ?_) (fun q => ?_))
      · have q : lg_cmp (lN c) (lN 0) ≤ 0 := q
        rw [cmp_lt.2, lNtI (by omega), lNtI (by decide)] at q
        obtain rfl : c = 0 := by omega
        rw [Nat.gcd_zero_right] at h6
        exact ⟨trivial, _, _, _, fin a h3 h4, by rw [h6]⟩
      have q : ¬ lg_cmp (lN c) (lN 0) ≤ 0 := q
      rw [cmp_lt.2, lNtI (by omega), lNtI (by decide)] at q
      have nz : ∀ c, 0 < c → c ≤ 2000000 → ¬ lN c = 0 := fun c h1 h2 e => by
        have := congrArg Int64.toInt e
        rw [lNtI (by omega)] at this
        have e0 : ((0 : Int64)).toInt = 0 := rfl
        omega
      have dm : ∀ a c, a ≤ 2000000 → c ≤ 2000000 → lN a - lN a / lN c * lN c = lN (a % c) := fun a c h1 h2 => by
        rw [lNdi (by omega) (by omega), lNmu, lNsu (Nat.div_mul_le_self a c) (by omega), sub_dm]
      refine ⟨nz c (by omega) h5, ?_⟩
      rw [dm a c h4 h5, nI_1]
      have hr : a % c < c := Nat.mod_lt _ (by omega)
      have hg : Nat.gcd c (a % c) = v := by rw [← h6, Nat.gcd_comm a c, Nat.gcd_rec c a, Nat.gcd_comm]
      generalize a % c = r at *
      refine mj_on (s253_9 _ _ _ ?_)
      rw [show (200 : Int32) = nI 200 from rfl]
      refine if_le (by omega) (by omega) (fun q => absurd q (by omega)) (fun _ => if_i (fun q2 => ?_) (fun q2 => ?_))
      · have q2 : lg_cmp (lN r) (lN 0) ≤ 0 := q2
        rw [cmp_lt.2, lNtI (by omega), lNtI (by decide)] at q2
        obtain rfl : r = 0 := by omega
        rw [Nat.gcd_zero_right] at hg
        exact ⟨trivial, _, _, _, fin c (by omega) h5, by rw [hg]⟩
      have q2 : ¬ lg_cmp (lN r) (lN 0) ≤ 0 := q2
      rw [cmp_lt.2, lNtI (by omega), lNtI (by decide)] at q2
      refine ⟨nz r (by omega) (by omega), ?_⟩
      rw [dm c r h5 (by omega), nI_1]
      have hr2 : c % r < r := Nat.mod_lt _ (by omega)
      have hr3 : c % r + r ≤ c := by
        have e1 := Nat.div_add_mod c r
        have e2 : 1 ≤ c / r := (Nat.one_le_div_iff (by omega)).mpr (by omega)
        have e3 : r * 1 ≤ r * (c / r) := Nat.mul_le_mul_left r e2
        omega
      have hg2 : Nat.gcd r (c % r) = v := by rw [← hg, Nat.gcd_comm c r, Nat.gcd_rec r c, Nat.gcd_comm]
      exact ih (i + 1 + 1) r (c % r) (by rw [Nat.pow_succ] at h1; omega) (by omega) (by omega) (by omega) (by omega) hg2
  exact key 21 0 x y (by omega) (by omega) hx hx2 hy hv.symm
theorem r_gcd {x y : Nat} (hx2 : x ≤ 2000000) (hy : y ≤ 2000000) : C2 (D + 1) 103 [.int (nI x), .int (nI y)] I J (.int (nI (Nat.gcd x y))) I J := by
  refine mj_mk (e103 _ _ ?_)
  obtain ⟨v, hv⟩ : ∃ v, v = Nat.gcd x y := ⟨_, rfl⟩
  rw [← hv]
  have key : ∀ c a, a ≤ 2000000 → c ≤ 2000000 → Nat.gcd a c = v → E2 103 D (fun q => q = (.int (nI v), (I, J, mj_R2))) 4 [(2, .int (nI a)), (3, .int (nI c))] I J := by
    intro c
    induction c using Nat.strongRecOn with
    | _ c ih =>
      intro a h4 h5 h6
      refine mj_on (s103_4 _ _ ?_)
      refine if_le (b := 0) (by omega) (by decide) (fun q => ?_) (fun q => ⟨nI_ne0 (by omega) (by omega), ?_⟩)
      · obtain rfl : c = 0 := by omega
        rw [Nat.gcd_zero_right] at h6
        rw [h6]
      · have hr : a % c < c := Nat.mod_lt _ (by omega)
        rw [nI_div (by omega) (by omega), pk_mul, pk_sub (Nat.div_mul_le_self a c), sub_dm]
        exact ih (a % c) hr c h5 (by omega) (by rw [← h6, Nat.gcd_comm a c, Nat.gcd_rec c a, Nat.gcd_comm])
  exact key y x hx2 hy hv.symm
theorem al_cost {x1 x2 x3 x4 : Int32} (h : Rl b W Rn Kn Tn Hn Un g I1 J1 I2 J2) : AI 252 102 [.int x1, .int x2, .int x3, .int x4] I1 J1 I2 J2 (Rl b W Rn Kn Tn Hn Un g) := by
  obtain ⟨a1, a2, -⟩ := h.N
  have hB := h.rB
  have b4 := hB.2.2.2.1
  obtain ⟨m, hm, f1, f2, f3, f4⟩ := h.fr
  rcases (Classical.em ((∃ j, j < m ∧ x1 = nI j) ∧ (∃ j, j < W ∧ x2 = nI j) ∧ (∃ j, j < W ∧ x3 = nI j) ∧ x2 ≠ x3)).symm with all | all
  · refine AI.same (-1) (mj_mk (D := 899) (e252 _ _ _ _ ?_)) (mj_mk (D := 899) (e102 _ _ _ _ ?_)) h
    · refine ⟨trivial, _, _, _, c_fthere f1 hm, if_tf (fun q1 => ?_) (fun _ => rfl)⟩
      refine ⟨trivial, _, _, _, c_there (k := 0) a1 (by omega) (by omega), if_tf (fun q2 => ?_) (fun _ => rfl)⟩
      refine ⟨trivial, _, _, _, c_there (k := 0) a1 (by omega) (by omega), if_tf (fun q3 => ?_) (fun _ => rfl)⟩
      exact if_i (fun _ => rfl) (fun q4 => absurd ⟨q1, q2, q3, q4⟩ all)
    · refine ⟨trivial, _, _, _, f2 898 J2 I2 _ rfl, if_tf (fun q1 => ?_) (fun _ => rfl)⟩
      refine ⟨trivial, _, _, _, r_isWish hB, if_tf (fun q2 => ?_) (fun _ => rfl)⟩
      refine ⟨trivial, _, _, _, r_isWish hB, if_tf (fun q3 => ?_) (fun _ => rfl)⟩
      exact if_i (fun _ => rfl) (fun q4 => absurd ⟨q1, q2, q3, q4⟩ all)
  obtain ⟨⟨k, hk, rfl⟩, ⟨u, hu, rfl⟩, ⟨v, hv, rfl⟩, huv⟩ := id all
  obtain ⟨q1, q2, q3, q4⟩ := all
  obtain ⟨f5, f6⟩ := f4 (by omega)
  have lb : ∀ j, j < m → ∀ w, w < W → ∃ x : Int, -1000000 ≤ x ∧ x ≤ 1000000 ∧ I1 39 (4 * j + w) = iI x := fun j hj w hw => by
    rcases h.H with ⟨h1, h2, h3⟩ | ⟨n, h1, h2, h3, h4, h5, h6⟩
    · rw [f1] at h2
      have := (nI_eq (by omega) (by decide)).mp h2
      omega
    · rw [f1] at h3
      have := (nI_eq (by omega) (by omega)).mp h3
      exact (h6 j (by omega) w hw).2
  obtain ⟨da, hda⟩ : ∃ da : Nat → Int, da = fun j => if j < m then dfz I1 k j u else 0 := ⟨_, rfl⟩
  obtain ⟨dc, hdc⟩ : ∃ dc : Nat → Int, dc = fun j => if j < m then dfz I1 j k v else 0 := ⟨_, rfl⟩
  have da1 : ∀ j, j < m → I1 39 (4 * k + u) - I1 39 (4 * j + u) = iI (da j) ∧ -2000000 ≤ da j ∧ da j ≤ 2000000 := fun j hj => by
    have e : da j = dfz I1 k j u := by rw [hda]; exact if_pos hj
    rw [e]
    exact dfz_at (lb k hk u hu) (lb j hj u hu)
  have dc1 : ∀ j, j < m → I1 39 (4 * j + v) - I1 39 (4 * k + v) = iI (dc j) ∧ -2000000 ≤ dc j ∧ dc j ≤ 2000000 := fun j hj => by
    have e : dc j = dfz I1 j k v := by rw [hdc]; exact if_pos hj
    rw [e]
    exact dfz_at (lb j hj v hv) (lb k hk v hv)
  have cb : ∀ j, j ≤ m → coB (coA da dc j) := by
    intro j
    induction j with
    | zero => intro _; exact ⟨Nat.zero_le _, Nat.zero_le _, fun q => absurd rfl q⟩
    | succ j ih => intro hj; exact coS_b (da1 j (by omega)).2.2 (dc1 j (by omega)).2.2 (ih (by omega))
  obtain ⟨ans, hans⟩ : ∃ ans : Int32, ans = if (coA da dc m).2 = 0 then -1 else if x4 = 0 then nI ((coA da dc m).2 / Nat.gcd (coA da dc m).1 (coA da dc m).2) else nI ((coA da dc m).1 / Nat.gcd (coA da dc m).1 (coA da dc m).2) := ⟨_, rfl⟩
  have gpos : (coA da dc m).2 ≠ 0 → 1 ≤ Nat.gcd (coA da dc m).1 (coA da dc m).2 ∧ Nat.gcd (coA da dc m).1 (coA da dc m).2 ≤ 2000000 := fun e => by
    have := (cb m (Nat.le_refl _)).2.1
    exact ⟨Nat.gcd_pos_of_pos_right _ (by omega), Nat.le_trans (Nat.gcd_le_right _ (by omega)) this⟩
  have nx : ∀ j s, coA da dc j = s → coA da dc (j + 1) = coS (da j) (dc j) s := fun j s e => by rw [← e]; rfl
  have i64 : ∀ z : Int, -2000000 ≤ z → z ≤ 2000000 → ((iI z).toInt64).toInt = z := fun z h1 h2 => by rw [Int32.toInt_toInt64, iI_toInt (by omega) (by omega)]
  refine AI.same ans (mj_mk (D := 899) (e252 _ _ _ _ ?_)) (mj_mk (D := 899) (e102 _ _ _ _ ?_)) h
  · refine ⟨trivial, _, _, _, c_fthere f1 hm, if_tf (fun _ => ?_) (fun q => absurd q1 q)⟩
    refine ⟨trivial, _, _, _, c_there (k := 0) a1 (by omega) (by omega), if_tf (fun _ => ?_) (fun q => absurd q2 q)⟩
    refine ⟨trivial, _, _, _, c_there (k := 0) a1 (by omega) (by omega), if_tf (fun _ => ?_) (fun q => absurd q3 q)⟩
    rw [if_neg huv]
    refine lp_up (n := m) (fun j => E1 252 899 (fun q => q = (.int ans, (I1, J1, mj_R1))) 51 [(0, .ref 0), (1, .int (nI k)), (2, .int (nI u)), (3, .int (nI v)), (4, .int x4), (5, .long (lN (coA da dc j).1)), (7, .long (lN (coA da dc j).2)), (9, .int (nI j))] I1 J1) (fun j hj ih => ?_) 0 (Nat.zero_le _)
    refine mj_on (s252_51 _ _ _ _ _ _ _ ?_)
    rw [f1, nI_1]
    obtain ⟨y1, y2, y3⟩ := cb j hj
    refine if_le (by omega) (by omega) (fun c => ?_) (fun c => ?_)
    · obtain rfl : j = m := by omega
      generalize coA da dc j = s at *
      refine if_i (fun e => ?_) (fun e => ?_)
      · have e := cmp0.mp e
        have := congrArg Int64.toInt e
        rw [lNtI (by omega)] at this
        have e0 : ((0 : Int64)).toInt = 0 := rfl
        rw [hans, if_pos (by omega)]
      · have e2 : s.2 ≠ 0 := fun q => e (by rw [q]; exact cmp0.mpr rfl)
        obtain ⟨z1, z2⟩ := gpos e2
        refine ⟨trivial, _, _, _, c_gcd (y3 e2) y1 y2, ?_⟩
        have gz : ¬ lN (Nat.gcd s.1 s.2) = 0 := fun q => by
          have := congrArg Int64.toInt q
          rw [lNtI (by omega)] at this
          have e0 : ((0 : Int64)).toInt = 0 := rfl
          omega
        rw [if_neg e2] at hans
        refine if_i (fun w => ⟨gz, ?_⟩) (fun w => ⟨gz, ?_⟩)
        · rw [hans, if_pos w, lNdi (by omega) (by omega), lN_i]
        · rw [hans, if_neg w, lNdi (by omega) (by omega), lN_i]
    · obtain ⟨w1, w2, w3⟩ := da1 j c
      obtain ⟨t1, t2, t3⟩ := dc1 j c
      refine ⟨trivial, _, _, _, c_dif (D := 898) (by omega) (by omega) (by omega), trivial, _, _, _, c_dif (D := 898) (by omega) (by omega) (by omega), ?_⟩
      rw [w1, t1]
      have z := ih c
      obtain ⟨s, hs⟩ : ∃ s, s = coA da dc j := ⟨_, rfl⟩
      have es := nx j s hs.symm
      rw [← hs] at y1 y2 y3 ⊢
      unfold coS at es
      refine if_i (fun d => ?_) (fun d => if_i (fun e => ?_) (fun e => ?_))
      · rw [cmp_lt.2, i64 _ w2 w3] at d
        rw [if_pos (Or.inl (show da j ≤ 0 from d))] at es
        rw [es] at z
        exact z
      · rw [cmp_lt.2, i64 _ t2 t3] at e
        rw [if_pos (Or.inr (show dc j ≤ 0 from e))] at es
        rw [es] at z
        exact z
      rw [cmp_lt.2, i64 _ w2 w3] at d
      rw [cmp_lt.2, i64 _ t2 t3] at e
      have d : ¬ da j ≤ 0 := d
      have e : ¬ dc j ≤ 0 := e
      rw [if_neg (by omega)] at es
      rw [iI_toNat (by omega), iI_toNat (by omega), nI_toL (by omega), nI_toL (by omega), lNmu, lNmu]
      have take : s.2 = 0 ∨ (dc j).toNat * s.2 < s.1 * (da j).toNat → E1 252 899 (fun q => q = (.int ans, (I1, J1, mj_R1))) 126 [(0, .ref 0), (1, .int (nI k)), (2, .int (nI u)), (3, .int (nI v)), (4, .int x4), (9, .int (nI j)), (10, .long (lN (da j).toNat)), (12, .long (lN (dc j).toNat))] I1 J1 := fun q => by
        rw [if_pos q] at es
        rw [es] at z
        refine mj_on (s252_126 _ _ _ _ _ _ _ ?_)
        rw [nI_1]
        exact z
      have p1 : (dc j).toNat * s.2 ≤ 2000000 * 2000000 := Nat.mul_le_mul (by omega) y2
      have p2 : s.1 * (da j).toNat ≤ 2000000 * 2000000 := Nat.mul_le_mul y1 (by omega)
      refine if_i (fun q => take (Or.inl ?_)) (fun q => if_i (fun y => take (Or.inr ?_)) (fun y => ?_))
      · have q := cmp0.mp q
        have := congrArg Int64.toInt q
        rw [lNtI (by omega)] at this
        have e0 : ((0 : Int64)).toInt = 0 := rfl
        omega
      · rw [cmp_lt.1, lNtI (by omega), lNtI (by omega)] at y
        omega
      · rw [cmp_lt.1, lNtI (by omega), lNtI (by omega)] at y
        rw [if_neg] at es
        · rw [es] at z
          exact z
        · rintro (w | w)
          · exact q (by rw [w]; exact cmp0.mpr rfl)
          · omega
  · refine ⟨trivial, _, _, _, f2 898 J2 I2 _ rfl, if_tf (fun _ => ?_) (fun q => absurd q1 q)⟩
    refine ⟨trivial, _, _, _, r_isWish hB, if_tf (fun _ => ?_) (fun q => absurd q2 q)⟩
    refine ⟨trivial, _, _, _, r_isWish hB, if_tf (fun _ => ?_) (fun q => absurd q3 q)⟩
    rw [if_neg huv]
    refine lp_up (n := m) (fun j => ∀ x5 x6, ((coA da dc j).2 = 0 ∧ x5 = -1 ∧ x6 = 1 ∨ (coA da dc j).2 ≠ 0 ∧ x5 = nI (coA da dc j).1 ∧ x6 = nI (coA da dc j).2) → E2 102 899 (fun q => q = (.int ans, (I2, J2, mj_R2))) 40 [(0, .ref 0), (1, .int (nI k)), (2, .int (nI u)), (3, .int (nI v)), (4, .int x4), (5, .int x5), (6, .int x6), (7, .int (nI j))] I2 J2) (fun j hj ih x5 x6 hx => ?_) 0 (Nat.zero_le _) (-1) 1 (Or.inl ⟨rfl, rfl, rfl⟩)
    refine mj_on (s102_40 _ _ _ _ _ _ _ ?_)
    rw [f5, nI_1]
    obtain ⟨y1, y2, y3⟩ := cb j hj
    refine if_le (by omega) (by omega) (fun c => ?_) (fun c => ?_)
    · obtain rfl : j = m := by omega
      generalize coA da dc j = s at *
      rcases hx with ⟨e, rfl, rfl⟩ | ⟨e, rfl, rfl⟩
      · rw [if_pos rfl, hans, if_pos e]
      · rw [if_neg (nI_nm1 (by omega))]
        obtain ⟨z1, z2⟩ := gpos e
        refine ⟨trivial, _, _, _, r_gcd y1 y2, ?_⟩
        rw [if_neg e] at hans
        refine if_i (fun w => ⟨nI_ne0 (by omega) (by omega), ?_⟩) (fun w => ⟨nI_ne0 (by omega) (by omega), ?_⟩)
        · rw [hans, if_pos w, nI_div (by omega) (by omega)]
        · rw [hans, if_neg w, nI_div (by omega) (by omega)]
    · obtain ⟨w1, w2, w3⟩ := da1 j c
      obtain ⟨t1, t2, t3⟩ := dc1 j c
      rw [ix4', ix4', ix4', ix4', nI_clamp (by omega), nI_clamp (by omega), nI_clamp (by omega), nI_clamp (by omega), f3 k hk u hu, f3 j c u hu, f3 j c v hv, f3 k hk v hv, w1, t1]
      have z := ih c
      obtain ⟨s, hs⟩ : ∃ s, s = coA da dc j := ⟨_, rfl⟩
      have es := nx j s hs.symm
      rw [← hs] at y1 y2 y3 hx
      unfold coS at es
      have keep : coA da dc (j + 1) = s → E2 102 899 (fun q => q = (.int ans, (I2, J2, mj_R2))) 40 [(0, .ref 0), (1, .int (nI k)), (2, .int (nI u)), (3, .int (nI v)), (4, .int x4), (5, .int x5), (6, .int x6), (7, .int (nI (j + 1)))] I2 J2 := fun q => by
        rw [q] at z
        exact z x5 x6 hx
      refine ⟨vp_in_nI (by omega) (by decide), vp_in_nI (by omega) (by decide), vp_in_nI (by omega) (by decide), vp_in_nI (by omega) (by decide), if_i (fun d => ?_) (fun d => if_i (fun e => ?_) (fun e => ?_))⟩
      · rw [iI_le0 w2 w3] at d
        rw [if_pos (Or.inl d)] at es
        exact keep es
      · rw [iI_le0 t2 t3] at e
        rw [if_pos (Or.inr e)] at es
        exact keep es
      rw [iI_le0 w2 w3] at d
      rw [iI_le0 t2 t3] at e
      rw [if_neg (by omega)] at es
      rw [iI_toNat (by omega), iI_toNat (by omega), nI_toL (by omega), nI_toL (by omega)]
      have take : s.2 = 0 ∨ (dc j).toNat * s.2 < s.1 * (da j).toNat → E2 102 899 (fun q => q = (.int ans, (I2, J2, mj_R2))) 137 [(0, .ref 0), (1, .int (nI k)), (2, .int (nI u)), (3, .int (nI v)), (4, .int x4), (7, .int (nI j)), (8, .int (nI (da j).toNat)), (9, .int (nI (dc j).toNat))] I2 J2 := fun q => by
        rw [if_pos q] at es
        rw [es] at z
        refine mj_on (s102_137 _ _ _ _ _ _ _ ?_)
        rw [nI_1]
        refine z _ _ (Or.inr ⟨?_, rfl, rfl⟩)
        show (da j).toNat ≠ 0
        omega
      have p1 : (dc j).toNat * s.2 ≤ 2000000 * 2000000 := Nat.mul_le_mul (by omega) y2
      have p2 : s.1 * (da j).toNat ≤ 2000000 * 2000000 := Nat.mul_le_mul y1 (by omega)
      rcases hx with ⟨e0, rfl, rfl⟩ | ⟨e0, rfl, rfl⟩
      · rw [if_pos rfl]
        exact take (Or.inl e0)
      · rw [if_neg (nI_nm1 (by omega)), nI_toL (by omega), nI_toL (by omega), lNmu, lNmu]
        refine if_i (fun y => take (Or.inr ?_)) (fun y => keep ?_)
        · rw [cmp_lt.1, lNtI (by omega), lNtI (by omega)] at y
          omega
        · rw [cmp_lt.1, lNtI (by omega), lNtI (by omega)] at y
          rw [if_neg] at es
          · exact es
          · rintro (w | w)
            · exact e0 w
            · omega
end S72
end
section
/-! choices of some of n, in their order -/
def iot : Nat → Nat → List Nat
  | _, 0 => []
  | y, k + 1 => y :: iot (y + 1) k
theorem iot_len : ∀ {k y : Nat}, (iot y k).length = k
  | 0, _ => rfl
  | k + 1, y => by
    show (iot (y + 1) k).length + 1 = _
    rw [iot_len]
theorem iot_at : ∀ {k y i : Nat}, i < k → (iot y k)[i]? = some (y + i)
  | 0, _, _, h => absurd h (Nat.not_lt_zero _)
  | k + 1, y, 0, _ => rfl
  | k + 1, y, i + 1, h => by
    show (iot (y + 1) k)[i]? = _
    rw [iot_at (by omega)]
    congr 1
    omega
def nxt (n : Nat) : List Nat → Option (List Nat)
  | [] => none
  | x :: r => match nxt n r with
    | some r' => some (x :: r')
    | none => if x + (r.length + 1) < n then some (iot (x + 1) (r.length + 1)) else none
def bin : Nat → Nat → Nat
  | _, 0 => 1
  | 0, _ + 1 => 0
  | n + 1, k + 1 => bin n (k + 1) + bin n k
def rem (n : Nat) : List Nat → Nat
  | [] => 0
  | x :: r => bin (n - 1 - x) (r.length + 1) + rem n r
def vld (n : Nat) : List Nat → Prop
  | [] => True
  | x :: r => x + (r.length + 1) ≤ n ∧ vld n r
theorem bin_0 : ∀ {n k : Nat}, n < k → bin n k = 0
  | n, 0, h => absurd h (Nat.not_lt_zero n)
  | 0, k + 1, _ => rfl
  | n + 1, k + 1, h => by
    show bin n (k + 1) + bin n k = 0
    rw [bin_0 (by omega), bin_0 (by omega)]
theorem rem_iot {n : Nat} : ∀ {k y : Nat}, y + k ≤ n → rem n (iot y k) + 1 = bin (n - y) k
  | 0, y, _ => by
    show 1 = bin (n - y) 0
    cases n - y <;> rfl
  | k + 1, y, h => by
    show bin (n - 1 - y) ((iot (y + 1) k).length + 1) + rem n (iot (y + 1) k) + 1 = _
    have ih := rem_iot (n := n) (k := k) (y := y + 1) (by omega)
    rw [iot_len, Nat.add_assoc, ih]
    have e1 : n - y = (n - 1 - y) + 1 := by omega
    have e2 : n - (y + 1) = n - 1 - y := by omega
    rw [e1, e2]
    rfl
theorem vld_iot {n : Nat} : ∀ {k y : Nat}, y + k ≤ n → vld n (iot y k)
  | 0, _, _ => trivial
  | k + 1, y, h => by
    refine ⟨?_, vld_iot (by omega)⟩
    rw [iot_len]
    exact h
theorem vld_at {n : Nat} : ∀ {t : List Nat} {i x : Nat}, vld n t → t[i]? = some x → x + (t.length - i) ≤ n
  | [], i, x, _, h => by cases i <;> cases h
  | y :: r, 0, x, v, h => by
    cases h
    exact v.1
  | y :: r, i + 1, x, v, h => by
    have := vld_at (i := i) v.2 h
    rw [List.length_cons]
    omega
theorem nxt_ok {n : Nat} : ∀ {t : List Nat}, vld n t → (nxt n t = none → rem n t = 0) ∧ ∀ t', nxt n t = some t' → rem n t = rem n t' + 1 ∧ vld n t' ∧ t'.length = t.length
  | [], _ => ⟨fun _ => rfl, fun t' h => by cases h⟩
  | x :: r, v => by
    obtain ⟨i1, i2⟩ := nxt_ok v.2
    have v1 := v.1
    cases hr : nxt n r with
    | some r' =>
      obtain ⟨j1, j2, j3⟩ := i2 r' hr
      have e : nxt n (x :: r) = some (x :: r') := by
        show (match nxt n r with | some r' => some (x :: r') | none => _) = _
        rw [hr]
      rw [e]
      refine ⟨fun q => (by cases q), fun t' q => ?_⟩
      cases q
      refine ⟨?_, ⟨by rw [j3]; exact v1, j2⟩, by rw [List.length_cons, List.length_cons, j3]⟩
      show bin (n - 1 - x) (r.length + 1) + rem n r = bin (n - 1 - x) (r'.length + 1) + rem n r' + 1
      rw [j1, j3]
      omega
    | none =>
      have r0 := i1 hr
      have e : nxt n (x :: r) = if x + (r.length + 1) < n then some (iot (x + 1) (r.length + 1)) else none := by
        show (match nxt n r with | some r' => some (x :: r') | none => _) = _
        rw [hr]
      rw [e]
      by_cases c : x + (r.length + 1) < n
      · rw [if_pos c]
        refine ⟨fun q => (by cases q), fun t' q => ?_⟩
        cases q
        refine ⟨?_, vld_iot (by omega), by rw [iot_len, List.length_cons]⟩
        have := rem_iot (n := n) (k := r.length + 1) (y := x + 1) (by omega)
        show bin (n - 1 - x) (r.length + 1) + rem n r = _
        rw [this, r0, show n - (x + 1) = n - 1 - x by omega]
        rfl
      · rw [if_neg c]
        refine ⟨fun _ => ?_, fun t' q => by cases q⟩
        show bin (n - 1 - x) (r.length + 1) + rem n r = 0
        rw [r0, bin_0 (by omega)]
/-- how a search from the last place on finds the next choice -/
theorem nxt_cap {n : Nat} {t : List Nat} : ∀ k, (∀ j x, t.length - k ≤ j → t[j]? = some x → n ≤ x + (t.length - j)) → nxt n (t.drop (t.length - k)) = none
  | 0, _ => by
    rw [Nat.sub_zero, List.drop_length]
    rfl
  | k + 1, h => by
    by_cases c : t.length ≤ k
    · have := nxt_cap k (n := n) (t := t) (fun j x h1 h2 => h j x (by omega) h2)
      rw [show t.length - (k + 1) = t.length - k by omega]
      exact this
    · have ih := nxt_cap k (n := n) (t := t) (fun j x h1 h2 => h j x (by omega) h2)
      obtain ⟨x, hx, -, hd⟩ := gt_of (l := t) (n := t.length - (k + 1)) (by omega)
      rw [hd, show t.length - (k + 1) + 1 = t.length - k by omega]
      have hc := h _ x (Nat.le_refl _) hx
      show (match nxt n (t.drop (t.length - k)) with | some r' => some (x :: r') | none => if x + ((t.drop (t.length - k)).length + 1) < n then some (iot (x + 1) ((t.drop (t.length - k)).length + 1)) else none) = none
      rw [ih]
      rw [List.length_drop]
      exact if_neg (by omega)
theorem nxt_find {n i x : Nat} {t : List Nat} (hi : t[i]? = some x) (hx : x + (t.length - i) < n) (h : ∀ j y, i < j → t[j]? = some y → n ≤ y + (t.length - j)) : nxt n t = some (t.take i ++ iot (x + 1) (t.length - i)) := by
  have hil : i < t.length := (List.getElem?_eq_some_iff.mp hi).1
  have key : ∀ q, q ≤ i → nxt n (t.drop (i - q)) = some ((t.drop (i - q)).take q ++ iot (x + 1) (t.length - i)) := by
    intro q
    induction q with
    | zero =>
      intro _
      have hc := nxt_cap (n := n) (t := t) (t.length - (i + 1)) (fun j y h1 h2 => h j y (by omega) h2)
      rw [show t.length - (t.length - (i + 1)) = i + 1 by omega] at hc
      obtain ⟨x', hx', -, hd⟩ := gt_of (l := t) (n := i) hil
      rw [hi] at hx'
      cases hx'
      rw [Nat.sub_zero, hd]
      show (match nxt n (t.drop (i + 1)) with | some r' => some (x :: r') | none => if x + ((t.drop (i + 1)).length + 1) < n then some (iot (x + 1) ((t.drop (i + 1)).length + 1)) else none) = _
      rw [hc, List.length_drop]
      rw [show t.length - (i + 1) + 1 = t.length - i by omega]
      exact if_pos hx
    | succ q ih =>
      intro hq
      have ih := ih (by omega)
      obtain ⟨y, hy, -, hd⟩ := gt_of (l := t) (n := i - (q + 1)) (by omega)
      rw [hd, show i - (q + 1) + 1 = i - q by omega]
      show (match nxt n (t.drop (i - q)) with | some r' => some (y :: r') | none => _) = _
      rw [ih]
      rfl
  have := key i (Nat.le_refl _)
  rw [Nat.sub_self] at this
  exact this
theorem nxt_none {n : Nat} {t : List Nat} (h : ∀ j y, t[j]? = some y → n ≤ y + (t.length - j)) : nxt n t = none := by
  have := nxt_cap (n := n) (t := t) t.length (fun j x _ h2 => h j x h2)
  rw [Nat.sub_self] at this
  exact this
theorem bin_16 : ∀ n, n < 17 → ∀ s, s < 17 → bin n s ≤ 12870 := by decide +kernel
theorem bin_24 : ∀ n, n < 25 → ∀ s, s < 5 → bin n s ≤ 12870 := by decide +kernel
end
section
/-! the next choice, on both sides; what a choice needs -/
def arrL (I : Nat → Nat → Int32) (c : Nat) (t : List Nat) : Prop := ∀ i x, t[i]? = some x → I c i = nI x
theorem arrL_iot {I : Nat → Nat → Int32} {c s : Nat} (h : ∀ i, i < s → I c i = nI i) : arrL I c (iot 0 s) := fun i x hx => by
  have hi : i < s := by
    have := (List.getElem?_eq_some_iff.mp hx).1
    rwa [iot_len] at this
  rw [iot_at hi] at hx
  cases hx
  rw [h i hi, Nat.zero_add]
theorem arrL_nxt {I : Nat → Nat → Int32} {c k x s : Nat} {t : List Nat} (hs : t.length = s) (hk : k < s) (h1 : ∀ j y, j < k → t[j]? = some y → I c j = nI y) (h2 : ∀ j, k ≤ j → j < s → I c j = nI (x + 1 + (j - k))) : arrL I c (t.take k ++ iot (x + 1) (s - k)) := fun i y hy => by
  have hl : (t.take k).length = k := by rw [List.length_take]; omega
  by_cases e : i < k
  · rw [List.getElem?_append_left (by omega), List.getElem?_take_of_lt e] at hy
    exact h1 i y e hy
  · rw [List.getElem?_append_right (by omega), hl] at hy
    have hi : i - k < s - k := by
      have := (List.getElem?_eq_some_iff.mp hy).1
      rwa [iot_len] at this
    rw [iot_at hi] at hy
    cases hy
    rw [h2 i (by omega) (by omega)]
theorem nI_m1 (k : Nat) : nI k + (-1) = nI k - 1 := (Int32.sub_eq_add_neg _ _).symm
section S74
variable {D b W Rn Kn Tn Hn Un g : Nat} {I I1 I2 : Nat → Nat → Int32} {J J1 J2 : Nat → Nat → Int64}
theorem c_moveOn {n s : Nat} {t : List Nat} (hn : I 47 0 = nI n) (hn2 : n ≤ 24) (hs : t.length = s) (hs2 : s ≤ 16) (hsn : s ≤ n) (hv : vld n t) (ha : arrL I 49 t) : ∃ r I' J', C1 (D + 1) 248 [.ref 47, .int (nI s)] I J (.int r) I' J' ∧ r = tf (nxt n t ≠ none) ∧ J' = J ∧ (∀ q, q ≠ 49 → I' q = I q) ∧ ∀ t', nxt n t = some t' → arrL I' 49 t' := by
  refine mj_cI (e248 _ ?_)
  obtain ⟨Q, hQ⟩ : ∃ Q, Q = qI mj_R1 (fun r I' J' => r = tf (nxt n t ≠ none) ∧ J' = J ∧ (∀ q, q ≠ 49 → I' q = I q) ∧ ∀ t', nxt n t = some t' → arrL I' 49 t') := ⟨_, rfl⟩
  rw [← hQ]
  have key : ∀ k, k ≤ s → (∀ j y, k ≤ j → t[j]? = some y → n ≤ y + (s - j)) → E1 248 D Q 4 [(0, .ref 47), (1, .int (nI s)), (2, .int (nI k - 1))] I J := by
    intro k
    induction k with
    | zero =>
      intro _ h
      refine mj_on (s248_4 _ _ ?_)
      rw [if_pos (by decide), hQ]
      have e : nxt n t = none := nxt_none fun j y hy => by rw [hs]; exact h j y (Nat.zero_le _) hy
      exact ⟨Or.inl rfl, _, _, _, rfl, by rw [tf_f (fun q => q e)], rfl, fun _ _ => rfl, fun t' q => by rw [e] at q; cases q⟩
    | succ k ih =>
      intro hk h
      obtain ⟨x, hx, -, -⟩ := gt_of (l := t) (n := k) (by omega)
      have hvx := vld_at hv hx
      rw [hs] at hvx
      refine mj_on (s248_4 _ _ ?_)
      rw [n1_sub, if_neg (nI_pos (by omega)), nI_clamp (by omega), hn, pk_sub hsn, nI_add, ha k x hx, nI_m1]
      refine ⟨vp_in_nI (by omega) (by decide), if_le (by omega) (by omega) (fun c => ih (by omega) fun j y h1 h2 => ?_) (fun c => ?_)⟩
      · by_cases e : j = k
        · subst e
          rw [hx] at h2
          cases h2
          omega
        · exact h j y (by omega) h2
      have e : nxt n t = some (t.take k ++ iot (x + 1) (s - k)) := by
        have := nxt_find (n := n) hx (by rw [hs]; omega) (fun j y h1 h2 => by rw [hs]; exact h j y (by omega) h2)
        rwa [hs] at this
      rw [nI_1, nI_1]
      refine ⟨vp_in_nI (by omega) (by decide), vp_in_nI (by omega) (by decide), ?_⟩
      refine lp_up (n := s) (fun m => k < m → ∀ I', (∀ q, q ≠ 49 → I' q = I q) → (∀ j y, j < k → t[j]? = some y → I' 49 j = nI y) → (∀ j, k ≤ j → j < m → I' 49 j = nI (x + 1 + (j - k))) → E1 248 D Q 39 [(0, .ref 47), (1, .int (nI s)), (3, .int (nI m))] I' J) (fun m hm ih2 hkm I' i1 i2 i3 => ?_) (k + 1) hk (by omega) _ (fun q hq => by rw [up_c hq]) (fun j y h1 h2 => by rw [up_j (by omega)]; exact ha j y h2) (fun j h1 h2 => by
        obtain rfl : j = k := by omega
        rw [up_s, Nat.sub_self, Nat.add_zero])
      refine mj_on (s248_39 _ _ ?_)
      refine if_le (by omega) (by omega) (fun d => ?_) (fun d => ?_)
      · obtain rfl : m = s := by omega
        rw [hQ]
        exact ⟨Or.inr rfl, _, _, _, rfl, by rw [tf_t (fun q => by rw [e] at q; cases q)], rfl, i1, fun t' q => by
          rw [e] at q
          cases q
          exact arrL_nxt hs (by omega) i2 i3⟩
      · obtain ⟨m', rfl⟩ : ∃ m', m = m' + 1 := ⟨m - 1, by omega⟩
        rw [n1_sub, nI_clamp (by omega), nI_clamp (by omega), i3 m' (by omega) (by omega), nI_1, nI_1]
        refine ⟨vp_in_nI (by omega) (by decide), vp_in_nI (by omega) (by decide), ih2 d (by omega) _ (fun q hq => by rw [up_c hq]; exact i1 q hq) (fun j y h1 h2 => by rw [up_j (by omega)]; exact i2 j y h1 h2) (fun j h1 h2 => ?_)⟩
        by_cases z : j = m' + 1
        · rw [z, up_s]
          congr 1
          omega
        · rw [up_j z]; exact i3 j h1 (by omega)
  exact key s (Nat.le_refl _) (fun j y h1 h2 => by
    have := (List.getElem?_eq_some_iff.mp h2).1
    omega)
theorem r_next {n s : Nat} {t : List Nat} (hn : I 0 58 = nI n) (hn2 : n ≤ 24) (hs : t.length = s) (hs2 : s ≤ 16) (hsn : s ≤ n) (hv : vld n t) (ha : arrL I 42 t) : ∃ r I' J', C2 (D + 1) 99 [.ref 0, .int (nI s)] I J (.int r) I' J' ∧ r = tf (nxt n t ≠ none) ∧ J' = J ∧ (∀ q, q ≠ 42 → I' q = I q) ∧ ∀ t', nxt n t = some t' → arrL I' 42 t' := by
  refine mj_cI (e99 _ ?_)
  obtain ⟨Q, hQ⟩ : ∃ Q, Q = qI mj_R2 (fun r I' J' => r = tf (nxt n t ≠ none) ∧ J' = J ∧ (∀ q, q ≠ 42 → I' q = I q) ∧ ∀ t', nxt n t = some t' → arrL I' 42 t') := ⟨_, rfl⟩
  rw [← hQ]
  have key : ∀ k, k ≤ s → (∀ j y, k ≤ j → t[j]? = some y → n ≤ y + (s - j)) → E2 99 D Q 4 [(0, .ref 0), (1, .int (nI s)), (2, .int (nI k - 1))] I J := by
    intro k
    induction k with
    | zero =>
      intro _ h
      refine mj_on (s99_4 _ _ ?_)
      rw [if_pos (by decide)]
      refine mj_on (s99_31 _ _ ?_)
      rw [if_pos (by decide), hQ]
      have e : nxt n t = none := nxt_none fun j y hy => by rw [hs]; exact h j y (Nat.zero_le _) hy
      exact ⟨Or.inl rfl, _, _, _, rfl, by rw [tf_f (fun q => q e)], rfl, fun _ _ => rfl, fun t' q => by rw [e] at q; cases q⟩
    | succ k ih =>
      intro hk h
      obtain ⟨x, hx, -, -⟩ := gt_of (l := t) (n := k) (by omega)
      have hvx := vld_at hv hx
      rw [hs] at hvx
      refine mj_on (s99_4 _ _ ?_)
      rw [n1_sub, if_neg (nI_pos (by omega)), nI_clamp (by omega), hn, pk_sub hsn, nI_add, ha k x hx, nI_m1]
      refine ⟨vp_in_nI (by omega) (by decide), if_eq (by omega) (by omega) (fun c => ih (by omega) fun j y h1 h2 => ?_) (fun c => ?_)⟩
      · by_cases e : j = k
        · subst e
          rw [hx] at h2
          cases h2
          omega
        · exact h j y (by omega) h2
      have e : nxt n t = some (t.take k ++ iot (x + 1) (s - k)) := by
        have := nxt_find (n := n) hx (by rw [hs]; omega) (fun j y h1 h2 => by rw [hs]; exact h j y (by omega) h2)
        rwa [hs] at this
      refine mj_on (s99_31 _ _ ?_)
      rw [if_neg (nI_pos (by omega)), nI_clamp (by omega), ha k x hx, nI_1, nI_1]
      refine ⟨vp_in_nI (by omega) (by decide), vp_in_nI (by omega) (by decide), ?_⟩
      refine lp_up (n := s) (fun m => k < m → ∀ I', (∀ q, q ≠ 42 → I' q = I q) → (∀ j y, j < k → t[j]? = some y → I' 42 j = nI y) → (∀ j, k ≤ j → j < m → I' 42 j = nI (x + 1 + (j - k))) → E2 99 D Q 51 [(0, .ref 0), (1, .int (nI s)), (3, .int (nI m))] I' J) (fun m hm ih2 hkm I' i1 i2 i3 => ?_) (k + 1) hk (by omega) _ (fun q hq => by rw [up_c hq]) (fun j y h1 h2 => by rw [up_j (by omega)]; exact ha j y h2) (fun j h1 h2 => by
        obtain rfl : j = k := by omega
        rw [up_s, Nat.sub_self, Nat.add_zero])
      refine mj_on (s99_51 _ _ ?_)
      refine if_le (by omega) (by omega) (fun d => ?_) (fun d => ?_)
      · obtain rfl : m = s := by omega
        rw [hQ]
        exact ⟨Or.inr rfl, _, _, _, rfl, by rw [tf_t (fun q => by rw [e] at q; cases q)], rfl, i1, fun t' q => by
          rw [e] at q
          cases q
          exact arrL_nxt hs (by omega) i2 i3⟩
      · obtain ⟨m', rfl⟩ : ∃ m', m = m' + 1 := ⟨m - 1, by omega⟩
        rw [n1_sub, nI_clamp (by omega), nI_clamp (by omega), i3 m' (by omega) (by omega), nI_1, nI_1]
        refine ⟨vp_in_nI (by omega) (by decide), vp_in_nI (by omega) (by decide), ih2 d (by omega) _ (fun q hq => by rw [up_c hq]; exact i1 q hq) (fun j y h1 h2 => by rw [up_j (by omega)]; exact i2 j y h1 h2) (fun j h1 h2 => ?_)⟩
        by_cases z : j = m' + 1
        · rw [z, up_s]
          congr 1
          omega
        · rw [up_j z]; exact i3 j h1 (by omega)
  exact key s (Nat.le_refl _) (fun j y h1 h2 => by
    have := (List.getElem?_eq_some_iff.mp h2).1
    omega)
end S74
end
section
/-! how far apart: the class' table, the reference's count; what is kept -/
noncomputable def mo (I : Nat → Nat → Int32) (W a c : Nat) : Nat := mxN (fun w => (dfz I a c w).toNat) W
def mn (f : Nat → Nat) : Nat → Nat
  | 0 => 2000000000
  | s + 1 => min (mn f s) (f s)
theorem mn_le {f : Nat → Nat} : ∀ {s}, mn f s ≤ 2000000000
  | 0 => Nat.le_refl _
  | s + 1 => Nat.le_trans (Nat.min_le_left _ _) mn_le
theorem mn_le2 {f : Nat → Nat} {B : Nat} (h : ∀ i, f i ≤ B) {s : Nat} : mn f (s + 1) ≤ B := Nat.le_trans (Nat.min_le_right _ _) (h s)
noncomputable def ap (I : Nat → Nat → Int32) (W n : Nat) (t : List Nat) : Nat := mxN (fun c => mn (fun i => mo I W (t.getD i 0) c) t.length) n
theorem mxN_mono {f : Nat → Nat} : ∀ {m n : Nat}, m ≤ n → mxN f m ≤ mxN f n
  | m, 0, h => by rw [show m = 0 by omega]; exact Nat.le_refl _
  | m, n + 1, h => by
    by_cases e : m = n + 1
    · rw [e]; exact Nat.le_refl _
    · exact Nat.le_trans (mxN_mono (by omega)) (Nat.le_max_left _ _)
def frP (I1 I2 : Nat → Nat → Int32) (W n : Nat) : Prop := n ≤ 24 ∧ W ≤ 4 ∧ I1 38 1 = nI n ∧ I2 0 58 = nI n ∧ ∀ k, k < n → ∀ w, w < W → I2 37 (4 * k + w) = I1 39 (4 * k + w) ∧ ∃ x : Int, -1000000 ≤ x ∧ x ≤ 1000000 ∧ I1 39 (4 * k + w) = iI x
theorem i32_mxz {m : Nat} {z : Int} (hm : m ≤ 2000000) (h1 : -2000000 ≤ z) (h2 : z ≤ 2000000) : (if nI m < iI z then iI z else nI m) = nI (max m z.toNat) ∧ (if iI z ≤ nI m then nI m else iI z) = nI (max m z.toNat) := by
  have e1 : (nI m < iI z) ↔ (m : Int) < z := by rw [Int32.lt_iff_toInt_lt, nI_toInt (by omega), iI_toInt (by omega) (by omega)]
  have e2 : (iI z ≤ nI m) ↔ z ≤ (m : Int) := by rw [Int32.le_iff_toInt_le, nI_toInt (by omega), iI_toInt (by omega) (by omega)]
  by_cases c : (m : Int) < z
  · rw [if_pos (e1.mpr c), if_neg (fun q => by have := e2.mp q; omega), Nat.max_eq_right (by omega), iI_toNat (by omega)]
    exact ⟨rfl, rfl⟩
  · rw [if_neg (fun q => c (e1.mp q)), if_pos (e2.mpr (by omega)), Nat.max_eq_left (by omega)]
    exact ⟨rfl, rfl⟩
section S75
variable {D b W Rn Kn Tn Hn Un g n : Nat} {I I1 I2 : Nat → Nat → Int32} {J J1 J2 : Nat → Nat → Int64}
theorem frP.df (h : frP I1 I2 W n) {a c w : Nat} (ha : a < n) (hc : c < n) (hw : w < W) : I1 39 (4 * a + w) - I1 39 (4 * c + w) = iI (dfz I1 a c w) ∧ -2000000 ≤ dfz I1 a c w ∧ dfz I1 a c w ≤ 2000000 := dfz_at (h.2.2.2.2 a ha w hw).2 (h.2.2.2.2 c hc w hw).2
theorem frP.mo (h : frP I1 I2 W n) {a c : Nat} (ha : a < n) (hc : c < n) : ∀ k, k ≤ W → mxN (fun w => (dfz I1 a c w).toNat) k ≤ 2000000
  | 0, _ => Nat.zero_le _
  | k + 1, hk => by
    have := (h.df ha hc (w := k) (by omega)).2.2
    exact Nat.max_le.mpr ⟨h.mo ha hc k (by omega), by show (dfz I1 a c k).toNat ≤ _; omega⟩
/-- the class has measured -/
def dis (I1 : Nat → Nat → Int32) (W n : Nat) (I : Nat → Nat → Int32) : Prop := I 47 0 = nI n ∧ ∀ a c, a < n → c < n → I 48 (24 * a + c) = nI (mo I1 W a c)
theorem c_minN {x y : Nat} (hx : x < 2 ^ 31) (hy : y < 2 ^ 31) : C1 (D + 1) 0 [.int (nI x), .int (nI y)] I J (.int (nI (min x y))) I J := by
  have e : (if nI y < nI x then nI y else nI x) = nI (min x y) := by
    have e1 : (nI y < nI x) ↔ y < x := by rw [Int32.lt_iff_toInt_lt, nI_toInt hx, nI_toInt hy]; omega
    by_cases c : y < x
    · rw [if_pos (e1.mpr c), Nat.min_eq_right (by omega)]
    · rw [if_neg (fun q => c (e1.mp q)), Nat.min_eq_left (by omega)]
  rw [← e]
  exact c_min
theorem c_measure (h : frP I1 I2 W n) : ∃ I' J', C1 (D + 2) 244 [.ref 47, .ref 38, .int (nI W)] I1 J .null I' J' ∧ J' = J ∧ k1 I' = k1 I1 ∧ dis I1 W n I' := by
  obtain ⟨n1, n2, n3, n4, n5⟩ := id h
  refine mj_cN (e244 _ ?_)
  rw [n3, show (24 : Int32) = nI 24 from rfl]
  refine ⟨trivial, _, _, _, c_minN (by omega) (by decide), ?_⟩
  rw [Nat.min_eq_left n1]
  obtain ⟨Q, hQ⟩ : ∃ Q, Q = qN mj_R1 (fun I' J' => J' = J ∧ k1 I' = k1 I1 ∧ dis I1 W n I') := ⟨_, rfl⟩
  rw [← hQ]
  refine lp_up (n := n) (fun a => ∀ I, k1 I = k1 I1 → I 47 0 = nI n → (∀ a' c, a' < a → c < n → I 48 (24 * a' + c) = nI (mo I1 W a' c)) → E1 244 (D + 1) Q 15 [(0, .ref 47), (1, .ref 38), (2, .int (nI W)), (3, .int (nI a))] I J) (fun a ha ih I k h0 hd => ?_) 0 (Nat.zero_le _) _ (by rw [k1_up rfl]) (by rw [up_s]) (fun a' c q => absurd q (Nat.not_lt_zero a'))
  refine mj_on (s244_15 _ _ ?_)
  rw [h0]
  refine if_le (by omega) (by omega) (fun c => ?_) (fun c => ?_)
  · obtain rfl : a = n := by omega
    rw [hQ]
    exact ⟨_, _, rfl, rfl, k, h0, hd⟩
  refine lp_up (n := n) (fun e => ∀ I, k1 I = k1 I1 → I 47 0 = nI n → (∀ a' c, a' < a → c < n → I 48 (24 * a' + c) = nI (mo I1 W a' c)) → (∀ c, c < e → I 48 (24 * a + c) = nI (mo I1 W a c)) → E1 244 (D + 1) Q 26 [(0, .ref 47), (1, .ref 38), (2, .int (nI W)), (3, .int (nI a)), (4, .int (nI e))] I J) (fun e he ih2 I k h0 hd hd2 => ?_) 0 (Nat.zero_le _) I k h0 hd (fun c q => absurd q (Nat.not_lt_zero c))
  refine mj_on (s244_26 _ _ _ ?_)
  rw [h0, nI_1]
  refine if_le (by omega) (by omega) (fun d => ih c I k h0 fun a' c' q1 q2 => ?_) (fun d => ?_)
  · by_cases z : a' = a
    · rw [z]; exact hd2 c' (by omega)
    · exact hd a' c' (by omega) q2
  refine lp_up (n := W) (fun w => E1 244 (D + 1) Q 41 [(0, .ref 47), (1, .ref 38), (2, .int (nI W)), (3, .int (nI a)), (4, .int (nI e)), (5, .int (nI (mxN (fun w => (dfz I1 a e w).toNat) w))), (6, .int (nI w))] I J) (fun w hw ih3 => ?_) 0 (Nat.zero_le _)
  refine mj_on (s244_41 _ _ _ _ _ ?_)
  rw [show nI a * (24 : Int32) = nI (24 * a) from (pk_mul a 24).trans (by rw [Nat.mul_comm]), nI_add, nI_1, nI_1, nI_clamp (by omega)]
  refine if_le (by omega) (by omega) (fun f => ⟨vp_in_nI (by omega) (by decide), ?_⟩) (fun f => ⟨trivial, _, _, _, c_dif (by omega) (by omega) (by omega), trivial, _, _, _, c_max, ?_⟩)
  · obtain rfl : w = W := by omega
    refine ih2 d _ (by rw [k1_up rfl]; exact k) (by rw [up_c (by decide)]; exact h0) (fun a' c' q1 q2 => by rw [up_j (by omega)]; exact hd a' c' q1 q2) (fun c' q => ?_)
    by_cases z : c' = e
    · rw [z, up_s]; rfl
    · rw [up_j (by omega)]; exact hd2 c' (by omega)
  · obtain ⟨y1, y2, y3⟩ := h.df c d f
    rw [k1_at k (q := 39) rfl, k1_at k (q := 39) rfl, y1, (i32_mxz (h.mo c d w hw) y2 y3).1]
    exact ih3 f
theorem c_far {t : List Nat} {s B : Nat} (hn : frP I1 I2 W n) (hd : dis I1 W n I) (hs : t.length = s) (hs2 : s ≤ 16) (ha : arrL I 49 t) (ht : ∀ x ∈ t, x < n) (hB : B < 2 ^ 31) : ∃ x, C1 (D + 2) 247 [.ref 47, .int (nI s), .int (nI B)] I J (.int (nI x)) I J ∧ x < 2 ^ 31 ∧ (ap I1 W n t < B → x = ap I1 W n t) ∧ (¬ ap I1 W n t < B → B ≤ x) := by
  obtain ⟨n1, n2, n3, n4, n5⟩ := id hn
  obtain ⟨d2, d3⟩ := id hd
  obtain ⟨f, hf⟩ : ∃ f : Nat → Nat, f = fun c => mn (fun i => mo I1 W (t.getD i 0) c) t.length := ⟨_, rfl⟩
  have hap : ap I1 W n t = mxN f n := by rw [hf]; rfl
  have fle : ∀ c, f c ≤ 2000000000 := fun c => by rw [hf]; exact mn_le
  have mle : ∀ k, mxN f k ≤ 2000000000 := fun k => mxN_le fle k
  suffices hs : ∃ r I' J', C1 (D + 2) 247 [.ref 47, .int (nI s), .int (nI B)] I J (.int r) I' J' ∧ I' = I ∧ J' = J ∧ ∃ k, k ≤ n ∧ r = nI (mxN f k) ∧ (k = n ∨ B ≤ mxN f k) by
    obtain ⟨r, I', J', hc, rfl, rfl, k, k1, rfl, k2⟩ := hs
    have hm := mxN_mono (f := f) k1
    refine ⟨mxN f k, hc, by have := mle k; omega, fun q => ?_, fun q => ?_⟩
    · rw [hap] at q ⊢
      rcases k2 with rfl | k2
      · rfl
      · omega
    · rw [hap] at q
      rcases k2 with rfl | k2
      · omega
      · exact k2
  refine mj_cI (e247 _ _ ?_)
  obtain ⟨Q, hQ⟩ : ∃ Q, Q = qI mj_R1 (fun r I' J' => I' = I ∧ J' = J ∧ ∃ k, k ≤ n ∧ r = nI (mxN f k) ∧ (k = n ∨ B ≤ mxN f k)) := ⟨_, rfl⟩
  rw [← hQ]
  refine lp_up (n := n) (fun k => E1 247 (D + 1) Q 5 [(0, .ref 47), (1, .int (nI s)), (2, .int (nI B)), (3, .int (nI (mxN f k))), (4, .int (nI k))] I J) (fun k hk ih => ?_) 0 (Nat.zero_le _)
  have mk := mle k
  refine mj_on (s247_5 _ _ _ _ ?_)
  rw [d2]
  refine if_le (by omega) (by omega) (fun c => ?_) (fun c => if_le (by omega) (by omega) (fun d => ?_) (fun d => ?_))
  · obtain rfl : k = n := by omega
    rw [hQ]
    exact ⟨_, _, _, rfl, rfl, rfl, k, Nat.le_refl _, rfl, Or.inl rfl⟩
  · rw [hQ]
    exact ⟨_, _, _, rfl, rfl, rfl, k, hk, rfl, Or.inr d⟩
  refine lp_up (n := s) (fun i => E1 247 (D + 1) Q 26 [(0, .ref 47), (1, .int (nI s)), (2, .int (nI B)), (3, .int (nI (mxN f k))), (4, .int (nI k)), (5, .int (nI (mn (fun i => mo I1 W (t.getD i 0) k) i))), (6, .int (nI i))] I J) (fun i hi ih2 => ?_) 0 (Nat.zero_le _)
  have ml : mn (fun i => mo I1 W (t.getD i 0) k) i ≤ 2000000000 := mn_le
  refine mj_on (s247_26 _ _ _ _ _ _ ?_)
  rw [nI_1, nI_1, nI_clamp (by omega)]
  refine if_le (by omega) (by omega) (fun d => ?_) (fun d => ⟨vp_in_nI (by omega) (by decide), ?_⟩)
  · obtain rfl : i = s := by omega
    refine ⟨trivial, _, _, _, c_max, ?_⟩
    rw [(i32_max (by omega) (by omega)).1]
    have z := ih c
    have e : f k = mn (fun i => mo I1 W (t.getD i 0) k) i := by rw [hf, ← hs]
    rw [show mxN f (k + 1) = max (mxN f k) (f k) from rfl, e] at z
    exact z
  · obtain ⟨x, hx, hxm, -⟩ := gt_of (l := t) (n := i) (by omega)
    have xn := ht x hxm
    have gx : t.getD i 0 = x := by rw [List.getD_eq_getElem?_getD, hx]; rfl
    rw [ha i x hx, show nI x * (24 : Int32) = nI (24 * x) from (pk_mul x 24).trans (by rw [Nat.mul_comm]), nI_add, nI_clamp (by omega), d3 x k xn c]
    have mm := hn.mo xn c W (Nat.le_refl _)
    have mm2 : mo I1 W x k ≤ 2000000 := mm
    refine ⟨vp_in_nI (by omega) (by decide), trivial, _, _, _, c_minN (by omega) (by omega), ?_⟩
    have z := ih2 d
    rw [show mn (fun i => mo I1 W (t.getD i 0) k) (i + 1) = min (mn (fun i => mo I1 W (t.getD i 0) k) i) (mo I1 W (t.getD i 0) k) from rfl, gx] at z
    exact z
-- the reference
theorem r_more {a c : Nat} (h : rB I b W Rn) (hn : frP I1 I2 W n) (h37 : I 37 = I2 37) (ha : a < n) (hc : c < n) : C2 (D + 1) 97 [.ref 0, .int (nI a), .int (nI c)] I J (.int (nI (mo I1 W a c))) I J := by
  obtain ⟨b1, b2, b3, b4, b5, b6⟩ := h
  obtain ⟨n1, n2, n3, n4, n5⟩ := id hn
  refine mj_mk (e97 _ _ ?_)
  refine lp_up (n := W) (fun w => E2 97 D (fun q => q = (.int (nI (mo I1 W a c)), (I, J, mj_R2))) 5 [(0, .ref 0), (1, .int (nI a)), (2, .int (nI c)), (3, .int (nI (mxN (fun w => (dfz I1 a c w).toNat) w))), (4, .int (nI w))] I J) (fun w hw ih => ?_) 0 (Nat.zero_le _)
  refine mj_on (s97_5 _ _ _ _ ?_)
  rw [b1, nI_clamp (by omega), b3, nI_1, ix4', ix4', nI_clamp (by omega), nI_clamp (by omega)]
  refine ⟨vp_in_nI b2 (by decide), if_le (by omega) (by omega) (fun d => ?_) (fun d => ⟨vp_in_nI (by omega) (by decide), vp_in_nI (by omega) (by decide), ?_⟩)⟩
  · obtain rfl : w = W := by omega
    rfl
  obtain ⟨y1, y2, y3⟩ := hn.df ha hc d
  rw [h37, (n5 a ha w d).1, (n5 c hc w d).1, y1]
  have z := ih d
  have e := (i32_mxz (hn.mo ha hc w hw) y2 y3).2
  rw [show mxN (fun w => (dfz I1 a c w).toNat) (w + 1) = max (mxN (fun w => (dfz I1 a c w).toNat) w) (dfz I1 a c w).toNat from rfl, ← e] at z
  refine if_i (fun q => ?_) (fun q => ⟨vp_in_nI (by omega) (by decide), vp_in_nI (by omega) (by decide), ?_⟩)
  · rw [if_pos q] at z; exact z
  · rw [if_neg q] at z; exact z
theorem r_apart {t : List Nat} {s : Nat} (h : rB I b W Rn) (hn : frP I1 I2 W n) (h37 : I 37 = I2 37) (h58 : I 0 58 = nI n) (hs : t.length = s + 1) (hs2 : s + 1 ≤ 16) (ha : arrL I 42 t) (ht : ∀ x ∈ t, x < n) : C2 (D + 2) 96 [.ref 0, .int (nI (s + 1))] I J (.int (nI (ap I1 W n t))) I J ∧ ap I1 W n t ≤ 2000000 := by
  obtain ⟨n1, n2, n3, n4, n5⟩ := id hn
  obtain ⟨f, hf⟩ : ∃ f : Nat → Nat, f = fun c => mn (fun i => mo I1 W (t.getD i 0) c) t.length := ⟨_, rfl⟩
  have hap : ap I1 W n t = mxN f n := by rw [hf]; rfl
  have gx : ∀ i, i < s + 1 → ∃ x, t[i]? = some x ∧ t.getD i 0 = x ∧ x < n := fun i hi => by
    obtain ⟨x, hx, hxm, -⟩ := gt_of (l := t) (n := i) (by omega)
    exact ⟨x, hx, by rw [List.getD_eq_getElem?_getD, hx]; rfl, ht x hxm⟩
  have mm : ∀ i c, i < s + 1 → c < n → mo I1 W (t.getD i 0) c ≤ 2000000 := fun i c hi hc => by
    obtain ⟨x, -, q1, q2⟩ := gx i hi
    rw [q1]
    exact hn.mo q2 hc W (Nat.le_refl _)
  have mn2 : ∀ i c, i < s + 1 → c < n → mn (fun i => mo I1 W (t.getD i 0) c) (i + 1) ≤ 2000000 := fun i c hi hc => Nat.le_trans (Nat.min_le_right _ _) (mm i c hi hc)
  have fle : ∀ c, c < n → f c ≤ 2000000 := fun c hc => by
    rw [hf]
    show mn _ t.length ≤ _
    rw [hs]
    exact mn2 s c (by omega) hc
  have mle : ∀ k, k ≤ n → mxN f k ≤ 2000000 := by
    intro k
    induction k with
    | zero => intro _; exact Nat.zero_le _
    | succ k ih => intro hk; exact Nat.max_le.mpr ⟨ih (by omega), fle k (by omega)⟩
  rw [hap]
  refine ⟨?_, mle n (Nat.le_refl _)⟩
  refine mj_mk (e96 _ ?_)
  refine lp_up (n := n) (fun k => E2 96 (D + 1) (fun q => q = (.int (nI (mxN f n)), (I, J, mj_R2))) 4 [(0, .ref 0), (1, .int (nI (s + 1))), (2, .int (nI (mxN f k))), (3, .int (nI k))] I J) (fun k hk ih => ?_) 0 (Nat.zero_le _)
  have mk := mle k hk
  refine mj_on (s96_4 _ _ _ ?_)
  rw [h58]
  refine if_le (by omega) (by omega) (fun c => ?_) (fun c => ?_)
  · obtain rfl : k = n := by omega
    rfl
  refine lp_up (n := s + 1) (fun i => ∀ x4, (i = 0 ∧ x4 = -1 ∨ 1 ≤ i ∧ x4 = nI (mn (fun i => mo I1 W (t.getD i 0) k) i)) → E2 96 (D + 1) (fun q => q = (.int (nI (mxN f n)), (I, J, mj_R2))) 18 [(0, .ref 0), (1, .int (nI (s + 1))), (2, .int (nI (mxN f k))), (3, .int (nI k)), (4, .int x4), (5, .int (nI i))] I J) (fun i hi ih2 x4 hx => ?_) 0 (Nat.zero_le _) (-1) (Or.inl ⟨rfl, rfl⟩)
  refine mj_on (s96_18 _ _ _ _ _ ?_)
  rw [nI_1, nI_1, nI_clamp (by omega)]
  refine if_le (by omega) (by omega) (fun d => ?_) (fun d => ?_)
  · obtain rfl : i = s + 1 := by omega
    rcases hx with hx | ⟨-, rfl⟩
    · omega
    have z := ih c
    have m2 := mn2 s k (by omega) c
    have e : f k = mn (fun i => mo I1 W (t.getD i 0) k) (s + 1) := by rw [hf, ← hs]
    rw [show mxN f (k + 1) = max (mxN f k) (f k) from rfl, e] at z
    refine if_le (by omega) (by omega) (fun y => ?_) (fun y => ?_)
    · rw [Nat.max_eq_left y] at z; exact z
    · rw [Nat.max_eq_right (by omega)] at z; exact z
  obtain ⟨x, hx1, hx2, hx3⟩ := gx i d
  have mr := r_more (D := D) (J := J) h hn h37 hx3 c
  have m1 := mm i k d c
  rw [hx2] at m1
  have es : mn (fun i => mo I1 W (t.getD i 0) k) (i + 1) = min (mn (fun i => mo I1 W (t.getD i 0) k) i) (mo I1 W x k) := by rw [← hx2]; rfl
  have take : mn (fun i => mo I1 W (t.getD i 0) k) (i + 1) = mo I1 W x k → E2 96 (D + 1) (fun q => q = (.int (nI (mxN f n)), (I, J, mj_R2))) 47 [(0, .ref 0), (1, .int (nI (s + 1))), (2, .int (nI (mxN f k))), (3, .int (nI k)), (5, .int (nI i))] I J := fun q => by
    refine mj_on (s96_47 _ _ _ _ ?_)
    rw [nI_1, nI_clamp (by omega), ha i x hx1]
    refine ⟨vp_in_nI (by omega) (by decide), trivial, _, _, _, mr, ?_⟩
    exact ih2 d _ (Or.inr ⟨by omega, by rw [q]⟩)
  rcases hx with ⟨rfl, rfl⟩ | ⟨hi1, rfl⟩
  · rw [if_pos rfl]
    refine take ?_
    rw [es]
    exact Nat.min_eq_right (by show mo I1 W x k ≤ 2000000000; omega)
  · have m3 : mn (fun i => mo I1 W (t.getD i 0) k) i ≤ 2000000 := by
      have := mn2 (i - 1) k (by omega) c
      rwa [show i - 1 + 1 = i by omega] at this
    rw [if_neg (nI_nm1 (by omega)), ha i x hx1]
    refine ⟨vp_in_nI (by omega) (by decide), trivial, _, _, _, mr, if_le (by omega) (by omega) (fun y => ?_) (fun y => ?_)⟩
    · exact ih2 d _ (Or.inr ⟨by omega, by rw [es, Nat.min_eq_left y]⟩)
    · exact take (by rw [es]; exact Nat.min_eq_right (by omega))
/-- the choice is kept -/
def kpC (I : Nat → Nat → Int32) (t : List Nat) : Prop := I 47 4 = nI t.length ∧ arrL I 50 t
def kpR (I : Nat → Nat → Int32) (t : List Nat) : Prop := I 0 65 = nI t.length ∧ arrL I 41 t
theorem r_keeps {t : List Nat} {s : Nat} (hs : t.length = s) (hs2 : s ≤ 16) (ha : arrL I 42 t) : ∃ I' J', C2 (D + 1) 98 [.ref 0, .int (nI s)] I J .null I' J' ∧ J' = J ∧ kpR I' t ∧ (∀ q, q ≠ 41 → q ≠ 0 → I' q = I q) ∧ ∀ j, j ≠ 65 → I' 0 j = I 0 j := by
  refine mj_cN (e98 _ ?_)
  refine lp_up (n := s) (fun i => ∀ I', I' 0 65 = nI s → (∀ j x, j < i → t[j]? = some x → I' 41 j = nI x) → (∀ q, q ≠ 41 → q ≠ 0 → I' q = I q) → (∀ j, j ≠ 65 → I' 0 j = I 0 j) → E2 98 D (qN mj_R2 (fun I' J' => J' = J ∧ kpR I' t ∧ (∀ q, q ≠ 41 → q ≠ 0 → I' q = I q) ∧ ∀ j, j ≠ 65 → I' 0 j = I 0 j)) 7 [(0, .ref 0), (1, .int (nI s)), (2, .int (nI i))] I' J) (fun i hi ih I' h1 h2 h3 h4 => ?_) 0 (Nat.zero_le _) _ (by rw [up_s]) (fun j x q => absurd q (Nat.not_lt_zero j)) (fun q q1 q2 => by rw [up_c q2]) (fun j hj => by rw [up_j hj])
  refine mj_on (s98_7 _ _ ?_)
  rw [nI_1, nI_clamp (by omega)]
  refine if_le (by omega) (by omega) (fun c => ?_) (fun c => ⟨vp_in_nI (by omega) (by decide), vp_in_nI (by omega) (by decide), ?_⟩)
  · exact ⟨_, _, rfl, rfl, ⟨by rw [hs]; exact h1, fun j x q => h2 j x (by have := (List.getElem?_eq_some_iff.mp q).1; omega) q⟩, h3, h4⟩
  · refine ih c _ (by rw [up_c (by decide)]; exact h1) (fun j x q1 q2 => ?_) (fun q q1 q2 => by rw [up_c q1]; exact h3 q q1 q2) (fun j hj => by rw [up_c (by decide)]; exact h4 j hj)
    by_cases e : j = i
    · rw [e, up_s, h3 42 (by decide) (by decide), ha i x (e ▸ q2)]
    · rw [up_j e]; exact h2 j x (by omega) q2
end S75
end
section
/-! near, standIns -/
noncomputable def pS (I : Nat → Nat → Int32) (W n : Nat) (t : List Nat) (st : Nat × Option (List Nat)) : Nat × Option (List Nat) := if ap I W n t < st.1 then (ap I W n t, some t) else st
noncomputable def pkF (I : Nat → Nat → Int32) (W n e : Nat) : Nat → List Nat → Nat × Option (List Nat) → Nat × Option (List Nat)
  | 0, _, st => st
  | k + 1, t, st => if (pS I W n t st).1 ≤ e then pS I W n t st else match nxt n t with
    | none => pS I W n t st
    | some t' => pkF I W n e k t' (pS I W n t st)
section PF
variable {I : Nat → Nat → Int32} {W n e k : Nat} {t : List Nat} {st : Nat × Option (List Nat)}
theorem pkF_1 (h : (pS I W n t st).1 ≤ e) : pkF I W n e (k + 1) t st = pS I W n t st := if_pos h
theorem pkF_2 (h : ¬ (pS I W n t st).1 ≤ e) (h2 : nxt n t = none) : pkF I W n e (k + 1) t st = pS I W n t st := by
  show (if _ then _ else match nxt n t with | none => pS I W n t st | some t' => pkF I W n e k t' (pS I W n t st)) = _
  rw [if_neg h, h2]
theorem pkF_3 {t' : List Nat} (h : ¬ (pS I W n t st).1 ≤ e) (h2 : nxt n t = some t') : pkF I W n e (k + 1) t st = pkF I W n e k t' (pS I W n t st) := by
  show (if _ then _ else match nxt n t with | none => pS I W n t st | some t' => pkF I W n e k t' (pS I W n t st)) = _
  rw [if_neg h, h2]
theorem pS_t (h : ap I W n t < st.1) : pS I W n t st = (ap I W n t, some t) := if_pos h
theorem pS_f (h : ¬ ap I W n t < st.1) : pS I W n t st = st := if_neg h
theorem ap_lt : ap I W n t < 2 ^ 31 := Nat.lt_of_le_of_lt (mxN_le (B := 2000000000) (fun _ => mn_le) n) (by decide)
theorem pS_lt (h : st.1 < 2 ^ 31) : (pS I W n t st).1 < 2 ^ 31 := by
  by_cases c : ap I W n t < st.1
  · rw [pS_t c]; exact ap_lt
  · rw [pS_f c]; exact h
/-- whatever is chosen is as long as what was begun with -/
theorem pkF_len {s : Nat} : ∀ {k : Nat} {t : List Nat} {st : Nat × Option (List Nat)}, vld n t → t.length = s → (∀ l, st.2 = some l → l.length = s) → ∀ l, (pkF I W n e k t st).2 = some l → l.length = s
  | 0, _, _, _, _, h => h
  | k + 1, t, st, hv, ht, h => by
    have h1 : ∀ l, (pS I W n t st).2 = some l → l.length = s := by
      by_cases c : ap I W n t < st.1
      · rw [pS_t c]
        intro l q
        cases q
        exact ht
      · rw [pS_f c]; exact h
    by_cases c : (pS I W n t st).1 ≤ e
    · rw [pkF_1 c]; exact h1
    · cases hn : nxt n t with
      | none => rw [pkF_2 c hn]; exact h1
      | some t' =>
        rw [pkF_3 c hn]
        obtain ⟨-, q2, q3⟩ := (nxt_ok hv).2 t' hn
        exact pkF_len q2 (by rw [q3, ht]) h1
/-- of a search that ends with the first one -/
theorem pkF_nr {d : Nat} : ∀ {k : Nat} {t : List Nat}, pkF I W n d k t (d + 1, none) = (d + 1, none) ∨ ∃ v l, v ≤ d ∧ pkF I W n d k t (d + 1, none) = (v, some l)
  | 0, _ => Or.inl rfl
  | k + 1, t => by
    by_cases c : ap I W n t < d + 1
    · have e : pS I W n t (d + 1, none) = (ap I W n t, some t) := pS_t c
      refine Or.inr ⟨ap I W n t, t, by omega, ?_⟩
      rw [pkF_1 (by rw [e]; show ap I W n t ≤ d; omega), e]
    · have e : pS I W n t (d + 1, none) = (d + 1, none) := pS_f c
      have c2 : ¬ (pS I W n t (d + 1, none)).1 ≤ d := by rw [e]; show ¬ d + 1 ≤ d; omega
      cases hn : nxt n t with
      | none => rw [pkF_2 c2 hn, e]; exact Or.inl rfl
      | some t' => rw [pkF_3 c2 hn, e]; exact pkF_nr
/-- of a search for the least -/
theorem pkF_so : ∀ {k : Nat} {t : List Nat} {st : Nat × Option (List Nat)}, (∃ l, st.2 = some l) → ∃ l, (pkF I W n e k t st).2 = some l
  | 0, _, _, h => h
  | k + 1, t, st, h => by
    have h1 : ∃ l, (pS I W n t st).2 = some l := by
      by_cases c : ap I W n t < st.1
      · rw [pS_t c]; exact ⟨t, rfl⟩
      · rw [pS_f c]; exact h
    by_cases c : (pS I W n t st).1 ≤ e
    · rw [pkF_1 c]; exact h1
    · cases hn : nxt n t with
      | none => rw [pkF_2 c hn]; exact h1
      | some t' => rw [pkF_3 c hn]; exact pkF_so h1
end PF
theorem vld_lt {n : Nat} {t : List Nat} (h : vld n t) : ∀ x ∈ t, x < n := fun x hx => by
  obtain ⟨i, hi, rfl⟩ := List.getElem_of_mem hx
  have := vld_at h (List.getElem?_eq_getElem hi)
  omega
section S76
variable {D b W Rn Kn Tn Hn Un g n : Nat} {I I1 I2 : Nat → Nat → Int32} {J J1 J2 : Nat → Nat → Int64}
def kq (I1 I : Nat → Nat → Int32) (st : Nat × Option (List Nat)) : Prop := mkI ([50] ++ sc1) ([(47, 4)] ++ sl1) I = mkI ([50] ++ sc1) ([(47, 4)] ++ sl1) I1 ∧ (st.2 = none → I 47 4 = I1 47 4 ∧ I 50 = I1 50) ∧ ∀ l, st.2 = some l → kpC I l
theorem mk_q {D : List Nat} {E : List (Nat × Nat)} {q : Nat} {I I' I1 : Nat → Nat → Int32} (hq : D.elem q = true) (h : mkI D E I = mkI D E I1) (h2 : ∀ k, k ≠ q → I' k = I k) : mkI D E I' = mkI D E I1 := by
  rw [← h]
  refine mkI_of fun k j h1 _ => ?_
  rw [h2 k (fun e => by rw [e, hq] at h1; cases h1)]
theorem c_pickOf {s B e : Nat} (hn : frP I1 I2 W n) (hd : dis I1 W n I) (hs : s ≤ n) (hs2 : s ≤ 16) (hB : B < 2 ^ 31) (he : e < 2 ^ 31) (hr : rem n (iot 0 s) + 1 ≤ 20000) (hk : k1 I = k1 I1) : ∃ r I' J', C1 (D + 3) 246 [.ref 47, .int (nI s), .int (nI B), .int (nI e)] I J (.int r) I' J' ∧ r = nI (pkF I1 W n e (rem n (iot 0 s) + 1) (iot 0 s) (B, none)).1 ∧ J' = J ∧ dis I1 W n I' ∧ kq I1 I' (pkF I1 W n e (rem n (iot 0 s) + 1) (iot 0 s) (B, none)) := by
  obtain ⟨n1, n2, n3, n4, n5⟩ := id hn
  obtain ⟨R, hR⟩ : ∃ R, R = pkF I1 W n e (rem n (iot 0 s) + 1) (iot 0 s) (B, none) := ⟨_, rfl⟩
  rw [← hR]
  refine mj_cI (e246 _ _ _ ?_)
  obtain ⟨Q, hQ⟩ : ∃ Q, Q = qI mj_R1 (fun r I' J' => r = nI R.1 ∧ J' = J ∧ dis I1 W n I' ∧ kq I1 I' R) := ⟨_, rfl⟩
  rw [← hQ]
  have stop : ∀ I x, dis I1 W n I → kq I1 I R → E1 246 (D + 2) Q 33 [(0, .ref 47), (1, .int (nI s)), (3, .int (nI e)), (4, .int (nI R.1)), (5, .int 0), (6, .int x)] I J := fun I x q1 q2 => by
    refine mj_on (s246_33 _ _ _ _ _ ?_)
    have z : Q (.int (nI R.1), (I, J, mj_R1)) := by rw [hQ]; exact ⟨_, _, _, rfl, rfl, rfl, q1, q2⟩
    exact if_i (fun _ => z) (fun _ => by rw [if_pos rfl]; exact z)
  have dis_up : ∀ I I', dis I1 W n I → (∀ q, q ≠ 49 → I' q = I q) → dis I1 W n I' := fun I I' q1 q2 => ⟨by rw [q2 47 (by decide)]; exact q1.1, fun a c ha hc => by rw [q2 48 (by decide)]; exact q1.2 a c ha hc⟩
  have kq_up : ∀ I I' st, kq I1 I st → (∀ q, q ≠ 49 → I' q = I q) → kq I1 I' st := fun I I' st q1 q2 => by
    refine ⟨mk_q (q := 49) rfl q1.1 q2, fun w => ?_, fun l w => ?_⟩
    · rw [q2 47 (by decide), q2 50 (by decide)]; exact q1.2.1 w
    · refine ⟨by rw [q2 47 (by decide)]; exact (q1.2.2 l w).1, fun i x y => by rw [q2 50 (by decide)]; exact (q1.2.2 l w).2 i x y⟩
  have loop : ∀ r t I st turn, rem n t = r → vld n t → t.length = s → arrL I 49 t → dis I1 W n I → kq I1 I st → st.1 < 2 ^ 31 → turn + r + 1 ≤ 20000 → pkF I1 W n e (r + 1) t st = R → E1 246 (D + 2) Q 33 [(0, .ref 47), (1, .int (nI s)), (3, .int (nI e)), (4, .int (nI st.1)), (5, .int 1), (6, .int (nI turn))] I J := by
    intro r
    induction r using Nat.strongRecOn with
    | _ r ih =>
      intro t I st turn h1 h2 h3 h4 h5 h6 h7 h8 h9
      refine mj_on (s246_33 _ _ _ _ _ ?_)
      rw [show (20000 : Int32) = nI 20000 from rfl]
      refine if_le (by omega) (by omega) (fun q => absurd q (by omega)) (fun _ => ?_)
      rw [if_neg (by decide)]
      obtain ⟨x, hc, x1, x2, x3⟩ := c_far (D := D) (J := J) hn h5 h3 hs2 h4 (vld_lt h2) h7
      have after : ∀ I st', st' = pS I1 W n t st → st'.1 < 2 ^ 31 → arrL I 49 t → dis I1 W n I → kq I1 I st' → E1 246 (D + 2) Q 85 [(0, .ref 47), (1, .int (nI s)), (3, .int (nI e)), (4, .int (nI st'.1)), (6, .int (nI turn))] I J := fun I st' g1 g2 g3 g4 g5 => by
        refine mj_on (s246_85 _ _ _ _ ?_)
        rw [nI_1]
        refine if_le g2 he (fun y => ?_) (fun y => ?_)
        · have eR : st' = R := by rw [← h9, pkF_1 (by rw [← g1]; exact y), g1]
          rw [eR] at g5 ⊢
          exact stop I _ g4 g5
        · obtain ⟨r0, I', J', k1', k2', k3', k4', k5'⟩ := c_moveOn (D := D + 1) (J := J) g4.1 n1 h3 hs2 hs h2 g3
          subst k3'
          rw [k2'] at k1'
          have ny : ¬ (pS I1 W n t st).1 ≤ e := by rw [← g1]; omega
          refine ⟨trivial, _, _, _, k1', if_tf (fun q => ?_) (fun q => ?_)⟩
          · obtain ⟨t', ht'⟩ := Option.ne_none_iff_exists'.mp q
            obtain ⟨m1, m2, m3⟩ := (nxt_ok h2).2 t' ht'
            refine ih (rem n t') (by omega) t' I' st' (turn + 1) rfl m2 (by rw [m3, h3]) (k5' t' ht') (dis_up _ _ g4 k4') (kq_up _ _ _ g5 k4') g2 (by omega) ?_
            rw [← h9, pkF_3 ny ht', g1, show rem n t' + 1 = r by omega]
          · have nn : nxt n t = none := Classical.byContradiction fun z => q z
            have eR : st' = R := by rw [← h9, pkF_2 ny nn, g1]
            rw [eR] at g5 ⊢
            exact stop I' _ (dis_up _ _ g4 k4') (kq_up _ _ _ g5 k4')
      refine ⟨trivial, _, _, _, hc, if_le h7 x1 (fun y => ?_) (fun y => ?_)⟩
      · have na : ¬ ap I1 W n t < st.1 := fun q => by
          have := x2 q
          omega
        exact after I st (pS_f na).symm h7 h4 h5 h6
      · have ya : ap I1 W n t < st.1 := Classical.byContradiction fun q => by
          have := x3 q
          omega
        have ex := x2 ya
        rw [ex]
        refine ⟨⟨by decide, by decide, nI_pos (by omega), ?_, ?_⟩, ?_⟩
        · rw [nI_clamp (by omega)]
          show 0 + s ≤ 16
          omega
        · rw [nI_clamp (by omega)]
          show 0 + s ≤ 16
          omega
        rw [nI_clamp (by omega), show ((0 : Int32)).toNatClampNeg = 0 from rfl]
        have cp0 : ∀ q j, q ≠ 50 → mj_cp (mj_up I 47 4 (nI s)) 49 0 50 0 s q j = mj_up I 47 4 (nI s) q j := fun q j hq => if_neg hq
        have cp1 : ∀ j, j < s → mj_cp (mj_up I 47 4 (nI s)) 49 0 50 0 s 50 j = I 49 j := fun j hj => by
          have e1 : mj_cp (mj_up I 47 4 (nI s)) 49 0 50 0 s 50 j = mj_up I 47 4 (nI s) 49 (0 + (j - 0)) := by
            show (if (50 : Nat) = 50 then (if 0 ≤ j ∧ j < 0 + s then mj_up I 47 4 (nI s) 49 (0 + (j - 0)) else mj_up I 47 4 (nI s) 50 j) else mj_up I 47 4 (nI s) 50 j) = _
            rw [if_pos rfl, if_pos ⟨Nat.zero_le _, by omega⟩]
          rw [e1, up_c (by decide), Nat.sub_zero, Nat.zero_add]
        refine after _ (ap I1 W n t, some t) (pS_t ya).symm ap_lt (fun i x hx => ?_) ⟨?_, fun a c ha hc => ?_⟩ ⟨?_, fun q => by (cases q), fun l q => ?_⟩
        · rw [cp0 49 i (by decide), up_c (by decide)]
          exact h4 i x hx
        · rw [cp0 47 0 (by decide), up_j (by decide)]
          exact h5.1
        · rw [cp0 48 _ (by decide), up_c (by decide)]
          exact h5.2 a c ha hc
        · rw [← h6.1]
          refine mkI_of fun q j q1 q2 => ?_
          rw [cp0 q j (fun z => by rw [z] at q1; cases q1)]
          by_cases z : q = 47 ∧ j = 4
          · rw [z.1, z.2] at q2; cases q2
          · rw [up_n (by omega)]
        · cases q
          refine ⟨by rw [cp0 47 4 (by decide), up_s, h3], fun i x hx => ?_⟩
          have hi : i < s := by
            have := (List.getElem?_eq_some_iff.mp hx).1
            omega
          rw [cp1 i hi]
          exact h4 i x hx
  have k0 : kq I1 I ((B, none) : Nat × Option (List Nat)) := ⟨by
    refine mkI_of fun q j q1 q2 => ?_
    refine k1_at hk ?_
    rw [elem_app] at q1 q2
    simp only [Bool.or_eq_false_iff] at q1 q2
    unfold co1
    rw [q1.2, q2.2]
    rfl, fun _ => ⟨k1_at hk rfl, by funext j; exact k1_at hk rfl⟩, fun l q => by cases q⟩
  refine lp_up (n := s) (fun i => ∀ I', (∀ q, q ≠ 49 → I' q = I q) → (∀ j, j < i → I' 49 j = nI j) → E1 246 (D + 2) Q 9 [(0, .ref 47), (1, .int (nI s)), (3, .int (nI e)), (4, .int (nI B)), (5, .int 1), (6, .int (nI i))] I' J) (fun i hi ih I' i1 i2 => ?_) 0 (Nat.zero_le _) I (fun _ _ => rfl) (fun j q => absurd q (Nat.not_lt_zero j))
  refine mj_on (s246_9 _ _ _ _ _ ?_)
  rw [nI_1, nI_clamp (by omega)]
  refine if_le (by omega) (by omega) (fun c => ?_) (fun c => ⟨vp_in_nI (by omega) (by decide), ih c _ (fun q hq => by rw [up_c hq]; exact i1 q hq) (fun j hj => ?_)⟩)
  · obtain rfl : i = s := by omega
    exact loop _ (iot 0 i) I' (B, none) 0 rfl (vld_iot (by omega)) iot_len (arrL_iot i2) (dis_up _ _ hd i1) (kq_up _ _ _ k0 i1) hB (by omega) hR.symm
  · by_cases z : j = i
    · rw [z, up_s]
    · rw [up_j z]; exact i2 j (by omega)
end S76
end
section
/-! near and standIns: the calls -/
theorem km_at {D : List Nat} {E : List (Nat × Nat)} {I I' : Nat → Nat → Int32} {q j : Nat} (h : mkI D E I' = mkI D E I) (hc : (D.elem q || E.elem (q, j)) = false) : I' q j = I q j := by
  have e := congrFun (congrFun h q) j
  unfold mkI at e
  rw [hc] at e
  exact e
theorem ap_nil {I : Nat → Nat → Int32} {W n : Nat} : (n = 0 → ap I W n [] = 0) ∧ (n ≠ 0 → ap I W n [] = 2000000000) := by
  constructor
  · rintro rfl
    rfl
  · intro h
    obtain ⟨m, rfl⟩ : ∃ m, n = m + 1 := ⟨n - 1, by omega⟩
    have e : ap I W (m + 1) [] = max (mxN (fun c => mn (fun i => mo I W (([] : List Nat).getD i 0) c) 0) m) 2000000000 := rfl
    rw [e]
    exact Nat.max_eq_right (mxN_le (fun _ => mn_le) m)
noncomputable def nrF (I : Nat → Nat → Int32) (W n d : Nat) : Nat → Nat → Option (List Nat)
  | 0, _ => none
  | k + 1, s => match (pkF I W n d (rem n (iot 0 s) + 1) (iot 0 s) (d + 1, none)).2 with
    | some l => some l
    | none => nrF I W n d k (s + 1)
section S77
variable {D b W Rn Kn Tn Hn Un g n : Nat} {I I1 I2 : Nat → Nat → Int32} {J J1 J2 : Nat → Nat → Int64}
theorem nrF_1 {d s : Nat} {l : List Nat} (hs : s ≤ n) (h : (pkF I W n d (rem n (iot 0 s) + 1) (iot 0 s) (d + 1, none)).2 = some l) : nrF I W n d (n + 1 - s) s = some l := by
  rw [show n + 1 - s = n - s + 1 by omega]
  show (match (pkF I W n d (rem n (iot 0 s) + 1) (iot 0 s) (d + 1, none)).2 with | some l => some l | none => nrF I W n d (n - s) (s + 1)) = _
  rw [h]
theorem nrF_2 {d s : Nat} (hs : s ≤ n) (h : (pkF I W n d (rem n (iot 0 s) + 1) (iot 0 s) (d + 1, none)).2 = none) : nrF I W n d (n + 1 - s) s = nrF I W n d (n + 1 - (s + 1)) (s + 1) := by
  rw [show n + 1 - s = n - s + 1 by omega, show n + 1 - (s + 1) = n - s by omega]
  show (match (pkF I W n d (rem n (iot 0 s) + 1) (iot 0 s) (d + 1, none)).2 with | some l => some l | none => nrF I W n d (n - s) (s + 1)) = _
  rw [h]
def kr (I2 I : Nat → Nat → Int32) (o : Option (List Nat)) : Prop := mkI ([41] ++ sc2) ([(0, 65)] ++ sl2) I = mkI ([41] ++ sc2) ([(0, 65)] ++ sl2) I2 ∧ (o = none → I 0 65 = I2 0 65 ∧ I 41 = I2 41) ∧ ∀ l, o = some l → kpR I l
theorem kq_k1 {v : Nat} (h : kq I1 I (v, none)) : k1 I = k1 I1 := by
  obtain ⟨h1, h2, -⟩ := h
  obtain ⟨h3, h4⟩ := h2 rfl
  funext q j
  unfold k1
  cases hc : co1 q j with
  | false => rfl
  | true =>
    show I q j = I1 q j
    by_cases e : q = 50
    · rw [e, h4]
    by_cases e2 : q = 47 ∧ j = 4
    · rw [e2.1, e2.2, h3]
    refine km_at h1 ?_
    unfold co1 at hc
    rw [elem_app, elem_app]
    have f1 : ([50] : List Nat).elem q = false := by simp [e]
    have f2 : ([(47, 4)] : List (Nat × Nat)).elem (q, j) = false := by simp; omega
    rw [f1, f2]
    simpa using hc
theorem kr_k2 (h : k2 I = k2 I2) : kr I2 I none := ⟨mkI_k2 h, fun _ => ⟨k2_at h rfl, by funext j; exact k2_at h rfl⟩, fun l q => by cases q⟩
theorem kp_Rl {v : Nat} {o : Option (List Nat)} {I1' I2' : Nat → Nat → Int32} (h : Rl b W Rn Kn Tn Hn Un g I1 J1 I2 J2) (h1 : kq I1 I1' (v, o)) (h2 : kr I2 I2' o) (hl : ∀ l, o = some l → l.length ≤ 16) : Rl b W Rn Kn Tn Hn Un g I1' J1 I2' J2 := by
  refine Rl_K h h1.1 rfl h2.1 rfl ?_
  cases o with
  | none =>
    obtain ⟨q1, q2⟩ := h1.2.1 rfl
    obtain ⟨q3, q4⟩ := h2.2.1 rfl
    obtain ⟨m, m1, m2, m3, m4⟩ := h.2.2.2.2.2.2.2.1
    exact ⟨m, m1, by rw [q1, m2], by rw [q3, m3], fun i hi => by rw [q2, q4, m4 i hi]⟩
  | some l =>
    obtain ⟨q1, q2⟩ := h1.2.2 l rfl
    obtain ⟨q3, q4⟩ := h2.2.2 l rfl
    refine ⟨l.length, hl l rfl, q1, q3, fun i hi => ?_⟩
    obtain ⟨x, hx, -, -⟩ := gt_of (l := l) (n := i) hi
    rw [q2 i x hx, q4 i x hx]
theorem rB_m (h : rB I2 b W Rn) (e : mkI ([41] ++ sc2) ([(0, 65)] ++ sl2) I = mkI ([41] ++ sc2) ([(0, 65)] ++ sl2) I2) : rB I b W Rn := by
  obtain ⟨b1, b2, b3, b4, b5, b6⟩ := h
  exact ⟨by rw [km_at e rfl]; exact b1, b2, by rw [km_at e rfl]; exact b3, b4, by rw [km_at e rfl]; exact b5, b6⟩
theorem km_q (e : mkI ([41] ++ sc2) ([(0, 65)] ++ sl2) I = mkI ([41] ++ sc2) ([(0, 65)] ++ sl2) I2) : I 37 = I2 37 ∧ I 0 58 = I2 0 58 := ⟨by funext j; exact km_at e rfl, km_at e rfl⟩
theorem kr_keep {t : List Nat} {I' : Nat → Nat → Int32} (h : mkI ([41] ++ sc2) ([(0, 65)] ++ sl2) I = mkI ([41] ++ sc2) ([(0, 65)] ++ sl2) I2) (h1 : kpR I' t) (h2 : ∀ q, q ≠ 41 → q ≠ 0 → I' q = I q) (h3 : ∀ j, j ≠ 65 → I' 0 j = I 0 j) : kr I2 I' (some t) := by
  refine ⟨?_, fun q => by (cases q), fun l q => by cases q; exact h1⟩
  rw [← h]
  refine mkI_of fun q j q1 q2 => ?_
  by_cases e : q = 0
  · subst e
    refine h3 j fun z => ?_
    rw [z] at q2
    cases q2
  · rw [h2 q (fun z => by rw [z] at q1; cases q1) e]
theorem kr_next {I' : Nat → Nat → Int32} {o : Option (List Nat)} (h : kr I2 I o) (h2 : ∀ q, q ≠ 42 → I' q = I q) : kr I2 I' o := ⟨mk_q (q := 42) rfl h.1 h2, fun q => by rw [h2 0 (by decide), h2 41 (by decide)]; exact h.2.1 q, fun l q => ⟨by rw [h2 0 (by decide)]; exact (h.2.2 l q).1, fun i x y => by rw [h2 41 (by decide)]; exact (h.2.2 l q).2 i x y⟩⟩
theorem Rl.frP (h : Rl b W Rn Kn Tn Hn Un g I1 J1 I2 J2) {n : Nat} (n1 : n ≤ 24) (h3 : I1 38 1 = nI n) (h4 : I2 0 58 = nI n) (h6 : ∀ k, k < n → ∀ w, w < W → I2 37 (4 * k + w) = I1 39 (4 * k + w) ∧ ∃ x : Int, -1000000 ≤ x ∧ x ≤ 1000000 ∧ I1 39 (4 * k + w) = iI x) : frP I1 I2 W n := ⟨n1, h.rB.2.2.2.1, h3, h4, h6⟩
theorem c_near {d : Nat} (hn : frP I1 I2 W n) (n16 : n ≤ 16) (hd : d ≤ 9999) : ∃ r I' J', C1 (D + 4) 243 [.ref 47, .ref 38, .int (nI W), .int (nI d)] I1 J1 (.int r) I' J' ∧ (nrF I1 W n d (n + 1) 0 = none → r = -1) ∧ (∀ l, nrF I1 W n d (n + 1) 0 = some l → r = nI l.length) ∧ J' = J1 ∧ ∃ v, kq I1 I' (v, nrF I1 W n d (n + 1) 0) := by
  obtain ⟨R, hR⟩ : ∃ R, R = nrF I1 W n d (n + 1) 0 := ⟨_, rfl⟩
  rw [← hR]
  refine mj_cI (e243 _ _ ?_)
  obtain ⟨I0, J0, hm, rfl, m1, m2⟩ := c_measure (D := D + 1) (J := J1) hn
  refine ⟨trivial, _, _, hm, ?_⟩
  obtain ⟨Q, hQ⟩ : ∃ Q, Q = qI mj_R1 (fun r I' J' => (R = none → r = -1) ∧ (∀ l, R = some l → r = nI l.length) ∧ J' = J0 ∧ ∃ v, kq I1 I' (v, R)) := ⟨_, rfl⟩
  rw [← hQ]
  have k0 : ∀ I, k1 I = k1 I1 → kq I1 I (0, none) := fun I hk => ⟨mkI_k1 hk, fun _ => ⟨k1_at hk rfl, by funext j; exact k1_at hk rfl⟩, fun l q => by cases q⟩
  refine lp_up (n := n + 1) (fun s => ∀ I, k1 I = k1 I1 → dis I1 W n I → nrF I1 W n d (n + 1 - s) s = R → E1 243 (D + 3) Q 9 [(0, .ref 47), (3, .int (nI d)), (4, .int (nI s))] I J0) (fun s hs ih I hk hdd hr => ?_) 0 (Nat.zero_le _) I0 m1 m2 hR.symm
  refine mj_on (s243_9 _ _ ?_)
  rw [hdd.1, nI_1, nI_1, show (16 : Int32) = nI 16 from rfl]
  have last : s = n + 1 → Q (.int (-1), (I, J0, mj_R1)) := fun e => by
    have eR : R = none := by
      rw [← hr, e, Nat.sub_self]
      rfl
    rw [hQ, eR]
    exact ⟨_, _, _, rfl, fun _ => rfl, fun l q => by (cases q), rfl, 0, k0 I hk⟩
  refine if_lt (by omega) (by omega) (fun c => last (by omega)) (fun c => if_lt (by omega) (by omega) (fun e => absurd e (by omega)) (fun _ => ?_))
  have hrem : rem n (iot 0 s) + 1 ≤ 20000 := by
    rw [rem_iot (by omega)]
    exact Nat.le_trans (bin_16 _ (by omega) s (by omega)) (by decide)
  obtain ⟨r, I', J', hc, rfl, rfl, q1, q2⟩ := c_pickOf (D := D) (J := J0) (B := d + 1) (e := d) hn hdd c (by omega) (by omega) (by omega) hrem hk
  refine ⟨trivial, _, _, _, hc, ?_⟩
  rcases pkF_nr (I := I1) (W := W) (n := n) (d := d) (k := rem n (iot 0 s) + 1) (t := iot 0 s) with e | ⟨v, l, hv, e⟩
  · rw [e] at q2 ⊢
    refine if_lt (a := d) (by omega) (by omega) (fun _ => ?_) (fun q => absurd q (by omega))
    exact ih (by omega) I' (kq_k1 q2) q1 (by rw [← hr, nrF_2 c (by rw [e])])
  · have eR : R = some l := by rw [← hr]; exact nrF_1 c (by rw [e])
    have el : l.length = s := pkF_len (I := I1) (W := W) (n := n) (t := iot 0 s) (e := d) (k := rem n (iot 0 s) + 1) (st := (d + 1, none)) (vld_iot (by omega)) iot_len (fun l q => by cases q) l (by rw [e])
    rw [e] at q2 ⊢
    refine if_lt (a := d) (b := v) (by omega) (by omega) (fun q => absurd q (by omega)) (fun _ => ?_)
    rw [hQ, eR]
    exact ⟨_, _, _, rfl, fun q => by (cases q), fun l' q => by cases q; rw [el], rfl, v, q2⟩
end S77
end
section
/-! near and standIns, the reference; both calls -/
section S78
variable {D b W Rn Kn Tn Hn Un g n : Nat} {I I1 I2 : Nat → Nat → Int32} {J J1 J2 : Nat → Nat → Int64}
theorem r_near {d : Nat} (hB : rB I2 b W Rn) (hn : frP I1 I2 W n) (n16 : n ≤ 16) (hd : d ≤ 9999) : ∃ r I' J', C2 (D + 4) 95 [.ref 0, .int (nI d)] I2 J2 (.int r) I' J' ∧ (nrF I1 W n d (n + 1) 0 = none → r = -1) ∧ (∀ l, nrF I1 W n d (n + 1) 0 = some l → r = nI l.length) ∧ J' = J2 ∧ kr I2 I' (nrF I1 W n d (n + 1) 0) ∧ ∀ l, nrF I1 W n d (n + 1) 0 = some l → l.length ≤ 16 := by
  obtain ⟨n1, n2, n3, n4, n5⟩ := id hn
  obtain ⟨R, hR⟩ : ∃ R, R = nrF I1 W n d (n + 1) 0 := ⟨_, rfl⟩
  rw [← hR]
  refine mj_cI (e95 _ ?_)
  refine ⟨trivial, _, _, _, r_is, if_tf (fun _ => ?_) (fun q => absurd ⟨nI_pos (by omega), Int32.not_lt.mpr ((leI (b := 9999) (by omega) (by decide)).mpr hd)⟩ q)⟩
  rw [n4, if_neg (nI_nm1 (by omega)), show (16 : Int32) = nI 16 from rfl]
  refine if_le (by omega) (by omega) (fun _ => ?_) (fun q => absurd q (by omega))
  obtain ⟨Q, hQ⟩ : ∃ Q, Q = qI mj_R2 (fun r I' J' => (R = none → r = -1) ∧ (∀ l, R = some l → r = nI l.length) ∧ J' = J2 ∧ kr I2 I' R ∧ ∀ l, R = some l → l.length ≤ 16) := ⟨_, rfl⟩
  rw [← hQ]
  refine lp_up (n := n + 1) (fun s => ∀ I, k2 I = k2 I2 → nrF I1 W n d (n + 1 - s) s = R → E2 95 (D + 3) Q 32 [(0, .ref 0), (1, .int (nI d)), (2, .int (nI s))] I J2) (fun s hs ih I hk hr => ?_) 0 (Nat.zero_le _) I2 rfl hR.symm
  have h58 : ∀ {I}, k2 I = k2 I2 → I 0 58 = nI n := fun hk => by rw [k2_at hk rfl]; exact n4
  refine mj_on (s95_32 _ _ ?_)
  rw [h58 hk]
  refine if_lt (by omega) (by omega) (fun c => ?_) (fun c => ?_)
  · have e : s = n + 1 := by omega
    have eR : R = none := by
      rw [← hr, e, Nat.sub_self]
      rfl
    rw [hQ, eR]
    exact ⟨_, _, _, rfl, fun _ => rfl, fun l q => by (cases q), rfl, kr_k2 hk, fun l q => by cases q⟩
  -- no choice of this size
  have none' : ∀ I, k2 I = k2 I2 → (pkF I1 W n d (rem n (iot 0 s) + 1) (iot 0 s) (d + 1, none)).2 = none → E2 95 (D + 3) Q 62 [(0, .ref 0), (1, .int (nI d)), (2, .int (nI s)), (3, .int 0)] I J2 := fun I hk e => by
    refine mj_on (s95_62 _ _ _ ?_)
    rw [if_pos rfl, nI_1]
    exact ih (by omega) I hk (by rw [← hr, nrF_2 c e])
  -- a choice of this size
  have some' : ∀ I t, k2 I = k2 I2 → arrL I 42 t → t.length = s → (pkF I1 W n d (rem n (iot 0 s) + 1) (iot 0 s) (d + 1, none)).2 = some t → ∃ I' J', C2 (D + 3) 98 [.ref 0, .int (nI s)] I J2 .null I' J' ∧ Q (.int (nI s), (I', J', mj_R2)) := fun I t hk ha ht e => by
    obtain ⟨I', J', hc, rfl, q1, q2, q3⟩ := r_keeps (D := D + 2) (J := J2) ht (by omega) ha
    refine ⟨I', J', hc, ?_⟩
    have eR : R = some t := by rw [← hr]; exact nrF_1 c e
    rw [hQ, eR]
    exact ⟨_, _, _, rfl, fun q => by (cases q), fun l q => by (cases q; rw [ht]), rfl, kr_keep (mkI_k2 hk) q1 q2 q3, fun l q => by (cases q; omega)⟩
  refine lp_up (n := s) (fun i => ∀ I', k2 I' = k2 I2 → (∀ j, j < i → I' 42 j = nI j) → E2 95 (D + 3) Q 42 [(0, .ref 0), (1, .int (nI d)), (2, .int (nI s)), (3, .int (nI i))] I' J2) (fun i hi ih2 I' hk i2 => ?_) 0 (Nat.zero_le _) I hk (fun j q => absurd q (Nat.not_lt_zero j))
  refine mj_on (s95_42 _ _ _ ?_)
  rw [nI_1, nI_clamp (by omega)]
  refine if_le (by omega) (by omega) (fun f => ?_) (fun f => ⟨vp_in_nI (by omega) (by decide), ih2 f _ (by rw [k2_up rfl]; exact hk) (fun j hj => by
    by_cases z : j = i
    · rw [z, up_s]
    · rw [up_j z]; exact i2 j (by omega))⟩)
  obtain rfl : i = s := by omega
  by_cases s0 : i = 0
  · subst s0
    have e1 : rem n (iot 0 0) + 1 = 0 + 1 := rfl
    refine mj_on (s95_62 _ _ _ ?_)
    rw [if_neg (by decide), h58 hk]
    rw [if_pos (show nI 0 ≤ 0 by decide)]
    refine if_eq (b := 0) (by omega) (by decide) (fun y => ?_) (fun y => ?_)
    · have ea : ap I1 W n [] < d + 1 := by rw [ap_nil.1 y]; omega
      have ep : pS I1 W n [] (d + 1, none) = (ap I1 W n [], some []) := pS_t ea
      have e : (pkF I1 W n d (rem n (iot 0 0) + 1) (iot 0 0) (d + 1, none)).2 = some [] := by
        show (pkF I1 W n d (0 + 1) [] (d + 1, none)).2 = some []
        rw [pkF_1 (by rw [ep, ap_nil.1 y]; exact Nat.zero_le _), ep]
      obtain ⟨I'', J'', hc, hq⟩ := some' I' [] hk (fun i x q => by cases i <;> cases q) rfl e
      exact ⟨trivial, _, _, hc, hq⟩
    · have ea : ¬ ap I1 W n [] < d + 1 := by rw [ap_nil.2 y]; omega
      have ep : pS I1 W n [] (d + 1, none) = (d + 1, none) := pS_f ea
      have e : (pkF I1 W n d (rem n (iot 0 0) + 1) (iot 0 0) (d + 1, none)).2 = none := by
        show (pkF I1 W n d (0 + 1) [] (d + 1, none)).2 = none
        rw [pkF_2 (by rw [ep]; show ¬ d + 1 ≤ d; omega) rfl, ep]
      refine mj_on (s95_96 _ _ ?_)
      rw [if_pos (show nI 0 ≤ 0 by decide)]
      exact none' I' hk e
  obtain ⟨s', rfl⟩ : ∃ s', i = s' + 1 := ⟨i - 1, by omega⟩
  have loop : ∀ r t I, rem n t = r → vld n t → t.length = s' + 1 → arrL I 42 t → k2 I = k2 I2 → pkF I1 W n d (r + 1) t (d + 1, none) = pkF I1 W n d (rem n (iot 0 (s' + 1)) + 1) (iot 0 (s' + 1)) (d + 1, none) → E2 95 (D + 3) Q 62 [(0, .ref 0), (1, .int (nI d)), (2, .int (nI (s' + 1))), (3, .int 1)] I J2 := by
    intro r
    induction r using Nat.strongRecOn with
    | _ r ihr =>
      intro t I h1 h2 h3 h4 h5 h6
      refine mj_on (s95_62 _ _ _ ?_)
      rw [if_neg (by decide), if_neg (show ¬ nI (s' + 1) ≤ 0 from fun q => absurd ((leI (b := 0) (by omega) (by decide)).mp q) (by omega))]
      obtain ⟨hap, ha2⟩ := r_apart (D := D + 1) (J := J2) (rB_k hB h5) hn (by funext j; exact k2_at h5 rfl) (h58 h5) h3 (by omega) h4 (vld_lt h2)
      refine ⟨trivial, _, _, _, hap, if_lt (by omega) (by omega) (fun y => ?_) (fun y => ?_)⟩
      · have ep : pS I1 W n t (d + 1, none) = (d + 1, none) := pS_f (by show ¬ ap I1 W n t < d + 1; omega)
        have ne : ¬ (pS I1 W n t (d + 1, none)).1 ≤ d := by rw [ep]; show ¬ d + 1 ≤ d; omega
        refine mj_on (s95_96 _ _ ?_)
        rw [if_neg (show ¬ nI (s' + 1) ≤ 0 from fun q => absurd ((leI (b := 0) (by omega) (by decide)).mp q) (by omega))]
        obtain ⟨r0, I', J', g1, rfl, rfl, g4, g5⟩ := r_next (D := D + 2) (J := J2) (h58 h5) n1 h3 (by omega) (by omega) h2 h4
        have hk' : k2 I' = k2 I2 := by
          rw [← h5]
          funext q j
          unfold k2
          by_cases z : q = 42
          · rw [z]; rfl
          · rw [g4 q z]
        refine ⟨trivial, _, _, _, g1, if_tf (fun z => ?_) (fun z => ?_)⟩
        · obtain ⟨t', ht'⟩ := Option.ne_none_iff_exists'.mp z
          obtain ⟨m1, m2, m3⟩ := (nxt_ok h2).2 t' ht'
          refine ihr (rem n t') (by omega) t' I' rfl m2 (by rw [m3, h3]) (g5 t' ht') hk' ?_
          rw [← h6, pkF_3 ne ht', ep, show rem n t' + 1 = r by omega]
        · have nn : nxt n t = none := Classical.byContradiction fun y => z y
          refine none' I' hk' ?_
          rw [← h6, pkF_2 ne nn, ep]
      · have ep : pS I1 W n t (d + 1, none) = (ap I1 W n t, some t) := pS_t (by show ap I1 W n t < d + 1; omega)
        obtain ⟨I', J', hc, hq⟩ := some' I t h5 h4 h3 (by rw [← h6, pkF_1 (by rw [ep]; show ap I1 W n t ≤ d; omega), ep])
        exact ⟨trivial, _, _, hc, hq⟩
  exact loop _ (iot 0 (s' + 1)) I' rfl (vld_iot (by omega)) iot_len (arrL_iot i2) hk rfl
theorem al_near {x : Int32} (h : Rl b W Rn Kn Tn Hn Un g I1 J1 I2 J2) : AI 241 95 [.int x] I1 J1 I2 J2 (Rl b W Rn Kn Tn Hn Un g) := by
  obtain ⟨a1, a2, -⟩ := h.N
  rcases (Classical.em (¬ x < 0 ∧ ¬ 9999 < x)).symm with ok | ok
  · refine AI.same (-1) (mj_mk (D := 899) (e241 _ ?_)) (mj_mk (D := 899) (e95 _ ?_)) h
    · exact if_i (fun _ => rfl) (fun c => if_i (fun _ => rfl) (fun d => absurd ⟨c, d⟩ ok))
    · exact ⟨trivial, _, _, _, r_is, if_tf (fun f => absurd f ok) (fun _ => rfl)⟩
  have rno : (I2 0 58 = -1 ∨ ∃ n, n ≤ 100 ∧ 16 < n ∧ I2 0 58 = nI n) → C2 900 95 [.ref 0, .int x] I2 J2 (.int (-1)) I2 J2 := fun q => by
    refine mj_mk (D := 899) (e95 _ ⟨trivial, _, _, _, r_is, if_tf (fun _ => ?_) (fun f => absurd ok f)⟩)
    rcases q with q | ⟨n, n1, n2, q⟩
    · rw [if_pos q]
    · rw [q, if_neg (nI_nm1 (by omega)), show (16 : Int32) = nI 16 from rfl]
      exact if_le (by omega) (by omega) (fun z => absurd z (by omega)) (fun _ => rfl)
  rcases h.H with ⟨h1, h2, h3⟩ | ⟨n, h1, h2, h3, h4, h5, h6⟩
  · refine AI.same (-1) (mj_mk (D := 899) (e241 _ ?_)) (rno (Or.inl h3)) h
    rw [if_neg ok.1, if_neg ok.2]
    refine ⟨trivial, _, _, _, mj_mk (D := 898) (e242 ?_), if_tf (P := False) (fun q => q.elim) (fun _ => rfl)⟩
    rw [if_pos h1]
    exact mzF id
  have hand : C1 899 242 [.ref 38] I1 J1 (.int (tf True)) I1 J1 := by
    refine mj_mk (D := 898) (e242 ?_)
    rw [if_neg h2]
    exact mzT trivial
  by_cases n16 : n ≤ 16
  · obtain ⟨d, hd, rfl⟩ := nI_of2 (n := 9999) (by decide) ok.1 (Int32.not_lt.mp ok.2)
    have hn := h.frP (n := n) (by omega) h3 h4 h6
    obtain ⟨r1, I1', J1', c1, c2, c3, rfl, v, c5⟩ := c_near (D := 895) (J1 := J1) (d := d) hn n16 hd
    obtain ⟨r2, I2', J2', f1, f2, f3, rfl, f5, f6⟩ := r_near (D := 896) (J2 := J2) (d := d) h.rB hn n16 hd
    have er : r2 = r1 := by
      cases hR : nrF I1 W n d (n + 1) 0 with
      | none => rw [c2 hR, f2 hR]
      | some l => rw [c3 l hR, f3 l hR]
    subst er
    refine ⟨r2, I1', J1', I2', J2', mj_mk (D := 899) (e241 _ ?_), f1, kp_Rl h c5 f5 f6⟩
    rw [if_neg ok.1, if_neg ok.2]
    refine ⟨trivial, _, _, _, hand, if_tf (fun _ => ?_) (fun q => absurd trivial q)⟩
    rw [h3, show (16 : Int32) = nI 16 from rfl]
    refine if_le (by omega) (by omega) (fun _ => ?_) (fun z => absurd z (by omega))
    rw [show ((0 : Int32)).toNatClampNeg = 0 from rfl, a1]
    exact ⟨vp_in_nI (n := 0) (by decide) (by decide), trivial, _, _, _, c1, rfl⟩
  · refine AI.same (-1) (mj_mk (D := 899) (e241 _ ?_)) (rno (Or.inr ⟨n, h1, by omega, h4⟩)) h
    rw [if_neg ok.1, if_neg ok.2]
    refine ⟨trivial, _, _, _, hand, if_tf (fun _ => ?_) (fun q => absurd trivial q)⟩
    rw [h3, show (16 : Int32) = nI 16 from rfl]
    exact if_le (by omega) (by omega) (fun z => absurd z (by omega)) (fun _ => rfl)
end S78
end
section
/-! standIns -/
section S79
variable {D b W Rn Kn Tn Hn Un g n : Nat} {I I1 I2 : Nat → Nat → Int32} {J J1 J2 : Nat → Nat → Int64}
theorem pkF_first {s : Nat} (h1 : 1 ≤ s) (hap : ap I W n (iot 0 s) ≤ 2000000) {k : Nat} : ∃ l, (pkF I W n 0 (k + 1) (iot 0 s) (2000000000, none)).2 = some l := by
  have ep : pS I W n (iot 0 s) (2000000000, none) = (ap I W n (iot 0 s), some (iot 0 s)) := pS_t (by show ap I W n (iot 0 s) < 2000000000; omega)
  by_cases c : (pS I W n (iot 0 s) (2000000000, none)).1 ≤ 0
  · rw [pkF_1 c, ep]; exact ⟨_, rfl⟩
  · cases hn : nxt n (iot 0 s) with
    | none => rw [pkF_2 c hn, ep]; exact ⟨_, rfl⟩
    | some t' =>
      rw [pkF_3 c hn, ep]
      exact pkF_so ⟨_, rfl⟩
theorem r_stand {s : Nat} (hB : rB I2 b W Rn) (hn : frP I1 I2 W n) (hs1 : 1 ≤ s) (hs4 : s ≤ 4) (hsn : s ≤ n) : ∃ r I' J', C2 (D + 4) 100 [.ref 0, .int (nI s)] I2 J2 (.int r) I' J' ∧ r = nI (pkF I1 W n 0 (rem n (iot 0 s) + 1) (iot 0 s) (2000000000, none)).1 ∧ J' = J2 ∧ kr I2 I' (pkF I1 W n 0 (rem n (iot 0 s) + 1) (iot 0 s) (2000000000, none)).2 := by
  obtain ⟨n1, n2, n3, n4, n5⟩ := id hn
  obtain ⟨R, hR⟩ : ∃ R, R = pkF I1 W n 0 (rem n (iot 0 s) + 1) (iot 0 s) (2000000000, none) := ⟨_, rfl⟩
  rw [← hR]
  refine mj_cI (e100 _ ?_)
  refine ⟨trivial, _, _, _, r_is, if_tf (fun _ => ?_) (fun q => absurd ⟨Int32.not_lt.mpr ((leI (a := 1) (by decide) (by omega)).mpr hs1), Int32.not_lt.mpr ((leI (b := 4) (by omega) (by decide)).mpr hs4)⟩ q)⟩
  rw [n4, show (24 : Int32) = nI 24 from rfl]
  refine if_lt (by omega) (by omega) (fun q => absurd q (by omega)) (fun _ => if_le (by omega) (by omega) (fun _ => ?_) (fun q => absurd q (by omega)))
  obtain ⟨Q, hQ⟩ : ∃ Q, Q = qI mj_R2 (fun r I' J' => r = nI R.1 ∧ J' = J2 ∧ kr I2 I' R.2) := ⟨_, rfl⟩
  rw [← hQ]
  obtain ⟨s', rfl⟩ : ∃ s', s = s' + 1 := ⟨s - 1, by omega⟩
  have stop : ∀ I, kr I2 I R.2 → E2 100 (D + 3) Q 52 [(0, .ref 0), (1, .int (nI (s' + 1))), (2, .int (nI R.1)), (3, .int 0)] I J2 := fun I q => by
    refine mj_on (s100_52 _ _ _ ?_)
    rw [if_pos rfl, hQ]
    exact ⟨_, _, _, rfl, rfl, rfl, q⟩
  have loop : ∀ r t I st x2, rem n t = r → vld n t → t.length = s' + 1 → arrL I 42 t → kr I2 I st.2 → (st = (2000000000, none) ∧ x2 = -1 ∨ (∃ l, st.2 = some l) ∧ st.1 ≤ 2000000 ∧ x2 = nI st.1) → (st.1 = 0 ∧ R = st ∨ pkF I1 W n 0 (r + 1) t st = R) → E2 100 (D + 3) Q 52 [(0, .ref 0), (1, .int (nI (s' + 1))), (2, .int x2), (3, .int 1)] I J2 := by
    intro r
    induction r using Nat.strongRecOn with
    | _ r ihr =>
      intro t I st x2 h1 h2 h3 h4 h5 h6 h7
      obtain ⟨km1, km2⟩ := km_q h5.1
      have h58 : I 0 58 = nI n := by rw [km2]; exact n4
      obtain ⟨hap, ha2⟩ := r_apart (D := D + 1) (J := J2) (rB_m hB h5.1) hn km1 h58 h3 (by omega) h4 (vld_lt h2)
      -- to the next one
      have next : ∀ I st', I 0 58 = nI n → arrL I 42 t → kr I2 I st'.2 → (∃ l, st'.2 = some l) → st'.1 ≤ 2000000 → (st'.1 = 0 ∧ R = st' ∨ st'.1 ≠ 0 ∧ pS I1 W n t st = st' ∧ pkF I1 W n 0 (r + 1) t st = R) → ∃ r2 I' J', C2 (D + 3) 99 [.ref 0, .int (nI (s' + 1))] I J2 (.int r2) I' J' ∧ E2 100 (D + 3) Q 52 [(0, .ref 0), (1, .int (nI (s' + 1))), (2, .int (nI st'.1)), (3, .int r2)] I' J' := fun I st' g1 g2 g3 g4 g5 g6 => by
        obtain ⟨r0, I', J', y1, y2, rfl, y4, y5⟩ := r_next (D := D + 2) (J := J2) g1 n1 h3 (by omega) (by omega) h2 g2
        subst y2
        refine ⟨_, I', J', y1, ?_⟩
        have hk := kr_next g3 y4
        cases hx : nxt n t with
        | none =>
          rw [tf_f (fun q => q rfl)]
          have eR : R = st' := by
            rcases g6 with g6 | ⟨g6, g7, g8⟩
            · exact g6.2
            · rw [← g8, pkF_2 (by rw [g7]; omega) hx, g7]
          rw [← eR] at hk ⊢
          exact stop I' hk
        | some t' =>
          rw [tf_t (fun q => by cases q)]
          obtain ⟨m1, m2, m3⟩ := (nxt_ok h2).2 t' hx
          refine ihr (rem n t') (by omega) t' I' st' _ rfl m2 (by rw [m3, h3]) (y5 t' hx) hk (Or.inr ⟨g4, g5, rfl⟩) ?_
          rcases g6 with g6 | ⟨g6, g7, g8⟩
          · exact Or.inl g6
          · refine Or.inr ?_
            rw [← g8, pkF_3 (by rw [g7]; omega) hx, g7, show rem n t' + 1 = r by omega]
      have rest : ∀ st', pS I1 W n t st = st' → (st.1 = 0 → st' = st) → (st'.1 = 0 ∧ R = st' ∨ st'.1 ≠ 0 ∧ pS I1 W n t st = st' ∧ pkF I1 W n 0 (r + 1) t st = R) := fun st' e1 e2 => by
        rcases h7 with ⟨h7, h8⟩ | h7
        · have := e2 h7
          rw [this]
          exact Or.inl ⟨h7, h8⟩
        · by_cases z : st'.1 = 0
          · refine Or.inl ⟨z, ?_⟩
            rw [← h7, pkF_1 (by rw [e1]; omega), e1]
          · exact Or.inr ⟨z, e1, h7⟩
      have keep : ap I1 W n t < st.1 → E2 100 (D + 3) Q 74 [(0, .ref 0), (1, .int (nI (s' + 1))), (4, .int (nI (ap I1 W n t)))] I J2 := fun q => by
        refine mj_on (s100_74 _ _ ?_)
        obtain ⟨I', J', hc, rfl, q1, q2, q3⟩ := r_keeps (D := D + 2) (J := J2) h3 (by omega) h4
        refine ⟨trivial, _, _, hc, ?_⟩
        obtain ⟨r2, I'', J'', z1, z2⟩ := next I' (ap I1 W n t, some t) (by rw [q3 58 (by decide)]; exact h58) (fun i x hx => by rw [q2 42 (by decide) (by decide)]; exact h4 i x hx) (kr_keep h5.1 q1 q2 q3) ⟨t, rfl⟩ ha2 (rest _ (pS_t q) (fun z => absurd q (by omega)))
        exact ⟨trivial, _, _, _, z1, z2⟩
      refine mj_on (s100_52 _ _ _ ?_)
      rw [if_neg (by decide)]
      refine ⟨trivial, _, _, _, hap, ?_⟩
      rcases h6 with ⟨e1, rfl⟩ | ⟨e1, e2, rfl⟩
      · rw [if_pos rfl]
        exact keep (by rw [e1]; show ap I1 W n t < 2000000000; omega)
      · rw [if_neg (nI_nm1 (by omega))]
        refine if_le (by omega) (by omega) (fun y => ?_) (fun y => keep y)
        obtain ⟨r2, I'', J'', z1, z2⟩ := next I st h58 h4 h5 e1 e2 (rest st (pS_f (by omega)) (fun _ => rfl))
        exact ⟨trivial, _, _, _, z1, z2⟩
  refine lp_up (n := s' + 1) (fun i => ∀ I', k2 I' = k2 I2 → (∀ j, j < i → I' 42 j = nI j) → E2 100 (D + 3) Q 30 [(0, .ref 0), (1, .int (nI (s' + 1))), (2, .int (nI i))] I' J2) (fun i hi ih2 I' hk i2 => ?_) 0 (Nat.zero_le _) I2 rfl (fun j q => absurd q (Nat.not_lt_zero j))
  refine mj_on (s100_30 _ _ ?_)
  rw [nI_1, nI_clamp (by omega)]
  refine if_le (by omega) (by omega) (fun f => ?_) (fun f => ⟨vp_in_nI (by omega) (by decide), ih2 f _ (by rw [k2_up rfl]; exact hk) (fun j hj => by
    by_cases z : j = i
    · rw [z, up_s]
    · rw [up_j z]; exact i2 j (by omega))⟩)
  obtain rfl : i = s' + 1 := by omega
  exact loop _ (iot 0 (s' + 1)) I' (2000000000, none) (-1) rfl (vld_iot (by omega)) iot_len (arrL_iot i2) (kr_k2 hk) (Or.inl ⟨rfl, rfl⟩) (Or.inr hR.symm)
theorem al_standIns {x : Int32} (h : Rl b W Rn Kn Tn Hn Un g I1 J1 I2 J2) : AI 249 100 [.int x] I1 J1 I2 J2 (Rl b W Rn Kn Tn Hn Un g) := by
  obtain ⟨a1, a2, -⟩ := h.N
  rcases (Classical.em (¬ x < 1 ∧ ¬ 4 < x)).symm with ok | ok
  · refine AI.same (-1) (mj_mk (D := 899) (e249 _ ?_)) (mj_mk (D := 899) (e100 _ ?_)) h
    · exact if_i (fun _ => rfl) (fun c => if_i (fun _ => rfl) (fun d => absurd ⟨c, d⟩ ok))
    · exact ⟨trivial, _, _, _, r_is, if_tf (fun f => absurd f ok) (fun _ => rfl)⟩
  obtain ⟨s, hs4, rfl⟩ := nI_of2 (n := 4) (by decide) (fun q => ok.1 (Int32.lt_trans q (by decide))) (Int32.not_lt.mp ok.2)
  have hs1 : 1 ≤ s := (leI (a := 1) (by decide) (by omega)).mp (Int32.not_lt.mp ok.1)
  have rno : (I2 0 58 = -1 ∨ ∃ n, n ≤ 100 ∧ (n < s ∨ 24 < n) ∧ I2 0 58 = nI n) → C2 900 100 [.ref 0, .int (nI s)] I2 J2 (.int (-1)) I2 J2 := fun q => by
    refine mj_mk (D := 899) (e100 _ ⟨trivial, _, _, _, r_is, if_tf (fun _ => ?_) (fun f => absurd ok f)⟩)
    rcases q with q | ⟨n, n1, n2, q⟩
    · rw [q, if_pos]
      rw [Int32.lt_iff_toInt_lt, nI_toInt (by omega)]
      show (-1 : Int) < _
      omega
    · rw [q, show (24 : Int32) = nI 24 from rfl]
      exact if_lt (by omega) (by omega) (fun _ => rfl) (fun y => if_le (by omega) (by omega) (fun z => absurd n2 (by omega)) (fun _ => rfl))
  rcases h.H with ⟨h1, h2, h3⟩ | ⟨n, h1, h2, h3, h4, h5, h6⟩
  · refine AI.same (-1) (mj_mk (D := 899) (e249 _ ?_)) (rno (Or.inl h3)) h
    rw [if_neg ok.1, if_neg ok.2]
    refine ⟨trivial, _, _, _, mj_mk (D := 898) (e242 ?_), if_tf (P := False) (fun q => q.elim) (fun _ => rfl)⟩
    rw [if_pos h1]
    exact mzF id
  have hand : C1 899 242 [.ref 38] I1 J1 (.int (tf True)) I1 J1 := by
    refine mj_mk (D := 898) (e242 ?_)
    rw [if_neg h2]
    exact mzT trivial
  by_cases n24 : s ≤ n ∧ n ≤ 24
  · have hn := h.frP (n := n) n24.2 h3 h4 h6
    obtain ⟨I0, J0, hm, rfl, m1, m2⟩ := c_measure (D := 896) (J := J1) hn
    have hrem : rem n (iot 0 s) + 1 ≤ 20000 := by
      rw [rem_iot (by omega)]
      exact Nat.le_trans (bin_24 _ (by omega) s (by omega)) (by decide)
    obtain ⟨r1, I1', J1', c1, rfl, rfl, c4, c5⟩ := c_pickOf (D := 895) (J := J0) (B := 2000000000) (e := 0) hn m2 n24.1 (by omega) (by decide) (by decide) hrem m1
    obtain ⟨r2, I2', J2', f1, rfl, rfl, f4⟩ := r_stand (D := 896) (J2 := J2) h.rB hn hs1 hs4 n24.1
    have hl : ∀ l, (pkF I1 W n 0 (rem n (iot 0 s) + 1) (iot 0 s) (2000000000, none)).2 = some l → l.length ≤ 16 := fun l q => by
      have := pkF_len (I := I1) (W := W) (n := n) (t := iot 0 s) (e := 0) (k := rem n (iot 0 s) + 1) (st := (2000000000, none)) (vld_iot (by omega)) iot_len (fun l q => by cases q) l q
      omega
    refine ⟨_, I1', J1', I2', J2', mj_mk (D := 899) (e249 _ ?_), f1, kp_Rl h (v := (pkF I1 W n 0 (rem n (iot 0 s) + 1) (iot 0 s) (2000000000, none)).1) c5 f4 hl⟩
    rw [if_neg ok.1, if_neg ok.2]
    refine ⟨trivial, _, _, _, hand, if_tf (fun _ => ?_) (fun q => absurd trivial q)⟩
    rw [h3, show (24 : Int32) = nI 24 from rfl]
    refine if_lt (by omega) (by omega) (fun q => absurd q (by omega)) (fun _ => if_le (by omega) (by omega) (fun _ => ?_) (fun z => absurd z (by omega)))
    rw [show ((0 : Int32)).toNatClampNeg = 0 from rfl, a1]
    exact ⟨vp_in_nI (n := 0) (by decide) (by decide), trivial, _, _, _, mj_mk (D := 898) (e250 _ _ ⟨trivial, _, _, hm, trivial, _, _, _, c1, rfl⟩), rfl⟩
  · refine AI.same (-1) (mj_mk (D := 899) (e249 _ ?_)) (rno (Or.inr ⟨n, h1, by omega, h4⟩)) h
    rw [if_neg ok.1, if_neg ok.2]
    refine ⟨trivial, _, _, _, hand, if_tf (fun _ => ?_) (fun q => absurd trivial q)⟩
    rw [h3, show (24 : Int32) = nI 24 from rfl]
    exact if_lt (by omega) (by omega) (fun _ => rfl) (fun y => if_le (by omega) (by omega) (fun z => absurd ⟨y, z⟩ n24) (fun _ => rfl))
end S79
end
section
/-! the class' pool put in order -/
section LX
variable {W : Nat} {f g h : Nat → Int32}
theorem lex_tri : ∀ {W : Nat}, lexlt W f g ∨ (∀ w, w < W → f w = g w) ∨ lexlt W g f
  | 0 => Or.inr (Or.inl fun w hw => absurd hw (Nat.not_lt_zero w))
  | W + 1 => by
    rcases lex_tri (W := W) with ⟨w, h1, h2, h3⟩ | e | ⟨w, h1, h2, h3⟩
    · exact Or.inl ⟨w, by omega, h2, h3⟩
    · rcases Classical.em (f W = g W) with q | q
      · refine Or.inr (Or.inl fun w hw => ?_)
        by_cases z : w = W
        · rw [z]; exact q
        · exact e w (by omega)
      · by_cases c : f W < g W
        · exact Or.inl ⟨W, by omega, c, e⟩
        · refine Or.inr (Or.inr ⟨W, by omega, ?_, fun u hu => (e u hu).symm⟩)
          refine Int32.lt_iff_le_and_ne.mpr ⟨Int32.not_lt.mp c, fun z => q z.symm⟩
    · exact Or.inr (Or.inr ⟨w, by omega, h2, h3⟩)
theorem lex_tr (a : lexlt W f g) (b : lexlt W g h) : lexlt W f h := by
  obtain ⟨w, a1, a2, a3⟩ := a
  obtain ⟨v, b1, b2, b3⟩ := b
  by_cases c : w < v
  · exact ⟨w, a1, by rw [← b3 w c]; exact a2, fun u hu => by rw [a3 u hu, b3 u (by omega)]⟩
  · by_cases d : v < w
    · exact ⟨v, b1, by rw [a3 v d]; exact b2, fun u hu => by rw [a3 u (by omega), b3 u hu]⟩
    · obtain rfl : w = v := by omega
      exact ⟨w, a1, Int32.lt_trans a2 b2, fun u hu => by rw [a3 u hu, b3 u hu]⟩
theorem lex_ir (a : lexlt W f f) : False := by
  obtain ⟨w, -, a2, -⟩ := a
  exact Int32.lt_irrefl a2
theorem lex_el (e : ∀ w, w < W → f w = g w) (a : lexlt W f h) : lexlt W g h := by
  obtain ⟨w, a1, a2, a3⟩ := a
  exact ⟨w, a1, by rw [← e w a1]; exact a2, fun u hu => by rw [← e u (by omega)]; exact a3 u hu⟩
theorem lex_er (e : ∀ w, w < W → g w = h w) (a : lexlt W f g) : lexlt W f h := by
  obtain ⟨w, a1, a2, a3⟩ := a
  exact ⟨w, a1, by rw [← e w a1]; exact a2, fun u hu => by rw [a3 u hu]; exact e u (by omega)⟩
end LX
/-- x comes before y in the pool -/
def ah (W : Nat) (P : Nat → Nat → Int32) (K : Nat → Nat) (x y : Nat) : Prop := lexlt W (P x) (P y) ∨ ((∀ w, w < W → P x w = P y w) ∧ K x < K y)
section AH
variable {W : Nat} {P : Nat → Nat → Int32} {K : Nat → Nat} {x y z : Nat}
theorem ah_as (a : ah W P K x y) : ¬ ah W P K y x := by
  rintro (b | ⟨b1, b2⟩)
  · rcases a with a | ⟨a1, a2⟩
    · exact lex_ir (lex_tr a b)
    · exact lex_ir (lex_er a1 b)
  · rcases a with a | ⟨a1, a2⟩
    · exact lex_ir (lex_er b1 a)
    · omega
theorem ah_nt (a : ¬ ah W P K x y) (b : ¬ ah W P K y z) : ¬ ah W P K x z := by
  intro c
  rcases lex_tri (W := W) (f := P x) (g := P y) with q | q | q
  · exact a (Or.inl q)
  · rcases c with c | ⟨c1, c2⟩
    · exact b (Or.inl (lex_el q c))
    · by_cases d : K x < K y
      · exact a (Or.inr ⟨q, d⟩)
      · exact b (Or.inr ⟨fun w hw => by rw [← q w hw]; exact c1 w hw, by omega⟩)
  · rcases c with c | ⟨c1, c2⟩
    · exact b (Or.inl (lex_tr q c))
    · exact b (Or.inl (lex_er c1 q))
end AH
section S80
variable {D W N : Nat} {P : Nat → Nat → Int32} {K : Nat → Nat} {I : Nat → Nat → Int32} {J : Nat → Nat → Int64}
def plP (W N : Nat) (P : Nat → Nat → Int32) (K : Nat → Nat) (I : Nat → Nat → Int32) (J : Nat → Nat → Int64) : Prop := I 29 3 = nI N ∧ I 29 4 = nI W ∧ N ≤ 6561 ∧ W ≤ 4 ∧ (∀ x, x < N → ∀ w, w < W → I 30 (4 * x + w) = P x w) ∧ ∀ x, x < N → J 31 x = lN (K x) ∧ K x < 2 ^ 62
theorem plP_up {I' : Nat → Nat → Int32} (h : plP W N P K I J) (e : ∀ q, q ≠ 32 → I' q = I q) : plP W N P K I' J := by
  obtain ⟨h1, h2, h3, h4, h5, h6⟩ := h
  exact ⟨by rw [e 29 (by decide)]; exact h1, by rw [e 29 (by decide)]; exact h2, h3, h4, fun x hx w hw => by rw [e 30 (by decide)]; exact h5 x hx w hw, h6⟩
theorem c_plAhead {x y : Nat} (h : plP W N P K I J) (hx : x < N) (hy : y < N) : C1 (D + 1) 216 [.ref 29, .int (nI x), .int (nI y)] I J (.int (tf (ah W P K x y))) I J := by
  obtain ⟨h1, h2, h3, h4, h5, h6⟩ := h
  refine mj_mk (e216 _ _ ?_)
  refine lp_up (n := W) (fun w => (∀ u, u < w → P x u = P y u) → E1 216 D (fun q => q = (.int (tf (ah W P K x y)), (I, J, mj_R1))) 2 [(0, .ref 29), (1, .int (nI x)), (2, .int (nI y)), (3, .int (nI w))] I J) (fun w hw ih he => ?_) 0 (Nat.zero_le _) (fun u hu => absurd hu (Nat.not_lt_zero u))
  refine mj_on (s216_2 _ _ _ ?_)
  rw [h2, nI_1, ix4, ix4, nI_clamp (by omega), nI_clamp (by omega), nI_clamp (by omega), nI_clamp (by omega)]
  refine if_le (by omega) (by omega) (fun c => ⟨vp_in_nI (by omega) (by decide), vp_in_nI (by omega) (by decide), ?_⟩) (fun c => ⟨vp_in_nI (by omega) (by decide), vp_in_nI (by omega) (by decide), ?_⟩)
  · obtain rfl : w = W := by omega
    rw [(h6 x hx).1, (h6 y hy).1]
    have kx := (h6 x hx).2
    have ky := (h6 y hy).2
    refine if_i (fun d => mzT ?_) (fun d => mzF ?_)
    · rw [cmp_lt.1, lNtI kx, lNtI ky] at d
      exact Or.inr ⟨he, by omega⟩
    · rw [cmp_lt.1, lNtI kx, lNtI ky] at d
      rintro (q | q)
      · exact lex_ir (lex_er (fun u hu => (he u hu).symm) q)
      · omega
  · rw [h5 x hx w c, h5 y hy w c]
    refine if_i (fun d => ih c fun u hu => ?_) (fun d => if_i (fun e => mzF ?_) (fun e => mzT (Or.inl ⟨w, c, Int32.not_le.mp e, he⟩)))
    · by_cases z : u = w
      · rw [z]; exact d
      · exact he u (by omega)
    · have lt : P y w < P x w := Int32.lt_iff_le_and_ne.mpr ⟨e, fun z => d z.symm⟩
      exact ah_as (Or.inl ⟨w, c, lt, fun u hu => (he u hu).symm⟩)
/-- the order: f tells which one stands where -/
def odP (N : Nat) (f : Nat → Nat) (I : Nat → Nat → Int32) : Prop := ∀ i, i < N → I 32 i = nI (f i) ∧ f i < N
def swp (f : Nat → Nat) (a c : Nat) : Nat → Nat := fun i => if i = c then f a else if i = a then f c else f i
theorem c_plSwap {f : Nat → Nat} {a c : Nat} (hN : N ≤ 6561) (ho : odP N f I) (ha : a < N) (hc : c < N) : ∃ I', C1 (D + 1) 217 [.ref 29, .int (nI a), .int (nI c)] I J .null I' J ∧ (∀ q, q ≠ 32 → I' q = I q) ∧ odP N (swp f a c) I' := by
  refine ⟨mj_up (mj_up I 32 a (I 32 c)) 32 c (I 32 a), mj_mk (e217 _ _ ?_), fun q hq => by rw [up_c hq, up_c hq], fun i hi => ?_⟩
  · rw [nI_clamp (by omega), nI_clamp (by omega)]
    have v1 : vp_in (nI a) 6561 := vp_in_nI (by omega) (by decide)
    have v2 : vp_in (nI c) 6561 := vp_in_nI (by omega) (by decide)
    exact ⟨v1, v2, v1, v2, rfl⟩
  · unfold swp
    by_cases e : i = c
    · rw [e, up_s, if_pos rfl]
      exact ho a ha
    · rw [up_j e, if_neg e]
      by_cases d : i = a
      · rw [d, up_s, if_pos rfl]
        exact ho c hc
      · rw [up_j d, if_neg d]
        exact ho i hi
/-- c hangs under i -/
def chd (i c : Nat) : Prop := c = 2 * i + 1 ∨ c = 2 * i + 2
def hpP (W : Nat) (P : Nat → Nat → Int32) (K : Nat → Nat) (f : Nat → Nat) (lo n : Nat) : Prop := ∀ i c, lo ≤ i → chd i c → c < n → ¬ ah W P K (f i) (f c)
def imP (f g : Nat → Nat) (n : Nat) : Prop := ∀ x, (∃ i, i < n ∧ f i = x) ↔ ∃ i, i < n ∧ g i = x
theorem imP_swp {f : Nat → Nat} {a c n : Nat} (ha : a < n) (hc : c < n) : imP (swp f a c) f n := fun x => by
  unfold swp
  constructor
  · rintro ⟨i, hi, e⟩
    by_cases z : i = c
    · rw [if_pos z] at e; exact ⟨a, ha, e⟩
    · rw [if_neg z] at e
      by_cases y : i = a
      · rw [if_pos y] at e; exact ⟨c, hc, e⟩
      · rw [if_neg y] at e; exact ⟨i, hi, e⟩
  · rintro ⟨i, hi, e⟩
    by_cases z : i = c
    · refine ⟨a, ha, ?_⟩
      by_cases y : a = c
      · rw [if_pos y, y, ← z]; exact e
      · rw [if_neg y, if_pos rfl, ← z]; exact e
    · by_cases y : i = a
      · refine ⟨c, hc, ?_⟩
        rw [if_pos rfl, ← y]; exact e
      · refine ⟨i, hi, ?_⟩
        rw [if_neg z, if_neg y]; exact e
theorem imP_tr {f g h : Nat → Nat} {n : Nat} (a : imP f g n) (b : imP g h n) : imP f h n := fun x => (a x).trans (b x)
theorem c_sink {f : Nat → Nat} {i0 n : Nat} (h : plP W N P K I J) (ho : odP N f I) (hn : n ≤ N) (hi : i0 < n) (hp : hpP W P K f (i0 + 1) n) : ∃ I' J' f', C1 (D + 2) 215 [.ref 29, .int (nI i0), .int (nI n)] I J .null I' J' ∧ J' = J ∧ (∀ q, q ≠ 32 → I' q = I q) ∧ odP N f' I' ∧ hpP W P K f' i0 n ∧ imP f' f n ∧ ∀ i, n ≤ i → f' i = f i := by
  have hN := h.2.2.1
  suffices hs : ∃ I' J', C1 (D + 2) 215 [.ref 29, .int (nI i0), .int (nI n)] I J .null I' J' ∧ (J' = J ∧ (∀ q, q ≠ 32 → I' q = I q) ∧ ∃ f', odP N f' I' ∧ hpP W P K f' i0 n ∧ imP f' f n ∧ ∀ i, n ≤ i → f' i = f i) by
    obtain ⟨I', J', q1, q2, q3, f', q4⟩ := hs
    exact ⟨I', J', f', q1, q2, q3, q4⟩
  refine mj_cN (e215 _ _ ?_)
  obtain ⟨Q, hQ⟩ : ∃ Q, Q = qN mj_R1 (fun I' J' => J' = J ∧ (∀ q, q ≠ 32 → I' q = I q) ∧ ∃ f', odP N f' I' ∧ hpP W P K f' i0 n ∧ imP f' f n ∧ ∀ i, n ≤ i → f' i = f i) := ⟨_, rfl⟩
  rw [← hQ]
  have loop : ∀ m p t I' f', n - p ≤ m → p < n → i0 ≤ p → 2 ^ t ≤ p + 1 → (∀ q, q ≠ 32 → I' q = I q) → odP N f' I' → imP f' f n → (∀ i, n ≤ i → f' i = f i) → (∀ j c, i0 ≤ j → j ≠ p → chd j c → c < n → ¬ ah W P K (f' j) (f' c)) → (∀ q c, i0 ≤ q → chd q p → chd p c → c < n → ¬ ah W P K (f' q) (f' c)) → E1 215 (D + 1) Q 5 [(0, .ref 29), (2, .int (nI n)), (3, .int (nI p)), (4, .int (nI t))] I' J := by
    intro m
    induction m with
    | zero => intro p t I' f' h1 h2; omega
    | succ m ih =>
      intro p t I' f' h1 h2 h3 h4 h5 h6 h7 h8 h9 h10
      have ht : t < 14 := by
        refine Nat.lt_of_not_le fun z => ?_
        have : 2 ^ 14 ≤ 2 ^ t := Nat.pow_le_pow_right (by decide) z
        omega
      have hpl := plP_up h h5
      have done : (∀ c, chd p c → c < n → ¬ ah W P K (f' p) (f' c)) → Q (.null, (I', J, mj_R1)) := fun q => by
        rw [hQ]
        refine ⟨_, _, rfl, rfl, h5, f', h6, fun j c j1 j2 j3 => ?_, h7, h8⟩
        by_cases z : j = p
        · subst z; exact q c j2 j3
        · exact h9 j c j1 z j2 j3
      refine mj_on (s215_5 _ _ _ ?_)
      rw [show (32 : Int32) = nI 32 from rfl, show (2 : Int32) = nI 2 from rfl, pk_mul, nI_1, nI_1]
      refine if_le (by omega) (by omega) (fun q => absurd q (by omega)) (fun _ => if_le (by omega) (by omega) (fun c1 => done fun c hc1 hc2 => ?_) (fun c1 => ?_))
      · unfold chd at hc1; omega
      -- the greater child
      have go : ∀ c, chd p c → c < n → (∀ c2, chd p c2 → c2 < n → ¬ ah W P K (f' c) (f' c2)) → E1 215 (D + 1) Q 62 [(0, .ref 29), (2, .int (nI n)), (3, .int (nI p)), (4, .int (nI t)), (5, .int (nI c))] I' J := fun c k1 k2 k3 => by
        refine mj_on (s215_62 _ _ _ _ ?_)
        rw [nI_clamp (by omega), nI_clamp (by omega), (h6 p (by omega)).1, (h6 c (by omega)).1, nI_1]
        refine ⟨vp_in_nI (by omega) (by decide), vp_in_nI (by omega) (by decide), trivial, _, _, _, c_plAhead hpl (h6 p (by omega)).2 (h6 c (by omega)).2, if_tf (fun a => ?_) (fun a => done fun c2 z1 z2 => ah_nt a (k3 c2 z1 z2))⟩
        have hcp : p < c := by unfold chd at k1; omega
        obtain ⟨I'', hc, u1, u2⟩ := c_plSwap (D := D) (J := J) hN h6 (show p < N by omega) (show c < N by omega)
        refine ⟨trivial, _, _, hc, ?_⟩
        have sp : swp f' p c p = f' c := by unfold swp; rw [if_neg (by omega), if_pos rfl]
        have sc : swp f' p c c = f' p := by unfold swp; rw [if_pos rfl]
        have so : ∀ i, i ≠ p → i ≠ c → swp f' p c i = f' i := fun i i1 i2 => by unfold swp; rw [if_neg i2, if_neg i1]
        refine ih c (t + 1) I'' (swp f' p c) (by omega) k2 (by omega) ?_ (fun q hq => by rw [u1 q hq]; exact h5 q hq) u2 (imP_tr (imP_swp h2 k2) h7) (fun i hi => by rw [so i (by omega) (by omega)]; exact h8 i hi) (fun j d j1 j2 j3 j4 => ?_) (fun q d q1 q2 q3 q4 => ?_)
        · rw [Nat.pow_succ]
          unfold chd at k1
          omega
        · by_cases e1 : j = p
          · subst e1
            rw [sp]
            by_cases e2 : d = c
            · rw [e2, sc]; exact ah_as a
            · rw [so d (by unfold chd at j3; omega) e2]
              exact k3 d j3 j4
          · rw [so j e1 j2]
            by_cases e2 : d = p
            · subst e2
              rw [sp]
              exact h10 j c j1 j3 k1 k2
            · by_cases e3 : d = c
              · exfalso
                unfold chd at j3 k1
                omega
              · rw [so d e2 e3]
                exact h9 j d j1 e1 j3 j4
        · have eq : q = p := by unfold chd at q2 k1; omega
          rw [eq, sp, so d (by unfold chd at q3; omega) (by unfold chd at q3; omega)]
          exact h9 c d (by omega) (by omega) q3 q4
      refine if_le (by omega) (by omega) (fun c2 => go _ (Or.inl rfl) c1 fun d z1 z2 => ?_) (fun c2 => ?_)
      · have : d = 2 * p + 1 := by unfold chd at z1; omega
        rw [this]
        exact fun q => ah_as q q
      · rw [nI_clamp (by omega), nI_clamp (by omega), (h6 (2 * p + 1) (by omega)).1, (h6 (2 * p + 1 + 1) (by omega)).1]
        refine ⟨vp_in_nI (by omega) (by decide), vp_in_nI (by omega) (by decide), trivial, _, _, _, c_plAhead hpl (h6 _ (by omega)).2 (h6 _ (by omega)).2, if_tf (fun a => go _ (Or.inr rfl) (by omega) fun d z1 z2 => ?_) (fun a => go _ (Or.inl rfl) c1 fun d z1 z2 => ?_)⟩
        · rcases z1 with z | z
          · rw [z]; exact ah_as a
          · rw [z]; exact fun q => ah_as q q
        · rcases z1 with z | z
          · rw [z]; exact fun q => ah_as q q
          · rw [z]; exact a
  exact loop (n - i0) i0 0 I f (Nat.le_refl _) hi (Nat.le_refl _) (by show 1 ≤ i0 + 1; omega) (fun _ _ => rfl) ho (fun _ => Iff.rfl) (fun _ _ => rfl) (fun j c j1 j2 j3 j4 => hp j c (by omega) j3 j4) (fun q c q1 q2 => by unfold chd at q2; omega)
end S80
end
section
/-! the heap sort -/
theorem imP_ext {f g : Nat → Nat} {n N : Nat} (h : imP f g n) (e : ∀ i, n ≤ i → f i = g i) (hn : n ≤ N) : imP f g N := fun x => by
  constructor
  · rintro ⟨i, hi, q⟩
    by_cases c : i < n
    · obtain ⟨k, hk, z⟩ := (h x).mp ⟨i, c, q⟩
      exact ⟨k, by omega, z⟩
    · exact ⟨i, hi, by rw [← e i (by omega)]; exact q⟩
  · rintro ⟨i, hi, q⟩
    by_cases c : i < n
    · obtain ⟨k, hk, z⟩ := (h x).mpr ⟨i, c, q⟩
      exact ⟨k, by omega, z⟩
    · exact ⟨i, hi, by rw [e i (by omega)]; exact q⟩
theorem hp_top {W : Nat} {P : Nat → Nat → Int32} {K : Nat → Nat} {f : Nat → Nat} {n : Nat} (h : hpP W P K f 0 n) : ∀ k, k < n → ¬ ah W P K (f 0) (f k) := by
  intro k
  induction k using Nat.strongRecOn with
  | _ k ih =>
    intro hk
    by_cases e : k = 0
    · rw [e]; exact fun q => ah_as q q
    · have hc : chd ((k - 1) / 2) k := by unfold chd; omega
      exact ah_nt (ih ((k - 1) / 2) (by omega) (by omega)) (h _ k (Nat.zero_le _) hc hk)
section S81
variable {D W N : Nat} {P : Nat → Nat → Int32} {K : Nat → Nat} {I : Nat → Nat → Int32} {J : Nat → Nat → Int64}
def srt (W : Nat) (P : Nat → Nat → Int32) (K : Nat → Nat) (N : Nat) (f : Nat → Nat) : Prop := (∀ i j, i < j → j < N → ¬ ah W P K (f j) (f i)) ∧ ∀ x, x < N → ∃ i, i < N ∧ f i = x
theorem c_plSort (h : plP W N P K I J) (ho : odP N (fun i => i) I) : ∃ I' f, C1 (D + 3) 214 [.ref 29] I J .null I' J ∧ (∀ q, q ≠ 32 → I' q = I q) ∧ odP N f I' ∧ srt W P K N f := by
  have hN := h.2.2.1
  have h1 := h.1
  suffices hs : ∃ I' J', C1 (D + 3) 214 [.ref 29] I J .null I' J' ∧ (J' = J ∧ (∀ q, q ≠ 32 → I' q = I q) ∧ ∃ f, odP N f I' ∧ srt W P K N f) by
    obtain ⟨I', J', q1, rfl, q3, f, q4⟩ := hs
    exact ⟨I', f, q1, q3, q4⟩
  refine mj_cN (e214 ?_)
  obtain ⟨Q, hQ⟩ : ∃ Q, Q = qN mj_R1 (fun I' J' => J' = J ∧ (∀ q, q ≠ 32 → I' q = I q) ∧ ∃ f, odP N f I' ∧ srt W P K N f) := ⟨_, rfl⟩
  rw [← hQ]
  refine ⟨by decide, ?_⟩
  rw [h1, show (2 : Int32) = nI 2 from rfl, nI_div (by omega) (by decide)]
  -- the second part
  have two : ∀ e I' f, e ≤ N → (N = 0 ∨ 1 ≤ e) → (∀ q, q ≠ 32 → I' q = I q) → odP N f I' → imP f (fun i => i) N → hpP W P K f 0 e → (∀ i j, i < e → e ≤ j → j < N → ¬ ah W P K (f j) (f i)) → (∀ i j, e ≤ i → i < j → j < N → ¬ ah W P K (f j) (f i)) → E1 214 (D + 2) Q 35 [(0, .ref 29), (1, .int (nI e - 1))] I' J := by
    intro e
    induction e with
    | zero =>
      intro I' f a1 a2 a3 a4 a5 a6 a7 a8
      refine mj_on (s214_35 _ ?_)
      rw [if_pos (by decide), hQ]
      refine ⟨_, _, rfl, rfl, a3, f, a4, fun i j i1 i2 => by omega, fun x hx => by omega⟩
    | succ e ih =>
      intro I' f a1 a2 a3 a4 a5 a6 a7 a8
      refine mj_on (s214_35 _ ?_)
      rw [n1_sub]
      refine if_le (b := 0) (by omega) (by decide) (fun c => ?_) (fun c => ?_)
      · rw [hQ]
        refine ⟨_, _, rfl, rfl, a3, f, a4, fun i j i1 i2 => ?_, fun x hx => (a5 x).mpr ⟨x, hx, rfl⟩⟩
        by_cases z : i < e + 1
        · exact a7 i j z (by omega) i2
        · exact a8 i j (by omega) i1 i2
      · obtain ⟨I1, hc1, u1, u2⟩ := c_plSwap (D := D + 1) (J := J) (a := 0) (c := e) hN a4 (by omega) (by omega)
        have hpl1 : plP W N P K I1 J := plP_up (plP_up h a3) u1
        have s0 : ∀ i, i ≠ 0 → i ≠ e → swp f 0 e i = f i := fun i i1 i2 => by unfold swp; rw [if_neg i2, if_neg i1]
        have se : swp f 0 e e = f 0 := by unfold swp; rw [if_pos rfl]
        obtain ⟨I2, J2, f2, hc2, rfl, v1, v2, v3, v4, v5⟩ := c_sink (D := D) (i0 := 0) (n := e) hpl1 u2 (by omega) c (fun i k k1 k2 k3 => by
          rw [s0 i (by omega) (by unfold chd at k2; omega), s0 k (by unfold chd at k2; omega) (by omega)]
          exact a6 i k (Nat.zero_le _) k2 (by omega))
        refine ⟨trivial, _, _, hc1, trivial, _, _, hc2, ?_⟩
        rw [nI_m1]
        have im : imP f2 f (e + 1) := imP_tr (imP_ext v4 v5 (by omega)) (imP_swp (by omega) (by omega))
        have top := hp_top a6
        have inI : ∀ i, i < e → ∃ k, k < e + 1 ∧ f2 i = f k := fun i hi => by
          obtain ⟨k, k1, k2⟩ := (im (f2 i)).mp ⟨i, by omega, rfl⟩
          exact ⟨k, k1, k2.symm⟩
        have f2e : f2 e = f 0 := by rw [v5 e (Nat.le_refl _), se]
        have f2o : ∀ j, e < j → f2 j = f j := fun j hj => by rw [v5 j (by omega), s0 j (by omega) (by omega)]
        refine ih I2 f2 (by omega) (Or.inr (by omega)) (fun q hq => by rw [v1 q hq, u1 q hq]; exact a3 q hq) v2 (imP_tr (imP_ext im (fun i hi => f2o i (by omega)) a1) a5) v3 (fun i j i1 i2 i3 => ?_) (fun i j i1 i2 i3 => ?_)
        · obtain ⟨k, k1, k2⟩ := inI i i1
          rw [k2]
          by_cases z : j = e
          · rw [z, f2e]; exact top k k1
          · rw [f2o j (by omega)]; exact a7 k j k1 (by omega) i3
        · by_cases z : i = e
          · rw [z, f2e, f2o j (by omega)]
            exact a7 0 j (by omega) (by omega) i3
          · rw [f2o i (by omega), f2o j (by omega)]
            exact a8 i j (by omega) i2 i3
  -- the first part
  have one : ∀ k I' f, k ≤ N / 2 → (∀ q, q ≠ 32 → I' q = I q) → odP N f I' → imP f (fun i => i) N → hpP W P K f k N → E1 214 (D + 2) Q 9 [(0, .ref 29), (1, .int (nI k - 1))] I' J := by
    intro k
    induction k with
    | zero =>
      intro I' f a1 a2 a3 a4 a5
      refine mj_on (s214_9 _ ?_)
      rw [if_pos (by decide), a2 29 (by decide), h1]
      exact two N I' f (Nat.le_refl _) (by omega) a2 a3 a4 a5 (fun i j _ h2 h3 => by omega) (fun i j h1 h2 h3 => by omega)
    | succ k ih =>
      intro I' f a1 a2 a3 a4 a5
      refine mj_on (s214_9 _ ?_)
      rw [n1_sub, if_neg (nI_pos (by omega)), a2 29 (by decide), h1]
      obtain ⟨I2, J2, f2, hc2, rfl, v1, v2, v3, v4, v5⟩ := c_sink (D := D) (i0 := k) (n := N) (plP_up h a2) a3 (Nat.le_refl _) (by omega) a5
      refine ⟨trivial, _, _, hc2, ?_⟩
      rw [nI_m1]
      exact ih I2 f2 (by omega) (fun q hq => by rw [v1 q hq]; exact a2 q hq) v2 (imP_tr v4 a4) v3
  exact one (N / 2) I (fun i => i) (Nat.le_refl _) (fun _ _ => rfl) ho (fun _ => Iff.rfl) (fun i c i1 i2 i3 => by unfold chd at i2; omega)
end S81
end
section
/-! what is chosen of an ordered pool is its front; there is but one front -/
noncomputable def cho (W : Nat) (P : Nat → Nat → Int32) (f : Nat → Nat) : Nat → List Nat
  | 0 => []
  | i + 1 => @ite _ (∃ x, x ∈ cho W P f i ∧ nm W (P x) (P (f i))) (Classical.propDecidable _) (cho W P f i) (cho W P f i ++ [f i])
section CH
variable {W N : Nat} {P : Nat → Nat → Int32} {K : Nat → Nat} {f : Nat → Nat}
theorem cho_t {i : Nat} (h : ∃ x, x ∈ cho W P f i ∧ nm W (P x) (P (f i))) : cho W P f (i + 1) = cho W P f i := @if_pos _ (Classical.propDecidable _) h _ _ _
theorem cho_f {i : Nat} (h : ¬ ∃ x, x ∈ cho W P f i ∧ nm W (P x) (P (f i))) : cho W P f (i + 1) = cho W P f i ++ [f i] := @if_neg _ (Classical.propDecidable _) h _ _ _
theorem cho_len {i : Nat} : ∀ {j : Nat}, i ≤ j → (cho W P f i).length ≤ (cho W P f j).length
  | 0, h => by rw [show i = 0 by omega]; exact Nat.le_refl _
  | j + 1, h => by
    by_cases e : i = j + 1
    · rw [e]; exact Nat.le_refl _
    · have := cho_len (i := i) (j := j) (by omega)
      rcases Classical.em (∃ x, x ∈ cho W P f j ∧ nm W (P x) (P (f j))) with q | q
      · rw [cho_t q]; exact this
      · rw [cho_f q, List.length_append]; omega
theorem nm_tr {a b c : Nat → Int32} (h : nm W a b) (k : nm W b c) : nm W a c := fun w hw => Int32.le_trans (h w hw) (k w hw)
theorem nm_rf {a : Nat → Int32} : nm W a a := fun _ _ => Int32.le_refl _
theorem nm_eq {a b : Nat → Int32} (e : ∀ w, w < W → a w = b w) : nm W a b := fun w hw => by rw [e w hw]; exact Int32.le_refl _
/-- what is nowhere more is the same, or is less by its first difference -/
theorem nm_lx {a b : Nat → Int32} (h : nm W a b) : (∀ w, w < W → a w = b w) ∨ lexlt W a b := by
  rcases lex_tri (W := W) (f := a) (g := b) with q | q | ⟨w, w1, w2, -⟩
  · exact Or.inr q
  · exact Or.inl q
  · exact absurd (h w w1) (Int32.not_le.mpr w2)
theorem cho_ok (hs : ∀ i j, i < j → j < N → ¬ ah W P K (f j) (f i)) : ∀ i, i ≤ N →
    (∀ x, x ∈ cho W P f i → ∃ j, j < i ∧ x = f j) ∧ (∀ j, j < i → ∃ x, x ∈ cho W P f i ∧ nm W (P x) (P (f j))) ∧
    (cho W P f i).Pairwise (fun x y => lexlt W (P x) (P y)) ∧ (∀ x, x ∈ cho W P f i → ∀ j, j < i → nm W (P (f j)) (P x) → nm W (P x) (P (f j))) ∧
    (∀ x, x ∈ cho W P f i → ∀ j, j < i → (∀ w, w < W → P (f j) w = P x w) → K x ≤ K (f j))
  | 0, _ => ⟨fun x h => (by cases h), fun j h => absurd h (Nat.not_lt_zero j), List.Pairwise.nil, fun x h => (by cases h), fun x h => (by cases h)⟩
  | i + 1, hi => by
    obtain ⟨hA, hB, hS, hM, hK⟩ := cho_ok hs i (by omega)
    have oldM : ∀ x, x ∈ cho W P f i → nm W (P (f i)) (P x) → nm W (P x) (P (f i)) := fun x hx q => by
      obtain ⟨j, hj, rfl⟩ := hA x hx
      rcases nm_lx q with e | e
      · exact nm_eq fun w hw => (e w hw).symm
      · exact absurd (Or.inl e) (hs j i hj (by omega))
    have oldK : ∀ x, x ∈ cho W P f i → (∀ w, w < W → P (f i) w = P x w) → K x ≤ K (f i) := fun x hx q => by
      obtain ⟨j, hj, rfl⟩ := hA x hx
      refine Nat.le_of_not_lt fun z => hs j i hj (by omega) (Or.inr ⟨q, z⟩)
    rcases Classical.em (∃ x, x ∈ cho W P f i ∧ nm W (P x) (P (f i))) with q | q
    · rw [cho_t q]
      refine ⟨fun x hx => ?_, fun j hj => ?_, hS, fun x hx j hj => ?_, fun x hx j hj => ?_⟩
      · obtain ⟨j, h1, h2⟩ := hA x hx
        exact ⟨j, by omega, h2⟩
      · by_cases e : j = i
        · rw [e]; exact q
        · exact hB j (by omega)
      · by_cases e : j = i
        · rw [e]; exact oldM x hx
        · exact hM x hx j (by omega)
      · by_cases e : j = i
        · rw [e]; exact oldK x hx
        · exact hK x hx j (by omega)
    · rw [cho_f q]
      have newM : ∀ j, j < i → ¬ nm W (P (f j)) (P (f i)) := fun j hj z => by
        obtain ⟨x, hx, y⟩ := hB j hj
        exact q ⟨x, hx, nm_tr y z⟩
      refine ⟨fun x hx => ?_, fun j hj => ?_, ?_, fun x hx j hj => ?_, fun x hx j hj => ?_⟩
      · rcases List.mem_append.mp hx with hx | hx
        · obtain ⟨j, h1, h2⟩ := hA x hx
          exact ⟨j, by omega, h2⟩
        · exact ⟨i, by omega, List.mem_singleton.mp hx⟩
      · by_cases e : j = i
        · rw [e]; exact ⟨f i, List.mem_append_right _ List.mem_cons_self, nm_rf⟩
        · obtain ⟨x, h1, h2⟩ := hB j (by omega)
          exact ⟨x, List.mem_append_left _ h1, h2⟩
      · refine List.pairwise_append.mpr ⟨hS, List.pairwise_singleton _ _, fun x hx y hy => ?_⟩
        rw [List.mem_singleton.mp hy]
        obtain ⟨j, hj, rfl⟩ := hA x hx
        rcases lex_tri (W := W) (f := P (f j)) (g := P (f i)) with z | z | z
        · exact z
        · exact absurd (nm_eq z) (newM j hj)
        · exact absurd (Or.inl z) (hs j i hj (by omega))
      · rcases List.mem_append.mp hx with hx | hx
        · by_cases e : j = i
          · rw [e]; exact oldM x hx
          · exact hM x hx j (by omega)
        · rw [List.mem_singleton.mp hx]
          by_cases e : j = i
          · rw [e]; exact fun _ => nm_rf
          · exact fun z => absurd z (newM j (by omega))
      · rcases List.mem_append.mp hx with hx | hx
        · by_cases e : j = i
          · rw [e]; exact oldK x hx
          · exact hK x hx j (by omega)
        · rw [List.mem_singleton.mp hx]
          by_cases e : j = i
          · rw [e]; exact fun _ => Nat.le_refl _
          · exact fun z => absurd (nm_eq z) (newM j (by omega))
/-- the candidates of a pool -/
def plC (W N : Nat) (P : Nat → Nat → Int32) (K : Nat → Nat) (r : Nat → Int32) (k : Nat) : Prop := ∃ x, x < N ∧ (∀ w, w < W → r w = P x w) ∧ k = K x
theorem cho_FR (hf : ∀ i, i < N → f i < N) (h : srt W P K N f) : FR W (plC W N P K) (cho W P f N).length (fun r => P ((cho W P f N).getD r 0)) (fun r => K ((cho W P f N).getD r 0)) := by
  obtain ⟨hA, hB, hS, hM, hK⟩ := cho_ok (P := P) (K := K) h.1 N (Nat.le_refl _)
  have gd : ∀ r, r < (cho W P f N).length → ∃ x, (cho W P f N)[r]? = some x ∧ (cho W P f N).getD r 0 = x ∧ x ∈ cho W P f N := fun r hr => by
    obtain ⟨x, h1, h2, -⟩ := gt_of hr
    exact ⟨x, h1, by rw [List.getD_eq_getElem?_getD, h1]; rfl, h2⟩
  have of : ∀ x, x < N → ∃ j, j < N ∧ f j = x := h.2
  refine ⟨fun i j hij hj => ?_, fun i hi => ?_, fun i hi r k ⟨x, x1, x2, x3⟩ q => ?_, fun i hi r k ⟨x, x1, x2, x3⟩ q => ?_, fun r k ⟨x, x1, x2, x3⟩ => ?_⟩
  · obtain ⟨x, hx, ex, -⟩ := gd i (by omega)
    obtain ⟨y, hy, ey, -⟩ := gd j hj
    show lexlt W (P ((cho W P f N).getD i 0)) (P ((cho W P f N).getD j 0))
    rw [ex, ey]
    have hx2 := List.getElem?_eq_some_iff.mp hx
    have hy2 := List.getElem?_eq_some_iff.mp hy
    have := (List.pairwise_iff_getElem.mp hS) i j hx2.1 hy2.1 hij
    rw [hx2.2, hy2.2] at this
    exact this
  · obtain ⟨x, hx, ex, hm⟩ := gd i hi
    obtain ⟨j, hj, e⟩ := hA x hm
    exact ⟨(cho W P f N).getD i 0, by rw [ex, e]; exact hf j hj, fun w _ => rfl, rfl⟩
  · obtain ⟨y, hy, ey, hm⟩ := gd i hi
    obtain ⟨j, hj, rfl⟩ := of x x1
    have q : nm W r (P y) := by rw [← ey]; exact q
    show nm W (P ((cho W P f N).getD i 0)) r
    rw [ey]
    have := hM y hm j hj (nm_tr (nm_eq fun w hw => (x2 w hw).symm) q)
    exact nm_tr this (nm_eq fun w hw => (x2 w hw).symm)
  · obtain ⟨y, hy, ey, hm⟩ := gd i hi
    obtain ⟨j, hj, rfl⟩ := of x x1
    show K ((cho W P f N).getD i 0) ≤ k
    rw [ey, x3]
    refine hK y hm j hj fun w hw => ?_
    have := q w hw
    rw [← x2 w hw, this]
    show P ((cho W P f N).getD i 0) w = _
    rw [ey]
  · obtain ⟨j, hj, rfl⟩ := of x x1
    obtain ⟨y, hy, z⟩ := hB j hj
    obtain ⟨i, hi, e⟩ := List.getElem_of_mem hy
    refine ⟨i, hi, ?_⟩
    show nm W (P ((cho W P f N).getD i 0)) r
    rw [List.getD_eq_getElem?_getD, List.getElem?_eq_getElem hi, e]
    exact nm_tr z (nm_eq fun w hw => (x2 w hw).symm)
end CH
theorem mono_ge {σ : Nat → Nat} {n : Nat} (h : ∀ i j, i < j → j < n → σ i < σ j) : ∀ i, i < n → i ≤ σ i
  | 0, _ => Nat.zero_le _
  | i + 1, hi => by
    have h1 := mono_ge h i (by omega)
    have h2 := h i (i + 1) (by omega) hi
    omega
/-- two fronts of the same candidates are the same -/
theorem FR_one {W : Nat} {C : (Nat → Int32) → Nat → Prop} {n n' : Nat} {F F' : Nat → Nat → Int32} {key key' : Nat → Nat} (h : FR W C n F key) (h' : FR W C n' F' key') : n = n' ∧ ∀ i, i < n → (∀ w, w < W → F i w = F' i w) ∧ key i = key' i := by
  have half : ∀ {n n' : Nat} {F F' : Nat → Nat → Int32} {key key' : Nat → Nat}, FR W C n F key → FR W C n' F' key' → ∀ i, i < n → ∃ j, j < n' ∧ ∀ w, w < W → F i w = F' j w := by
    intro n n' F F' key key' h h' i hi
    obtain ⟨j, hj, q⟩ := h'.2.2.2.2 (F i) (key i) (h.2.1 i hi)
    have q2 := h.2.2.1 i hi (F' j) (key' j) (h'.2.1 j hj) q
    exact ⟨j, hj, fun w hw => Int32.le_antisymm (q2 w hw) (q w hw)⟩
  have mono : ∀ {n n' : Nat} {F F' : Nat → Nat → Int32} {key key' : Nat → Nat}, FR W C n F key → FR W C n' F' key' → ∀ (σ : Nat → Nat), (∀ i, i < n → σ i < n' ∧ ∀ w, w < W → F i w = F' (σ i) w) → ∀ i j, i < j → j < n → σ i < σ j := by
    intro n n' F F' key key' h h' σ hσ i j hij hj
    have l1 := h.1 i j hij hj
    have l2 : lexlt W (F' (σ i)) (F' (σ j)) := lex_el (hσ i (by omega)).2 (lex_er (hσ j hj).2 l1)
    refine Nat.lt_of_not_le fun z => ?_
    by_cases e : σ i = σ j
    · rw [e] at l2; exact lex_ir l2
    · exact lex_ir (lex_tr l2 (h'.1 (σ j) (σ i) (by omega) (hσ i (by omega)).1))
  obtain ⟨σ, hσ⟩ : ∃ σ : Nat → Nat, ∀ i, i < n → σ i < n' ∧ ∀ w, w < W → F i w = F' (σ i) w := by
    have ex : ∀ i, ∃ j, i < n → j < n' ∧ ∀ w, w < W → F i w = F' j w := fun i => by
      by_cases hi : i < n
      · obtain ⟨j, q⟩ := half h h' i hi
        exact ⟨j, fun _ => q⟩
      · exact ⟨0, fun q => absurd q hi⟩
    exact Classical.axiomOfChoice ex
  obtain ⟨τ, hτ⟩ : ∃ τ : Nat → Nat, ∀ i, i < n' → τ i < n ∧ ∀ w, w < W → F' i w = F (τ i) w := by
    have ex : ∀ i, ∃ j, i < n' → j < n ∧ ∀ w, w < W → F' i w = F j w := fun i => by
      by_cases hi : i < n'
      · obtain ⟨j, q⟩ := half h' h i hi
        exact ⟨j, fun _ => q⟩
      · exact ⟨0, fun q => absurd q hi⟩
    exact Classical.axiomOfChoice ex
  have m1 := mono_ge (mono h h' σ hσ)
  have m2 := mono_ge (mono h' h τ hτ)
  have inv : ∀ i, i < n → τ (σ i) = i := fun i hi => by
    obtain ⟨a1, a2⟩ := hσ i hi
    obtain ⟨c1, c2⟩ := hτ (σ i) a1
    have e : ∀ w, w < W → F i w = F (τ (σ i)) w := fun w hw => by rw [a2 w hw, c2 w hw]
    rcases Nat.lt_trichotomy i (τ (σ i)) with q | q | q
    · exact (lex_ir (lex_el e (h.1 i _ q c1))).elim
    · exact q.symm
    · exact (lex_ir (lex_er e (h.1 _ i q hi))).elim
  have sid : ∀ i, i < n → σ i = i := fun i hi => by
    have a1 := m1 i hi
    have a2 := m2 (σ i) (hσ i hi).1
    have a3 := inv i hi
    omega
  have nn : n = n' := by
    refine Nat.le_antisymm (Nat.le_of_not_lt fun z => ?_) (Nat.le_of_not_lt fun z => ?_)
    · have := (hσ n' z).1
      have := sid n' z
      omega
    · have a1 := (hτ n z).1
      have a2 := m2 n z
      omega
  refine ⟨nn, fun i hi => ?_⟩
  have e := (hσ i hi).2
  rw [sid i hi] at e
  refine ⟨e, Nat.le_antisymm (h.2.2.2.1 i hi (F' i) (key' i) (h'.2.1 i (by omega)) fun w hw => (e w hw).symm) (h'.2.2.2.1 i (by omega) (F i) (key i) (h.2.1 i hi) e)⟩
end
