/-! the reference gathers all ways -/
section S93p
variable {Tn : Nat} {fr tt : Nat → Nat} {am : Nat → Nat → Nat} {dst : Nat}
/-- what is met from a knot on by the places s and behind (a place: the next knot times 24, and the tie) -/
def wRM (Tn : Nat) (fr tt : Nat → Nat) (am : Nat → Nat → Nat) (dst fuel knot m : Nat) (acc : Nat → Nat) (s : Nat) (v : Nat → Nat) : Prop := ∃ t, t < Tn ∧ fr t = knot ∧ m.testBit (tt t) = false ∧ s ≤ tt t * 24 + t ∧ v ∈ wk Tn fr tt am dst fuel (tt t) (m ||| 2 ^ tt t) (fun w => acc w + am t w)
theorem wk_RM {fuel knot m : Nat} {acc v : Nat → Nat} (h : knot ≠ dst) : v ∈ wk Tn fr tt am dst (fuel + 1) knot m acc ↔ wRM Tn fr tt am dst fuel knot m acc 0 v := by
  unfold wk wRM
  rw [if_neg h, List.mem_flatMap]
  constructor
  · rintro ⟨t, ht, hv⟩
    by_cases c : fr t = knot ∧ m.testBit (tt t) = false
    · rw [if_pos c] at hv
      exact ⟨t, List.mem_range.mp ht, c.1, c.2, Nat.zero_le _, hv⟩
    · rw [if_neg c] at hv
      exact absurd hv List.not_mem_nil
  · rintro ⟨t, ht, c1, c2, -, hv⟩
    exact ⟨t, List.mem_range.mpr ht, by rw [if_pos ⟨c1, c2⟩]; exact hv⟩
theorem wk_end {fuel m : Nat} {acc : Nat → Nat} : wk Tn fr tt am dst fuel dst m acc = [acc] := by
  cases fuel <;> (unfold wk; rw [if_pos rfl])
theorem wk_none {knot m : Nat} {acc : Nat → Nat} (h : knot ≠ dst) : wk Tn fr tt am dst 0 knot m acc = [] := by
  unfold wk
  rw [if_neg h]
theorem wRM_next {fuel knot m : Nat} {acc v : Nat → Nat} {s : Nat} (hT : Tn ≤ 24) : wRM Tn fr tt am dst fuel knot m acc s v ↔ wRM Tn fr tt am dst fuel knot m acc (s + 1) v ∨ (s % 24 < Tn ∧ fr (s % 24) = knot ∧ m.testBit (tt (s % 24)) = false ∧ tt (s % 24) = s / 24 ∧ v ∈ wk Tn fr tt am dst fuel (s / 24) (m ||| 2 ^ (s / 24)) (fun w => acc w + am (s % 24) w)) := by
  constructor
  · rintro ⟨t, h1, h2, h3, h4, h5⟩
    by_cases e : tt t * 24 + t = s
    · have e1 : s % 24 = t := by omega
      have e2 : s / 24 = tt t := by omega
      right
      rw [e1, e2]
      exact ⟨h1, h2, h3, rfl, h5⟩
    · exact Or.inl ⟨t, h1, h2, h3, by omega, h5⟩
  · rintro (⟨t, h1, h2, h3, h4, h5⟩ | ⟨h1, h2, h3, h4, h5⟩)
    · exact ⟨t, h1, h2, h3, by omega, h5⟩
    · exact ⟨s % 24, h1, h2, h3, by rw [h4]; omega, by rw [h4]; exact h5⟩
end S93p
theorem wm_pred : ∀ d, d < 10 → nI (d + 1) + -1 = nI d := by decide +kernel
section S93
variable {D b W Rn Kn Tn : Nat} {fr tt : Nat → Nat} {am : Nat → Nat → Nat} {dst : Nat} {mo : Nat → Int32} {J : Nat → Nat → Int64}
def rlq (b W Rn Kn Tn : Nat) (fr tt : Nat → Nat) (am : Nat → Nat → Nat) (mo : Nat → Int32) (I : Nat → Nat → Int32) : Prop := rB I b W Rn ∧ I 4 b = nI Kn ∧ Kn ≤ 10 ∧ I 5 b = nI Tn ∧ Tn ≤ 24 ∧ (∀ w, w < W → I 9 (4 * b + w) = mo w) ∧
  ∀ t, t < Tn → I 14 (24 * b + t) = nI (fr t) ∧ I 15 (24 * b + t) = nI (tt t) ∧ fr t < 10 ∧ tt t < Kn ∧ ∀ w, w < W → I 16 (4 * (24 * b + t) + w) = nI (am t w)
def wfr (I I' : Nat → Nat → Int32) : Prop := ∀ q j, q ≠ 29 → q ≠ 30 → q ≠ 31 → q ≠ 32 → q ≠ 33 → q ≠ 34 → q ≠ 35 → (q ≠ 0 ∨ j ≠ 48) → I' q j = I q j
theorem wfr_c {I I' : Nat → Nat → Int32} (h : wfr I I') (q : Nat) (h1 : 1 ≤ q) (h2 : q < 29) : I' q = I q := by
  funext j
  exact h q j (by omega) (by omega) (by omega) (by omega) (by omega) (by omega) (by omega) (by omega)
theorem wfr_tr {I I' I'' : Nat → Nat → Int32} (h : wfr I I') (h' : wfr I' I'') : wfr I I'' := fun q j q1 q2 q3 q4 q5 q6 q7 q8 => by rw [h' q j q1 q2 q3 q4 q5 q6 q7 q8, h q j q1 q2 q3 q4 q5 q6 q7 q8]
theorem rlq_cg {I I' : Nat → Nat → Int32} (h : rlq b W Rn Kn Tn fr tt am mo I) (e : wfr I I') : rlq b W Rn Kn Tn fr tt am mo I' := by
  unfold rlq rB at h ⊢
  rw [e 0 12 (by decide) (by decide) (by decide) (by decide) (by decide) (by decide) (by decide) (by decide), wfr_c e 2 (by decide) (by decide), wfr_c e 3 (by decide) (by decide), wfr_c e 4 (by decide) (by decide), wfr_c e 5 (by decide) (by decide), wfr_c e 9 (by decide) (by decide), wfr_c e 14 (by decide) (by decide), wfr_c e 15 (by decide) (by decide), wfr_c e 16 (by decide) (by decide)]
  exact h
/-- below depth d nothing is touched -/
def fwd (d : Nat) (I I' : Nat → Nat → Int32) : Prop := (∀ i, i ≤ d → I' 33 i = I 33 i) ∧ (∀ j, j < 4 * d + 4 → I' 34 j = I 34 j) ∧ (∀ i, i < d → I' 35 i = I 35 i) ∧ wfr I I'
theorem fwd_tr {d : Nat} {I I' I'' : Nat → Nat → Int32} (h : fwd d I I') (h' : fwd d I' I'') : fwd d I I'' := ⟨fun i hi => by rw [h'.1 i hi, h.1 i hi], fun j hj => by rw [h'.2.1 j hj, h.2.1 j hj], fun i hi => by rw [h'.2.2.1 i hi, h.2.2.1 i hi], wfr_tr h.2.2.2 h'.2.2.2⟩
def stk (W d : Nat) (p : Nat → Nat) (ac : Nat → Nat → Nat) (I : Nat → Nat → Int32) : Prop := (∀ i, i ≤ d → I 33 i = nI (p i) ∧ p i < 10) ∧ ∀ i, i ≤ d → ∀ w, w < W → I 34 (4 * i + w) = nI (ac i w)
theorem stk_cg {d : Nat} {p : Nat → Nat} {ac : Nat → Nat → Nat} {I I' : Nat → Nat → Int32} (hW : W ≤ 4) (h : stk W d p ac I) (f1 : ∀ i, i ≤ d → I' 33 i = I 33 i) (f2 : ∀ j, j < 4 * d + 4 → I' 34 j = I 34 j) : stk W d p ac I' := ⟨fun i hi => by rw [f1 i hi]; exact h.1 i hi, fun i hi w hw => by rw [f2 _ (by omega)]; exact h.2 i hi w hw⟩
def rho (mo : Nat → Int32) (v : Nat → Nat) : Nat → Int32 := fun w => lo (mo w) (nI (v w))
def rS (mo : Nat → Int32) (T : (Nat → Nat) → Prop) (f : Nat → Int32) : Prop := ∃ v, T v ∧ f = rho mo v
theorem gaL_cg {Wb : Nat → Prop} {R : List (Nat → Int32)} {I I' : Nat → Nat → Int32} (h : gaL W Wb R I) (e0 : I' 0 48 = I 0 48) (e29 : I' 29 = I 29) (e30 : I' 30 = I 30) : gaL W Wb R I' := by
  unfold gaL at h ⊢
  rw [e0, e29, e30]
  exact h
set_option maxHeartbeats 1000000 in
theorem r_sub {Q : mj_R → Prop} (hdst : dst < 10) {L : List (Nat → Nat)} (hL : L.length ≤ 6561) : ∀ (fuel d : Nat), d + fuel = 8 → ∀ (k s : Nat), s + k = 240 → ∀ (p : Nat → Nat) (ac : Nat → Nat → Nat) (m : Nat) (R : List (Nat → Int32)) (T : (Nat → Nat) → Prop) (I : Nat → Nat → Int32), rlq b W Rn Kn Tn fr tt am mo I → stk W d p ac I → (∀ x, x < 10 → (m.testBit x = true ↔ ∃ i, i ≤ d ∧ p i = x)) → I 35 d = nI s → gaL W (· ≤ 10) R I → mnR W (rS mo T) R → p d ≠ dst → (∀ v, T v ∨ wRM Tn fr tt am dst fuel (p d) m (ac d) s v → v ∈ L) →
    (∀ I' R', fwd d I I' → gaL W (· ≤ 10) R' I' → mnR W (rS mo fun v => T v ∨ wRM Tn fr tt am dst fuel (p d) m (ac d) s v) R' → E2 71 (D + 3) Q 36 [(0, .ref 0), (2, .int (nI dst)), (3, .int (nI d + -1))] I' J) →
    E2 71 (D + 3) Q 36 [(0, .ref 0), (2, .int (nI dst)), (3, .int (nI d))] I J := by
  intro fuel
  induction fuel using Nat.strongRecOn with
  | ind fuel ihf =>
    intro d hd k
    induction k with
    | zero =>
      intro s hs p ac m R T I hq hst hm h35 hg hmn hpd hC cont
      obtain rfl : s = 240 := by omega
      obtain ⟨hB, q4, qK, q5, qT, q9, qt⟩ := id hq
      refine mj_on (s71_36 _ _ ?_)
      rw [if_neg (nI_pos (by omega)), nI_clamp (by omega), h35]
      refine ⟨vp_in_nI (by omega) (by decide), ?_⟩
      rw [if_pos (show nI 240 = (240 : Int32) from rfl)]
      refine cont I R ⟨fun _ _ => rfl, fun _ _ => rfl, fun _ _ => rfl, fun _ _ _ _ _ _ _ _ _ _ => rfl⟩ hg (mnR_cg hmn fun f => ⟨fun ⟨v, hv, e⟩ => ⟨v, Or.inl hv, e⟩, fun ⟨v, hv, e⟩ => ⟨v, ?_, e⟩⟩)
      rcases hv with hv | ⟨t, t1, t2, t3, t4, t5⟩
      · exact hv
      · have := (qt t t1).2.2.2.1
        omega
    | succ k ih =>
      intro s hs p ac m R T I hq hst hm h35 hg hmn hpd hC cont
      obtain ⟨hB, q4, qK, q5, qT, q9, qt⟩ := id hq
      obtain ⟨b1, b2, b3, b4, b5, b6⟩ := id hB
      have hRl : R.length < 8191 := by
        have := mnR_len (L := L.map (rho mo)) hmn (fun f ⟨v, hv, e⟩ => by rw [e]; exact List.mem_map.mpr ⟨v, hC v (Or.inl hv), rfl⟩)
        rw [List.length_map] at this
        omega
      -- one place further on, nothing met
      have skip : ∀ I1, fwd d I I1 → I1 35 d = nI (s + 1) → gaL W (· ≤ 10) R I1 → ¬ (s % 24 < Tn ∧ fr (s % 24) = p d ∧ m.testBit (tt (s % 24)) = false ∧ tt (s % 24) = s / 24 ∧ ∃ v, v ∈ wk Tn fr tt am dst fuel (s / 24) (m ||| 2 ^ (s / 24)) (fun w => ac d w + am (s % 24) w)) → E2 71 (D + 3) Q 36 [(0, .ref 0), (2, .int (nI dst)), (3, .int (nI d))] I1 J := by
        intro I1 hf h35' hg' hno
        have e : ∀ v, wRM Tn fr tt am dst fuel (p d) m (ac d) s v ↔ wRM Tn fr tt am dst fuel (p d) m (ac d) (s + 1) v := fun v => by
          rw [wRM_next (s := s) qT]
          exact ⟨fun z => z.elim id (fun z => absurd ⟨z.1, z.2.1, z.2.2.1, z.2.2.2.1, v, z.2.2.2.2⟩ hno), Or.inl⟩
        refine ih (s + 1) (by omega) p ac m R T I1 (rlq_cg hq hf.2.2.2) (stk_cg b4 hst hf.1 hf.2.1) hm h35' hg' hmn hpd (fun v hv => hC v (hv.imp id (e v).mpr)) (fun I' R' f' g' m' => cont I' R' (fwd_tr hf f') g' (mnR_cg m' fun f => ⟨fun ⟨v, hv, z⟩ => ⟨v, hv.imp id (e v).mpr, z⟩, fun ⟨v, hv, z⟩ => ⟨v, hv.imp id (e v).mp, z⟩⟩))
      obtain ⟨Ia, hIa⟩ : ∃ Ia, Ia = mj_up I 35 d (nI (s + 1)) := ⟨_, rfl⟩
      have fa : fwd d I Ia := ⟨fun i hi => by rw [hIa, up_c (by decide)], fun j hj => by rw [hIa, up_c (by decide)], fun i hi => by rw [hIa, up_j (by omega)], fun q j h1 h2 h3 h4 h5 h6 h7 h8 => by rw [hIa, up_c h7]⟩
      have a35 : Ia 35 d = nI (s + 1) := by rw [hIa, up_s]
      have ga : gaL W (· ≤ 10) R Ia := gaL_cg hg (by rw [hIa, up_c (by decide)]) (by rw [hIa, up_c (by decide)]) (by rw [hIa, up_c (by decide)])
      have no158 : ∀ y5 : Int32, ¬ (s % 24 < Tn ∧ fr (s % 24) = p d ∧ m.testBit (tt (s % 24)) = false ∧ tt (s % 24) = s / 24 ∧ ∃ v, v ∈ wk Tn fr tt am dst fuel (s / 24) (m ||| 2 ^ (s / 24)) (fun w => ac d w + am (s % 24) w)) → E2 71 (D + 3) Q 158 [(0, .ref 0), (2, .int (nI dst)), (3, .int (nI d)), (4, .int (nI (s / 24))), (5, .int y5), (6, .int 0)] I J := by
        intro y5 hno
        refine mj_on (s71_158 _ _ _ _ _ ?_)
        rw [nI_clamp (by omega), h35, nI_1, ← hIa]
        refine ⟨vp_in_nI (by omega) (by decide), vp_in_nI (by omega) (by decide), ?_⟩
        refine mj_on (s71_171 _ _ _ _ _ _ ?_)
        rw [if_neg (nI_pos (by omega)), if_pos rfl, if_pos rfl]
        exact skip Ia fa a35 ga hno
      refine mj_on (s71_36 _ _ ?_)
      rw [if_neg (nI_pos (by omega)), nI_clamp (by omega), h35]
      refine ⟨vp_in_nI (by omega) (by decide), ?_⟩
      rw [if_neg (show ¬ nI s = (240 : Int32) from fun z => absurd ((nI_eq (b := 240) (by omega) (by decide)).mp z) (by omega))]
      rw [show (24 : Int32) = nI 24 from rfl, pk_rem (by omega) (by decide) (by decide), pk_div (by omega) (by decide) (by decide), b1, nI_clamp (by omega), pk_mul, nI_add, q5, q4]
      refine ⟨vp_in_nI (by omega) (by decide), by decide, vp_in_nI (by omega) (by decide), by decide, vp_in_nI (by omega) (by decide), by decide, vp_in_nI b2 (by decide), ?_⟩
      refine if_le (by omega) (by omega) (fun c => no158 _ fun z => by omega) (fun c => ⟨vp_in_nI b2 (by decide), ?_⟩)
      refine if_le (by omega) (by omega) (fun c2 => no158 _ fun z => by have := (qt (s % 24) c).2.2.2.1; omega) (fun c2 => ?_)
      obtain ⟨t14, t15, t10, tK, t16⟩ := qt (s % 24) c
      rw [nI_clamp (by omega), t14, t15, (hst.1 d (Nat.le_refl _)).1]
      refine ⟨vp_in_nI (by omega) (by decide), vp_in_nI (by omega) (by decide), ?_⟩
      refine if_eq (by omega) (by have := (hst.1 d (Nat.le_refl _)).2; omega) (fun c3 => ⟨vp_in_nI (by omega) (by decide), ?_⟩) (fun c3 => no158 _ fun z => c3 z.2.1)
      refine if_eq (by omega) (by omega) (fun c4 => ?_) (fun c4 => no158 _ fun z => c4 z.2.2.2.1)
      refine mj_on (s71_158 _ _ _ _ _ ?_)
      rw [nI_clamp (by omega), h35, nI_1, ← hIa]
      refine ⟨vp_in_nI (by omega) (by decide), vp_in_nI (by omega) (by decide), ?_⟩
      obtain ⟨kn, hkn⟩ : ∃ kn, kn = s / 24 := ⟨_, rfl⟩
      rw [← hkn] at c2 c4 ⊢
      have kn10 : kn < 10 := by omega
      -- is the knot met already?
      have lp := lp_up (n := d + 1) (fun i => (∀ j, j < i → p j ≠ kn) → E2 71 (D + 3) Q 171 [(0, .ref 0), (2, .int (nI dst)), (3, .int (nI d)), (4, .int (nI kn)), (5, .int (nI (24 * b + s % 24))), (6, .int 1), (7, .int (nI i))] Ia J) (fun i hi ih2 hj => ?_) 0 (by omega) (fun j hj => by omega)
      · exact lp
      refine mj_on (s71_171 _ _ _ _ _ _ ?_)
      refine if_lt (by omega) (by omega) (fun z => ?_) (fun z => ?_)
      · obtain rfl : i = d + 1 := by omega
        rw [if_neg (by decide)]
        have hun : m.testBit kn = false := by
          rw [Bool.eq_false_iff]
          intro q
          obtain ⟨j, j1, j2⟩ := (hm kn kn10).mp q
          exact hj j (by omega) j2
        -- the sums
        have lp3 := lp_up (n := W) (fun w => ∀ I1, (∀ q, q ≠ 34 → I1 q = Ia q) → (∀ j, j < 4 * d + 4 → I1 34 j = Ia 34 j) → (∀ u, u < w → I1 34 (4 * d + 4 + u) = nI (ac d u + am (s % 24) u)) → E2 71 (D + 3) Q 218 [(0, .ref 0), (2, .int (nI dst)), (3, .int (nI d)), (4, .int (nI kn)), (5, .int (nI (24 * b + s % 24))), (7, .int (nI w))] I1 J) (fun w hw ih3 I1 k1 k2 k3 => ?_) 0 (by omega) Ia (fun _ _ => rfl) (fun _ _ => rfl) (fun u hu => by omega)
        · exact lp3
        have aq : ∀ q, 1 ≤ q → q < 29 → I1 q = I q := fun q h1 h2 => by rw [k1 q (by omega), wfr_c fa.2.2.2 q h1 h2]
        have a12 : I1 0 12 = nI b := by rw [k1 0 (by decide), fa.2.2.2 0 12 (by decide) (by decide) (by decide) (by decide) (by decide) (by decide) (by decide) (by decide), b1]
        refine mj_on (s71_218 _ _ _ _ _ ?_)
        rw [a12, nI_clamp (by omega), aq 2 (by decide) (by decide), b3]
        refine ⟨vp_in_nI b2 (by decide), if_le (by omega) (by omega) (fun y => ?_) (fun y => ?_)⟩
        · obtain rfl : w = W := by omega
          obtain ⟨ac2, hac2⟩ : ∃ ac2 : Nat → Nat, ac2 = fun u => ac d u + am (s % 24) u := ⟨_, rfl⟩
          have k3' : ∀ u, u < w → I1 34 (4 * d + 4 + u) = nI (ac2 u) := fun u hu => by rw [hac2]; exact k3 u hu
          have f1 : fwd d I I1 := fwd_tr fa ⟨fun i _ => by rw [k1 33 (by decide)], k2, fun i _ => by rw [k1 35 (by decide)], fun q j h1 h2 h3 h4 h5 h6 h7 h8 => by rw [k1 q h6]⟩
          have g1 : gaL w (· ≤ 10) R I1 := gaL_cg ga (by rw [k1 0 (by decide)]) (by rw [k1 29 (by decide)]) (by rw [k1 30 (by decide)])
          refine if_eq (by omega) (by omega) (fun e => ?_) (fun e => ?_)
          · -- an end: it is gathered
            rw [nI_1, nI_clamp (by omega)]
            refine ⟨vp_in_nI (by omega) (by decide), ?_⟩
            have lp4 := lp_up (n := w) (fun x => ∀ I2, (∀ q, q ≠ 32 → q ≠ 33 → I2 q = I1 q) → (∀ i, i ≤ d → I2 33 i = I1 33 i) → (∀ u, u < x → I2 32 u = rho mo ac2 u) → E2 71 (D + 3) Q 307 [(0, .ref 0), (2, .int (nI dst)), (3, .int (nI d)), (7, .int (nI x))] I2 J) (fun x hx ih4 I2 n1 n2 n3 => ?_) 0 (by omega) (mj_up I1 33 (d + 1) (nI kn)) (fun q _ q2 => by rw [up_c q2]) (fun i hi => by rw [up_j (by omega)]) (fun u hu => by omega)
            · exact lp4
            have f2 : fwd d I I2 := fwd_tr f1 ⟨n2, fun j _ => by rw [n1 34 (by decide) (by decide)], fun i _ => by rw [n1 35 (by decide) (by decide)], fun q j h1 h2 h3 h4 h5 h6 h7 h8 => by rw [n1 q h4 h5]⟩
            have hq2 := rlq_cg hq f2.2.2.2
            refine mj_on (s71_307 _ _ _ ?_)
            rw [hq2.1.1, nI_clamp (by omega), hq2.1.2.2.1]
            refine ⟨vp_in_nI b2 (by decide), if_le (by omega) (by omega) (fun y2 => ?_) (fun y2 => ?_)⟩
            · obtain rfl : x = w := by omega
              rw [show (2 : Int32) = nI 2 from rfl, nI_add]
              obtain ⟨I3, J3, cg, rfl, o1, o2⟩ := r_gathers (D := D + 1) (J := J) (v := rho mo ac2) (x := d + 2) (Wb := (· ≤ 10)) hq2.1 (gaL_cg g1 (by rw [n1 0 (by decide) (by decide)]) (by rw [n1 29 (by decide) (by decide)]) (by rw [n1 30 (by decide) (by decide)])) n3 hRl (by show d + 2 ≤ 10; omega)
              refine ⟨trivial, _, _, cg, ?_⟩
              have f3 : fwd d I I3 := fwd_tr f2 ⟨fun i _ => o2 33 i (by decide) (by decide) (by decide) (Or.inl (by decide)), fun j _ => o2 34 j (by decide) (by decide) (by decide) (Or.inl (by decide)), fun i _ => o2 35 i (by decide) (by decide) (by decide) (Or.inl (by decide)), fun q j h1 h2 h3 h4 h5 h6 h7 h8 => o2 q j h1 h2 h3 h8⟩
              have hone : ∀ v, wRM Tn fr tt am dst fuel (p d) m (ac d) s v ↔ wRM Tn fr tt am dst fuel (p d) m (ac d) (s + 1) v ∨ v = ac2 := fun v => by
                rw [wRM_next (s := s) qT, ← hkn, ← hac2, e, wk_end]
                constructor
                · exact fun q => q.imp id (fun q => List.mem_singleton.mp q.2.2.2.2)
                · rintro (q | q)
                  · exact Or.inl q
                  · exact Or.inr ⟨c, c3, by rw [c4]; exact hun, by rw [c4]; exact e, List.mem_singleton.mpr q⟩
              refine ih (s + 1) (by omega) p ac m (gth x (rho mo ac2) R) (fun v => T v ∨ v = ac2) I3 (rlq_cg hq f3.2.2.2) (stk_cg b4 hst f3.1 f3.2.1) hm ?_ o1 (mnR_cg (mnR_gth hmn) fun f => ?_) hpd (fun v hv => hC v ?_) (fun I' R' f' g' m' => cont I' R' (fwd_tr f3 f') g' (mnR_cg m' fun f => ?_))
              · rw [o2 35 d (by decide) (by decide) (by decide) (Or.inl (by decide)), n1 35 (by decide) (by decide), k1 35 (by decide), a35]
              · constructor
                · rintro (⟨v, hv, rfl⟩ | rfl)
                  · exact ⟨v, Or.inl hv, rfl⟩
                  · exact ⟨ac2, Or.inr rfl, rfl⟩
                · rintro ⟨v, hv | rfl, rfl⟩
                  · exact Or.inl ⟨v, hv, rfl⟩
                  · exact Or.inr rfl
              · rcases hv with (hv | hv) | hv
                · exact Or.inl hv
                · exact Or.inr ((hone v).mpr (Or.inr hv))
                · exact Or.inr ((hone v).mpr (Or.inl hv))
              · constructor
                · rintro ⟨v, (hv | hv) | hv, rfl⟩
                  · exact ⟨v, Or.inl hv, rfl⟩
                  · exact ⟨v, Or.inr ((hone v).mpr (Or.inr hv)), rfl⟩
                  · exact ⟨v, Or.inr ((hone v).mpr (Or.inl hv)), rfl⟩
                · rintro ⟨v, hv | hv, rfl⟩
                  · exact ⟨v, Or.inl (Or.inl hv), rfl⟩
                  · rcases (hone v).mp hv with hv | hv
                    · exact ⟨v, Or.inr hv, rfl⟩
                    · exact ⟨v, Or.inl (Or.inr hv), rfl⟩
            · rw [nI_1, show (4 : Int32) = nI 4 from rfl, pk_mul, nI_add, nI_clamp (by omega), nI_clamp (by omega), n1 34 (by decide) (by decide), show 4 * (d + 1) + x = 4 * d + 4 + x by omega, k3' x y2]
              refine ⟨vp_in_nI (by omega) (by decide), trivial, _, _, _, r_lossOf hq2.1 y2, vp_in_nI (by omega) (by decide), ?_⟩
              rw [hq2.2.2.2.2.2.1 x y2, nI_1]
              refine ih4 y2 _ (fun q q1 q2 => by rw [up_c q1]; exact n1 q q1 q2) (fun i hi => by rw [up_c (by decide)]; exact n2 i hi) (fun u hu => ?_)
              by_cases z2 : u = x
              · subst z2; rw [up_s]; rfl
              · rw [up_j z2]; exact n3 u (by omega)
          · rw [show (2 : Int32) = nI 2 from rfl, show (9 : Int32) = nI 9 from rfl, nI_add]
            have i35 : I1 35 d = nI (s + 1) := by rw [k1 35 (by decide), a35]
            refine if_le (by omega) (by decide) (fun y2 => ?_) (fun y2 => ?_)
            · obtain ⟨f, rfl⟩ : ∃ f, fuel = f + 1 := ⟨fuel - 1, by omega⟩
              rw [nI_1, nI_clamp (by omega)]
              refine ⟨vp_in_nI (by omega) (by decide), vp_in_nI (by omega) (by decide), ?_⟩
              obtain ⟨I2, hI2⟩ : ∃ I2, I2 = mj_up (mj_up I1 33 (d + 1) (nI kn)) 35 (d + 1) 0 := ⟨_, rfl⟩
              rw [← hI2]
              have f2 : fwd d I1 I2 := ⟨fun i hi => by rw [hI2, up_c (by decide), up_j (by omega)], fun j _ => by rw [hI2, up_c (by decide), up_c (by decide)], fun i hi => by rw [hI2, up_j (by omega), up_c (by decide)], fun q j h1 h2 h3 h4 h5 h6 h7 h8 => by rw [hI2, up_c h7, up_c h5]⟩
              obtain ⟨p2, p2n, p2o⟩ : ∃ p2 : Nat → Nat, p2 (d + 1) = kn ∧ ∀ i, i ≤ d → p2 i = p i := ⟨fun i => if i = d + 1 then kn else p i, if_pos rfl, fun i hi => if_neg (by omega)⟩
              obtain ⟨a2, a2n, a2o⟩ : ∃ a2 : Nat → Nat → Nat, a2 (d + 1) = ac2 ∧ ∀ i, i ≤ d → a2 i = ac i := ⟨fun i => if i = d + 1 then ac2 else ac i, if_pos rfl, fun i hi => if_neg (by omega)⟩
              have hone : ∀ v, wRM Tn fr tt am dst (f + 1) (p d) m (ac d) s v ↔ wRM Tn fr tt am dst (f + 1) (p d) m (ac d) (s + 1) v ∨ wRM Tn fr tt am dst f (p2 (d + 1)) (m ||| 2 ^ kn) (a2 (d + 1)) 0 v := fun v => by
                rw [wRM_next (s := s) qT, ← hkn, ← hac2, p2n, a2n, ← wk_RM e]
                exact ⟨fun q => q.imp id (fun q => q.2.2.2.2), fun q => q.imp id (fun q => ⟨c, c3, by rw [c4]; exact hun, c4, q⟩)⟩
              refine ihf f (by omega) (d + 1) (by omega) 240 0 rfl p2 a2 (m ||| 2 ^ kn) R T I2 (rlq_cg hq (wfr_tr f1.2.2.2 f2.2.2.2)) ⟨fun i hi => ?_, fun i hi u hu => ?_⟩ (fun x hx => ?_) (by rw [hI2, up_s]; rfl) (gaL_cg g1 (by rw [hI2, up_c (by decide), up_c (by decide)]) (by rw [hI2, up_c (by decide), up_c (by decide)]) (by rw [hI2, up_c (by decide), up_c (by decide)])) hmn (by rw [p2n]; exact e) (fun v hv => hC v (hv.imp id fun q => (hone v).mpr (Or.inr q))) (fun I' R' f' g' m' => ?_)
              · by_cases z2 : i = d + 1
                · subst z2
                  rw [p2n]
                  exact ⟨by rw [hI2, up_c (by decide), up_s], kn10⟩
                · rw [p2o i (by omega), f2.1 i (by omega), f1.1 i (by omega)]
                  exact hst.1 i (by omega)
              · by_cases z2 : i = d + 1
                · subst z2
                  rw [a2n, hI2, up_c (by decide), up_c (by decide), show 4 * (d + 1) + u = 4 * d + 4 + u by omega]
                  exact k3' u hu
                · rw [a2o i (by omega), f2.2.1 _ (by omega), f1.2.1 _ (by omega)]
                  exact hst.2 i (by omega) u hu
              · rw [Nat.testBit_or, Nat.testBit_two_pow, Bool.or_eq_true, decide_eq_true_eq, hm x hx]
                constructor
                · rintro (⟨i, i1, i2⟩ | q)
                  · exact ⟨i, by omega, by rw [p2o i i1]; exact i2⟩
                  · exact ⟨d + 1, Nat.le_refl _, by rw [p2n]; exact q⟩
                · rintro ⟨i, i1, i2⟩
                  by_cases z2 : i = d + 1
                  · subst z2
                    rw [p2n] at i2
                    exact Or.inr i2
                  · exact Or.inl ⟨i, by omega, by rw [← p2o i (by omega)]; exact i2⟩
              · rw [wm_pred d (by omega)]
                have f3 : fwd d I I' := fwd_tr (fwd_tr f1 f2) ⟨fun i hi => f'.1 i (by omega), fun j hj2 => f'.2.1 j (by omega), fun i hi => f'.2.2.1 i (by omega), f'.2.2.2⟩
                refine ih (s + 1) (by omega) p ac m R' (fun v => T v ∨ wRM Tn fr tt am dst f (p2 (d + 1)) (m ||| 2 ^ kn) (a2 (d + 1)) 0 v) I' (rlq_cg hq f3.2.2.2) (stk_cg b4 hst f3.1 f3.2.1) hm ?_ g' m' hpd (fun v hv => hC v ?_) (fun I'' R'' f'' g'' m'' => cont I'' R'' (fwd_tr f3 f'') g'' (mnR_cg m'' fun x => ?_))
                · rw [f'.2.2.1 d (by omega), hI2, up_j (by omega), up_c (by decide), i35]
                · rcases hv with (hv | hv) | hv
                  · exact Or.inl hv
                  · exact Or.inr ((hone v).mpr (Or.inr hv))
                  · exact Or.inr ((hone v).mpr (Or.inl hv))
                · constructor
                  · rintro ⟨v, (hv | hv) | hv, rfl⟩
                    · exact ⟨v, Or.inl hv, rfl⟩
                    · exact ⟨v, Or.inr ((hone v).mpr (Or.inr hv)), rfl⟩
                    · exact ⟨v, Or.inr ((hone v).mpr (Or.inl hv)), rfl⟩
                  · rintro ⟨v, hv | hv, rfl⟩
                    · exact ⟨v, Or.inl (Or.inl hv), rfl⟩
                    · rcases (hone v).mp hv with hv | hv
                      · exact ⟨v, Or.inr hv, rfl⟩
                      · exact ⟨v, Or.inl (Or.inr hv), rfl⟩
            · obtain rfl : fuel = 0 := by omega
              refine skip I1 f1 i35 g1 (fun q => ?_)
              obtain ⟨v, hv⟩ := q.2.2.2.2
              rw [← hkn, wk_none e] at hv
              exact absurd hv List.not_mem_nil
        · rw [nI_1, show (10 : Int32) = nI 10 from rfl]
          refine if_le (by decide) (by omega) (fun y2 => absurd y2 (by omega)) (fun _ => ?_)
          rw [show (4 : Int32) = nI 4 from rfl, pk_mul, nI_add, pk_mul, nI_add, pk_mul, nI_add, nI_clamp (by omega), nI_clamp (by omega), nI_clamp (by omega), nI_1]
          refine ⟨vp_in_nI (by omega) (by decide), vp_in_nI (by omega) (by decide), vp_in_nI (by omega) (by decide), ?_⟩
          rw [k2 _ (by omega), fa.2.1 _ (by omega), hst.2 d (Nat.le_refl _) w y, aq 16 (by decide) (by decide), t16 w y, nI_add]
          refine ih3 y _ (fun q hq => by rw [up_c hq]; exact k1 q hq) (fun j hj2 => by rw [up_j (by omega)]; exact k2 j hj2) (fun u hu => ?_)
          by_cases z2 : u = w
          · subst z2; rw [show 4 * (d + 1) + u = 4 * d + 4 + u by omega, up_s]
          · rw [up_j (by omega)]; exact k3 u (by omega)
      · rw [if_neg (by decide)]
        have hi10 : i < 10 := by omega
        rw [nI_clamp (by omega), fa.1 i (by omega), (hst.1 i (by omega)).1, nI_1]
        refine ⟨vp_in_nI hi10 (by decide), if_eq (by have := (hst.1 i (by omega)).2; omega) (by omega) (fun e => ?_) (fun e => ?_)⟩
        · have hno : ¬ (s % 24 < Tn ∧ fr (s % 24) = p d ∧ m.testBit (tt (s % 24)) = false ∧ tt (s % 24) = s / 24 ∧ ∃ v, v ∈ wk Tn fr tt am dst fuel (s / 24) (m ||| 2 ^ (s / 24)) (fun w => ac d w + am (s % 24) w)) := fun q => by
            have h1 := q.2.2.1
            rw [c4, (hm kn kn10).mpr ⟨i, by omega, e⟩] at h1
            cases h1
          refine mj_on (s71_171 _ _ _ _ _ _ ?_)
          refine if_lt (by omega) (by omega) (fun _ => ?_) (fun _ => ?_)
          · rw [if_pos rfl]
            exact skip Ia fa a35 ga hno
          · rw [if_pos rfl, if_pos rfl]
            exact skip Ia fa a35 ga hno
        · refine ih2 (by omega) (fun j hj2 => ?_)
          by_cases z2 : j = i
          · subst z2; exact e
          · exact hj j (by omega)
theorem r_ways {src dst : Nat} {I : Nat → Nat → Int32} (hq : rlq b W Rn Kn Tn fr tt am mo I) (hs : src < 10) (hdst : dst < 10) (hne : src ≠ dst) (h48 : I 0 48 = nI 0) : ∃ I' J', C2 (D + 4) 71 [.ref 0, .int (nI src), .int (nI dst)] I J .null I' J' ∧ J' = J ∧ ∃ R, gaL W (· ≤ 10) R I' ∧ mnR W (rS mo fun v => v ∈ wk Tn fr tt am dst 9 src (2 ^ src) (fun _ => 0)) R ∧ wfr I I' := by
  obtain ⟨hB, q4, qK, q5, qT, q9, qt⟩ := id hq
  refine mj_cN (e71 _ _ ?_)
  obtain ⟨Q, hQ⟩ : ∃ Q, Q = qN mj_R2 (fun I' J' => J' = J ∧ ∃ R, gaL W (· ≤ 10) R I' ∧ mnR W (rS mo fun v => v ∈ wk Tn fr tt am dst 9 src (2 ^ src) (fun _ => 0)) R ∧ wfr I I') := ⟨_, rfl⟩
  rw [← hQ, show ((0 : Int32)).toNatClampNeg = 0 from rfl]
  refine ⟨vp_in_nI (n := 0) (by decide) (by decide), vp_in_nI (n := 0) (by decide) (by decide), ?_⟩
  obtain ⟨Ia, hIa⟩ : ∃ Ia, Ia = mj_up (mj_up I 33 0 (nI src)) 35 0 0 := ⟨_, rfl⟩
  rw [← hIa]
  have lp := lp_up (n := 4) (fun w => ∀ I0, (∀ q, q ≠ 34 → I0 q = Ia q) → (∀ u, u < w → I0 34 u = nI 0) → E2 71 (D + 3) Q 16 [(0, .ref 0), (2, .int (nI dst)), (3, .int (nI w))] I0 J) (fun w hw ih I0 h1 h2 => ?_) 0 (by omega) Ia (fun _ _ => rfl) (fun u hu => by omega)
  · exact lp
  refine mj_on (s71_16 _ _ ?_)
  rw [show (4 : Int32) = nI 4 from rfl]
  refine if_le (by omega) (by omega) (fun c => ?_) (fun c => ?_)
  · obtain rfl : w = 4 := by omega
    have f0 : wfr I I0 := fun q j q1 q2 q3 q4 q5 q6 q7 q8 => by rw [h1 q q6, hIa, up_c q7, up_c q5]
    have hall : ∀ v, (False ∨ wRM Tn fr tt am dst 8 src (2 ^ src) (fun _ => 0) 0 v) ↔ v ∈ wk Tn fr tt am dst 9 src (2 ^ src) (fun _ => 0) := fun v => by rw [wk_RM hne]; exact ⟨fun z => z.elim False.elim id, Or.inr⟩
    refine r_sub (W := W) (mo := mo) (D := D) hdst (L := wk Tn fr tt am dst 9 src (2 ^ src) (fun _ => 0)) (wk_all qT (fun t h => by have := (qt t h).2.2.2.1; omega) hs) 8 0 rfl 240 0 rfl (fun _ => src) (fun _ _ => 0) (2 ^ src) [] (fun _ => False) I0 (rlq_cg hq f0) ⟨fun i hi => ?_, fun i hi u hu => ?_⟩ (fun x hx => ?_) ?_ ⟨?_, fun k r hk => by simp at hk⟩ ⟨fun r hr => absurd hr List.not_mem_nil, List.Pairwise.nil, fun f ⟨v, hv, _⟩ => hv.elim⟩ hne (fun v hv => (hall v).mp hv) (fun I' R' f' g' m' => ?_)
    · obtain rfl : i = 0 := by omega
      exact ⟨by rw [h1 33 (by decide), hIa, up_c (by decide), up_s], hs⟩
    · obtain rfl : i = 0 := by omega
      have := hB.2.2.2.1
      rw [show 4 * 0 + u = u by omega]
      exact h2 u (by omega)
    · rw [Nat.testBit_two_pow, decide_eq_true_eq]
      exact ⟨fun q => ⟨0, Nat.le_refl _, q⟩, fun ⟨i, _, q⟩ => q⟩
    · rw [h1 35 (by decide), hIa, up_s]; rfl
    · rw [h1 0 (by decide), hIa, up_c (by decide), up_c (by decide), h48]; rfl
    · refine mj_on (s71_36 _ _ ?_)
      rw [if_pos (show nI 0 + -1 < 0 by decide), hQ]
      exact ⟨_, _, rfl, rfl, R', g', mnR_cg m' (fun f => ⟨fun ⟨v, hv, e⟩ => ⟨v, (hall v).mp hv, e⟩, fun ⟨v, hv, e⟩ => ⟨v, (hall v).mpr hv, e⟩⟩), wfr_tr f0 f'.2.2.2⟩
  · rw [nI_clamp (by omega), nI_1]
    refine ⟨vp_in_nI (by omega) (by decide), ih c _ (fun q hq => by rw [up_c hq]; exact h1 q hq) (fun u hu => ?_)⟩
    by_cases e : u = w
    · subst e; rw [up_s]; rfl
    · rw [up_j e]; exact h2 u (by omega)
end S93
