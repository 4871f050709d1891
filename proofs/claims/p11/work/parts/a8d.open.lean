/-! reading a test: names, brackets -/
def spcl (t v : Nat) (o : Int) : Prop := (t = 1 ∧ v = 91) ∨ o = 10 ∨ o = 11 ∨ o = 12
def fst1 (kd : Nat) (bg : Int32) : Prop := (kd = 1 ∨ kd = 5) ∧ bg = 1
section Sa8d
variable {n d s0 f0 W H : Nat} {x : Nat → Nat} {B1 B2 : Nat → Nat → Int32} {BJ : Nat → Nat → Int64}
variable {D D' E op kd ph bs p a t v u : Nat} {l : List Nat} {o : Int} {bg : Int32} {K : List Nat} {A1 A2 : List (Nat × Nat)} {L I1 I2 : Nat → Nat → Int32} {J1 J2 : Nat → Nat → Int64}
theorem find_eq {N : Nat} {f : Nat → Int32} {g : Nat → Int64} {r1 r2 : Int32} (hl : lxl l) (hN : N ≤ 900) (hq : ∀ j, j < N → nmq (f j) (g j)) (h1 : (r1 = -1 ∧ ∀ j, j < N → f j ≠ nI (nmC l)) ∨ ∃ j, j < N ∧ r1 = nI j ∧ f j = nI (nmC l) ∧ ∀ m, m < j → f m ≠ nI (nmC l)) (h2 : fnd N g (lN (nmR l)) r2) : r1 = r2 := by
  have q : ∀ j, j < N → (f j = nI (nmC l) ↔ g j = lN (nmR l)) := fun j hj => nmq_eq (hq j hj) hl
  rcases h1 with ⟨rfl, a⟩ | ⟨j, j1, rfl, j2, j3⟩
  · rcases h2 with ⟨rfl, -⟩ | ⟨i, i1, -, i2, -⟩
    · rfl
    · exact absurd ((q i i1).mpr i2) (a i i1)
  · rcases h2 with ⟨-, b⟩ | ⟨i, i1, rfl, i2, i3⟩
    · exact absurd ((q j j1).mp j2) (b j j1)
    · have : j = i := by
        rcases Nat.lt_trichotomy j i with z | z | z
        · exact absurd ((q j j1).mp j2) (i3 j z)
        · exact z
        · exact absurd ((q i i1).mpr i2) (j3 i z)
      rw [this]
theorem own_eq (h : tkR n x p a t v l o I1 I2 J2) {w : Nat} {y : Int32} (hw : w < 17) (hy : y = nI w) : I1 11 7 = y ↔ o = w := by
  obtain ⟨-, -, -, -, -, -, -, -, -, -, -, c7, -, -, -, -, hS⟩ := h
  have ho : -1 ≤ o ∧ o ≤ 16 := by
    rcases hS with ⟨-, -, -, q⟩ | ⟨-, -, -, -, -, -, -, -, q⟩ | ⟨-, -, -, -, -, -, -, q⟩ | ⟨-, -, -, -, -, -, -, q⟩
    · omega
    · omega
    · omega
    · rcases q with ⟨q, -⟩ | ⟨w, hw, q, -⟩ <;> omega
  rw [c7, hy]
  constructor
  · intro z
    have z := congrArg Int32.toInt z
    rw [iI_toInt (by omega) (by omega), nI_toInt (by omega)] at z
    exact z
  · intro z
    rw [z]; rfl
theorem tok_eq (h : tkR n x p a t v l o I1 I2 J2) {k : Nat} {y : Int32} (hk : k < 5) (hy : y = nI k) : I1 11 5 = y ↔ t = k := by
  have h3 := (tk_n h).2.2.2.2
  rw [h.2.2.2.2.2.2.2.2.2.1, hy]
  exact nI_eq (by omega) (by omega)
theorem rtk_eq (h : tkR n x p a t v l o I1 I2 J2) {k : Nat} {y : Int32} (hk : k < 4) (h1 : 1 ≤ k) (hy : y = nI (4 - k)) : I2 0 3 = y ↔ t = k := by
  have h3 := (tk_n h).2.2.2.2
  have tk : tkr t < 2 ^ 31 := by unfold tkr; split <;> omega
  rw [h.2.2.2.2.2.2.2.2.2.2.1, hy, nI_eq tk (by omega)]
  unfold tkr
  split <;> omega
theorem TS_bg {y : Int32} (h : TS n x d s0 f0 B1 B2 BJ op kd ph bs bg K L A1 A2 p a t v l o I1 I2 J2) (hy : y = 0 ∨ y = 1) : TS n x d s0 f0 B1 B2 BJ op kd ph bs y K L A1 A2 p a t v l o I1 (mj_up I2 25 op y) J2 := by
  obtain ⟨h1, h2, h3, h4, h5, ⟨f1, f2, f3, f4, f5, f6, f7, f8, f9, f10, f11, f12, f13⟩⟩ := h
  refine ⟨tkR_cg h1 (fun _ _ _ => rfl) (fun q j z => up_n (by omega)) rfl, h2, fun q j z1 z2 z3 => by rw [up_n (by omega)]; exact h3 q j z1 z2 z3, h4, tsA_cg h5 rfl (fun _ => rfl) (up_n (by omega)) (fun j => ⟨up_n (by omega), up_n (by omega)⟩) (up_n (by omega)) (up_n (by omega)), ⟨?_, ?_, ?_, up_s, ?_, fun i z zz => ?_, fun q q1 q2 i hi => ?_, ?_, fun i hi => ?_, f10, f11, hy, f13⟩⟩
  · rw [up_n (by omega)]; exact f1
  · rw [up_n (by omega)]; exact f2
  · rw [up_n (by omega)]; exact f3
  · rw [up_n (by omega)]; exact f5
  · rw [up_n (by omega)]; exact f6 i z zz
  · rw [up_n (by omega)]; exact f7 q q1 q2 i hi
  · rw [up_n (by omega)]; exact f8
  · rw [up_n (by omega)]; exact f9 i hi
theorem TS_ph {y : Nat} (h : TS n x d s0 f0 B1 B2 BJ op kd ph bs bg K L A1 A2 p a t v l o I1 I2 J2) (hy : y ≤ 2) : TS n x d s0 f0 B1 B2 BJ op kd y bs bg K L A1 A2 p a t v l o I1 (mj_up I2 24 op (nI y)) J2 := by
  obtain ⟨h1, h2, h3, h4, h5, ⟨f1, f2, f3, f4, f5, f6, f7, f8, f9, f10, f11, f12, f13⟩⟩ := h
  refine ⟨tkR_cg h1 (fun _ _ _ => rfl) (fun q j z => up_n (by omega)) rfl, h2, fun q j z1 z2 z3 => by rw [up_n (by omega)]; exact h3 q j z1 z2 z3, h4, tsA_cg h5 rfl (fun _ => rfl) (up_n (by omega)) (fun j => ⟨up_n (by omega), up_n (by omega)⟩) (up_n (by omega)) (up_n (by omega)), ⟨?_, ?_, up_s, ?_, ?_, fun i z zz => ?_, fun q q1 q2 i hi => ?_, ?_, fun i hi => ?_, f10, hy, f12, f13⟩⟩
  · rw [up_n (by omega)]; exact f1
  · rw [up_n (by omega)]; exact f2
  · rw [up_n (by omega)]; exact f4
  · rw [up_n (by omega)]; exact f5
  · rw [up_n (by omega)]; exact f6 i z zz
  · rw [up_n (by omega)]; exact f7 q q1 q2 i hi
  · rw [up_n (by omega)]; exact f8
  · rw [up_n (by omega)]; exact f9 i hi
/-- the kind of the frame on top changes -/
theorem TS_kd {y : Nat} (h : TS n x d s0 f0 B1 B2 BJ op kd ph bs bg K L A1 A2 p a t v l o I1 I2 J2) (hy : y ≤ 5) : TS n x d s0 f0 B1 B2 BJ op y ph bs bg K L A1 A2 p a t v l o I1 (mj_up I2 23 op (nI y)) J2 := by
  obtain ⟨h1, h2, h3, h4, h5, ⟨f1, f2, f3, f4, f5, f6, f7, f8, f9, f10, f11, f12, f13⟩⟩ := h
  refine ⟨tkR_cg h1 (fun _ _ _ => rfl) (fun q j z => up_n (by omega)) rfl, h2, fun q j z1 z2 z3 => by rw [up_n (by omega)]; exact h3 q j z1 z2 z3, h4, tsA_cg h5 rfl (fun _ => rfl) (up_n (by omega)) (fun j => ⟨up_n (by omega), up_n (by omega)⟩) (up_n (by omega)) (up_n (by omega)), ⟨?_, up_s, ?_, ?_, ?_, fun i z zz => ?_, fun q q1 q2 i hi => ?_, ?_, fun i hi => ?_, hy, f11, f12, f13⟩⟩
  · rw [up_n (by omega)]; exact f1
  · rw [up_n (by omega)]; exact f3
  · rw [up_n (by omega)]; exact f4
  · rw [up_n (by omega)]; exact f5
  · rw [up_n (by omega)]; exact f6 i z zz
  · rw [up_n (by omega)]; exact f7 q q1 q2 i hi
  · rw [up_n (by omega)]; exact f8
  · rw [up_n (by omega)]; exact f9 i hi
theorem DD_2x {q0 j0 : Nat} {y : Int32} (h : DD d s0 f0 B1 B2 BJ I1 I2 J2) (hq : 23 ≤ q0 ∧ q0 ≤ 28 ∨ q0 = 0 ∧ (j0 = 41 ∨ j0 = 42 ∨ j0 = 44)) : DD d s0 f0 B1 B2 BJ I1 (mj_up I2 q0 j0 y) J2 := by
  obtain ⟨⟨k, p, b1, b2, b3, b4, b5, b6, b7, b8⟩, h2, h3, h4, h5⟩ := h
  refine ⟨⟨k, p, b1, b2, b3, b4, b5, b6, ?_, ?_⟩, h2, fun q j z1 z2 z3 => ?_, h4, h5⟩
  · rw [up_n (by omega)]; exact b7
  · rw [up_n (by omega)]; exact b8
  · rw [up_n (by unfold tsl at z1; omega)]
    exact h3 q j z1 z2 z3
theorem r_isTest {k : Nat} (hk : k ≤ 5) : C2 (D + 1) 36 [.int (nI k)] I2 J2 (.int (tf (k = 1 ∨ k = 5))) I2 J2 := by
  refine mj_mk (e36 _ ?_)
  rw [show (1 : Int32) = nI 1 from rfl, show (5 : Int32) = nI 5 from rfl]
  exact if_eq (by omega) (by decide) (fun e => mzT (Or.inl e)) (fun e => if_eq (by omega) (by decide) (fun e2 => mzT (Or.inr e2)) (fun e2 => mzF (by omega)))
/-- any sign, any state -/
theorem sg_any {y : Int32} : ∃ r, C2 (D + 1) 28 [.ref 0, .int y] I2 J2 (.int r) I2 J2 := by
  by_cases h1 : I2 0 3 = 3
  · by_cases h2 : I2 0 6 = y
    · exact ⟨1, mj_mk (e28 _ (by rw [if_pos h1, if_pos h2]; exact ⟨Or.inr rfl, rfl⟩))⟩
    · exact ⟨0, mj_mk (e28 _ (by rw [if_pos h1, if_neg h2]; exact ⟨Or.inl rfl, rfl⟩))⟩
  · exact ⟨0, mj_mk (e28 _ (by rw [if_neg h1]; exact ⟨Or.inl rfl, rfl⟩))⟩
/-- a name is looked up, and laid down as a step of its kind -/
theorem ts_named {c i : Nat} (hS : stc d W H B1 B2 BJ) (hc : c = 2 ∧ i = 0 ∨ c = 4 ∧ i = 4) (h : TS n x d s0 f0 B1 B2 BJ op kd ph bs bg K L A1 A2 p a t v l o I1 I2 J2) (h0 : t ≠ 0) (q1 : s0 + A1.length ≤ p) (q2 : f0 + A2.length ≤ p) : ∃ Ia r Ib I1' I2' J2', C1 (D + 5) 139 [.ref 11] I1 J1 .null Ia J1 ∧ C1 (D + 5) 153 [.ref 11, .int (nI i), .int (-1)] Ia J1 (.int r) Ib J1 ∧ C1 (D + 5) 163 [.ref 14, .int (nI (opc c)), .int r] Ib J1 .null I1' J1 ∧ C2 (E + 4) 40 [.ref 0, .int (nI c)] I2 J2 .null I2' J2' ∧ ((∃ k p' a' t' v' l' o', TS n x d s0 f0 B1 B2 BJ op kd ph bs bg K L (A1 ++ [(c, k)]) (A2 ++ [(c, k)]) p' a' t' v' l' o' I1' I2' J2' ∧ p < p' ∧ s0 + A1.length + 1 ≤ p' ∧ I2' 0 45 = I2 0 45 ∧ I1' 11 9 = I1 11 9 ∧ (c = 2 → k < W) ∧ (c = 4 → k < H)) ∨ DD d s0 f0 B1 B2 BJ I1' I2' J2') := by
  have hn := tk_n h.1
  obtain ⟨Ia, Ra, Sa, k1, k2, k3, k4, k5⟩ := ts_adv (D := D + 2) (D' := E + 1) (J1 := J1) h h0 (by omega)
  rcases k5 with ⟨p1, a1, t1, v1, l1, o1, ha, hp, -⟩ | ⟨hd, h8⟩
  · have hn1 := tk_n ha.1
    have h8 := ha.1.2.2.2.2.2.2.2.2.2.2.2.2.2.1
    have c6 : ∀ {T : Prop}, t1 = 3 → (lxl l1 → Ia 11 6 = nI (nmC l1) → Sa 0 7 = lN (nmR l1) → T) → T := fun e hh => by
      rcases ha.1.2.2.2.2.2.2.2.2.2.2.2.2.2.2.2.2 with ⟨q, -⟩ | ⟨q, -⟩ | ⟨q, -⟩ | ⟨-, -, -, -, w1, w2, w3, -⟩
      · omega
      · omega
      · omega
      · exact hh w1 w2 w3
    by_cases nm : t1 = 3 ∧ o1 = -1
    · -- a name
      refine c6 nm.1 fun w1 w2 w3 => ?_
      have hd := TS_d ha hS
      obtain ⟨s1, s2, s3, s4, s5, s6, s7, s8, s9, s10⟩ := hS
      have b15 : ∀ j, Ia 15 j = B1 15 j := fun j => ha.2.1 15 j (by omega) (by omega) (by omega)
      have b16 : ∀ j, Ia 16 j = B1 16 j := fun j => ha.2.1 16 j (by omega) (by omega) (by omega)
      have r2 : Ra 2 d = B2 2 d := ha.2.2.1 2 d (by omega) (by omega) (by omega)
      have r6 : Ra 6 d = B2 6 d := ha.2.2.1 6 d (by omega) (by omega) (by omega)
      have j8 : ∀ j, Sa 8 j = BJ 8 j := fun j => ha.2.2.2.1 8 j (by omega)
      have j17 : ∀ j, Sa 17 j = BJ 17 j := fun j => ha.2.2.2.1 17 j (by omega)
      -- both find the same
      have fb : ∃ r, C1 (D + 4) 150 [.ref 14, .int (nI i), .int (nI (nmC l1))] Ia J1 (.int r) Ia J1 ∧ (c = 2 → C2 (E + 3) 24 [.ref 0, .int (nI d), .long (lN (nmR l1))] Ra Sa (.int r) Ra Sa) ∧ (c = 4 → C2 (E + 3) 26 [.ref 0, .int (nI d), .long (lN (nmR l1))] Ra Sa (.int r) Ra Sa) ∧ (r = -1 ∨ ∃ k, r = nI k ∧ k < 40 ∧ (c = 2 → k < W) ∧ (c = 4 → k < H)) := by
        rcases hc with ⟨rfl, rfl⟩ | ⟨rfl, rfl⟩
        · obtain ⟨r, Ic, Jc, f1, f2, rfl, rfl⟩ := c_find (D := D + 3) (I := Ia) (J := J1) (i := 0) (y := nmC l1) (by decide) (by decide) (by decide) (by rw [b15]; exact s4) (by omega)
          obtain ⟨rr, Id, Jd, g1, g2, rfl, rfl⟩ := r_fnd24 (D := E + 2) (I := Ra) (J := Sa) (y := lN (nmR l1)) s1 (by rw [r2]; exact s6) s2
          have e : r = rr := find_eq (f := fun j => Ic 16 (40 * 0 + j)) w1 (by omega) (fun j hj => by
            show nmq (Ic 16 (40 * 0 + j)) (Jd 8 (4 * d + j))
            rw [show 40 * 0 + j = j by omega, b16, j8]
            exact s9 j hj) f2 g2
          subst e
          refine ⟨r, f1, fun _ => g1, fun z => by omega, ?_⟩
          rcases f2 with ⟨z, -⟩ | ⟨k, z1, z2, -⟩
          · exact Or.inl z
          · exact Or.inr ⟨k, z2, by omega, fun _ => z1, fun z => by omega⟩
        · obtain ⟨r, Ic, Jc, f1, f2, rfl, rfl⟩ := c_find (D := D + 3) (I := Ia) (J := J1) (i := 4) (y := nmC l1) (by decide) (by decide) (by decide) (by rw [b15]; exact s5) (by omega)
          obtain ⟨rr, Id, Jd, g1, g2, rfl, rfl⟩ := r_fnd26 (D := E + 2) (I := Ra) (J := Sa) (y := lN (nmR l1)) s1 (by rw [r6]; exact s7) s3
          have e : r = rr := find_eq (f := fun j => Ic 16 (40 * 4 + j)) w1 (by omega) (fun j hj => by
            show nmq (Ic 16 (40 * 4 + j)) (Jd 17 (12 * d + j))
            rw [show 40 * 4 + j = 160 + j by omega, b16, j17]
            exact s10 j hj) f2 g2
          subst e
          refine ⟨r, f1, fun z => by omega, fun _ => g1, ?_⟩
          rcases f2 with ⟨z, -⟩ | ⟨k, z1, z2, -⟩
          · exact Or.inl z
          · exact Or.inr ⟨k, z2, by omega, fun z => by omega, fun _ => z1⟩
      obtain ⟨r, f1, f2, f3, f4⟩ := fb
      have hS : stc d W H B1 B2 BJ := ⟨s1, s2, s3, s4, s5, s6, s7, s8, s9, s10⟩
      -- the reference up to the look up
      have r40 : ∀ {I' : (Nat → Nat → Int32)} {J' : (Nat → Nat → Int64)}, E2 40 (E + 3) (fun y => y = (.null, (I', J', mj_R2))) 83 [(0, .ref 0), (1, .int (nI c)), (2, .int r)] Ra Sa → C2 (E + 4) 40 [.ref 0, .int (nI c)] I2 J2 .null I' J' := fun {I' J'} hh => by
        refine mj_mk (e40 _ ?_)
        refine ⟨trivial, _, _, k2, ?_⟩
        rw [if_pos h8, if_pos ((rtk_eq (y := 1) ha.1 (k := 3) (by decide) (by decide) rfl).mpr nm.1)]
        refine ⟨trivial, _, _, _, wd_own ha.1 nm.1, if_tf (fun z => absurd nm.2 z) (fun _ => ?_)⟩
        refine mj_on (s40_39 _ ?_)
        rw [if_pos (by rw [h8]; decide), hd, w3]
        rcases hc with ⟨rfl, rfl⟩ | ⟨rfl, rfl⟩
        · rw [if_pos (by rfl)]
          exact ⟨trivial, _, _, _, f2 rfl, hh⟩
        · rw [if_neg (by decide)]
          exact ⟨trivial, _, _, _, f3 rfl, hh⟩
      rcases f4 with rfl | ⟨k, rfl, kb, kW, kH⟩
      · -- unknown
        obtain ⟨Ib, Rb, m1, m2, m3, m4, m5, m6, m7⟩ := ts_bl (D := D + 3) (D' := E + 2) (J1 := J1) (k := 3) ha (by decide) (by decide) (by omega)
        obtain ⟨Ic, n1, n2⟩ := d_add (D := D + 3) (J1 := J1) (y := nI (opc c)) (z := -1) m3
        refine ⟨Ia, -1, Ib, Ic, Rb, Sa, k1, mj_mk (e153 _ _ ?_), n1, r40 ?_, Or.inr n2⟩
        · refine ⟨trivial, _, _, _, nm_c ha.1, if_tf (fun _ => ?_) (fun z => absurd nm z)⟩
          rw [w2]
          refine ⟨trivial, _, _, _, f1, ?_⟩
          rw [if_pos rfl]
          exact ⟨trivial, _, _, m1, rfl⟩
        · refine mj_on (s40_83 _ _ ?_)
          rw [if_pos h8, if_pos rfl]
          refine ⟨trivial, _, _, m2, ?_⟩
          refine mj_on (s40_104 _ _ ?_)
          rw [if_neg (DD_8 m3).2]
      · -- known
        obtain ⟨Rb, m1, m2, m3⟩ := ts_addR (D := E + 2) (c := c) (y := k) hS ha (by omega)
        obtain ⟨Ib, Rc, Sc, n1, n2, n3, n4, n5⟩ := ts_adv (D := D + 1) (D' := E + 1) (J1 := J1) m2 (by omega) (by omega)
        have kne : ¬ nI k = -1 := by
          intro z
          have z := congrArg Int32.toInt z
          rw [nI_toInt (by omega)] at z
          have : (-1 : Int32).toInt = -1 := by decide
          omega
        have c153 : C1 (D + 5) 153 [.ref 11, .int (nI i), .int (-1)] Ia J1 (.int (nI k)) Ib J1 := by
          refine mj_mk (e153 _ _ ?_)
          refine ⟨trivial, _, _, _, nm_c ha.1, if_tf (fun _ => ?_) (fun z => absurd nm z)⟩
          rw [w2]
          refine ⟨trivial, _, _, _, f1, ?_⟩
          rw [if_neg kne, if_neg kne]
          exact ⟨trivial, _, _, n1, rfl⟩
        have r104 : C2 (E + 4) 40 [.ref 0, .int (nI c)] I2 J2 .null Rc Sc := r40 (by
          refine mj_on (s40_83 _ _ ?_)
          rw [if_pos h8, if_neg kne]
          refine mj_on (s40_104 _ _ ?_)
          rw [if_pos (by rw [h8]; decide)]
          exact ⟨trivial, _, _, m1, trivial, _, _, n2, rfl⟩)
        rcases n5 with ⟨p2, a2, t2, v2, l2, o2, hb, hp2, -⟩ | ⟨hb, -⟩
        · have hn2 := tk_n hb.1
          obtain ⟨Ic, g1, g2, g3⟩ := ts_addC (D := D + 3) (J1 := J1) (c := c) (y := k) hb (by omega) (by omega)
          exact ⟨Ia, _, Ib, Ic, Rc, Sc, k1, c153, g1, r104, Or.inl ⟨k, p2, a2, t2, v2, l2, o2, g2, by omega, by omega, by rw [n3, m3, k3], by rw [g3, n4, k4], kW, kH⟩⟩
        · obtain ⟨Ic, g1, g2⟩ := d_add (D := D + 3) (J1 := J1) (y := nI (opc c)) (z := nI k) hb
          exact ⟨Ia, _, Ib, Ic, Rc, Sc, k1, c153, g1, r104, Or.inr g2⟩
    · -- no name
      obtain ⟨Ib, Rb, m1, m2, m3, m4, m5, m6, m7⟩ := ts_bl (D := D + 3) (D' := E + 2) (J1 := J1) (k := 1) ha (by decide) (by decide) (by omega)
      obtain ⟨Ic, n1, n2⟩ := d_add (D := D + 3) (J1 := J1) (y := nI (opc c)) (z := -1) m3
      have fin : E2 40 (E + 3) (fun y => y = (.null, (Rb, Sa, mj_R2))) 39 [(0, .ref 0), (1, .int (nI c))] Rb Sa := by
        refine mj_on (s40_39 _ ?_)
        rw [if_neg (DD_8 m3).2]
        refine mj_on (s40_83 _ _ ?_)
        rw [if_neg (DD_8 m3).1]
        refine mj_on (s40_104 _ _ ?_)
        rw [if_neg (DD_8 m3).2]
      refine ⟨Ia, -1, Ib, Ic, Rb, Sa, k1, mj_mk (e153 _ _ ?_), n1, mj_mk (e40 _ ?_), Or.inr n2⟩
      · refine ⟨trivial, _, _, _, nm_c ha.1, if_tf (fun z => absurd z nm) (fun _ => ⟨trivial, _, _, m1, rfl⟩)⟩
      · refine ⟨trivial, _, _, k2, ?_⟩
        rw [if_pos h8]
        by_cases e : t1 = 3
        · rw [if_pos ((rtk_eq (y := 1) ha.1 (k := 3) (by decide) (by decide) rfl).mpr e)]
          refine ⟨trivial, _, _, _, wd_own ha.1 e, if_tf (fun _ => ?_) (fun z => absurd ⟨e, Classical.byContradiction z⟩ nm)⟩
          exact ⟨trivial, _, _, m2, fin⟩
        · rw [if_neg (fun z => e ((rtk_eq (y := 1) ha.1 (k := 3) (by decide) (by decide) rfl).mp z))]
          exact ⟨trivial, _, _, m2, fin⟩
  · obtain ⟨Ib, m1, m2⟩ := d_ask (D := D + 3) (J1 := J1) (c := nI i) (e := -1) hd
    obtain ⟨Ic, n1, n2⟩ := d_add (D := D + 3) (J1 := J1) (y := nI (opc c)) (z := -1) m2
    refine ⟨Ia, -1, Ib, Ic, Ra, Sa, k1, m1, n1, mj_mk (e40 _ ?_), Or.inr n2⟩
    refine ⟨trivial, _, _, k2, ?_⟩
    rw [if_neg (DD_8 hd).1]
    refine mj_on (s40_39 _ ?_)
    rw [if_neg (DD_8 hd).2]
    refine mj_on (s40_83 _ _ ?_)
    rw [if_neg (DD_8 hd).1]
    refine mj_on (s40_104 _ _ ?_)
    rw [if_neg (DD_8 hd).2]
/-- a bracket that opens, on both sides -/
theorem r_push {f M k : Nat} (h41 : I2 0 41 = nI f) (h44 : I2 0 44 = nI M) (hf : f < 20) : C2 (D + 1) 34 [.ref 0, .int (nI k)] I2 J2 .null (mj_up (mj_up (mj_up (mj_up (mj_up I2 23 f (nI k)) 24 f 0) 25 f 1) 27 f (nI M)) 0 41 (nI (f + 1))) J2 := by
  refine mj_mk (e34 _ ?_)
  have vp : vp_in (nI f) 20 := vp_in_nI hf (by decide)
  rw [h41, nI_clamp (by omega), h44]
  refine ⟨vp, vp, vp, vp, ?_⟩
  refine mj_on (s34_43 ?_)
  rw [up_n (by omega), up_n (by omega), up_n (by omega), up_n (by omega), h41, nI_1]
  rfl
theorem ts_open {c k : Nat} (hk : k ≤ 5) (hc : c < 256) (h : TS n x d s0 f0 B1 B2 BJ op kd ph bs bg K L A1 A2 p a t v l o I1 I2 J2) (h1 : t = 1) (hv : v = c) (h9 : I1 11 9 = nI op) (q1 : s0 + A1.length ≤ p) (hM : bs + K.length < 500) : ∃ r I1' I2' J2', C1 (D + 4) 161 [.ref 11, .int (nI c)] I1 J1 (.int r) I1' J1 ∧ C2 (E + 4) 38 [.ref 0, .int (nI k)] I2 J2 .null I2' J2' ∧ ((r = 0 ∧ DD d s0 f0 B1 B2 BJ I1' I2' J2') ∨ (r = 1 ∧ DD d s0 f0 B1 B2 BJ I1' I2' J2') ∨ (r = 1 ∧ op < 8 ∧ I2' 0 45 = I2 0 45 ∧ I1' 11 9 = nI (op + 1) ∧ (∀ q, 23 ≤ q → q ≤ 27 → ∀ i, i < op + 1 → I2' q i = I2 q i) ∧ (∀ i, I2' 28 i = I2 28 i) ∧ ∃ p' a' t' v' l' o', TS n x d s0 f0 B1 B2 BJ (op + 1) k 0 (bs + K.length) 1 [] I2' A1 A2 p' a' t' v' l' o' I1' I2' J2' ∧ p < p')) := by
  have hn := tk_n h.1
  have h8 := h.1.2.2.2.2.2.2.2.2.2.2.2.2.2.1
  have h42 := h.2.2.2.2.1.2.2.2.2.2.1
  have hop := h.2.2.2.2.1.2.2.2.2.1
  by_cases e8 : op = 8
  · obtain ⟨Ib, Rb, m1, m2, m3, m4, m5, m6, m7⟩ := ts_bl (D := D + 2) (D' := E + 2) (J1 := J1) (k := 5) h (by decide) (by decide) (by omega)
    refine ⟨0, Ib, Rb, J2, mj_mk (e161 _ ?_), mj_mk (e38 _ ?_), Or.inl ⟨rfl, m3⟩⟩
    · refine ⟨trivial, _, _, _, sg_c h.1 hc, if_tf (fun _ => ?_) (fun z => absurd ⟨h1, hv⟩ z)⟩
      rw [h9, show (8 : Int32) = nI 8 from rfl]
      exact if_lt (by omega) (by decide) (fun z => absurd z (by omega)) (fun _ => ⟨trivial, _, _, m1, Or.inl rfl, rfl⟩)
    · rw [h42, if_pos (show nI op = 8 by rw [e8]; rfl)]
      refine ⟨trivial, _, _, m2, ?_⟩
      refine mj_on (s38_18 _ ?_)
      rw [if_neg (DD_8 m3).2]
  · -- what both do to their heaps first
    have hop8 : op < 8 := by omega
    obtain ⟨h1', h2, h3, h4, ⟨a1, a2, a3, a4, a5, a6, a7⟩, hF⟩ := id h
    -- next, from where neither has counted
    have hI : ∃ I1', C1 (D + 3) 139 [.ref 11] (mj_up I1 11 9 (nI (op + 1))) J1 .null I1' J1 ∧ ∃ Ra Sa, C2 (E + 3) 13 [.ref 0] (mj_up I2 0 42 (nI (op + 1))) J2 .null Ra Sa ∧ lxf (mj_up I1 11 9 (nI (op + 1))) I1' ∧ lxg (mj_up I2 0 42 (nI (op + 1))) Ra ∧ lxgJ J2 Sa ∧ ((∃ p' a' t' v' l' o', tkR n x p' a' t' v' l' o' I1' Ra Sa ∧ p < p' ∧ (t = 3 → p + l.length ≤ p')) ∨ ∃ p', tkD 1 p' I1' Ra) := by
      obtain ⟨x1, x2, x3, x4, x5, x6, x7, x8, x9⟩ := adv_ta (D := D) (D' := E + 1) (J1 := J1) (I1 := mj_up I1 11 9 (nI (op + 1))) (I2 := mj_up I2 0 42 (nI (op + 1))) (tkR_cg h1' (fun q j z => up_n (by omega)) (fun q j z => up_n (by omega)) rfl) (by omega)
      exact ⟨x1, x4, x2, x3, x5, x6, x7, x8, x9⟩
    obtain ⟨Ia, k1, Ra, Sa, k2, k4, k5, k6, k7⟩ := hI
    have fc : ∀ q j, (q ≠ 11 ∨ (j ≠ 4 ∧ j ≠ 5 ∧ j ≠ 6 ∧ j ≠ 7 ∧ j ≠ 8 ∧ j ≠ 9)) → Ia q j = I1 q j := fun q j z => by rw [k4 q j (by omega), up_n (by omega)]
    have fr : ∀ q j, (q ≠ 0 ∨ (j ≠ 3 ∧ j ≠ 4 ∧ j ≠ 5 ∧ j ≠ 6 ∧ j ≠ 8 ∧ j ≠ 9 ∧ j ≠ 42)) → Ra q j = I2 q j := fun q j z => by rw [k5 q j (by omega), up_n (by omega)]
    have a9 : Ia 11 9 = nI (op + 1) := by rw [k4 11 9 (by omega), up_s]
    have r42 : Ra 0 42 = nI (op + 1) := by rw [k5 0 42 (by omega), up_s]
    have r41 : Ra 0 41 = nI (op + 1) := by rw [fr 0 41 (by omega)]; exact hF.1
    have r44 : Ra 0 44 = nI (bs + K.length) := by rw [fr 0 44 (by omega)]; exact a7
    obtain ⟨Rb, hRb⟩ : ∃ Rb, Rb = mj_up (mj_up (mj_up (mj_up (mj_up Ra 23 (op + 1) (nI k)) 24 (op + 1) 0) 25 (op + 1) 1) 27 (op + 1) (nI (bs + K.length))) 0 41 (nI (op + 1 + 1)) := ⟨_, rfl⟩
    have c161 : C1 (D + 4) 161 [.ref 11, .int (nI c)] I1 J1 (.int 1) Ia J1 := by
      refine mj_mk (e161 _ ?_)
      refine ⟨trivial, _, _, _, sg_c h.1 hc, if_tf (fun _ => ?_) (fun z => absurd ⟨h1, hv⟩ z)⟩
      rw [h9, show (8 : Int32) = nI 8 from rfl, nI_1]
      exact if_lt (by omega) (by decide) (fun _ => ⟨trivial, _, _, k1, Or.inr rfl, rfl⟩) (fun z => absurd z (by omega))
    have r38 : C2 (E + 4) 38 [.ref 0, .int (nI k)] I2 J2 .null Rb Sa := by
      refine mj_mk (e38 _ ?_)
      rw [h42, if_neg (show ¬ nI op = 8 from fun z => e8 ((nI_eq (b := 8) (by omega) (by decide)).mp z))]
      refine mj_on (s38_18 _ ?_)
      rw [if_pos (by rw [h8]; decide), h42, nI_1]
      refine ⟨trivial, _, _, k2, trivial, _, _, r_push r41 r44 (by omega), ?_⟩
      rw [hRb]
    have fb : ∀ q j, (q < 23 ∨ 27 < q ∨ q = 26 ∨ j ≠ op + 1) → (q ≠ 0 ∨ j ≠ 41) → Rb q j = Ra q j := fun q j z1 z2 => by rw [hRb, up_n (by omega), up_n (by omega), up_n (by omega), up_n (by omega), up_n (by omega)]
    have t2 : tsC s0 B1 Ia := fun q j z1 z2 z3 => by rw [fc q j (by omega)]; exact h2 q j z1 z2 z3
    have t3 : tsR d f0 B2 Rb := fun q j z1 z2 z3 => by rw [fb q j (by omega) (by unfold tsl at z1; omega), fr q j (by unfold tsl at z1; omega)]; exact h3 q j z1 z2 z3
    have t4 : lxgJ BJ Sa := fun q j z => by rw [k6 q j z]; exact h4 q j z
    rcases k7 with ⟨p', a', t', v', l', o', w1, w2, -⟩ | ⟨p', w1⟩
    · refine ⟨1, Ia, Rb, Sa, c161, r38, Or.inr (Or.inr ⟨rfl, hop8, ?_, a9, fun q z1 z2 i hi => ?_, fun i => ?_, p', a', t', v', l', o', ⟨tkR_cg w1 (fun _ _ _ => rfl) (fun q j z => fb q j (by omega) (by omega)) rfl, t2, t3, t4, ⟨?_, fun k y z => ?_, ?_, fun k y z => ?_, by omega, ?_, ?_⟩, ⟨?_, ?_, ?_, ?_, ?_, fun i y z => ?_, fun _ _ _ _ _ => rfl, rfl, fun _ _ => rfl, hk, by decide, Or.inr rfl, fun c hc => ?_⟩⟩, w2⟩)⟩
      · rw [fb 0 45 (by omega) (by omega), fr 0 45 (by omega)]
      · rw [fb q i (by omega) (by omega), fr q i (by omega)]
      · rw [fb 28 i (by omega) (by omega), fr 28 i (by omega)]
      · rw [fc 14 9 (by omega)]; exact a1
      · rw [fc 22 _ (by omega)]; exact a2 k y z
      · rw [fb 0 34 (by omega) (by omega), fr 0 34 (by omega)]; exact a3
      · rw [fb 21 _ (by omega) (by omega), fr 21 _ (by omega), fb 22 _ (by omega) (by omega), fr 22 _ (by omega)]; exact a4 k y z
      · rw [fb 0 42 (by omega) (by omega)]; exact r42
      · rw [fb 0 44 (by omega) (by omega)]; exact r44
      · rw [hRb, up_s]
      · rw [hRb, up_n (by omega), up_n (by omega), up_n (by omega), up_n (by omega), up_s]
      · rw [hRb, up_n (by omega), up_n (by omega), up_n (by omega), up_s]; rfl
      · rw [hRb, up_n (by omega), up_n (by omega), up_s]
      · rw [hRb, up_n (by omega), up_s]
      · cases z
      · cases hc
    · have hd : DD d s0 f0 B1 B2 BJ Ia Ra Sa := ⟨⟨1, p', w1⟩, t2, fun q j z1 z2 z3 => by rw [fr q j (by unfold tsl at z1; omega)]; exact h3 q j z1 z2 z3, t4, _, Nat.le_add_right s0 A1.length, by omega, by rw [fc 14 9 (by omega)]; exact a1⟩
      refine ⟨1, Ia, Rb, Sa, c161, r38, Or.inr (Or.inl ⟨rfl, ?_⟩)⟩
      rw [hRb]
      exact DD_2x (DD_2x (DD_2x (DD_2x (DD_2x hd (by omega)) (by omega)) (by omega)) (by omega)) (by omega)
/-- the frame on top goes, the one below comes to light -/
theorem TS_pop {k f : Nat} {b : Int32} {L' I0 : (Nat → Nat → Int32)} (h : TS n x d s0 f0 B1 B2 BJ (op + 1) k f (bs + K.length) b [] L' A1 A2 p a t v l o I1 I2 J2) (hF : tsF op kd ph bs bg K L I0) (e1 : ∀ q, 23 ≤ q → q ≤ 27 → ∀ i, i < op + 1 → L' q i = I0 q i) (e2 : ∀ i, i < bs + K.length → L' 28 i = I0 28 i) : TS n x d s0 f0 B1 B2 BJ op kd ph bs bg K L A1 A2 p a t v l o I1 (mj_up (mj_up I2 0 41 (nI (op + 1))) 0 42 (nI op)) J2 := by
  obtain ⟨h1, h2, h3, h4, ⟨a1, a2, a3, a4, a5, a6, a7⟩, ⟨f1, f2, f3, f4, f5, f6, f7, f8, f9, f10, f11, f12, f13⟩⟩ := h
  obtain ⟨g1, g2, g3, g4, g5, g6, g7, g8, g9, g10⟩ := hF
  refine ⟨tkR_cg h1 (fun _ _ _ => rfl) (fun q j z => by rw [up_n (by omega), up_n (by omega)]) rfl, h2, fun q j z1 z2 z3 => ?_, h4, ⟨a1, a2, ?_, fun k y z => ?_, by omega, up_s, ?_⟩, ⟨?_, ?_, ?_, ?_, ?_, fun i y z => ?_, fun q q1 q2 i hi => ?_, ?_, fun i hi => ?_, g10⟩⟩
  · rw [up_n (by unfold tsl at z1; omega), up_n (by unfold tsl at z1; omega)]
    exact h3 q j z1 z2 z3
  · rw [up_n (by omega), up_n (by omega)]; exact a3
  · rw [up_n (by omega), up_n (by omega), up_n (by omega), up_n (by omega)]; exact a4 k y z
  · rw [up_n (by omega), up_n (by omega)]; exact a7
  · rw [up_n (by omega), up_s]
  · rw [up_n (by omega), up_n (by omega), f7 23 (by omega) (by omega) op (by omega), e1 23 (by omega) (by omega) op (by omega)]; exact g2
  · rw [up_n (by omega), up_n (by omega), f7 24 (by omega) (by omega) op (by omega), e1 24 (by omega) (by omega) op (by omega)]; exact g3
  · rw [up_n (by omega), up_n (by omega), f7 25 (by omega) (by omega) op (by omega), e1 25 (by omega) (by omega) op (by omega)]; exact g4
  · rw [up_n (by omega), up_n (by omega), f7 27 (by omega) (by omega) op (by omega), e1 27 (by omega) (by omega) op (by omega)]; exact g5
  · have hi : i < K.length := (List.getElem?_eq_some_iff.mp z).1
    rw [up_n (by omega), up_n (by omega), f9 _ (by omega), e2 _ (by omega)]; exact g6 i y z
  · rw [up_n (by omega), up_n (by omega), f7 q q1 q2 i (by omega), e1 q q1 q2 i (by omega)]; exact g7 q q1 q2 i hi
  · rw [up_n (by omega), up_n (by omega), f7 26 (by omega) (by omega) op (by omega), e1 26 (by omega) (by omega) op (by omega)]; exact g8
  · rw [up_n (by omega), up_n (by omega), f9 _ (by omega), e2 _ (by omega)]; exact g9 i hi
end Sa8d
