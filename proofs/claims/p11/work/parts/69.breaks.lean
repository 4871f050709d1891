/-! choose, breaks, place: the calls -/
theorem pcn_eq0 : ∀ {k m : Nat}, m < 2 ^ k → pcn k m = 0 → m = 0
  | 0, m, h, _ => by omega
  | k + 1, m, h, e => by
    have e : m % 2 + pcn k (m / 2) = 0 := e
    have := pcn_eq0 (k := k) (m := m / 2) (by rw [Nat.pow_succ] at h; omega) (by omega)
    omega
theorem pcn_one : ∀ {k m o : Nat}, m < 2 ^ k → m.testBit o = true → pcn k m ≤ 1 → m = 2 ^ o
  | 0, m, o, h, t, _ => by
    have : m = 0 := by omega
    rw [this, Nat.zero_testBit] at t
    cases t
  | k + 1, m, o, h, t, e => by
    have e : m % 2 + pcn k (m / 2) ≤ 1 := e
    have h2 : m / 2 < 2 ^ k := by rw [Nat.pow_succ] at h; omega
    cases o with
    | zero =>
      have t1 : m % 2 = 1 := by
        rw [Nat.testBit_zero] at t
        exact of_decide_eq_true t
      have := pcn_eq0 h2 (by omega)
      omega
    | succ o =>
      rw [Nat.testBit_succ] at t
      have n0 : pcn k (m / 2) ≠ 0 := fun q => by
        have := pcn_eq0 h2 q
        rw [this, Nat.zero_testBit] at t
        cases t
      have := pcn_one h2 t (by omega)
      rw [Nat.pow_succ]
      omega
theorem pcn_pw : ∀ o, o < 64 → pcn 64 (2 ^ o) = 1 := by decide +kernel
theorem pcL_one {C : Int64} {o : Nat} (ho : o < 64) (hb : lbit C o) : pcL C ≤ 1 ↔ C = (1 : Int64) <<< ((nI o).toInt64 &&& 63) := by
  obtain ⟨m, hm, rfl⟩ := wb_of C
  have e : (1 : Int64) <<< ((nI o).toInt64 &&& 63) = lN (2 ^ o) := by
    have := wb_shl 1 ho
    rw [Nat.one_mul] at this
    exact this
  have h2 : 2 ^ o < 2 ^ 64 := wb_lt2 ho
  rw [pcL_lN hm, e]
  constructor
  · intro q
    rw [pcn_one hm ((lb_nat hm ho).mp hb) q]
  · intro q
    have := congrArg (fun y => y.toBitVec.toNat) q
    simp only [wb_tn hm, wb_tn h2] at this
    rw [this, pcn_pw o ho]
    exact Nat.le_refl 1
theorem bs_up {p : Nat → Prop} {n : Nat} : ∀ {m : Nat}, n ≤ m → (∀ i, n ≤ i → i < m → ¬ p i) → bs m p = bs n p
  | 0, h, _ => by rw [show n = 0 by omega]
  | m + 1, h, q => by
    by_cases e : n = m + 1
    · rw [e]
    · rw [bs_f0 (q m (by omega) (by omega))]
      exact bs_up (by omega) fun i h1 h2 => q i h1 (by omega)
def b2P (I : Nat → Nat → Int32) (W Rn : Nat) (C : Int64) (o : Nat) : Prop := C ≠ (1 : Int64) <<< ((nI o).toInt64 &&& 63) ∧ ∀ u, u < Rn → u ≠ o → lbit C u → wn I W u o
def efP (I : Nat → Nat → Int32) (W Rn : Nat) (C : Int64) (u : Nat) : Prop := lbit C u ∧ ∃ p, p < 6 ∧ fiP I W Rn C u p
noncomputable def efC (I : Nat → Nat → Int32) (W Rn : Nat) (C : Int64) : Int64 := bs Rn (efP I W Rn C)
noncomputable def brA (B1 B2 B3 : Prop) : Int32 := tf B1 + 2 * tf B2 + 4 * tf B3
noncomputable def brk (I : Nat → Nat → Int32) (W Rn : Nat) (C : Int64) (k o : Nat) : Int32 := brA (pkC I W Rn C 3 ≠ -1 ∧ pkC I W Rn C 3 ≠ nI o) (b2P I W Rn C o) (pkC I W Rn (efC I W Rn C) k ≠ nI o)
theorem efC_bit {I : Nat → Nat → Int32} {W Rn i : Nat} {C : Int64} (hR : Rn ≤ 40) (h : lbit (efC I W Rn C) i) : i < Rn := ((bs_bit (by omega) i).mp h).1
section S69
variable {D b W Rn Kn Tn Hn Un g : Nat} {I I1 I2 : Nat → Nat → Int32} {J J1 J2 : Nat → Nat → Int64}
theorem r_choose {x : Int32} (h : Rl b W Rn Kn Tn Hn Un g I1 J1 I2 J2) : ∃ r : Int32, C2 (D + 8) 121 [.ref 0, .int x] I2 J2 (.int r) I2 J2 ∧ (∀ k, k ≤ 3 → x = nI k → 0 < vN I1 → r = pkC I1 W Rn (cnd J1 6) k) ∧ ((¬ ∃ k, k ≤ 3 ∧ x = nI k) → r = -1) ∧ (¬ 0 < vN I1 → r = -1) := by
  have hv : vN I1 ≤ 6 := ct_le
  by_cases q : ∃ k, k ≤ 3 ∧ x = nI k
  · obtain ⟨k, hk, rfl⟩ := q
    have q : ∃ k', k' ≤ 3 ∧ nI k = nI k' := ⟨k, hk, rfl⟩
    have go : ∀ r : Int32, (0 < vN I1 → r = pkC I1 W Rn (cnd J1 6) k) → (¬ 0 < vN I1 → r = -1) → C2 (D + 8) 121 [.ref 0, .int (nI k)] I2 J2 (.int r) I2 J2 := fun r r1 r2 => by
      refine mj_mk (e121 _ ?_)
      refine ⟨trivial, _, _, _, r_is, if_tf (fun _ => ?_) (fun z => ?_)⟩
      · refine ⟨trivial, _, _, _, r_voters h, if_eq (b := 0) (by omega) (by decide) (fun y => ?_) (fun y => ?_)⟩
        · rw [r2 (by omega)]
        · refine ⟨trivial, _, _, _, r_cand h, trivial, _, _, _, r_chosen h (fun i q => h.cbit q) hk, ?_⟩
          rw [r1 (by omega)]
      · refine absurd ⟨nI_pos (by omega), ?_⟩ z
        exact Int32.not_lt.mpr ((leI (b := 3) (by omega) (by decide)).mpr hk)
    by_cases y : 0 < vN I1
    · refine ⟨_, go _ (fun _ => rfl) (fun z => absurd y z), fun k' hk' e _ => ?_, fun z => absurd q z, fun z => absurd y z⟩
      rw [(nI_eq (by omega) (by omega)).mp e]
    · exact ⟨-1, go _ (fun z => absurd z y) (fun _ => rfl), fun k' hk' e z => absurd z y, fun z => absurd q z, fun _ => rfl⟩
  · refine ⟨-1, mj_mk (e121 _ ⟨trivial, _, _, _, r_is, if_tf (fun z => ?_) (fun _ => rfl)⟩), fun k hk e _ => absurd ⟨k, hk, e⟩ q, fun _ => rfl, fun _ => rfl⟩
    obtain ⟨k, hk, e⟩ := nI_of2 (n := 3) (by decide) z.1 (Int32.not_lt.mp z.2)
    exact absurd ⟨k, hk, e⟩ q
theorem al_choose {x : Int32} (h : Rl b W Rn Kn Tn Hn Un g I1 J1 I2 J2) : AI 278 121 [.int x] I1 J1 I2 J2 (Rl b W Rn Kn Tn Hn Un g) := by
  obtain ⟨r, hr, r1, r2, r3⟩ := r_choose (D := 892) (x := x) h
  obtain ⟨t, I', J', hc, ht, hg⟩ := c_gatherP (D := 897) h
  rw [ht] at hc
  obtain ⟨g1, g2, g3, g4, g5⟩ := id hg
  refine ⟨r, I', J', I2, J2, mj_mk (D := 899) (e278 _ ?_), hr, Rl_same h g1 g2 rfl rfl⟩
  refine ⟨trivial, _, _, _, hc, if_tf (fun q => ?_) (fun q => by rw [r3 q])⟩
  rw [g4]
  by_cases e : ∃ k, k ≤ 3 ∧ x = nI k
  · obtain ⟨k, hk, rfl⟩ := e
    refine ⟨trivial, _, _, _, c_pick h hg (fun i q => h.cbit q) hk, ?_⟩
    rw [r1 k hk rfl q]
  · refine ⟨trivial, _, _, _, c_pickBad e, ?_⟩
    rw [r2 e]
theorem c_behind {o : Nat} (h : Rl b W Rn Kn Tn Hn Un g I1 J1 I2 J2) (hg : gat I1 J1 W Rn 6 I J) (ho : o < Rn) : C1 (D + 3) 289 [.ref 58, .int (nI o)] I J (.int (tf (b2P I1 W Rn (cnd J1 6) o))) I J := by
  obtain ⟨g1, g2, g3, g4, g5⟩ := id hg
  have hR := h.rB.2.2.2.2.2
  obtain ⟨C, hCe⟩ : ∃ C, C = cnd J1 6 := ⟨_, rfl⟩
  have hC : ∀ i, lbit C i → i < Rn := fun i q => h.cbit (hCe ▸ q)
  rw [← hCe] at g4 ⊢
  refine mj_mk (e289 _ ?_)
  refine lp_up (n := 40) (fun i => (∀ u, u < i → u ≠ o → lbit C u → wn I1 W u o) → E1 289 (D + 2) (fun q => q = (.int (tf (b2P I1 W Rn C o)), (I, J, mj_R1))) 2 [(0, .ref 58), (1, .int (nI o)), (2, .int (nI i))] I J) (fun i hi ih hp => ?_) 0 (Nat.zero_le _) (fun u hu => absurd hu (Nat.not_lt_zero u))
  refine mj_on (s289_2 _ _ ?_)
  rw [show (40 : Int32) = nI 40 from rfl, nI_1, g4]
  have nx : i < 40 → (i ≠ o → lbit C i → wn I1 W i o) → E1 289 (D + 2) (fun q => q = (.int (tf (b2P I1 W Rn C o)), (I, J, mj_R1))) 2 [(0, .ref 58), (1, .int (nI o)), (2, .int (nI (i + 1)))] I J := fun c q => ih c fun u h1 h2 h3 => by
    by_cases e : u = i
    · subst e; exact q h2 h3
    · exact hp u (by omega) h2 h3
  refine if_le (by omega) (by omega) (fun c => if_i (fun d => mzF fun q => q.1 (cmp0.mp d)) (fun d => mzT ⟨fun q => d (cmp0.mpr q), fun u h1 h2 h3 => hp u (by omega) h2 h3⟩)) (fun c => if_eq (by omega) (by omega) (fun e => nx c fun q => absurd e q) (fun e => ⟨trivial, _, _, _, c_isIn (by omega), if_tf (fun d => ?_) (fun d => nx c fun _ q => absurd q d)⟩))
  exact ⟨trivial, _, _, _, c_most h hg (hC i d) ho, if_tf (fun w => nx c fun _ _ => w) (fun w => mzF fun q => w (q.2 i (hC i d) e d))⟩
theorem c_ever (h : Rl b W Rn Kn Tn Hn Un g I1 J1 I2 J2) (hg : gat I1 J1 W Rn 6 I J) : C1 (D + 4) 290 [.ref 58] I J (.long (efC I1 W Rn (cnd J1 6))) I J := by
  obtain ⟨g1, g2, g3, g4, g5⟩ := id hg
  have hR := h.rB.2.2.2.2.2
  obtain ⟨C, hCe⟩ : ∃ C, C = cnd J1 6 := ⟨_, rfl⟩
  have hC : ∀ i, lbit C i → i < Rn := fun i q => h.cbit (hCe ▸ q)
  rw [← hCe] at g4 ⊢
  have e40 : efC I1 W Rn C = bs 40 (efP I1 W Rn C) := (bs_up (by omega) fun i q1 _ q3 => by have := hC i q3.1; omega).symm
  obtain ⟨v, hv⟩ : ∃ v, v = bs 40 (efP I1 W Rn C) := ⟨_, rfl⟩
  rw [e40, ← hv]
  refine mj_mk (e290 ?_)
  refine lp_up (n := 40) (fun i => E1 290 (D + 3) (fun q => q = (.long v, (I, J, mj_R1))) 4 [(0, .ref 58), (1, .long (bs i (efP I1 W Rn C))), (3, .int (nI i))] I J) (fun i hi ih => ?_) 0 (Nat.zero_le _)
  refine mj_on (s290_4 _ _ ?_)
  rw [show (40 : Int32) = nI 40 from rfl, nI_1, g4]
  have no : i < 40 → ¬ efP I1 W Rn C i → E1 290 (D + 3) (fun q => q = (.long v, (I, J, mj_R1))) 4 [(0, .ref 58), (1, .long (bs i (efP I1 W Rn C))), (3, .int (nI (i + 1)))] I J := fun c q => by
    have z := ih c
    rw [bs_f0 q] at z
    exact z
  refine if_le (by omega) (by omega) (fun c => ?_) (fun c => ⟨trivial, _, _, _, c_isIn (by omega), if_tf (fun d => ?_) (fun d => no c fun q => d q.1)⟩)
  · obtain rfl : i = 40 := by omega
    rw [hv]
  rw [g4]
  have cb := c_blame (D := D) (k := 0) h hg hC (by decide) (hC i d)
  have hl : ct 6 (fiP I1 W Rn C i) ≤ 6 := ct_le
  have eb : blN I1 W Rn C 0 i 6 = -(nI (ct 6 (fiP I1 W Rn C i))) := rfl
  rw [eb] at cb
  have lt : -(nI (ct 6 (fiP I1 W Rn C i))) < 0 ↔ ∃ p, p < 6 ∧ fiP I1 W Rn C i p := by
    rw [← ct_pos, ← iI_nI, iI_neg, Int32.lt_iff_toInt_lt, iI_toInt (by omega) (by omega)]
    show -((ct 6 (fiP I1 W Rn C i) : Nat) : Int) < 0 ↔ _
    omega
  generalize -(nI (ct 6 (fiP I1 W Rn C i))) = y at *
  refine ⟨trivial, _, _, _, cb, if_i (fun f => ?_) (fun f => no c fun q => f (lt.mpr q.2))⟩
  have z := ih c
  rw [bs_t (n := i) (p := efP I1 W Rn C) ⟨d, lt.mp f⟩] at z
  exact z
theorem br_4 {B1 B2 B3 : Prop} : (B2 → B3 → tf B1 + 2 + 4 = brA B1 B2 B3) ∧ (B2 → ¬ B3 → tf B1 + 2 = brA B1 B2 B3) ∧ (¬ B2 → B3 → tf B1 + 4 = brA B1 B2 B3) ∧ (¬ B2 → ¬ B3 → tf B1 = brA B1 B2 B3) := by
  unfold brA
  refine ⟨fun h2 h3 => ?_, fun h2 h3 => ?_, fun h2 h3 => ?_, fun h2 h3 => ?_⟩
  · rw [tf_t h2, tf_t h3]; rcases tf_01 B1 with e | e <;> rw [e] <;> rfl
  · rw [tf_t h2, tf_f h3]; rcases tf_01 B1 with e | e <;> rw [e] <;> rfl
  · rw [tf_f h2, tf_t h3]; rcases tf_01 B1 with e | e <;> rw [e] <;> rfl
  · rw [tf_f h2, tf_f h3]; rcases tf_01 B1 with e | e <;> rw [e] <;> rfl
theorem br_5 {B1 B2 B3 : Prop} : (B2 → B3 → (tf B1 ||| 2) ||| 4 = brA B1 B2 B3) ∧ (B2 → ¬ B3 → (tf B1 ||| 2) ||| 0 = brA B1 B2 B3) ∧ (¬ B2 → B3 → (tf B1 ||| 0) ||| 4 = brA B1 B2 B3) ∧ (¬ B2 → ¬ B3 → (tf B1 ||| 0) ||| 0 = brA B1 B2 B3) := by
  unfold brA
  refine ⟨fun h2 h3 => ?_, fun h2 h3 => ?_, fun h2 h3 => ?_, fun h2 h3 => ?_⟩
  · rw [tf_t h2, tf_t h3]; rcases tf_01 B1 with e | e <;> rw [e] <;> rfl
  · rw [tf_t h2, tf_f h3]; rcases tf_01 B1 with e | e <;> rw [e] <;> rfl
  · rw [tf_f h2, tf_t h3]; rcases tf_01 B1 with e | e <;> rw [e] <;> rfl
  · rw [tf_f h2, tf_f h3]; rcases tf_01 B1 with e | e <;> rw [e] <;> rfl
theorem c_broken {k : Nat} (h : Rl b W Rn Kn Tn Hn Un g I1 J1 I2 J2) (hg : gat I1 J1 W Rn 6 I J) (hk : k ≤ 3) : ∃ r : Int32, C1 (D + 5) 288 [.ref 58, .int (nI k)] I J (.int r) I J ∧ (pkC I1 W Rn (cnd J1 6) k = -1 → r = -1) ∧ ∀ o, lbit (cnd J1 6) o → pkC I1 W Rn (cnd J1 6) k = nI o → r = brk I1 W Rn (cnd J1 6) k o := by
  obtain ⟨g1, g2, g3, g4, g5⟩ := id hg
  have hR := h.rB.2.2.2.2.2
  have cbe : ∀ o, o < Rn → _ := fun o ho => c_behind (D := D + 1) (o := o) h hg ho
  have cev := c_ever (D := D) h hg
  have cbit : ∀ i, lbit (cnd J1 6) i → i < Rn := fun i q => h.cbit q
  obtain ⟨C, hCe⟩ : ∃ C, C = cnd J1 6 := ⟨_, rfl⟩
  rw [← hCe] at g4 cev cbit ⊢
  rw [← hCe] at cbe
  have cp : ∀ k, k ≤ 3 → C1 (D + 4) 281 [.ref 58, .int (nI k), .long C] I J (.int (pkC I1 W Rn C k)) I J := fun k hk => c_pick h hg cbit hk
  have cp3 : C1 (D + 4) 282 [.ref 58, .long C] I J (.int (pkC I1 W Rn C 3)) I J := c_pick3 h hg cbit
  have cpe : C1 (D + 4) 281 [.ref 58, .int (nI k), .long (efC I1 W Rn C)] I J (.int (pkC I1 W Rn (efC I1 W Rn C) k)) I J := c_pick h hg (fun i q => efC_bit hR q) hk
  have hin := pkC_in (I := I1) (W := W) (Rn := Rn) (C := C) (k := k)
  unfold brk
  have cpk := cp k hk
  generalize pkC I1 W Rn C k = f at *
  generalize pkC I1 W Rn C 3 = s at *
  generalize efC I1 W Rn C = E at *
  generalize pkC I1 W Rn E k = f' at *
  rcases hin with e | ⟨o, ho, e⟩
  · refine ⟨-1, mj_mk (e288 _ ?_), fun _ => rfl, fun o q1 q2 => ?_⟩
    · rw [g4]
      exact ⟨trivial, _, _, _, cpk, by rw [if_pos e]⟩
    · have := cbit o q1
      rw [e] at q2
      exact absurd q2.symm (nI_nm1 (by omega))
  · have hoR := cbit o ho
    subst e
    obtain ⟨r4, r5, r6, r7⟩ := br_4 (B1 := s ≠ -1 ∧ s ≠ nI o) (B2 := b2P I1 W Rn C o) (B3 := f' ≠ nI o)
    obtain ⟨ans, hans⟩ : ∃ ans, ans = brA (s ≠ -1 ∧ s ≠ nI o) (b2P I1 W Rn C o) (f' ≠ nI o) := ⟨_, rfl⟩
    rw [← hans] at r4 r5 r6 r7
    refine ⟨ans, mj_mk (e288 _ ?_), fun q => absurd q (nI_nm1 (by omega)), fun o' q1 q2 => ?_⟩
    · rw [g4]
      refine ⟨trivial, _, _, _, cpk, ?_⟩
      rw [if_neg (nI_nm1 (by omega)), g4]
      refine ⟨trivial, _, _, _, cp3, ?_⟩
      have go : ∀ B : Prop, (B ↔ s ≠ -1 ∧ s ≠ nI o) → E1 288 (D + 4) (fun q => q = (.int ans, (I, J, mj_R1))) 43 [(0, .ref 58), (1, .int (nI k)), (2, .int (nI o)), (4, .int (tf B))] I J := fun B hB => by
        rw [tf_iff hB]
        refine mj_on (s288_43 _ _ _ ?_)
        refine ⟨trivial, _, _, _, cbe o hoR, if_tf (fun q => ?_) (fun q => ?_)⟩
        · refine mj_on (s288_54 _ _ _ ?_)
          refine ⟨trivial, _, _, _, cev, trivial, _, _, _, cpe, if_i (fun y => ?_) (fun y => ?_)⟩
          · rw [← r5 q (fun z => z y)]
          · rw [← r4 q y]
        · refine mj_on (s288_54 _ _ _ ?_)
          refine ⟨trivial, _, _, _, cev, trivial, _, _, _, cpe, if_i (fun y => ?_) (fun y => ?_)⟩
          · rw [← r7 q (fun z => z y)]
          · rw [← r6 q y]
      refine if_i (fun q => ?_) (fun q => if_i (fun y => ?_) (fun y => ?_))
      · have z := go False ⟨fun z => z.elim, fun z => z.1 q⟩
        rw [tf_f id] at z
        exact z
      · have z := go False ⟨fun z => z.elim, fun z => z.2 y⟩
        rw [tf_f id] at z
        exact z
      · have z := go True ⟨fun _ => ⟨q, y⟩, fun _ => trivial⟩
        rw [tf_t trivial] at z
        exact z
    · have := cbit o' q1
      obtain rfl := (nI_eq (by omega) (by omega)).mp q2
      exact hans
end S69
