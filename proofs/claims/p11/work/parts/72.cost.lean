/-! cost -/
theorem lNtI {m : Nat} (h : m < 2 ^ 62) : (lN m).toInt = m := by
  have h64 : m < 2 ^ 64 := Nat.lt_of_lt_of_le h (by decide)
  show (lN m).toBitVec.toInt = _
  have e := wb_tn h64
  rw [BitVec.toInt_eq_toNat_of_lt (by rw [e]; omega), e]
theorem cmp_lt {x y : Int64} : (lg_cmp x y < 0 ↔ x.toInt < y.toInt) ∧ (lg_cmp x y ≤ 0 ↔ x.toInt ≤ y.toInt) := by
  unfold lg_cmp
  by_cases h : x > y
  · rw [if_pos h]
    have h : y.toInt < x.toInt := Int64.lt_iff_toInt_lt.mp h
    exact ⟨⟨fun q => absurd q (by decide), fun q => absurd q (by omega)⟩, ⟨fun q => absurd q (by decide), fun q => absurd q (by omega)⟩⟩
  · rw [if_neg h]
    have h' : ¬ y.toInt < x.toInt := fun q => h (Int64.lt_iff_toInt_lt.mpr q)
    by_cases e : x = y
    · rw [if_pos e, e]
      exact ⟨⟨fun q => absurd q (by decide), fun q => absurd q (by omega)⟩, ⟨fun _ => Int.le_refl _, fun _ => by decide⟩⟩
    · rw [if_neg e]
      have e' : x.toInt ≠ y.toInt := fun q => e (Int64.toInt_inj.mp q)
      exact ⟨⟨fun _ => by omega, fun _ => by decide⟩, ⟨fun _ => by omega, fun _ => by decide⟩⟩
theorem lNmu {a c : Nat} : lN a * lN c = lN (a * c) := by
  apply wb_inj
  rw [Int64.toBitVec_mul]
  apply BitVec.eq_of_toNat_eq
  rw [wb_tb, wb_tb, wb_tb, BitVec.toNat_mul, BitVec.toNat_ofNat, BitVec.toNat_ofNat, BitVec.toNat_ofNat, ← Nat.mul_mod]
theorem lNsu {a c : Nat} (h : c ≤ a) (ha : a < 2 ^ 62) : lN a - lN c = lN (a - c) := by
  rw [← Int64.toInt_inj, Int64.toInt_sub, lNtI ha, lNtI (by omega), lNtI (by omega), Int.bmod_eq_of_le (by omega) (by omega)]
  omega
theorem lNdi {a c : Nat} (ha : a < 2 ^ 62) (hc : c < 2 ^ 62) : lN a / lN c = lN (a / c) := by
  have hq : a / c ≤ a := Nat.div_le_self _ _
  rw [← Int64.toInt_inj, Int64.toInt_div, lNtI ha, lNtI hc, lNtI (by omega), ← Int.ofNat_tdiv]
  generalize a / c = q at *
  rw [Int.bmod_eq_of_le (by omega) (by omega)]
theorem nI_div {a c : Nat} (ha : a < 2 ^ 30) (hc : c < 2 ^ 30) : nI a / nI c = nI (a / c) := by
  have hq : a / c ≤ a := Nat.div_le_self _ _
  rw [← Int32.toInt_inj, Int32.toInt_div, nI_toInt (by omega), nI_toInt (by omega), nI_toInt (n := a / c) (by omega), ← Int.ofNat_tdiv]
  generalize a / c = q at *
  rw [Int.bmod_eq_of_le (by omega) (by omega)]
theorem nI_toL {m : Nat} (h : m < 2 ^ 30) : (nI m).toInt64 = lN m := by
  rw [← Int64.toInt_inj, Int32.toInt_toInt64, nI_toInt (by omega), lNtI (by omega)]
theorem sub_dm (a c : Nat) : a - a / c * c = a % c := by
  have := Nat.div_add_mod a c
  rw [Nat.mul_comm] at this
  omega
def coS (a c : Int) (s : Nat × Nat) : Nat × Nat := if a ≤ 0 ∨ c ≤ 0 then s else if s.2 = 0 ∨ c.toNat * s.2 < s.1 * a.toNat then (c.toNat, a.toNat) else s
def coA (a c : Nat → Int) : Nat → Nat × Nat
  | 0 => (0, 0)
  | j + 1 => coS (a j) (c j) (coA a c j)
def coB (s : Nat × Nat) : Prop := s.1 ≤ 2000000 ∧ s.2 ≤ 2000000 ∧ (s.2 ≠ 0 → 1 ≤ s.1)
theorem coS_b {a c : Int} {s : Nat × Nat} (ha : a ≤ 2000000) (hc : c ≤ 2000000) (h : coB s) : coB (coS a c s) := by
  unfold coS
  split
  · exact h
  · split
    · refine ⟨?_, ?_, fun _ => ?_⟩
      · show c.toNat ≤ _; omega
      · show a.toNat ≤ _; omega
      · show 1 ≤ c.toNat; omega
    · exact h
section S72
variable {D b W Rn Kn Tn Hn Un g : Nat} {I I1 I2 : Nat → Nat → Int32} {J J1 J2 : Nat → Nat → Int64}
theorem c_gcd {x y : Nat} (hx : 1 ≤ x) (hx2 : x ≤ 2000000) (hy : y ≤ 2000000) : C1 (D + 2) 253 [.long (lN x), .long (lN y)] I J (.long (lN (Nat.gcd x y))) I J := by
  refine mj_mk (e253 _ _ ?_)
  obtain ⟨v, hv⟩ : ∃ v, v = Nat.gcd x y := ⟨_, rfl⟩
  rw [← hv]
  have fin : ∀ a, 1 ≤ a → a ≤ 2000000 → C1 (D + 1) 5 [.long 1, .long (lN a)] I J (.long (lN a)) I J := fun a h1 h2 => by
    refine mj_mk (e5 _ _ ?_)
    refine if_i (fun _ => rfl) (fun q => ?_)
    have : ¬ lg_cmp (lN 1) (lN a) < 0 := q
    rw [cmp_lt.1, lNtI (by decide), lNtI (by omega)] at this
    have e : a = 1 := by omega
    rw [e]
    rfl
  have key : ∀ t i a c, c < 2 ^ t → i + 2 * t ≤ 200 → 1 ≤ a → a ≤ 2000000 → c ≤ 2000000 → Nat.gcd a c = v → E1 253 (D + 1) (fun q => q = (.long (lN v), (I, J, mj_R1))) 9 [(4, .long (lN a)), (6, .long (lN c)), (8, .int (nI i))] I J := by
    intro t
    induction t with
    | zero =>
      intro i a c h1 h2 h3 h4 h5 h6
      obtain rfl : c = 0 := by omega
      rw [Nat.gcd_zero_right] at h6
      refine mj_on (s253_9 _ _ _ ?_)
      have z : lg_cmp (lN 0) 0 ≤ 0 := cmp_lt.2.mpr (Int.le_refl _)
      refine if_i (fun _ => ⟨trivial, _, _, _, fin a h3 h4, by rw [h6]⟩) (fun _ => ?_)
      rw [if_pos z]
      exact ⟨trivial, _, _, _, fin a h3 h4, by rw [h6]⟩
    | succ t ih =>
      intro i a c h1 h2 h3 h4 h5 h6
      refine mj_on (s253_9 _ _ _ ?_)
      rw [show (200 : Int32) = nI 200 from rfl]
      refine if_le (by omega) (by omega) (fun q => absurd q (by omega)) (fun _ => if_i (fun q => ?_) (fun q => ?_))
      · have q : lg_cmp (lN c) (lN 0) ≤ 0 := q
        rw [cmp_lt.2, lNtI (by omega), lNtI (by decide)] at q
        obtain rfl : c = 0 := by omega
        rw [Nat.gcd_zero_right] at h6
        exact ⟨trivial, _, _, _, fin a h3 h4, by rw [h6]⟩
      have q : ¬ lg_cmp (lN c) (lN 0) ≤ 0 := q
      rw [cmp_lt.2, lNtI (by omega), lNtI (by decide)] at q
      have nz : ∀ c, 0 < c → c ≤ 2000000 → ¬ lN c = 0 := fun c h1 h2 e => by
        have := congrArg Int64.toInt e
        rw [lNtI (by omega)] at this
        have e0 : ((0 : Int64)).toInt = 0 := rfl
        omega
      have dm : ∀ a c, a ≤ 2000000 → c ≤ 2000000 → lN a - lN a / lN c * lN c = lN (a % c) := fun a c h1 h2 => by
        rw [lNdi (by omega) (by omega), lNmu, lNsu (Nat.div_mul_le_self a c) (by omega), sub_dm]
      refine ⟨nz c (by omega) h5, ?_⟩
      rw [dm a c h4 h5, nI_1]
      have hr : a % c < c := Nat.mod_lt _ (by omega)
      have hg : Nat.gcd c (a % c) = v := by rw [← h6, Nat.gcd_comm a c, Nat.gcd_rec c a, Nat.gcd_comm]
      generalize a % c = r at *
      refine mj_on (s253_9 _ _ _ ?_)
      rw [show (200 : Int32) = nI 200 from rfl]
      refine if_le (by omega) (by omega) (fun q => absurd q (by omega)) (fun _ => if_i (fun q2 => ?_) (fun q2 => ?_))
      · have q2 : lg_cmp (lN r) (lN 0) ≤ 0 := q2
        rw [cmp_lt.2, lNtI (by omega), lNtI (by decide)] at q2
        obtain rfl : r = 0 := by omega
        rw [Nat.gcd_zero_right] at hg
        exact ⟨trivial, _, _, _, fin c (by omega) h5, by rw [hg]⟩
      have q2 : ¬ lg_cmp (lN r) (lN 0) ≤ 0 := q2
      rw [cmp_lt.2, lNtI (by omega), lNtI (by decide)] at q2
      refine ⟨nz r (by omega) (by omega), ?_⟩
      rw [dm c r h5 (by omega), nI_1]
      have hr2 : c % r < r := Nat.mod_lt _ (by omega)
      have hr3 : c % r + r ≤ c := by
        have e1 := Nat.div_add_mod c r
        have e2 : 1 ≤ c / r := (Nat.one_le_div_iff (by omega)).mpr (by omega)
        have e3 : r * 1 ≤ r * (c / r) := Nat.mul_le_mul_left r e2
        omega
      have hg2 : Nat.gcd r (c % r) = v := by rw [← hg, Nat.gcd_comm c r, Nat.gcd_rec r c, Nat.gcd_comm]
      exact ih (i + 1 + 1) r (c % r) (by rw [Nat.pow_succ] at h1; omega) (by omega) (by omega) (by omega) (by omega) hg2
  exact key 21 0 x y (by omega) (by omega) hx hx2 hy hv.symm
theorem r_gcd {x y : Nat} (hx2 : x ≤ 2000000) (hy : y ≤ 2000000) : C2 (D + 1) 103 [.int (nI x), .int (nI y)] I J (.int (nI (Nat.gcd x y))) I J := by
  refine mj_mk (e103 _ _ ?_)
  obtain ⟨v, hv⟩ : ∃ v, v = Nat.gcd x y := ⟨_, rfl⟩
  rw [← hv]
  have key : ∀ c a, a ≤ 2000000 → c ≤ 2000000 → Nat.gcd a c = v → E2 103 D (fun q => q = (.int (nI v), (I, J, mj_R2))) 4 [(2, .int (nI a)), (3, .int (nI c))] I J := by
    intro c
    induction c using Nat.strongRecOn with
    | _ c ih =>
      intro a h4 h5 h6
      refine mj_on (s103_4 _ _ ?_)
      refine if_le (b := 0) (by omega) (by decide) (fun q => ?_) (fun q => ⟨nI_ne0 (by omega) (by omega), ?_⟩)
      · obtain rfl : c = 0 := by omega
        rw [Nat.gcd_zero_right] at h6
        rw [h6]
      · have hr : a % c < c := Nat.mod_lt _ (by omega)
        rw [nI_div (by omega) (by omega), pk_mul, pk_sub (Nat.div_mul_le_self a c), sub_dm]
        exact ih (a % c) hr c h5 (by omega) (by rw [← h6, Nat.gcd_comm a c, Nat.gcd_rec c a, Nat.gcd_comm])
  exact key y x hx2 hy hv.symm
theorem al_cost {x1 x2 x3 x4 : Int32} (h : Rl b W Rn Kn Tn Hn Un g I1 J1 I2 J2) : AI 252 102 [.int x1, .int x2, .int x3, .int x4] I1 J1 I2 J2 (Rl b W Rn Kn Tn Hn Un g) := by
  obtain ⟨a1, a2, -⟩ := h.N
  have hB := h.rB
  have b4 := hB.2.2.2.1
  obtain ⟨m, hm, f1, f2, f3, f4⟩ := h.fr
  rcases (Classical.em ((∃ j, j < m ∧ x1 = nI j) ∧ (∃ j, j < W ∧ x2 = nI j) ∧ (∃ j, j < W ∧ x3 = nI j) ∧ x2 ≠ x3)).symm with all | all
  · refine AI.same (-1) (mj_mk (D := 899) (e252 _ _ _ _ ?_)) (mj_mk (D := 899) (e102 _ _ _ _ ?_)) h
    · refine ⟨trivial, _, _, _, c_fthere f1 hm, if_tf (fun q1 => ?_) (fun _ => rfl)⟩
      refine ⟨trivial, _, _, _, c_there (k := 0) a1 (by omega) (by omega), if_tf (fun q2 => ?_) (fun _ => rfl)⟩
      refine ⟨trivial, _, _, _, c_there (k := 0) a1 (by omega) (by omega), if_tf (fun q3 => ?_) (fun _ => rfl)⟩
      exact if_i (fun _ => rfl) (fun q4 => absurd ⟨q1, q2, q3, q4⟩ all)
    · refine ⟨trivial, _, _, _, f2 898 J2 I2 _ rfl, if_tf (fun q1 => ?_) (fun _ => rfl)⟩
      refine ⟨trivial, _, _, _, r_isWish hB, if_tf (fun q2 => ?_) (fun _ => rfl)⟩
      refine ⟨trivial, _, _, _, r_isWish hB, if_tf (fun q3 => ?_) (fun _ => rfl)⟩
      exact if_i (fun _ => rfl) (fun q4 => absurd ⟨q1, q2, q3, q4⟩ all)
  obtain ⟨⟨k, hk, rfl⟩, ⟨u, hu, rfl⟩, ⟨v, hv, rfl⟩, huv⟩ := id all
  obtain ⟨q1, q2, q3, q4⟩ := all
  obtain ⟨f5, f6⟩ := f4 (by omega)
  have lb : ∀ j, j < m → ∀ w, w < W → ∃ x : Int, -1000000 ≤ x ∧ x ≤ 1000000 ∧ I1 39 (4 * j + w) = iI x := fun j hj w hw => by
    rcases h.H with ⟨h1, h2, h3⟩ | ⟨n, h1, h2, h3, h4, h5, h6⟩
    · rw [f1] at h2
      have := (nI_eq (by omega) (by decide)).mp h2
      omega
    · rw [f1] at h3
      have := (nI_eq (by omega) (by omega)).mp h3
      exact (h6 j (by omega) w hw).2
  obtain ⟨da, hda⟩ : ∃ da : Nat → Int, da = fun j => if j < m then dfz I1 k j u else 0 := ⟨_, rfl⟩
  obtain ⟨dc, hdc⟩ : ∃ dc : Nat → Int, dc = fun j => if j < m then dfz I1 j k v else 0 := ⟨_, rfl⟩
  have da1 : ∀ j, j < m → I1 39 (4 * k + u) - I1 39 (4 * j + u) = iI (da j) ∧ -2000000 ≤ da j ∧ da j ≤ 2000000 := fun j hj => by
    have e : da j = dfz I1 k j u := by rw [hda]; exact if_pos hj
    rw [e]
    exact dfz_at (lb k hk u hu) (lb j hj u hu)
  have dc1 : ∀ j, j < m → I1 39 (4 * j + v) - I1 39 (4 * k + v) = iI (dc j) ∧ -2000000 ≤ dc j ∧ dc j ≤ 2000000 := fun j hj => by
    have e : dc j = dfz I1 j k v := by rw [hdc]; exact if_pos hj
    rw [e]
    exact dfz_at (lb j hj v hv) (lb k hk v hv)
  have cb : ∀ j, j ≤ m → coB (coA da dc j) := by
    intro j
    induction j with
    | zero => intro _; exact ⟨Nat.zero_le _, Nat.zero_le _, fun q => absurd rfl q⟩
    | succ j ih => intro hj; exact coS_b (da1 j (by omega)).2.2 (dc1 j (by omega)).2.2 (ih (by omega))
  obtain ⟨ans, hans⟩ : ∃ ans : Int32, ans = if (coA da dc m).2 = 0 then -1 else if x4 = 0 then nI ((coA da dc m).2 / Nat.gcd (coA da dc m).1 (coA da dc m).2) else nI ((coA da dc m).1 / Nat.gcd (coA da dc m).1 (coA da dc m).2) := ⟨_, rfl⟩
  have gpos : (coA da dc m).2 ≠ 0 → 1 ≤ Nat.gcd (coA da dc m).1 (coA da dc m).2 ∧ Nat.gcd (coA da dc m).1 (coA da dc m).2 ≤ 2000000 := fun e => by
    have := (cb m (Nat.le_refl _)).2.1
    exact ⟨Nat.gcd_pos_of_pos_right _ (by omega), Nat.le_trans (Nat.gcd_le_right _ (by omega)) this⟩
  have nx : ∀ j s, coA da dc j = s → coA da dc (j + 1) = coS (da j) (dc j) s := fun j s e => by rw [← e]; rfl
  have i64 : ∀ z : Int, -2000000 ≤ z → z ≤ 2000000 → ((iI z).toInt64).toInt = z := fun z h1 h2 => by rw [Int32.toInt_toInt64, iI_toInt (by omega) (by omega)]
  refine AI.same ans (mj_mk (D := 899) (e252 _ _ _ _ ?_)) (mj_mk (D := 899) (e102 _ _ _ _ ?_)) h
  · refine ⟨trivial, _, _, _, c_fthere f1 hm, if_tf (fun _ => ?_) (fun q => absurd q1 q)⟩
    refine ⟨trivial, _, _, _, c_there (k := 0) a1 (by omega) (by omega), if_tf (fun _ => ?_) (fun q => absurd q2 q)⟩
    refine ⟨trivial, _, _, _, c_there (k := 0) a1 (by omega) (by omega), if_tf (fun _ => ?_) (fun q => absurd q3 q)⟩
    rw [if_neg huv]
    refine lp_up (n := m) (fun j => E1 252 899 (fun q => q = (.int ans, (I1, J1, mj_R1))) 51 [(0, .ref 0), (1, .int (nI k)), (2, .int (nI u)), (3, .int (nI v)), (4, .int x4), (5, .long (lN (coA da dc j).1)), (7, .long (lN (coA da dc j).2)), (9, .int (nI j))] I1 J1) (fun j hj ih => ?_) 0 (Nat.zero_le _)
    refine mj_on (s252_51 _ _ _ _ _ _ _ ?_)
    rw [f1, nI_1]
    obtain ⟨y1, y2, y3⟩ := cb j hj
    refine if_le (by omega) (by omega) (fun c => ?_) (fun c => ?_)
    · obtain rfl : j = m := by omega
      generalize coA da dc j = s at *
      refine if_i (fun e => ?_) (fun e => ?_)
      · have e := cmp0.mp e
        have := congrArg Int64.toInt e
        rw [lNtI (by omega)] at this
        have e0 : ((0 : Int64)).toInt = 0 := rfl
        rw [hans, if_pos (by omega)]
      · have e2 : s.2 ≠ 0 := fun q => e (by rw [q]; exact cmp0.mpr rfl)
        obtain ⟨z1, z2⟩ := gpos e2
        refine ⟨trivial, _, _, _, c_gcd (y3 e2) y1 y2, ?_⟩
        have gz : ¬ lN (Nat.gcd s.1 s.2) = 0 := fun q => by
          have := congrArg Int64.toInt q
          rw [lNtI (by omega)] at this
          have e0 : ((0 : Int64)).toInt = 0 := rfl
          omega
        rw [if_neg e2] at hans
        refine if_i (fun w => ⟨gz, ?_⟩) (fun w => ⟨gz, ?_⟩)
        · rw [hans, if_pos w, lNdi (by omega) (by omega), lN_i]
        · rw [hans, if_neg w, lNdi (by omega) (by omega), lN_i]
    · obtain ⟨w1, w2, w3⟩ := da1 j c
      obtain ⟨t1, t2, t3⟩ := dc1 j c
      refine ⟨trivial, _, _, _, c_dif (D := 898) (by omega) (by omega) (by omega), trivial, _, _, _, c_dif (D := 898) (by omega) (by omega) (by omega), ?_⟩
      rw [w1, t1]
      have z := ih c
      obtain ⟨s, hs⟩ : ∃ s, s = coA da dc j := ⟨_, rfl⟩
      have es := nx j s hs.symm
      rw [← hs] at y1 y2 y3 ⊢
      unfold coS at es
      refine if_i (fun d => ?_) (fun d => if_i (fun e => ?_) (fun e => ?_))
      · rw [cmp_lt.2, i64 _ w2 w3] at d
        rw [if_pos (Or.inl (show da j ≤ 0 from d))] at es
        rw [es] at z
        exact z
      · rw [cmp_lt.2, i64 _ t2 t3] at e
        rw [if_pos (Or.inr (show dc j ≤ 0 from e))] at es
        rw [es] at z
        exact z
      rw [cmp_lt.2, i64 _ w2 w3] at d
      rw [cmp_lt.2, i64 _ t2 t3] at e
      have d : ¬ da j ≤ 0 := d
      have e : ¬ dc j ≤ 0 := e
      rw [if_neg (by omega)] at es
      rw [iI_toNat (by omega), iI_toNat (by omega), nI_toL (by omega), nI_toL (by omega), lNmu, lNmu]
      have take : s.2 = 0 ∨ (dc j).toNat * s.2 < s.1 * (da j).toNat → E1 252 899 (fun q => q = (.int ans, (I1, J1, mj_R1))) 126 [(0, .ref 0), (1, .int (nI k)), (2, .int (nI u)), (3, .int (nI v)), (4, .int x4), (9, .int (nI j)), (10, .long (lN (da j).toNat)), (12, .long (lN (dc j).toNat))] I1 J1 := fun q => by
        rw [if_pos q] at es
        rw [es] at z
        refine mj_on (s252_126 _ _ _ _ _ _ _ ?_)
        rw [nI_1]
        exact z
      have p1 : (dc j).toNat * s.2 ≤ 2000000 * 2000000 := Nat.mul_le_mul (by omega) y2
      have p2 : s.1 * (da j).toNat ≤ 2000000 * 2000000 := Nat.mul_le_mul y1 (by omega)
      refine if_i (fun q => take (Or.inl ?_)) (fun q => if_i (fun y => take (Or.inr ?_)) (fun y => ?_))
      · have q := cmp0.mp q
        have := congrArg Int64.toInt q
        rw [lNtI (by omega)] at this
        have e0 : ((0 : Int64)).toInt = 0 := rfl
        omega
      · rw [cmp_lt.1, lNtI (by omega), lNtI (by omega)] at y
        omega
      · rw [cmp_lt.1, lNtI (by omega), lNtI (by omega)] at y
        rw [if_neg] at es
        · rw [es] at z
          exact z
        · rintro (w | w)
          · exact q (by rw [w]; exact cmp0.mpr rfl)
          · omega
  · refine ⟨trivial, _, _, _, f2 898 J2 I2 _ rfl, if_tf (fun _ => ?_) (fun q => absurd q1 q)⟩
    refine ⟨trivial, _, _, _, r_isWish hB, if_tf (fun _ => ?_) (fun q => absurd q2 q)⟩
    refine ⟨trivial, _, _, _, r_isWish hB, if_tf (fun _ => ?_) (fun q => absurd q3 q)⟩
    rw [if_neg huv]
    refine lp_up (n := m) (fun j => ∀ x5 x6, ((coA da dc j).2 = 0 ∧ x5 = -1 ∧ x6 = 1 ∨ (coA da dc j).2 ≠ 0 ∧ x5 = nI (coA da dc j).1 ∧ x6 = nI (coA da dc j).2) → E2 102 899 (fun q => q = (.int ans, (I2, J2, mj_R2))) 40 [(0, .ref 0), (1, .int (nI k)), (2, .int (nI u)), (3, .int (nI v)), (4, .int x4), (5, .int x5), (6, .int x6), (7, .int (nI j))] I2 J2) (fun j hj ih x5 x6 hx => ?_) 0 (Nat.zero_le _) (-1) 1 (Or.inl ⟨rfl, rfl, rfl⟩)
    refine mj_on (s102_40 _ _ _ _ _ _ _ ?_)
    rw [f5, nI_1]
    obtain ⟨y1, y2, y3⟩ := cb j hj
    refine if_le (by omega) (by omega) (fun c => ?_) (fun c => ?_)
    · obtain rfl : j = m := by omega
      generalize coA da dc j = s at *
      rcases hx with ⟨e, rfl, rfl⟩ | ⟨e, rfl, rfl⟩
      · rw [if_pos rfl, hans, if_pos e]
      · rw [if_neg (nI_nm1 (by omega))]
        obtain ⟨z1, z2⟩ := gpos e
        refine ⟨trivial, _, _, _, r_gcd y1 y2, ?_⟩
        rw [if_neg e] at hans
        refine if_i (fun w => ⟨nI_ne0 (by omega) (by omega), ?_⟩) (fun w => ⟨nI_ne0 (by omega) (by omega), ?_⟩)
        · rw [hans, if_pos w, nI_div (by omega) (by omega)]
        · rw [hans, if_neg w, nI_div (by omega) (by omega)]
    · obtain ⟨w1, w2, w3⟩ := da1 j c
      obtain ⟨t1, t2, t3⟩ := dc1 j c
      rw [ix4', ix4', ix4', ix4', nI_clamp (by omega), nI_clamp (by omega), nI_clamp (by omega), nI_clamp (by omega), f3 k hk u hu, f3 j c u hu, f3 j c v hv, f3 k hk v hv, w1, t1]
      have z := ih c
      obtain ⟨s, hs⟩ : ∃ s, s = coA da dc j := ⟨_, rfl⟩
      have es := nx j s hs.symm
      rw [← hs] at y1 y2 y3 hx
      unfold coS at es
      have keep : coA da dc (j + 1) = s → E2 102 899 (fun q => q = (.int ans, (I2, J2, mj_R2))) 40 [(0, .ref 0), (1, .int (nI k)), (2, .int (nI u)), (3, .int (nI v)), (4, .int x4), (5, .int x5), (6, .int x6), (7, .int (nI (j + 1)))] I2 J2 := fun q => by
        rw [q] at z
        exact z x5 x6 hx
      refine ⟨vp_in_nI (by omega) (by decide), vp_in_nI (by omega) (by decide), vp_in_nI (by omega) (by decide), vp_in_nI (by omega) (by decide), if_i (fun d => ?_) (fun d => if_i (fun e => ?_) (fun e => ?_))⟩
      · rw [iI_le0 w2 w3] at d
        rw [if_pos (Or.inl d)] at es
        exact keep es
      · rw [iI_le0 t2 t3] at e
        rw [if_pos (Or.inr e)] at es
        exact keep es
      rw [iI_le0 w2 w3] at d
      rw [iI_le0 t2 t3] at e
      rw [if_neg (by omega)] at es
      rw [iI_toNat (by omega), iI_toNat (by omega), nI_toL (by omega), nI_toL (by omega)]
      have take : s.2 = 0 ∨ (dc j).toNat * s.2 < s.1 * (da j).toNat → E2 102 899 (fun q => q = (.int ans, (I2, J2, mj_R2))) 137 [(0, .ref 0), (1, .int (nI k)), (2, .int (nI u)), (3, .int (nI v)), (4, .int x4), (7, .int (nI j)), (8, .int (nI (da j).toNat)), (9, .int (nI (dc j).toNat))] I2 J2 := fun q => by
        rw [if_pos q] at es
        rw [es] at z
        refine mj_on (s102_137 _ _ _ _ _ _ _ ?_)
        rw [nI_1]
        refine z _ _ (Or.inr ⟨?_, rfl, rfl⟩)
        show (da j).toNat ≠ 0
        omega
      have p1 : (dc j).toNat * s.2 ≤ 2000000 * 2000000 := Nat.mul_le_mul (by omega) y2
      have p2 : s.1 * (da j).toNat ≤ 2000000 * 2000000 := Nat.mul_le_mul y1 (by omega)
      rcases hx with ⟨e0, rfl, rfl⟩ | ⟨e0, rfl, rfl⟩
      · rw [if_pos rfl]
        exact take (Or.inl e0)
      · rw [if_neg (nI_nm1 (by omega)), nI_toL (by omega), nI_toL (by omega), lNmu, lNmu]
        refine if_i (fun y => take (Or.inr ?_)) (fun y => keep ?_)
        · rw [cmp_lt.1, lNtI (by omega), lNtI (by omega)] at y
          omega
        · rw [cmp_lt.1, lNtI (by omega), lNtI (by omega)] at y
          rw [if_neg] at es
          · exact es
          · rintro (w | w)
            · exact e0 w
            · omega
end S72
