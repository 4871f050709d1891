/-! standIns -/
section S79
variable {D b W Rn Kn Tn Hn Un g n : Nat} {I I1 I2 : Nat → Nat → Int32} {J J1 J2 : Nat → Nat → Int64}
theorem pkF_first {s : Nat} (h1 : 1 ≤ s) (hap : ap I W n (iot 0 s) ≤ 2000000) {k : Nat} : ∃ l, (pkF I W n 0 (k + 1) (iot 0 s) (2000000000, none)).2 = some l := by
  have ep : pS I W n (iot 0 s) (2000000000, none) = (ap I W n (iot 0 s), some (iot 0 s)) := pS_t (by show ap I W n (iot 0 s) < 2000000000; omega)
  by_cases c : (pS I W n (iot 0 s) (2000000000, none)).1 ≤ 0
  · rw [pkF_1 c, ep]; exact ⟨_, rfl⟩
  · cases hn : nxt n (iot 0 s) with
    | none => rw [pkF_2 c hn, ep]; exact ⟨_, rfl⟩
    | some t' =>
      rw [pkF_3 c hn, ep]
      exact pkF_so ⟨_, rfl⟩
theorem r_stand {s : Nat} (hB : rB I2 b W Rn) (hn : frP I1 I2 W n) (hs1 : 1 ≤ s) (hs4 : s ≤ 4) (hsn : s ≤ n) : ∃ r I' J', C2 (D + 4) 100 [.ref 0, .int (nI s)] I2 J2 (.int r) I' J' ∧ r = nI (pkF I1 W n 0 (rem n (iot 0 s) + 1) (iot 0 s) (2000000000, none)).1 ∧ J' = J2 ∧ kr I2 I' (pkF I1 W n 0 (rem n (iot 0 s) + 1) (iot 0 s) (2000000000, none)).2 := by
  obtain ⟨n1, n2, n3, n4, n5⟩ := id hn
  obtain ⟨R, hR⟩ : ∃ R, R = pkF I1 W n 0 (rem n (iot 0 s) + 1) (iot 0 s) (2000000000, none) := ⟨_, rfl⟩
  rw [← hR]
  refine mj_cI (e100 _ ?_)
  refine ⟨trivial, _, _, _, r_is, if_tf (fun _ => ?_) (fun q => absurd ⟨Int32.not_lt.mpr ((leI (a := 1) (by decide) (by omega)).mpr hs1), Int32.not_lt.mpr ((leI (b := 4) (by omega) (by decide)).mpr hs4)⟩ q)⟩
  rw [n4, show (24 : Int32) = nI 24 from rfl]
  refine if_lt (by omega) (by omega) (fun q => absurd q (by omega)) (fun _ => if_le (by omega) (by omega) (fun _ => ?_) (fun q => absurd q (by omega)))
  obtain ⟨Q, hQ⟩ : ∃ Q, Q = qI mj_R2 (fun r I' J' => r = nI R.1 ∧ J' = J2 ∧ kr I2 I' R.2) := ⟨_, rfl⟩
  rw [← hQ]
  obtain ⟨s', rfl⟩ : ∃ s', s = s' + 1 := ⟨s - 1, by omega⟩
  have stop : ∀ I, kr I2 I R.2 → E2 100 (D + 3) Q 52 [(0, .ref 0), (1, .int (nI (s' + 1))), (2, .int (nI R.1)), (3, .int 0)] I J2 := fun I q => by
    refine mj_on (s100_52 _ _ _ ?_)
    rw [if_pos rfl, hQ]
    exact ⟨_, _, _, rfl, rfl, rfl, q⟩
  have loop : ∀ r t I st x2, rem n t = r → vld n t → t.length = s' + 1 → arrL I 42 t → kr I2 I st.2 → (st = (2000000000, none) ∧ x2 = -1 ∨ (∃ l, st.2 = some l) ∧ st.1 ≤ 2000000 ∧ x2 = nI st.1) → (st.1 = 0 ∧ R = st ∨ pkF I1 W n 0 (r + 1) t st = R) → E2 100 (D + 3) Q 52 [(0, .ref 0), (1, .int (nI (s' + 1))), (2, .int x2), (3, .int 1)] I J2 := by
    intro r
    induction r using Nat.strongRecOn with
    | _ r ihr =>
      intro t I st x2 h1 h2 h3 h4 h5 h6 h7
      obtain ⟨km1, km2⟩ := km_q h5.1
      have h58 : I 0 58 = nI n := by rw [km2]; exact n4
      obtain ⟨hap, ha2⟩ := r_apart (D := D + 1) (J := J2) (rB_m hB h5.1) hn km1 h58 h3 (by omega) h4 (vld_lt h2)
      -- to the next one
      have next : ∀ I st', I 0 58 = nI n → arrL I 42 t → kr I2 I st'.2 → (∃ l, st'.2 = some l) → st'.1 ≤ 2000000 → (st'.1 = 0 ∧ R = st' ∨ st'.1 ≠ 0 ∧ pS I1 W n t st = st' ∧ pkF I1 W n 0 (r + 1) t st = R) → ∃ r2 I' J', C2 (D + 3) 99 [.ref 0, .int (nI (s' + 1))] I J2 (.int r2) I' J' ∧ E2 100 (D + 3) Q 52 [(0, .ref 0), (1, .int (nI (s' + 1))), (2, .int (nI st'.1)), (3, .int r2)] I' J' := fun I st' g1 g2 g3 g4 g5 g6 => by
        obtain ⟨r0, I', J', y1, y2, rfl, y4, y5⟩ := r_next (D := D + 2) (J := J2) g1 n1 h3 (by omega) (by omega) h2 g2
        subst y2
        refine ⟨_, I', J', y1, ?_⟩
        have hk := kr_next g3 y4
        cases hx : nxt n t with
        | none =>
          rw [tf_f (fun q => q rfl)]
          have eR : R = st' := by
            rcases g6 with g6 | ⟨g6, g7, g8⟩
            · exact g6.2
            · rw [← g8, pkF_2 (by rw [g7]; omega) hx, g7]
          rw [← eR] at hk ⊢
          exact stop I' hk
        | some t' =>
          rw [tf_t (fun q => by cases q)]
          obtain ⟨m1, m2, m3⟩ := (nxt_ok h2).2 t' hx
          refine ihr (rem n t') (by omega) t' I' st' _ rfl m2 (by rw [m3, h3]) (y5 t' hx) hk (Or.inr ⟨g4, g5, rfl⟩) ?_
          rcases g6 with g6 | ⟨g6, g7, g8⟩
          · exact Or.inl g6
          · refine Or.inr ?_
            rw [← g8, pkF_3 (by rw [g7]; omega) hx, g7, show rem n t' + 1 = r by omega]
      have rest : ∀ st', pS I1 W n t st = st' → (st.1 = 0 → st' = st) → (st'.1 = 0 ∧ R = st' ∨ st'.1 ≠ 0 ∧ pS I1 W n t st = st' ∧ pkF I1 W n 0 (r + 1) t st = R) := fun st' e1 e2 => by
        rcases h7 with ⟨h7, h8⟩ | h7
        · have := e2 h7
          rw [this]
          exact Or.inl ⟨h7, h8⟩
        · by_cases z : st'.1 = 0
          · refine Or.inl ⟨z, ?_⟩
            rw [← h7, pkF_1 (by rw [e1]; omega), e1]
          · exact Or.inr ⟨z, e1, h7⟩
      have keep : ap I1 W n t < st.1 → E2 100 (D + 3) Q 74 [(0, .ref 0), (1, .int (nI (s' + 1))), (4, .int (nI (ap I1 W n t)))] I J2 := fun q => by
        refine mj_on (s100_74 _ _ ?_)
        obtain ⟨I', J', hc, rfl, q1, q2, q3⟩ := r_keeps (D := D + 2) (J := J2) h3 (by omega) h4
        refine ⟨trivial, _, _, hc, ?_⟩
        obtain ⟨r2, I'', J'', z1, z2⟩ := next I' (ap I1 W n t, some t) (by rw [q3 58 (by decide)]; exact h58) (fun i x hx => by rw [q2 42 (by decide) (by decide)]; exact h4 i x hx) (kr_keep h5.1 q1 q2 q3) ⟨t, rfl⟩ ha2 (rest _ (pS_t q) (fun z => absurd q (by omega)))
        exact ⟨trivial, _, _, _, z1, z2⟩
      refine mj_on (s100_52 _ _ _ ?_)
      rw [if_neg (by decide)]
      refine ⟨trivial, _, _, _, hap, ?_⟩
      rcases h6 with ⟨e1, rfl⟩ | ⟨e1, e2, rfl⟩
      · rw [if_pos rfl]
        exact keep (by rw [e1]; show ap I1 W n t < 2000000000; omega)
      · rw [if_neg (nI_nm1 (by omega))]
        refine if_le (by omega) (by omega) (fun y => ?_) (fun y => keep y)
        obtain ⟨r2, I'', J'', z1, z2⟩ := next I st h58 h4 h5 e1 e2 (rest st (pS_f (by omega)) (fun _ => rfl))
        exact ⟨trivial, _, _, _, z1, z2⟩
  refine lp_up (n := s' + 1) (fun i => ∀ I', k2 I' = k2 I2 → (∀ j, j < i → I' 42 j = nI j) → E2 100 (D + 3) Q 30 [(0, .ref 0), (1, .int (nI (s' + 1))), (2, .int (nI i))] I' J2) (fun i hi ih2 I' hk i2 => ?_) 0 (Nat.zero_le _) I2 rfl (fun j q => absurd q (Nat.not_lt_zero j))
  refine mj_on (s100_30 _ _ ?_)
  rw [nI_1, nI_clamp (by omega)]
  refine if_le (by omega) (by omega) (fun f => ?_) (fun f => ⟨vp_in_nI (by omega) (by decide), ih2 f _ (by rw [k2_up rfl]; exact hk) (fun j hj => by
    by_cases z : j = i
    · rw [z, up_s]
    · rw [up_j z]; exact i2 j (by omega))⟩)
  obtain rfl : i = s' + 1 := by omega
  exact loop _ (iot 0 (s' + 1)) I' (2000000000, none) (-1) rfl (vld_iot (by omega)) iot_len (arrL_iot i2) (kr_k2 hk) (Or.inl ⟨rfl, rfl⟩) (Or.inr hR.symm)
theorem al_standIns {x : Int32} (h : Rl b W Rn Kn Tn Hn Un g I1 J1 I2 J2) : AI 249 100 [.int x] I1 J1 I2 J2 (Rl b W Rn Kn Tn Hn Un g) := by
  obtain ⟨a1, a2, -⟩ := h.N
  rcases (Classical.em (¬ x < 1 ∧ ¬ 4 < x)).symm with ok | ok
  · refine AI.same (-1) (mj_mk (D := 899) (e249 _ ?_)) (mj_mk (D := 899) (e100 _ ?_)) h
    · exact if_i (fun _ => rfl) (fun c => if_i (fun _ => rfl) (fun d => absurd ⟨c, d⟩ ok))
    · exact ⟨trivial, _, _, _, r_is, if_tf (fun f => absurd f ok) (fun _ => rfl)⟩
  obtain ⟨s, hs4, rfl⟩ := nI_of2 (n := 4) (by decide) (fun q => ok.1 (Int32.lt_trans q (by decide))) (Int32.not_lt.mp ok.2)
  have hs1 : 1 ≤ s := (leI (a := 1) (by decide) (by omega)).mp (Int32.not_lt.mp ok.1)
  have rno : (I2 0 58 = -1 ∨ ∃ n, n ≤ 100 ∧ (n < s ∨ 24 < n) ∧ I2 0 58 = nI n) → C2 900 100 [.ref 0, .int (nI s)] I2 J2 (.int (-1)) I2 J2 := fun q => by
    refine mj_mk (D := 899) (e100 _ ⟨trivial, _, _, _, r_is, if_tf (fun _ => ?_) (fun f => absurd ok f)⟩)
    rcases q with q | ⟨n, n1, n2, q⟩
    · rw [q, if_pos]
      rw [Int32.lt_iff_toInt_lt, nI_toInt (by omega)]
      show (-1 : Int) < _
      omega
    · rw [q, show (24 : Int32) = nI 24 from rfl]
      exact if_lt (by omega) (by omega) (fun _ => rfl) (fun y => if_le (by omega) (by omega) (fun z => absurd n2 (by omega)) (fun _ => rfl))
  rcases h.H with ⟨h1, h2, h3⟩ | ⟨n, h1, h2, h3, h4, h5, h6⟩
  · refine AI.same (-1) (mj_mk (D := 899) (e249 _ ?_)) (rno (Or.inl h3)) h
    rw [if_neg ok.1, if_neg ok.2]
    refine ⟨trivial, _, _, _, mj_mk (D := 898) (e242 ?_), if_tf (P := False) (fun q => q.elim) (fun _ => rfl)⟩
    rw [if_pos h1]
    exact mzF id
  have hand : C1 899 242 [.ref 38] I1 J1 (.int (tf True)) I1 J1 := by
    refine mj_mk (D := 898) (e242 ?_)
    rw [if_neg h2]
    exact mzT trivial
  by_cases n24 : s ≤ n ∧ n ≤ 24
  · have hn := h.frP (n := n) n24.2 h3 h4 h6
    obtain ⟨I0, J0, hm, rfl, m1, m2⟩ := c_measure (D := 896) (J := J1) hn
    have hrem : rem n (iot 0 s) + 1 ≤ 20000 := by
      rw [rem_iot (by omega)]
      exact Nat.le_trans (bin_24 _ (by omega) s (by omega)) (by decide)
    obtain ⟨r1, I1', J1', c1, rfl, rfl, c4, c5⟩ := c_pickOf (D := 895) (J := J0) (B := 2000000000) (e := 0) hn m2 n24.1 (by omega) (by decide) (by decide) hrem m1
    obtain ⟨r2, I2', J2', f1, rfl, rfl, f4⟩ := r_stand (D := 896) (J2 := J2) h.rB hn hs1 hs4 n24.1
    have hl : ∀ l, (pkF I1 W n 0 (rem n (iot 0 s) + 1) (iot 0 s) (2000000000, none)).2 = some l → l.length ≤ 16 := fun l q => by
      have := pkF_len (I := I1) (W := W) (n := n) (t := iot 0 s) (e := 0) (k := rem n (iot 0 s) + 1) (st := (2000000000, none)) (vld_iot (by omega)) iot_len (fun l q => by cases q) l q
      omega
    refine ⟨_, I1', J1', I2', J2', mj_mk (D := 899) (e249 _ ?_), f1, kp_Rl h (v := (pkF I1 W n 0 (rem n (iot 0 s) + 1) (iot 0 s) (2000000000, none)).1) c5 f4 hl⟩
    rw [if_neg ok.1, if_neg ok.2]
    refine ⟨trivial, _, _, _, hand, if_tf (fun _ => ?_) (fun q => absurd trivial q)⟩
    rw [h3, show (24 : Int32) = nI 24 from rfl]
    refine if_lt (by omega) (by omega) (fun q => absurd q (by omega)) (fun _ => if_le (by omega) (by omega) (fun _ => ?_) (fun z => absurd z (by omega)))
    rw [show ((0 : Int32)).toNatClampNeg = 0 from rfl, a1]
    exact ⟨vp_in_nI (n := 0) (by decide) (by decide), trivial, _, _, _, mj_mk (D := 898) (e250 _ _ ⟨trivial, _, _, hm, trivial, _, _, _, c1, rfl⟩), rfl⟩
  · refine AI.same (-1) (mj_mk (D := 899) (e249 _ ?_)) (rno (Or.inr ⟨n, h1, by omega, h4⟩)) h
    rw [if_neg ok.1, if_neg ok.2]
    refine ⟨trivial, _, _, _, hand, if_tf (fun _ => ?_) (fun q => absurd trivial q)⟩
    rw [h3, show (24 : Int32) = nI 24 from rfl]
    exact if_lt (by omega) (by omega) (fun _ => rfl) (fun y => if_le (by omega) (by omega) (fun z => absurd ⟨y, z⟩ n24) (fun _ => rfl))
end S79
