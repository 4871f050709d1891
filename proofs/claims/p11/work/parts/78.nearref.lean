/-! near and standIns, the reference; both calls -/
section S78
variable {D b W Rn Kn Tn Hn Un g n : Nat} {I I1 I2 : Nat → Nat → Int32} {J J1 J2 : Nat → Nat → Int64}
theorem r_near {d : Nat} (hB : rB I2 b W Rn) (hn : frP I1 I2 W n) (n16 : n ≤ 16) (hd : d ≤ 9999) : ∃ r I' J', C2 (D + 4) 95 [.ref 0, .int (nI d)] I2 J2 (.int r) I' J' ∧ (nrF I1 W n d (n + 1) 0 = none → r = -1) ∧ (∀ l, nrF I1 W n d (n + 1) 0 = some l → r = nI l.length) ∧ J' = J2 ∧ kr I2 I' (nrF I1 W n d (n + 1) 0) ∧ ∀ l, nrF I1 W n d (n + 1) 0 = some l → l.length ≤ 16 := by
  obtain ⟨n1, n2, n3, n4, n5⟩ := id hn
  obtain ⟨R, hR⟩ : ∃ R, R = nrF I1 W n d (n + 1) 0 := ⟨_, rfl⟩
  rw [← hR]
  refine mj_cI (e95 _ ?_)
  refine ⟨trivial, _, _, _, r_is, if_tf (fun _ => ?_) (fun q => absurd ⟨nI_pos (by omega), Int32.not_lt.mpr ((leI (b := 9999) (by omega) (by decide)).mpr hd)⟩ q)⟩
  rw [n4, if_neg (nI_nm1 (by omega)), show (16 : Int32) = nI 16 from rfl]
  refine if_le (by omega) (by omega) (fun _ => ?_) (fun q => absurd q (by omega))
  obtain ⟨Q, hQ⟩ : ∃ Q, Q = qI mj_R2 (fun r I' J' => (R = none → r = -1) ∧ (∀ l, R = some l → r = nI l.length) ∧ J' = J2 ∧ kr I2 I' R ∧ ∀ l, R = some l → l.length ≤ 16) := ⟨_, rfl⟩
  rw [← hQ]
  refine lp_up (n := n + 1) (fun s => ∀ I, k2 I = k2 I2 → nrF I1 W n d (n + 1 - s) s = R → E2 95 (D + 3) Q 32 [(0, .ref 0), (1, .int (nI d)), (2, .int (nI s))] I J2) (fun s hs ih I hk hr => ?_) 0 (Nat.zero_le _) I2 rfl hR.symm
  have h58 : ∀ {I}, k2 I = k2 I2 → I 0 58 = nI n := fun hk => by rw [k2_at hk rfl]; exact n4
  refine mj_on (s95_32 _ _ ?_)
  rw [h58 hk]
  refine if_lt (by omega) (by omega) (fun c => ?_) (fun c => ?_)
  · have e : s = n + 1 := by omega
    have eR : R = none := by
      rw [← hr, e, Nat.sub_self]
      rfl
    rw [hQ, eR]
    exact ⟨_, _, _, rfl, fun _ => rfl, fun l q => by (cases q), rfl, kr_k2 hk, fun l q => by cases q⟩
  -- no choice of this size
  have none' : ∀ I, k2 I = k2 I2 → (pkF I1 W n d (rem n (iot 0 s) + 1) (iot 0 s) (d + 1, none)).2 = none → E2 95 (D + 3) Q 62 [(0, .ref 0), (1, .int (nI d)), (2, .int (nI s)), (3, .int 0)] I J2 := fun I hk e => by
    refine mj_on (s95_62 _ _ _ ?_)
    rw [if_pos rfl, nI_1]
    exact ih (by omega) I hk (by rw [← hr, nrF_2 c e])
  -- a choice of this size
  have some' : ∀ I t, k2 I = k2 I2 → arrL I 42 t → t.length = s → (pkF I1 W n d (rem n (iot 0 s) + 1) (iot 0 s) (d + 1, none)).2 = some t → ∃ I' J', C2 (D + 3) 98 [.ref 0, .int (nI s)] I J2 .null I' J' ∧ Q (.int (nI s), (I', J', mj_R2)) := fun I t hk ha ht e => by
    obtain ⟨I', J', hc, rfl, q1, q2, q3⟩ := r_keeps (D := D + 2) (J := J2) ht (by omega) ha
    refine ⟨I', J', hc, ?_⟩
    have eR : R = some t := by rw [← hr]; exact nrF_1 c e
    rw [hQ, eR]
    exact ⟨_, _, _, rfl, fun q => by (cases q), fun l q => by (cases q; rw [ht]), rfl, kr_keep (mkI_k2 hk) q1 q2 q3, fun l q => by (cases q; omega)⟩
  refine lp_up (n := s) (fun i => ∀ I', k2 I' = k2 I2 → (∀ j, j < i → I' 42 j = nI j) → E2 95 (D + 3) Q 42 [(0, .ref 0), (1, .int (nI d)), (2, .int (nI s)), (3, .int (nI i))] I' J2) (fun i hi ih2 I' hk i2 => ?_) 0 (Nat.zero_le _) I hk (fun j q => absurd q (Nat.not_lt_zero j))
  refine mj_on (s95_42 _ _ _ ?_)
  rw [nI_1, nI_clamp (by omega)]
  refine if_le (by omega) (by omega) (fun f => ?_) (fun f => ⟨vp_in_nI (by omega) (by decide), ih2 f _ (by rw [k2_up rfl]; exact hk) (fun j hj => by
    by_cases z : j = i
    · rw [z, up_s]
    · rw [up_j z]; exact i2 j (by omega))⟩)
  obtain rfl : i = s := by omega
  by_cases s0 : i = 0
  · subst s0
    have e1 : rem n (iot 0 0) + 1 = 0 + 1 := rfl
    refine mj_on (s95_62 _ _ _ ?_)
    rw [if_neg (by decide), h58 hk]
    rw [if_pos (show nI 0 ≤ 0 by decide)]
    refine if_eq (b := 0) (by omega) (by decide) (fun y => ?_) (fun y => ?_)
    · have ea : ap I1 W n [] < d + 1 := by rw [ap_nil.1 y]; omega
      have ep : pS I1 W n [] (d + 1, none) = (ap I1 W n [], some []) := pS_t ea
      have e : (pkF I1 W n d (rem n (iot 0 0) + 1) (iot 0 0) (d + 1, none)).2 = some [] := by
        show (pkF I1 W n d (0 + 1) [] (d + 1, none)).2 = some []
        rw [pkF_1 (by rw [ep, ap_nil.1 y]; exact Nat.zero_le _), ep]
      obtain ⟨I'', J'', hc, hq⟩ := some' I' [] hk (fun i x q => by cases i <;> cases q) rfl e
      exact ⟨trivial, _, _, hc, hq⟩
    · have ea : ¬ ap I1 W n [] < d + 1 := by rw [ap_nil.2 y]; omega
      have ep : pS I1 W n [] (d + 1, none) = (d + 1, none) := pS_f ea
      have e : (pkF I1 W n d (rem n (iot 0 0) + 1) (iot 0 0) (d + 1, none)).2 = none := by
        show (pkF I1 W n d (0 + 1) [] (d + 1, none)).2 = none
        rw [pkF_2 (by rw [ep]; show ¬ d + 1 ≤ d; omega) rfl, ep]
      refine mj_on (s95_96 _ _ ?_)
      rw [if_pos (show nI 0 ≤ 0 by decide)]
      exact none' I' hk e
  obtain ⟨s', rfl⟩ : ∃ s', i = s' + 1 := ⟨i - 1, by omega⟩
  have loop : ∀ r t I, rem n t = r → vld n t → t.length = s' + 1 → arrL I 42 t → k2 I = k2 I2 → pkF I1 W n d (r + 1) t (d + 1, none) = pkF I1 W n d (rem n (iot 0 (s' + 1)) + 1) (iot 0 (s' + 1)) (d + 1, none) → E2 95 (D + 3) Q 62 [(0, .ref 0), (1, .int (nI d)), (2, .int (nI (s' + 1))), (3, .int 1)] I J2 := by
    intro r
    induction r using Nat.strongRecOn with
    | _ r ihr =>
      intro t I h1 h2 h3 h4 h5 h6
      refine mj_on (s95_62 _ _ _ ?_)
      rw [if_neg (by decide), if_neg (show ¬ nI (s' + 1) ≤ 0 from fun q => absurd ((leI (b := 0) (by omega) (by decide)).mp q) (by omega))]
      obtain ⟨hap, ha2⟩ := r_apart (D := D + 1) (J := J2) (rB_k hB h5) hn (by funext j; exact k2_at h5 rfl) (h58 h5) h3 (by omega) h4 (vld_lt h2)
      refine ⟨trivial, _, _, _, hap, if_lt (by omega) (by omega) (fun y => ?_) (fun y => ?_)⟩
      · have ep : pS I1 W n t (d + 1, none) = (d + 1, none) := pS_f (by show ¬ ap I1 W n t < d + 1; omega)
        have ne : ¬ (pS I1 W n t (d + 1, none)).1 ≤ d := by rw [ep]; show ¬ d + 1 ≤ d; omega
        refine mj_on (s95_96 _ _ ?_)
        rw [if_neg (show ¬ nI (s' + 1) ≤ 0 from fun q => absurd ((leI (b := 0) (by omega) (by decide)).mp q) (by omega))]
        obtain ⟨r0, I', J', g1, rfl, rfl, g4, g5⟩ := r_next (D := D + 2) (J := J2) (h58 h5) n1 h3 (by omega) (by omega) h2 h4
        have hk' : k2 I' = k2 I2 := by
          rw [← h5]
          funext q j
          unfold k2
          by_cases z : q = 42
          · rw [z]; rfl
          · rw [g4 q z]
        refine ⟨trivial, _, _, _, g1, if_tf (fun z => ?_) (fun z => ?_)⟩
        · obtain ⟨t', ht'⟩ := Option.ne_none_iff_exists'.mp z
          obtain ⟨m1, m2, m3⟩ := (nxt_ok h2).2 t' ht'
          refine ihr (rem n t') (by omega) t' I' rfl m2 (by rw [m3, h3]) (g5 t' ht') hk' ?_
          rw [← h6, pkF_3 ne ht', ep, show rem n t' + 1 = r by omega]
        · have nn : nxt n t = none := Classical.byContradiction fun y => z y
          refine none' I' hk' ?_
          rw [← h6, pkF_2 ne nn, ep]
      · have ep : pS I1 W n t (d + 1, none) = (ap I1 W n t, some t) := pS_t (by show ap I1 W n t < d + 1; omega)
        obtain ⟨I', J', hc, hq⟩ := some' I t h5 h4 h3 (by rw [← h6, pkF_1 (by rw [ep]; show ap I1 W n t ≤ d; omega), ep])
        exact ⟨trivial, _, _, hc, hq⟩
  exact loop _ (iot 0 (s' + 1)) I' rfl (vld_iot (by omega)) iot_len (arrL_iot i2) hk rfl
theorem al_near {x : Int32} (h : Rl b W Rn Kn Tn Hn Un g I1 J1 I2 J2) : AI 241 95 [.int x] I1 J1 I2 J2 (Rl b W Rn Kn Tn Hn Un g) := by
  obtain ⟨a1, a2, -⟩ := h.N
  rcases (Classical.em (¬ x < 0 ∧ ¬ 9999 < x)).symm with ok | ok
  · refine AI.same (-1) (mj_mk (D := 899) (e241 _ ?_)) (mj_mk (D := 899) (e95 _ ?_)) h
    · exact if_i (fun _ => rfl) (fun c => if_i (fun _ => rfl) (fun d => absurd ⟨c, d⟩ ok))
    · exact ⟨trivial, _, _, _, r_is, if_tf (fun f => absurd f ok) (fun _ => rfl)⟩
  have rno : (I2 0 58 = -1 ∨ ∃ n, n ≤ 100 ∧ 16 < n ∧ I2 0 58 = nI n) → C2 900 95 [.ref 0, .int x] I2 J2 (.int (-1)) I2 J2 := fun q => by
    refine mj_mk (D := 899) (e95 _ ⟨trivial, _, _, _, r_is, if_tf (fun _ => ?_) (fun f => absurd ok f)⟩)
    rcases q with q | ⟨n, n1, n2, q⟩
    · rw [if_pos q]
    · rw [q, if_neg (nI_nm1 (by omega)), show (16 : Int32) = nI 16 from rfl]
      exact if_le (by omega) (by omega) (fun z => absurd z (by omega)) (fun _ => rfl)
  rcases h.H with ⟨h1, h2, h3⟩ | ⟨n, h1, h2, h3, h4, h5, h6⟩
  · refine AI.same (-1) (mj_mk (D := 899) (e241 _ ?_)) (rno (Or.inl h3)) h
    rw [if_neg ok.1, if_neg ok.2]
    refine ⟨trivial, _, _, _, mj_mk (D := 898) (e242 ?_), if_tf (P := False) (fun q => q.elim) (fun _ => rfl)⟩
    rw [if_pos h1]
    exact mzF id
  have hand : C1 899 242 [.ref 38] I1 J1 (.int (tf True)) I1 J1 := by
    refine mj_mk (D := 898) (e242 ?_)
    rw [if_neg h2]
    exact mzT trivial
  by_cases n16 : n ≤ 16
  · obtain ⟨d, hd, rfl⟩ := nI_of2 (n := 9999) (by decide) ok.1 (Int32.not_lt.mp ok.2)
    have hn := h.frP (n := n) (by omega) h3 h4 h6
    obtain ⟨r1, I1', J1', c1, c2, c3, rfl, v, c5⟩ := c_near (D := 895) (J1 := J1) (d := d) hn n16 hd
    obtain ⟨r2, I2', J2', f1, f2, f3, rfl, f5, f6⟩ := r_near (D := 896) (J2 := J2) (d := d) h.rB hn n16 hd
    have er : r2 = r1 := by
      cases hR : nrF I1 W n d (n + 1) 0 with
      | none => rw [c2 hR, f2 hR]
      | some l => rw [c3 l hR, f3 l hR]
    subst er
    refine ⟨r2, I1', J1', I2', J2', mj_mk (D := 899) (e241 _ ?_), f1, kp_Rl h c5 f5 f6⟩
    rw [if_neg ok.1, if_neg ok.2]
    refine ⟨trivial, _, _, _, hand, if_tf (fun _ => ?_) (fun q => absurd trivial q)⟩
    rw [h3, show (16 : Int32) = nI 16 from rfl]
    refine if_le (by omega) (by omega) (fun _ => ?_) (fun z => absurd z (by omega))
    rw [show ((0 : Int32)).toNatClampNeg = 0 from rfl, a1]
    exact ⟨vp_in_nI (n := 0) (by decide) (by decide), trivial, _, _, _, c1, rfl⟩
  · refine AI.same (-1) (mj_mk (D := 899) (e241 _ ?_)) (rno (Or.inr ⟨n, h1, by omega, h4⟩)) h
    rw [if_neg ok.1, if_neg ok.2]
    refine ⟨trivial, _, _, _, hand, if_tf (fun _ => ?_) (fun q => absurd trivial q)⟩
    rw [h3, show (16 : Int32) = nI 16 from rfl]
    exact if_le (by omega) (by omega) (fun z => absurd z (by omega)) (fun _ => rfl)
end S78
