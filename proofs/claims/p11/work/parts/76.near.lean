/-! near, standIns -/
noncomputable def pS (I : Nat → Nat → Int32) (W n : Nat) (t : List Nat) (st : Nat × Option (List Nat)) : Nat × Option (List Nat) := if ap I W n t < st.1 then (ap I W n t, some t) else st
noncomputable def pkF (I : Nat → Nat → Int32) (W n e : Nat) : Nat → List Nat → Nat × Option (List Nat) → Nat × Option (List Nat)
  | 0, _, st => st
  | k + 1, t, st => if (pS I W n t st).1 ≤ e then pS I W n t st else match nxt n t with
    | none => pS I W n t st
    | some t' => pkF I W n e k t' (pS I W n t st)
section PF
variable {I : Nat → Nat → Int32} {W n e k : Nat} {t : List Nat} {st : Nat × Option (List Nat)}
theorem pkF_1 (h : (pS I W n t st).1 ≤ e) : pkF I W n e (k + 1) t st = pS I W n t st := if_pos h
theorem pkF_2 (h : ¬ (pS I W n t st).1 ≤ e) (h2 : nxt n t = none) : pkF I W n e (k + 1) t st = pS I W n t st := by
  show (if _ then _ else match nxt n t with | none => pS I W n t st | some t' => pkF I W n e k t' (pS I W n t st)) = _
  rw [if_neg h, h2]
theorem pkF_3 {t' : List Nat} (h : ¬ (pS I W n t st).1 ≤ e) (h2 : nxt n t = some t') : pkF I W n e (k + 1) t st = pkF I W n e k t' (pS I W n t st) := by
  show (if _ then _ else match nxt n t with | none => pS I W n t st | some t' => pkF I W n e k t' (pS I W n t st)) = _
  rw [if_neg h, h2]
theorem pS_t (h : ap I W n t < st.1) : pS I W n t st = (ap I W n t, some t) := if_pos h
theorem pS_f (h : ¬ ap I W n t < st.1) : pS I W n t st = st := if_neg h
theorem ap_lt : ap I W n t < 2 ^ 31 := Nat.lt_of_le_of_lt (mxN_le (B := 2000000000) (fun _ => mn_le) n) (by decide)
theorem pS_lt (h : st.1 < 2 ^ 31) : (pS I W n t st).1 < 2 ^ 31 := by
  by_cases c : ap I W n t < st.1
  · rw [pS_t c]; exact ap_lt
  · rw [pS_f c]; exact h
/-- whatever is chosen is as long as what was begun with -/
theorem pkF_len {s : Nat} : ∀ {k : Nat} {t : List Nat} {st : Nat × Option (List Nat)}, vld n t → t.length = s → (∀ l, st.2 = some l → l.length = s) → ∀ l, (pkF I W n e k t st).2 = some l → l.length = s
  | 0, _, _, _, _, h => h
  | k + 1, t, st, hv, ht, h => by
    have h1 : ∀ l, (pS I W n t st).2 = some l → l.length = s := by
      by_cases c : ap I W n t < st.1
      · rw [pS_t c]
        intro l q
        cases q
        exact ht
      · rw [pS_f c]; exact h
    by_cases c : (pS I W n t st).1 ≤ e
    · rw [pkF_1 c]; exact h1
    · cases hn : nxt n t with
      | none => rw [pkF_2 c hn]; exact h1
      | some t' =>
        rw [pkF_3 c hn]
        obtain ⟨-, q2, q3⟩ := (nxt_ok hv).2 t' hn
        exact pkF_len q2 (by rw [q3, ht]) h1
/-- of a search that ends with the first one -/
theorem pkF_nr {d : Nat} : ∀ {k : Nat} {t : List Nat}, pkF I W n d k t (d + 1, none) = (d + 1, none) ∨ ∃ v l, v ≤ d ∧ pkF I W n d k t (d + 1, none) = (v, some l)
  | 0, _ => Or.inl rfl
  | k + 1, t => by
    by_cases c : ap I W n t < d + 1
    · have e : pS I W n t (d + 1, none) = (ap I W n t, some t) := pS_t c
      refine Or.inr ⟨ap I W n t, t, by omega, ?_⟩
      rw [pkF_1 (by rw [e]; show ap I W n t ≤ d; omega), e]
    · have e : pS I W n t (d + 1, none) = (d + 1, none) := pS_f c
      have c2 : ¬ (pS I W n t (d + 1, none)).1 ≤ d := by rw [e]; show ¬ d + 1 ≤ d; omega
      cases hn : nxt n t with
      | none => rw [pkF_2 c2 hn, e]; exact Or.inl rfl
      | some t' => rw [pkF_3 c2 hn, e]; exact pkF_nr
/-- of a search for the least -/
theorem pkF_so : ∀ {k : Nat} {t : List Nat} {st : Nat × Option (List Nat)}, (∃ l, st.2 = some l) → ∃ l, (pkF I W n e k t st).2 = some l
  | 0, _, _, h => h
  | k + 1, t, st, h => by
    have h1 : ∃ l, (pS I W n t st).2 = some l := by
      by_cases c : ap I W n t < st.1
      · rw [pS_t c]; exact ⟨t, rfl⟩
      · rw [pS_f c]; exact h
    by_cases c : (pS I W n t st).1 ≤ e
    · rw [pkF_1 c]; exact h1
    · cases hn : nxt n t with
      | none => rw [pkF_2 c hn]; exact h1
      | some t' => rw [pkF_3 c hn]; exact pkF_so h1
end PF
theorem vld_lt {n : Nat} {t : List Nat} (h : vld n t) : ∀ x ∈ t, x < n := fun x hx => by
  obtain ⟨i, hi, rfl⟩ := List.getElem_of_mem hx
  have := vld_at h (List.getElem?_eq_getElem hi)
  omega
section S76
variable {D b W Rn Kn Tn Hn Un g n : Nat} {I I1 I2 : Nat → Nat → Int32} {J J1 J2 : Nat → Nat → Int64}
def kq (I1 I : Nat → Nat → Int32) (st : Nat × Option (List Nat)) : Prop := mkI ([50] ++ sc1) ([(47, 4)] ++ sl1) I = mkI ([50] ++ sc1) ([(47, 4)] ++ sl1) I1 ∧ (st.2 = none → I 47 4 = I1 47 4 ∧ I 50 = I1 50) ∧ ∀ l, st.2 = some l → kpC I l
theorem mk_q {D : List Nat} {E : List (Nat × Nat)} {q : Nat} {I I' I1 : Nat → Nat → Int32} (hq : D.elem q = true) (h : mkI D E I = mkI D E I1) (h2 : ∀ k, k ≠ q → I' k = I k) : mkI D E I' = mkI D E I1 := by
  rw [← h]
  refine mkI_of fun k j h1 _ => ?_
  rw [h2 k (fun e => by rw [e, hq] at h1; cases h1)]
theorem c_pickOf {s B e : Nat} (hn : frP I1 I2 W n) (hd : dis I1 W n I) (hs : s ≤ n) (hs2 : s ≤ 16) (hB : B < 2 ^ 31) (he : e < 2 ^ 31) (hr : rem n (iot 0 s) + 1 ≤ 20000) (hk : k1 I = k1 I1) : ∃ r I' J', C1 (D + 3) 246 [.ref 47, .int (nI s), .int (nI B), .int (nI e)] I J (.int r) I' J' ∧ r = nI (pkF I1 W n e (rem n (iot 0 s) + 1) (iot 0 s) (B, none)).1 ∧ J' = J ∧ dis I1 W n I' ∧ kq I1 I' (pkF I1 W n e (rem n (iot 0 s) + 1) (iot 0 s) (B, none)) := by
  obtain ⟨n1, n2, n3, n4, n5⟩ := id hn
  obtain ⟨R, hR⟩ : ∃ R, R = pkF I1 W n e (rem n (iot 0 s) + 1) (iot 0 s) (B, none) := ⟨_, rfl⟩
  rw [← hR]
  refine mj_cI (e246 _ _ _ ?_)
  obtain ⟨Q, hQ⟩ : ∃ Q, Q = qI mj_R1 (fun r I' J' => r = nI R.1 ∧ J' = J ∧ dis I1 W n I' ∧ kq I1 I' R) := ⟨_, rfl⟩
  rw [← hQ]
  have stop : ∀ I x, dis I1 W n I → kq I1 I R → E1 246 (D + 2) Q 33 [(0, .ref 47), (1, .int (nI s)), (3, .int (nI e)), (4, .int (nI R.1)), (5, .int 0), (6, .int x)] I J := fun I x q1 q2 => by
    refine mj_on (s246_33 _ _ _ _ _ ?_)
    have z : Q (.int (nI R.1), (I, J, mj_R1)) := by rw [hQ]; exact ⟨_, _, _, rfl, rfl, rfl, q1, q2⟩
    exact if_i (fun _ => z) (fun _ => by rw [if_pos rfl]; exact z)
  have dis_up : ∀ I I', dis I1 W n I → (∀ q, q ≠ 49 → I' q = I q) → dis I1 W n I' := fun I I' q1 q2 => ⟨by rw [q2 47 (by decide)]; exact q1.1, fun a c ha hc => by rw [q2 48 (by decide)]; exact q1.2 a c ha hc⟩
  have kq_up : ∀ I I' st, kq I1 I st → (∀ q, q ≠ 49 → I' q = I q) → kq I1 I' st := fun I I' st q1 q2 => by
    refine ⟨mk_q (q := 49) rfl q1.1 q2, fun w => ?_, fun l w => ?_⟩
    · rw [q2 47 (by decide), q2 50 (by decide)]; exact q1.2.1 w
    · refine ⟨by rw [q2 47 (by decide)]; exact (q1.2.2 l w).1, fun i x y => by rw [q2 50 (by decide)]; exact (q1.2.2 l w).2 i x y⟩
  have loop : ∀ r t I st turn, rem n t = r → vld n t → t.length = s → arrL I 49 t → dis I1 W n I → kq I1 I st → st.1 < 2 ^ 31 → turn + r + 1 ≤ 20000 → pkF I1 W n e (r + 1) t st = R → E1 246 (D + 2) Q 33 [(0, .ref 47), (1, .int (nI s)), (3, .int (nI e)), (4, .int (nI st.1)), (5, .int 1), (6, .int (nI turn))] I J := by
    intro r
    induction r using Nat.strongRecOn with
    | _ r ih =>
      intro t I st turn h1 h2 h3 h4 h5 h6 h7 h8 h9
      refine mj_on (s246_33 _ _ _ _ _ ?_)
      rw [show (20000 : Int32) = nI 20000 from rfl]
      refine if_le (by omega) (by omega) (fun q => absurd q (by omega)) (fun _ => ?_)
      rw [if_neg (by decide)]
      obtain ⟨x, hc, x1, x2, x3⟩ := c_far (D := D) (J := J) hn h5 h3 hs2 h4 (vld_lt h2) h7
      have after : ∀ I st', st' = pS I1 W n t st → st'.1 < 2 ^ 31 → arrL I 49 t → dis I1 W n I → kq I1 I st' → E1 246 (D + 2) Q 85 [(0, .ref 47), (1, .int (nI s)), (3, .int (nI e)), (4, .int (nI st'.1)), (6, .int (nI turn))] I J := fun I st' g1 g2 g3 g4 g5 => by
        refine mj_on (s246_85 _ _ _ _ ?_)
        rw [nI_1]
        refine if_le g2 he (fun y => ?_) (fun y => ?_)
        · have eR : st' = R := by rw [← h9, pkF_1 (by rw [← g1]; exact y), g1]
          rw [eR] at g5 ⊢
          exact stop I _ g4 g5
        · obtain ⟨r0, I', J', k1', k2', k3', k4', k5'⟩ := c_moveOn (D := D + 1) (J := J) g4.1 n1 h3 hs2 hs h2 g3
          subst k3'
          rw [k2'] at k1'
          have ny : ¬ (pS I1 W n t st).1 ≤ e := by rw [← g1]; omega
          refine ⟨trivial, _, _, _, k1', if_tf (fun q => ?_) (fun q => ?_)⟩
          · obtain ⟨t', ht'⟩ := Option.ne_none_iff_exists'.mp q
            obtain ⟨m1, m2, m3⟩ := (nxt_ok h2).2 t' ht'
            refine ih (rem n t') (by omega) t' I' st' (turn + 1) rfl m2 (by rw [m3, h3]) (k5' t' ht') (dis_up _ _ g4 k4') (kq_up _ _ _ g5 k4') g2 (by omega) ?_
            rw [← h9, pkF_3 ny ht', g1, show rem n t' + 1 = r by omega]
          · have nn : nxt n t = none := Classical.byContradiction fun z => q z
            have eR : st' = R := by rw [← h9, pkF_2 ny nn, g1]
            rw [eR] at g5 ⊢
            exact stop I' _ (dis_up _ _ g4 k4') (kq_up _ _ _ g5 k4')
      refine ⟨trivial, _, _, _, hc, if_le h7 x1 (fun y => ?_) (fun y => ?_)⟩
      · have na : ¬ ap I1 W n t < st.1 := fun q => by
          have := x2 q
          omega
        exact after I st (pS_f na).symm h7 h4 h5 h6
      · have ya : ap I1 W n t < st.1 := Classical.byContradiction fun q => by
          have := x3 q
          omega
        have ex := x2 ya
        rw [ex]
        refine ⟨⟨by decide, by decide, nI_pos (by omega), ?_, ?_⟩, ?_⟩
        · rw [nI_clamp (by omega)]
          show 0 + s ≤ 16
          omega
        · rw [nI_clamp (by omega)]
          show 0 + s ≤ 16
          omega
        rw [nI_clamp (by omega), show ((0 : Int32)).toNatClampNeg = 0 from rfl]
        have cp0 : ∀ q j, q ≠ 50 → mj_cp (mj_up I 47 4 (nI s)) 49 0 50 0 s q j = mj_up I 47 4 (nI s) q j := fun q j hq => if_neg hq
        have cp1 : ∀ j, j < s → mj_cp (mj_up I 47 4 (nI s)) 49 0 50 0 s 50 j = I 49 j := fun j hj => by
          have e1 : mj_cp (mj_up I 47 4 (nI s)) 49 0 50 0 s 50 j = mj_up I 47 4 (nI s) 49 (0 + (j - 0)) := by
            show (if (50 : Nat) = 50 then (if 0 ≤ j ∧ j < 0 + s then mj_up I 47 4 (nI s) 49 (0 + (j - 0)) else mj_up I 47 4 (nI s) 50 j) else mj_up I 47 4 (nI s) 50 j) = _
            rw [if_pos rfl, if_pos ⟨Nat.zero_le _, by omega⟩]
          rw [e1, up_c (by decide), Nat.sub_zero, Nat.zero_add]
        refine after _ (ap I1 W n t, some t) (pS_t ya).symm ap_lt (fun i x hx => ?_) ⟨?_, fun a c ha hc => ?_⟩ ⟨?_, fun q => by (cases q), fun l q => ?_⟩
        · rw [cp0 49 i (by decide), up_c (by decide)]
          exact h4 i x hx
        · rw [cp0 47 0 (by decide), up_j (by decide)]
          exact h5.1
        · rw [cp0 48 _ (by decide), up_c (by decide)]
          exact h5.2 a c ha hc
        · rw [← h6.1]
          refine mkI_of fun q j q1 q2 => ?_
          rw [cp0 q j (fun z => by rw [z] at q1; cases q1)]
          by_cases z : q = 47 ∧ j = 4
          · rw [z.1, z.2] at q2; cases q2
          · rw [up_n (by omega)]
        · cases q
          refine ⟨by rw [cp0 47 4 (by decide), up_s, h3], fun i x hx => ?_⟩
          have hi : i < s := by
            have := (List.getElem?_eq_some_iff.mp hx).1
            omega
          rw [cp1 i hi]
          exact h4 i x hx
  have k0 : kq I1 I ((B, none) : Nat × Option (List Nat)) := ⟨by
    refine mkI_of fun q j q1 q2 => ?_
    refine k1_at hk ?_
    rw [elem_app] at q1 q2
    simp only [Bool.or_eq_false_iff] at q1 q2
    unfold co1
    rw [q1.2, q2.2]
    rfl, fun _ => ⟨k1_at hk rfl, by funext j; exact k1_at hk rfl⟩, fun l q => by cases q⟩
  refine lp_up (n := s) (fun i => ∀ I', (∀ q, q ≠ 49 → I' q = I q) → (∀ j, j < i → I' 49 j = nI j) → E1 246 (D + 2) Q 9 [(0, .ref 47), (1, .int (nI s)), (3, .int (nI e)), (4, .int (nI B)), (5, .int 1), (6, .int (nI i))] I' J) (fun i hi ih I' i1 i2 => ?_) 0 (Nat.zero_le _) I (fun _ _ => rfl) (fun j q => absurd q (Nat.not_lt_zero j))
  refine mj_on (s246_9 _ _ _ _ _ ?_)
  rw [nI_1, nI_clamp (by omega)]
  refine if_le (by omega) (by omega) (fun c => ?_) (fun c => ⟨vp_in_nI (by omega) (by decide), ih c _ (fun q hq => by rw [up_c hq]; exact i1 q hq) (fun j hj => ?_)⟩)
  · obtain rfl : i = s := by omega
    exact loop _ (iot 0 i) I' (B, none) 0 rfl (vld_iot (by omega)) iot_len (arrL_iot i2) (dis_up _ _ hd i1) (kq_up _ _ _ k0 i1) hB (by omega) hR.symm
  · by_cases z : j = i
    · rw [z, up_s]
    · rw [up_j z]; exact i2 j (by omega)
end S76
