/-! near and standIns: the calls -/
theorem km_at {D : List Nat} {E : List (Nat × Nat)} {I I' : Nat → Nat → Int32} {q j : Nat} (h : mkI D E I' = mkI D E I) (hc : (D.elem q || E.elem (q, j)) = false) : I' q j = I q j := by
  have e := congrFun (congrFun h q) j
  unfold mkI at e
  rw [hc] at e
  exact e
theorem ap_nil {I : Nat → Nat → Int32} {W n : Nat} : (n = 0 → ap I W n [] = 0) ∧ (n ≠ 0 → ap I W n [] = 2000000000) := by
  constructor
  · rintro rfl
    rfl
  · intro h
    obtain ⟨m, rfl⟩ : ∃ m, n = m + 1 := ⟨n - 1, by omega⟩
    have e : ap I W (m + 1) [] = max (mxN (fun c => mn (fun i => mo I W (([] : List Nat).getD i 0) c) 0) m) 2000000000 := rfl
    rw [e]
    exact Nat.max_eq_right (mxN_le (fun _ => mn_le) m)
noncomputable def nrF (I : Nat → Nat → Int32) (W n d : Nat) : Nat → Nat → Option (List Nat)
  | 0, _ => none
  | k + 1, s => match (pkF I W n d (rem n (iot 0 s) + 1) (iot 0 s) (d + 1, none)).2 with
    | some l => some l
    | none => nrF I W n d k (s + 1)
section S77
variable {D b W Rn Kn Tn Hn Un g n : Nat} {I I1 I2 : Nat → Nat → Int32} {J J1 J2 : Nat → Nat → Int64}
theorem nrF_1 {d s : Nat} {l : List Nat} (hs : s ≤ n) (h : (pkF I W n d (rem n (iot 0 s) + 1) (iot 0 s) (d + 1, none)).2 = some l) : nrF I W n d (n + 1 - s) s = some l := by
  rw [show n + 1 - s = n - s + 1 by omega]
  show (match (pkF I W n d (rem n (iot 0 s) + 1) (iot 0 s) (d + 1, none)).2 with | some l => some l | none => nrF I W n d (n - s) (s + 1)) = _
  rw [h]
theorem nrF_2 {d s : Nat} (hs : s ≤ n) (h : (pkF I W n d (rem n (iot 0 s) + 1) (iot 0 s) (d + 1, none)).2 = none) : nrF I W n d (n + 1 - s) s = nrF I W n d (n + 1 - (s + 1)) (s + 1) := by
  rw [show n + 1 - s = n - s + 1 by omega, show n + 1 - (s + 1) = n - s by omega]
  show (match (pkF I W n d (rem n (iot 0 s) + 1) (iot 0 s) (d + 1, none)).2 with | some l => some l | none => nrF I W n d (n - s) (s + 1)) = _
  rw [h]
def kr (I2 I : Nat → Nat → Int32) (o : Option (List Nat)) : Prop := mkI ([41] ++ sc2) ([(0, 65)] ++ sl2) I = mkI ([41] ++ sc2) ([(0, 65)] ++ sl2) I2 ∧ (o = none → I 0 65 = I2 0 65 ∧ I 41 = I2 41) ∧ ∀ l, o = some l → kpR I l
theorem kq_k1 {v : Nat} (h : kq I1 I (v, none)) : k1 I = k1 I1 := by
  obtain ⟨h1, h2, -⟩ := h
  obtain ⟨h3, h4⟩ := h2 rfl
  funext q j
  unfold k1
  cases hc : co1 q j with
  | false => rfl
  | true =>
    show I q j = I1 q j
    by_cases e : q = 50
    · rw [e, h4]
    by_cases e2 : q = 47 ∧ j = 4
    · rw [e2.1, e2.2, h3]
    refine km_at h1 ?_
    unfold co1 at hc
    rw [elem_app, elem_app]
    have f1 : ([50] : List Nat).elem q = false := by simp [e]
    have f2 : ([(47, 4)] : List (Nat × Nat)).elem (q, j) = false := by simp; omega
    rw [f1, f2]
    simpa using hc
theorem kr_k2 (h : k2 I = k2 I2) : kr I2 I none := ⟨mkI_k2 h, fun _ => ⟨k2_at h rfl, by funext j; exact k2_at h rfl⟩, fun l q => by cases q⟩
theorem kp_Rl {v : Nat} {o : Option (List Nat)} {I1' I2' : Nat → Nat → Int32} (h : Rl b W Rn Kn Tn Hn Un g I1 J1 I2 J2) (h1 : kq I1 I1' (v, o)) (h2 : kr I2 I2' o) (hl : ∀ l, o = some l → l.length ≤ 16) : Rl b W Rn Kn Tn Hn Un g I1' J1 I2' J2 := by
  refine Rl_K h h1.1 rfl h2.1 rfl ?_
  cases o with
  | none =>
    obtain ⟨q1, q2⟩ := h1.2.1 rfl
    obtain ⟨q3, q4⟩ := h2.2.1 rfl
    obtain ⟨m, m1, m2, m3, m4⟩ := h.2.2.2.2.2.2.2.1
    exact ⟨m, m1, by rw [q1, m2], by rw [q3, m3], fun i hi => by rw [q2, q4, m4 i hi]⟩
  | some l =>
    obtain ⟨q1, q2⟩ := h1.2.2 l rfl
    obtain ⟨q3, q4⟩ := h2.2.2 l rfl
    refine ⟨l.length, hl l rfl, q1, q3, fun i hi => ?_⟩
    obtain ⟨x, hx, -, -⟩ := gt_of (l := l) (n := i) hi
    rw [q2 i x hx, q4 i x hx]
theorem rB_m (h : rB I2 b W Rn) (e : mkI ([41] ++ sc2) ([(0, 65)] ++ sl2) I = mkI ([41] ++ sc2) ([(0, 65)] ++ sl2) I2) : rB I b W Rn := by
  obtain ⟨b1, b2, b3, b4, b5, b6⟩ := h
  exact ⟨by rw [km_at e rfl]; exact b1, b2, by rw [km_at e rfl]; exact b3, b4, by rw [km_at e rfl]; exact b5, b6⟩
theorem km_q (e : mkI ([41] ++ sc2) ([(0, 65)] ++ sl2) I = mkI ([41] ++ sc2) ([(0, 65)] ++ sl2) I2) : I 37 = I2 37 ∧ I 0 58 = I2 0 58 := ⟨by funext j; exact km_at e rfl, km_at e rfl⟩
theorem kr_keep {t : List Nat} {I' : Nat → Nat → Int32} (h : mkI ([41] ++ sc2) ([(0, 65)] ++ sl2) I = mkI ([41] ++ sc2) ([(0, 65)] ++ sl2) I2) (h1 : kpR I' t) (h2 : ∀ q, q ≠ 41 → q ≠ 0 → I' q = I q) (h3 : ∀ j, j ≠ 65 → I' 0 j = I 0 j) : kr I2 I' (some t) := by
  refine ⟨?_, fun q => by (cases q), fun l q => by cases q; exact h1⟩
  rw [← h]
  refine mkI_of fun q j q1 q2 => ?_
  by_cases e : q = 0
  · subst e
    refine h3 j fun z => ?_
    rw [z] at q2
    cases q2
  · rw [h2 q (fun z => by rw [z] at q1; cases q1) e]
theorem kr_next {I' : Nat → Nat → Int32} {o : Option (List Nat)} (h : kr I2 I o) (h2 : ∀ q, q ≠ 42 → I' q = I q) : kr I2 I' o := ⟨mk_q (q := 42) rfl h.1 h2, fun q => by rw [h2 0 (by decide), h2 41 (by decide)]; exact h.2.1 q, fun l q => ⟨by rw [h2 0 (by decide)]; exact (h.2.2 l q).1, fun i x y => by rw [h2 41 (by decide)]; exact (h.2.2 l q).2 i x y⟩⟩
theorem Rl.frP (h : Rl b W Rn Kn Tn Hn Un g I1 J1 I2 J2) {n : Nat} (n1 : n ≤ 24) (h3 : I1 38 1 = nI n) (h4 : I2 0 58 = nI n) (h6 : ∀ k, k < n → ∀ w, w < W → I2 37 (4 * k + w) = I1 39 (4 * k + w) ∧ ∃ x : Int, -1000000 ≤ x ∧ x ≤ 1000000 ∧ I1 39 (4 * k + w) = iI x) : frP I1 I2 W n := ⟨n1, h.rB.2.2.2.1, h3, h4, h6⟩
theorem c_near {d : Nat} (hn : frP I1 I2 W n) (n16 : n ≤ 16) (hd : d ≤ 9999) : ∃ r I' J', C1 (D + 4) 243 [.ref 47, .ref 38, .int (nI W), .int (nI d)] I1 J1 (.int r) I' J' ∧ (nrF I1 W n d (n + 1) 0 = none → r = -1) ∧ (∀ l, nrF I1 W n d (n + 1) 0 = some l → r = nI l.length) ∧ J' = J1 ∧ ∃ v, kq I1 I' (v, nrF I1 W n d (n + 1) 0) := by
  obtain ⟨R, hR⟩ : ∃ R, R = nrF I1 W n d (n + 1) 0 := ⟨_, rfl⟩
  rw [← hR]
  refine mj_cI (e243 _ _ ?_)
  obtain ⟨I0, J0, hm, rfl, m1, m2⟩ := c_measure (D := D + 1) (J := J1) hn
  refine ⟨trivial, _, _, hm, ?_⟩
  obtain ⟨Q, hQ⟩ : ∃ Q, Q = qI mj_R1 (fun r I' J' => (R = none → r = -1) ∧ (∀ l, R = some l → r = nI l.length) ∧ J' = J0 ∧ ∃ v, kq I1 I' (v, R)) := ⟨_, rfl⟩
  rw [← hQ]
  have k0 : ∀ I, k1 I = k1 I1 → kq I1 I (0, none) := fun I hk => ⟨mkI_k1 hk, fun _ => ⟨k1_at hk rfl, by funext j; exact k1_at hk rfl⟩, fun l q => by cases q⟩
  refine lp_up (n := n + 1) (fun s => ∀ I, k1 I = k1 I1 → dis I1 W n I → nrF I1 W n d (n + 1 - s) s = R → E1 243 (D + 3) Q 9 [(0, .ref 47), (3, .int (nI d)), (4, .int (nI s))] I J0) (fun s hs ih I hk hdd hr => ?_) 0 (Nat.zero_le _) I0 m1 m2 hR.symm
  refine mj_on (s243_9 _ _ ?_)
  rw [hdd.1, nI_1, nI_1, show (16 : Int32) = nI 16 from rfl]
  have last : s = n + 1 → Q (.int (-1), (I, J0, mj_R1)) := fun e => by
    have eR : R = none := by
      rw [← hr, e, Nat.sub_self]
      rfl
    rw [hQ, eR]
    exact ⟨_, _, _, rfl, fun _ => rfl, fun l q => by (cases q), rfl, 0, k0 I hk⟩
  refine if_lt (by omega) (by omega) (fun c => last (by omega)) (fun c => if_lt (by omega) (by omega) (fun e => absurd e (by omega)) (fun _ => ?_))
  have hrem : rem n (iot 0 s) + 1 ≤ 20000 := by
    rw [rem_iot (by omega)]
    exact Nat.le_trans (bin_16 _ (by omega) s (by omega)) (by decide)
  obtain ⟨r, I', J', hc, rfl, rfl, q1, q2⟩ := c_pickOf (D := D) (J := J0) (B := d + 1) (e := d) hn hdd c (by omega) (by omega) (by omega) hrem hk
  refine ⟨trivial, _, _, _, hc, ?_⟩
  rcases pkF_nr (I := I1) (W := W) (n := n) (d := d) (k := rem n (iot 0 s) + 1) (t := iot 0 s) with e | ⟨v, l, hv, e⟩
  · rw [e] at q2 ⊢
    refine if_lt (a := d) (by omega) (by omega) (fun _ => ?_) (fun q => absurd q (by omega))
    exact ih (by omega) I' (kq_k1 q2) q1 (by rw [← hr, nrF_2 c (by rw [e])])
  · have eR : R = some l := by rw [← hr]; exact nrF_1 c (by rw [e])
    have el : l.length = s := pkF_len (I := I1) (W := W) (n := n) (t := iot 0 s) (e := d) (k := rem n (iot 0 s) + 1) (st := (d + 1, none)) (vld_iot (by omega)) iot_len (fun l q => by cases q) l (by rw [e])
    rw [e] at q2 ⊢
    refine if_lt (a := d) (b := v) (by omega) (by omega) (fun q => absurd q (by omega)) (fun _ => ?_)
    rw [hQ, eR]
    exact ⟨_, _, _, rfl, fun q => by (cases q), fun l' q => by cases q; rw [el], rfl, v, q2⟩
end S77
