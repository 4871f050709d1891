/-! the class says of a set whether the tests hold -/
theorem iI_ltI {a c : Int} (a1 : -2147483648 ≤ a) (a2 : a < 2147483648) (c1 : -2147483648 ≤ c) (c2 : c < 2147483648) : iI a < iI c ↔ a < c := by rw [Int32.lt_iff_toInt_lt, iI_toInt a1 a2, iI_toInt c1 c2]
theorem iI_leI {a c : Int} (a1 : -2147483648 ≤ a) (a2 : a < 2147483648) (c1 : -2147483648 ≤ c) (c2 : c < 2147483648) : iI a ≤ iI c ↔ a ≤ c := by rw [Int32.le_iff_toInt_le, iI_toInt a1 a2, iI_toInt c1 c2]
theorem iI_inj {a c : Int} (a1 : -2147483648 ≤ a) (a2 : a < 2147483648) (c1 : -2147483648 ≤ c) (c2 : c < 2147483648) : iI a = iI c ↔ a = c := ⟨fun h => by have := congrArg Int32.toInt h; rwa [iI_toInt a1 a2, iI_toInt c1 c2] at this, fun h => by rw [h]⟩
theorem iI_z {a : Int} (a1 : -2147483648 ≤ a) (a2 : a < 2147483648) : iI a = 0 ↔ a = 0 := iI_inj (c := 0) a1 a2 (by decide) (by decide)
theorem sh_k {k m : Nat} (hk : k < 31) (hm : m < 2 ^ 31) : nI m >>> (nI k &&& 31) = nI (m / 2 ^ k) := by
  have hD : ∀ k, k < 31 → ((nI k &&& 31).toBitVec.smod 32).toNat = k := by decide
  apply Int32.toInt_inj.mp
  have e : (nI m >>> (nI k &&& 31)).toInt = (nI m).toInt >>> ((nI k &&& 31).toBitVec.smod 32).toNat := BitVec.toInt_sshiftRight ..
  rw [e, hD k hk, Int.shiftRight_eq_div_pow, nI_toInt hm, nI_toInt (Nat.lt_of_le_of_lt (Nat.div_le_self _ _) hm)]
  rfl
theorem hb_bit (k : Nat) (hk : k < 12) (m : Nat) (hm : m < 4096) : ((nI m >>> (nI k &&& 31)) &&& 1) = nI (tbit m k) := by
  rw [sh_k (by omega) (by omega), show (1 : Int32) = nI 1 from rfl, nx_and, Nat.and_one_is_mod]
  rfl
section S97
variable {D W H m : Nat} {hs : Nat → Nat} {I : Nat → Nat → Int32} {J : Nat → Nat → Int64}
def jst (I : Nat → Nat → Int32) : List Int → Prop
  | [] => True
  | v :: r => I 35 r.length = iI v ∧ jst I r
def jS (vs : List Int) (I : Nat → Nat → Int32) : Prop := I 34 1 = nI vs.length ∧ vs.length ≤ 64 ∧ jst I vs
theorem jst_cg {I' : Nat → Nat → Int32} : ∀ {vs : List Int}, jst I vs → (∀ k, k < vs.length → I' 35 k = I 35 k) → jst I' vs
  | [], _, _ => trivial
  | v :: r, h, e => ⟨by rw [e _ (by simp)]; exact h.1, jst_cg h.2 fun k hk => e k (by simp; omega)⟩
def jfr (I I' : Nat → Nat → Int32) : Prop := ∀ q, q ≠ 34 → q ≠ 35 → I' q = I q
theorem c_jpush {vs : List Int} {v : Int} (h : jS vs I) (hl : vs.length < 64) : ∃ I' J', C1 (D + 1) 225 [.ref 34, .int (iI v)] I J .null I' J' ∧ J' = J ∧ jS (v :: vs) I' ∧ jfr I I' := by
  obtain ⟨h1, h2, h3⟩ := h
  refine mj_cN (e225 _ ?_)
  rw [h1, show (64 : Int32) = nI 64 from rfl]
  refine if_le (by decide) (by omega) (fun z => absurd z (by omega)) (fun _ => ?_)
  rw [nI_clamp (by omega), nI_1]
  refine ⟨vp_in_nI hl (by decide), _, _, rfl, rfl, ⟨up_s, hl, ?_, ?_⟩, fun q q1 q2 => by rw [up_c q1, up_c q2]⟩
  · rw [up_c (by decide), up_s]
  · exact jst_cg h3 fun k hk => by rw [up_c (by decide), up_j (by omega)]
theorem c_jpop {vs : List Int} {v : Int} (h : jS (v :: vs) I) : ∃ r I' J', C1 (D + 1) 226 [.ref 34] I J (.int r) I' J' ∧ r = iI v ∧ J' = J ∧ jS vs I' ∧ jfr I I' := by
  obtain ⟨h1, h2, h3, h4⟩ := h
  have h1 : I 34 1 = nI (vs.length + 1) := h1
  have h2 : vs.length + 1 ≤ 64 := h2
  refine mj_cI (e226 ?_)
  rw [h1, if_neg (nI_ne0 (by omega) (by omega)), n1_sub, nI_clamp (by omega)]
  refine ⟨vp_in_nI (by omega) (by decide), _, _, _, rfl, h3, rfl, ⟨up_s, by omega, jst_cg h4 fun k hk => by rw [up_c (by decide)]⟩, fun q q1 q2 => by rw [up_c q1]⟩
theorem xr_s {a c : Int} (a1 : -1000000000 ≤ a) (a2 : a ≤ 1000000000) (c1 : -1000000000 ≤ c) (c2 : c ≤ 1000000000) : (iI a ^^^ iI c) < 0 ↔ ¬ ((a < 0) ↔ (c < 0)) := by
  have key : ∀ x : Int32, x < 0 ↔ x.toBitVec.msb = true := fun x => by
    rw [Int32.lt_iff_toInt_lt, show (0 : Int32).toInt = 0 by decide]
    exact BitVec.toInt_neg_iff.trans (by rw [BitVec.msb_eq_decide, decide_eq_true_eq]; omega)
  rw [key, Int32.toBitVec_xor, BitVec.msb_xor]
  have k1 := key (iI a)
  have k2 := key (iI c)
  rw [Int32.lt_iff_toInt_lt, show (0 : Int32).toInt = 0 by decide, iI_toInt (by omega) (by omega)] at k1 k2
  rw [k1, k2]
  cases (iI a).toBitVec.msb <;> cases (iI c).toBitVec.msb <;> simp
theorem c_floor {a c : Int} (a1 : -1000000000 ≤ a) (a2 : a ≤ 1000000000) (c1 : -1000000000 ≤ c) (c2 : c ≤ 1000000000) (h0 : c ≠ 0) : C1 (D + 1) 6 [.int (iI a), .int (iI c)] I J (.int (iI (Int.fdiv a c))) I J := by
  refine mj_mk (e6 _ _ ?_)
  have n0 : ¬ iI c = 0 := fun z => h0 ((iI_z (by omega) (by omega)).mp z)
  have ht := tdiv_rng (c := c) a1 a2
  have ed : iI a / iI c = iI (a.tdiv c) := by
    apply Int32.toInt_inj.mp
    rw [Int32.toInt_div, iI_toInt (by omega) (by omega), iI_toInt (by omega) (by omega), iI_toInt (by omega) (by omega)]
    exact Int.bmod_eq_of_le (by omega) (by omega)
  have hm : (a.tdiv c * c).natAbs ≤ a.natAbs := by
    rw [Int.natAbs_mul, Int.natAbs_tdiv]
    exact Nat.div_mul_le_self _ _
  have em : iI (a.tdiv c) * iI c = iI (a.tdiv c * c) := (Int32.ofInt_mul _ _).symm
  have es : iI (a.tdiv c) - 1 = iI (a.tdiv c - 1) := (Int32.ofInt_sub _ 1).symm
  refine ⟨n0, ?_⟩
  rw [ed, em, es, fd_t h0]
  refine if_i (fun x => if_i (fun y => ?_) (fun y => ?_)) (fun x => ?_)
  · rw [if_pos (Or.inl ((iI_inj (by omega) (by omega) (by omega) (by omega)).mp y))]
  · rw [if_neg (fun q => q.elim (fun q => y (by rw [q])) ((xr_s a1 a2 c1 c2).mp x))]
  · rw [if_pos (Or.inr (Classical.byContradiction fun q => x ((xr_s a1 a2 c1 c2).mpr q)))]
theorem c_holds {op : Nat} {a c : Int} (h1 : op = 11 ∨ op = 12 ∨ op = 13 ∨ op = 14 ∨ op = 15) (a1 : -1000000000 ≤ a) (a2 : a ≤ 1000000000) (c1 : -1000000000 ≤ c) (c2 : c ≤ 1000000000) : ∃ r, C1 (D + 1) 229 [.int (nI (opc op)), .int (iI a), .int (iI c)] I J (.int r) I J ∧ ((r = 0 ∧ twov op a c = 0) ∨ (r = 1 ∧ twov op a c = 1)) := by
  have za := iI_z (a := a) (by omega) (by omega)
  have zc := iI_z (a := c) (by omega) (by omega)
  have le1 := iI_leI (a := c) (c := a) (by omega) (by omega) (by omega) (by omega)
  have le2 := iI_leI (a := a) (c := c) (by omega) (by omega) (by omega) (by omega)
  have eq1 := iI_inj (a := a) (c := c) (by omega) (by omega) (by omega) (by omega)
  have t0 : ∀ {r : Int32} {b : Bool}, True := trivial
  rcases h1 with rfl | rfl | rfl | rfl | rfl
  · by_cases q : a < c
    · refine ⟨1, mj_mk (e229 _ _ _ ?_), Or.inr ⟨rfl, if_pos q⟩⟩
      rw [show nI (opc 11) = (60 : Int32) from rfl, if_neg (by decide), if_pos rfl, if_neg (fun z => by have := le1.mp z; omega)]
      exact ⟨Or.inr rfl, rfl⟩
    · refine ⟨0, mj_mk (e229 _ _ _ ?_), Or.inl ⟨rfl, if_neg q⟩⟩
      rw [show nI (opc 11) = (60 : Int32) from rfl, if_neg (by decide), if_pos rfl, if_pos (le1.mpr (by omega))]
      exact ⟨Or.inl rfl, rfl⟩
  · by_cases q : c < a
    · refine ⟨1, mj_mk (e229 _ _ _ ?_), Or.inr ⟨rfl, if_pos q⟩⟩
      rw [show nI (opc 12) = (62 : Int32) from rfl, if_neg (by decide), if_neg (by decide), if_neg (by decide), if_pos rfl, if_neg (fun z => by have := le2.mp z; omega)]
      exact ⟨Or.inr rfl, rfl⟩
    · refine ⟨0, mj_mk (e229 _ _ _ ?_), Or.inl ⟨rfl, if_neg q⟩⟩
      rw [show nI (opc 12) = (62 : Int32) from rfl, if_neg (by decide), if_neg (by decide), if_neg (by decide), if_pos rfl, if_pos (le2.mpr (by omega))]
      exact ⟨Or.inl rfl, rfl⟩
  · by_cases q : a = c
    · refine ⟨1, mj_mk (e229 _ _ _ ?_), Or.inr ⟨rfl, if_pos q⟩⟩
      rw [show nI (opc 13) = (61 : Int32) from rfl, if_neg (by decide), if_neg (by decide), if_pos rfl, if_pos (eq1.mpr q)]
      exact ⟨Or.inr rfl, rfl⟩
    · refine ⟨0, mj_mk (e229 _ _ _ ?_), Or.inl ⟨rfl, if_neg q⟩⟩
      rw [show nI (opc 13) = (61 : Int32) from rfl, if_neg (by decide), if_neg (by decide), if_pos rfl, if_neg (fun z => q (eq1.mp z))]
      exact ⟨Or.inl rfl, rfl⟩
  · by_cases q : a ≠ 0 ∧ c ≠ 0
    · refine ⟨1, mj_mk (e229 _ _ _ ?_), Or.inr ⟨rfl, if_pos q⟩⟩
      rw [show nI (opc 14) = (9 : Int32) from rfl, if_pos rfl, if_neg (fun z => q.1 (za.mp z)), if_neg (fun z => q.2 (zc.mp z))]
      exact ⟨Or.inr rfl, rfl⟩
    · refine ⟨0, mj_mk (e229 _ _ _ ?_), Or.inl ⟨rfl, if_neg q⟩⟩
      rw [show nI (opc 14) = (9 : Int32) from rfl, if_pos rfl]
      refine if_i (fun _ => ⟨Or.inl rfl, rfl⟩) (fun y => if_i (fun _ => ⟨Or.inl rfl, rfl⟩) (fun y2 => ?_))
      exact absurd ⟨fun z => y (za.mpr z), fun z => y2 (zc.mpr z)⟩ q
  · by_cases q : a ≠ 0 ∨ c ≠ 0
    · refine ⟨1, mj_mk (e229 _ _ _ ?_), Or.inr ⟨rfl, if_pos q⟩⟩
      rw [show nI (opc 15) = (8 : Int32) from rfl, if_neg (by decide), if_neg (by decide), if_neg (by decide), if_neg (by decide)]
      refine if_i (fun y => if_i (fun y2 => ?_) (fun _ => ⟨Or.inr rfl, rfl⟩)) (fun _ => ⟨Or.inr rfl, rfl⟩)
      have := za.mp y
      have := zc.mp y2
      omega
    · refine ⟨0, mj_mk (e229 _ _ _ ?_), Or.inl ⟨rfl, if_neg q⟩⟩
      rw [show nI (opc 15) = (8 : Int32) from rfl, if_neg (by decide), if_neg (by decide), if_neg (by decide), if_neg (by decide), if_pos (za.mpr (by omega)), if_pos (zc.mpr (by omega))]
      exact ⟨Or.inl rfl, rfl⟩
theorem c_join {op : Nat} {a c : Int} (h5 : 5 ≤ op) (h15 : op ≤ 15) (a1 : -1000000000 ≤ a) (a2 : a ≤ 1000000000) (c1 : -1000000000 ≤ c) (c2 : c ≤ 1000000000) : C1 (D + 3) 227 [.int (nI (opc op)), .int (iI a), .int (iI c)] I J (.int (iI (twov op a c))) I J := by
  have la : (iI a).toInt64 = lZ a := iI_lZ (by omega) (by omega)
  have lc : (iI c).toInt64 = lZ c := iI_lZ (by omega) (by omega)
  have hs : ∀ {op : Nat}, (op = 11 ∨ op = 12 ∨ op = 13 ∨ op = 14 ∨ op = 15) → (nI (opc op) ≠ (15 : Int32) ∧ nI (opc op) ≠ (16 : Int32) ∧ nI (opc op) ≠ (42 : Int32) ∧ nI (opc op) ≠ (43 : Int32) ∧ nI (opc op) ≠ (45 : Int32) ∧ nI (opc op) ≠ (47 : Int32)) → C1 (D + 3) 227 [.int (nI (opc op)), .int (iI a), .int (iI c)] I J (.int (iI (twov op a c))) I J := fun {op} ho hn => by
    obtain ⟨r, hr, hq⟩ := c_holds (D := D + 1) (I := I) (J := J) ho a1 a2 c1 c2
    refine mj_mk (e227 _ _ _ ?_)
    rw [if_neg hn.1, if_neg hn.2.1, if_neg hn.2.2.1, if_neg hn.2.2.2.1, if_neg hn.2.2.2.2.1, if_neg hn.2.2.2.2.2]
    refine ⟨trivial, _, _, _, hr, ?_⟩
    rcases hq with ⟨rfl, e⟩ | ⟨rfl, e⟩
    · rw [if_pos rfl, e]; rfl
    · rw [if_neg (by decide), e]; rfl
  match op, h5, h15 with
  | 5, _, _ =>
    refine mj_mk (e227 _ _ _ ?_)
    rw [show nI (opc 5) = (43 : Int32) from rfl, if_neg (by decide), if_neg (by decide), if_neg (by decide), if_pos rfl, la, lc, lZ_add]
    exact ⟨trivial, _, _, _, c_bounded (by omega) (by omega), rfl⟩
  | 6, _, _ =>
    refine mj_mk (e227 _ _ _ ?_)
    rw [show nI (opc 6) = (45 : Int32) from rfl, if_neg (by decide), if_neg (by decide), if_neg (by decide), if_neg (by decide), if_pos rfl, la, lc, lZ_sub]
    exact ⟨trivial, _, _, _, c_bounded (by omega) (by omega), rfl⟩
  | 7, _, _ =>
    refine mj_mk (e227 _ _ _ ?_)
    rw [show nI (opc 7) = (42 : Int32) from rfl, if_neg (by decide), if_neg (by decide), if_pos rfl, la, lc, lZ_mul]
    have hm : (a * c).natAbs ≤ 1000000000 * 1000000000 := by
      rw [Int.natAbs_mul]
      exact Nat.mul_le_mul (by omega) (by omega)
    exact ⟨trivial, _, _, _, c_bounded (by omega) (by omega), rfl⟩
  | 8, _, _ =>
    refine mj_mk (e227 _ _ _ ?_)
    rw [show nI (opc 8) = (47 : Int32) from rfl, if_neg (by decide), if_neg (by decide), if_neg (by decide), if_neg (by decide), if_neg (by decide), if_pos rfl]
    show if iI c = 0 then _ else _
    refine if_i (fun y => ?_) (fun y => ?_)
    · have e : twov 8 a c = 0 := if_pos ((iI_z (by omega) (by omega)).mp y)
      rw [e]; rfl
    · have y2 : c ≠ 0 := fun z => y ((iI_z (by omega) (by omega)).mpr z)
      have e : twov 8 a c = Int.fdiv a c := if_neg y2
      rw [e]
      exact ⟨trivial, _, _, _, mj_Cl_le (by omega) (c_floor (D := D) a1 a2 c1 c2 y2), rfl⟩
  | 9, _, _ =>
    refine mj_mk (e227 _ _ _ ?_)
    rw [show nI (opc 9) = (15 : Int32) from rfl, if_pos rfl]
    refine ⟨trivial, iI (twov 9 a c), I, J, mj_mk (e0 _ _ ?_), rfl⟩
    have e : twov 9 a c = if a < c then a else c := rfl
    rw [e]
    refine if_i (fun y => ?_) (fun y => ?_)
    · have := (iI_ltI (a := c) (c := a) (by omega) (by omega) (by omega) (by omega)).mp y
      rw [if_neg (by omega)]
    · have : ¬ c < a := fun z => y ((iI_ltI (by omega) (by omega) (by omega) (by omega)).mpr z)
      by_cases z : a < c
      · rw [if_pos z]
      · rw [if_neg z, show a = c by omega]
  | 10, _, _ =>
    refine mj_mk (e227 _ _ _ ?_)
    rw [show nI (opc 10) = (16 : Int32) from rfl, if_neg (by decide), if_pos rfl]
    refine ⟨trivial, iI (twov 10 a c), I, J, mj_mk (e1 _ _ ?_), rfl⟩
    have e : twov 10 a c = if a < c then c else a := rfl
    rw [e]
    refine if_i (fun y => ?_) (fun y => ?_)
    · have := (iI_ltI (a := a) (c := c) (by omega) (by omega) (by omega) (by omega)).mp y
      rw [if_pos this]
    · have : ¬ a < c := fun z => y ((iI_ltI (by omega) (by omega) (by omega) (by omega)).mpr z)
      rw [if_neg this]
  | 11, _, _ => exact hs (by omega) (by decide)
  | 12, _, _ => exact hs (by omega) (by decide)
  | 13, _, _ => exact hs (by omega) (by decide)
  | 14, _, _ => exact hs (by omega) (by decide)
  | 15, _, _ => exact hs (by omega) (by decide)
theorem jfr_tr {I' I'' : Nat → Nat → Int32} (h : jfr I I') (h' : jfr I' I'') : jfr I I'' := fun q a c => by rw [h' q a c, h q a c]
theorem c_work {c : Nat × Nat} {st st' : List Bool} {vs : List Int} (hW : W ≤ 4) (hH : H ≤ 12) (hm : m < 4096) (hh : ∀ w, w < W → hs w ≤ 200000 ∧ I 36 w = nI (hs w)) (ht : tys1 W H c st = some st') (hv : vok st vs) (hj : jS vs I) (hl : st'.length ≤ 64) : ∃ I' J', C1 (D + 5) 224 [.ref 34, .int (nI (opc c.1)), .int (nI c.2), .int (nI m), .ref 36] I J .null I' J' ∧ J' = J ∧ jS (ev1 hs m vs c) I' ∧ jfr I I' := by
  have hlen := vok_len hv
  rcases tys1_inv ht with ⟨h1, h2, rfl⟩ | ⟨h1, h2, r, rfl, rfl⟩ | ⟨h1, h2, h3, r, rfl, rfl⟩
  · have hl2 : vs.length < 64 := by
      have : st.length + 1 ≤ 64 := hl
      omega
    clear hl
    have ee : ev1 hs m vs c = leafv hs m c.1 c.2 :: vs := by unfold ev1; rw [if_pos h1]
    rw [ee]
    obtain ⟨op, n⟩ := c
    obtain ⟨q1, q2, q3, q4⟩ := h2
    obtain ⟨I', J', hc, rfl, g1, g2⟩ := c_jpush (D := D + 3) (J := J) (v := leafv hs m op n) hj hl2
    refine ⟨I', J', mj_mk (e224 _ _ _ ?_), rfl, g1, g2⟩
    obtain rfl | rfl | rfl | rfl | rfl : op = 0 ∨ op = 1 ∨ op = 2 ∨ op = 3 ∨ op = 4 := by
      have : op ≤ 4 := h1
      omega
    · rw [show nI (opc 0) = (17 : Int32) from rfl, if_neg (by decide), if_neg (by decide), if_neg (by decide), if_neg (by decide), if_neg (by decide), if_neg (by decide), if_neg (by decide), if_pos rfl]
      exact ⟨trivial, _, _, hc, rfl⟩
    · rw [show nI (opc 1) = (13 : Int32) from rfl, if_neg (by decide), if_neg (by decide), if_neg (by decide), if_pos rfl]
      refine ⟨trivial, _, _, _, mj_Cl_le (by omega) (c_bcI (D := D) (by omega)), ?_⟩
      rw [pcn_big 12 20 m (by omega)]
      exact ⟨trivial, _, _, hc, rfl⟩
    · have hn := q2 rfl
      rw [show nI (opc 2) = (14 : Int32) from rfl, if_neg (by decide), if_neg (by decide), if_neg (by decide), if_neg (by decide), if_pos rfl, show (4 : Int32) = nI 4 from rfl]
      refine if_le (by decide) (by show n < 2 ^ 31; omega) (fun z => absurd (show n < 4 by omega) (by have : 4 ≤ n := z; omega)) (fun _ => ?_)
      rw [nI_clamp (by omega), (hh n hn).2]
      exact ⟨vp_in_nI (by omega) (by decide), trivial, _, _, hc, rfl⟩
    · rw [show nI (opc 3) = (11 : Int32) from rfl, if_neg (by decide), if_pos rfl]
      exact ⟨trivial, _, _, hc, rfl⟩
    · have hn := q3 rfl
      rw [show nI (opc 4) = (12 : Int32) from rfl, if_neg (by decide), if_neg (by decide), if_pos rfl]
      rw [hb_bit n (by omega) m hm]
      exact ⟨trivial, _, _, hc, rfl⟩
  · match vs, hv, hj with
    | v :: vs, hv, hj =>
      have ee : ev1 hs m (v :: vs) c = (1 - v) :: vs := by unfold ev1; rw [if_neg (by omega), if_pos h1]
      rw [ee]
      obtain ⟨r1, Ia, Ja, ca, rfl, rfl, g1, g2⟩ := c_jpop (D := D + 3) (J := J) hj
      obtain ⟨I', J', hc, rfl, g3, g4⟩ := c_jpush (D := D + 3) (J := Ja) (v := 1 - v) g1 (by have := hj.2.1; have : vs.length + 1 ≤ 64 := this; omega)
      refine ⟨I', J', mj_mk (e224 _ _ _ ?_), rfl, g3, jfr_tr g2 g4⟩
      rw [h1, show nI (opc 16) = (10 : Int32) from rfl, if_pos rfl]
      refine ⟨trivial, _, _, _, ca, ?_⟩
      rw [show (1 : Int32) - iI v = iI (1 - v) from (Int32.ofInt_sub 1 v).symm]
      exact ⟨trivial, _, _, hc, rfl⟩
  · match vs, hv, hj with
    | y :: x :: vs, hv, hj =>
      have ee : ev1 hs m (y :: x :: vs) c = twov c.1 x y :: vs := by unfold ev1; rw [if_neg (by omega), if_neg (by omega)]
      rw [ee]
      obtain ⟨⟨-, y1, y2⟩, ⟨-, x1, x2⟩, -⟩ := hv
      obtain ⟨r1, Ia, Ja, ca, rfl, rfl, g1, g2⟩ := c_jpop (D := D + 3) (J := J) hj
      obtain ⟨r2, Ib, Jb, cb, rfl, rfl, g3, g4⟩ := c_jpop (D := D + 3) (J := Ja) g1
      obtain ⟨I', J', hc, rfl, g5, g6⟩ := c_jpush (D := D + 3) (J := Jb) (v := twov c.1 x y) g3 (by have := hj.2.1; have : vs.length + 2 ≤ 64 := this; omega)
      refine ⟨I', J', mj_mk (e224 _ _ _ ?_), rfl, g5, jfr_tr (jfr_tr g2 g4) g6⟩
      obtain ⟨op, n⟩ := c
      have cj := c_join (D := D + 1) (I := Ib) (J := J') (op := op) h1 h2 x1 x2 y1 y2
      have hx : ∀ op, op ≤ 15 → 5 ≤ op → nI (opc op) ≠ (10 : Int32) ∧ nI (opc op) ≠ (11 : Int32) ∧ nI (opc op) ≠ (12 : Int32) ∧ nI (opc op) ≠ (13 : Int32) ∧ nI (opc op) ≠ (14 : Int32) ∧ nI (opc op) ≠ (17 : Int32) := by decide
      obtain ⟨n1, n2, n3, n4, n5, n6⟩ := hx op h2 h1
      rw [if_neg n1, if_neg n2, if_neg n3, if_neg n4, if_neg n5]
      refine if_i (fun _ => ⟨trivial, _, _, _, ca, trivial, _, _, _, cb, trivial, _, _, _, cj, trivial, _, _, hc, rfl⟩) (fun _ => if_i (fun _ => ⟨trivial, _, _, _, ca, trivial, _, _, _, cb, trivial, _, _, _, cj, trivial, _, _, hc, rfl⟩) (fun _ => ?_))
      rw [if_neg n6]
      exact ⟨trivial, _, _, _, ca, trivial, _, _, _, cb, trivial, _, _, _, cj, trivial, _, _, hc, rfl⟩
end S97
