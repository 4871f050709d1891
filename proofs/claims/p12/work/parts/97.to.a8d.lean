section
/-! the class says of a set whether the tests hold -/
theorem iI_ltI {a c : Int} (a1 : -2147483648 ≤ a) (a2 : a < 2147483648) (c1 : -2147483648 ≤ c) (c2 : c < 2147483648) : iI a < iI c ↔ a < c := by rw [Int32.lt_iff_toInt_lt, iI_toInt a1 a2, iI_toInt c1 c2]
theorem iI_leI {a c : Int} (a1 : -2147483648 ≤ a) (a2 : a < 2147483648) (c1 : -2147483648 ≤ c) (c2 : c < 2147483648) : iI a ≤ iI c ↔ a ≤ c := by rw [Int32.le_iff_toInt_le, iI_toInt a1 a2, iI_toInt c1 c2]
theorem iI_inj {a c : Int} (a1 : -2147483648 ≤ a) (a2 : a < 2147483648) (c1 : -2147483648 ≤ c) (c2 : c < 2147483648) : iI a = iI c ↔ a = c := ⟨fun h => by have := congrArg Int32.toInt h; rwa [iI_toInt a1 a2, iI_toInt c1 c2] at this, fun h => by rw [h]⟩
theorem iI_z {a : Int} (a1 : -2147483648 ≤ a) (a2 : a < 2147483648) : iI a = 0 ↔ a = 0 := iI_inj (c := 0) a1 a2 (by decide) (by decide)
theorem sh_k {k m : Nat} (hk : k < 31) (hm : m < 2 ^ 31) : nI m >>> (nI k &&& 31) = nI (m / 2 ^ k) := by
  have hD : ∀ k, k < 31 → ((nI k &&& 31).toBitVec.smod 32).toNat = k := by decide
  apply Int32.toInt_inj.mp
  have e : (nI m >>> (nI k &&& 31)).toInt = (nI m).toInt >>> ((nI k &&& 31).toBitVec.smod 32).toNat := BitVec.toInt_sshiftRight ..
  rw [e, hD k hk, Int.shiftRight_eq_div_pow, nI_toInt hm, nI_toInt (Nat.lt_of_le_of_lt (Nat.div_le_self _ _) hm)]
  rfl
theorem hb_bit (k : Nat) (hk : k < 12) (m : Nat) (hm : m < 4096) : ((nI m >>> (nI k &&& 31)) &&& 1) = nI (tbit m k) := by
  rw [sh_k (by omega) (by omega), show (1 : Int32) = nI 1 from rfl, nx_and, Nat.and_one_is_mod]
  rfl
section S97
variable {D W H m : Nat} {hs : Nat → Nat} {I : Nat → Nat → Int32} {J : Nat → Nat → Int64}
def jst (I : Nat → Nat → Int32) : List Int → Prop
  | [] => True
  | v :: r => I 35 r.length = iI v ∧ jst I r
def jS (vs : List Int) (I : Nat → Nat → Int32) : Prop := I 34 1 = nI vs.length ∧ vs.length ≤ 64 ∧ jst I vs
theorem jst_cg {I' : Nat → Nat → Int32} : ∀ {vs : List Int}, jst I vs → (∀ k, k < vs.length → I' 35 k = I 35 k) → jst I' vs
  | [], _, _ => trivial
  | v :: r, h, e => ⟨by rw [e _ (by simp)]; exact h.1, jst_cg h.2 fun k hk => e k (by simp; omega)⟩
def jfr (I I' : Nat → Nat → Int32) : Prop := ∀ q, q ≠ 34 → q ≠ 35 → I' q = I q
theorem c_jpush {vs : List Int} {v : Int} (h : jS vs I) (hl : vs.length < 64) : ∃ I' J', C1 (D + 1) 225 [.ref 34, .int (iI v)] I J .null I' J' ∧ J' = J ∧ jS (v :: vs) I' ∧ jfr I I' := by
  obtain ⟨h1, h2, h3⟩ := h
  refine mj_cN (e225 _ ?_)
  rw [h1, show (64 : Int32) = nI 64 from rfl]
  refine if_le (by decide) (by omega) (fun z => absurd z (by omega)) (fun _ => ?_)
  rw [nI_clamp (by omega), nI_1]
  refine ⟨vp_in_nI hl (by decide), _, _, rfl, rfl, ⟨up_s, hl, ?_, ?_⟩, fun q q1 q2 => by rw [up_c q1, up_c q2]⟩
  · rw [up_c (by decide), up_s]
  · exact jst_cg h3 fun k hk => by rw [up_c (by decide), up_j (by omega)]
theorem c_jpop {vs : List Int} {v : Int} (h : jS (v :: vs) I) : ∃ r I' J', C1 (D + 1) 226 [.ref 34] I J (.int r) I' J' ∧ r = iI v ∧ J' = J ∧ jS vs I' ∧ jfr I I' := by
  obtain ⟨h1, h2, h3, h4⟩ := h
  have h1 : I 34 1 = nI (vs.length + 1) := h1
  have h2 : vs.length + 1 ≤ 64 := h2
  refine mj_cI (e226 ?_)
  rw [h1, if_neg (nI_ne0 (by omega) (by omega)), n1_sub, nI_clamp (by omega)]
  refine ⟨vp_in_nI (by omega) (by decide), _, _, _, rfl, h3, rfl, ⟨up_s, by omega, jst_cg h4 fun k hk => by rw [up_c (by decide)]⟩, fun q q1 q2 => by rw [up_c q1]⟩
theorem xr_s {a c : Int} (a1 : -1000000000 ≤ a) (a2 : a ≤ 1000000000) (c1 : -1000000000 ≤ c) (c2 : c ≤ 1000000000) : (iI a ^^^ iI c) < 0 ↔ ¬ ((a < 0) ↔ (c < 0)) := by
  have key : ∀ x : Int32, x < 0 ↔ x.toBitVec.msb = true := fun x => by
    rw [Int32.lt_iff_toInt_lt, show (0 : Int32).toInt = 0 by decide]
    exact BitVec.toInt_neg_iff.trans (by rw [BitVec.msb_eq_decide, decide_eq_true_eq]; omega)
  rw [key, Int32.toBitVec_xor, BitVec.msb_xor]
  have k1 := key (iI a)
  have k2 := key (iI c)
  rw [Int32.lt_iff_toInt_lt, show (0 : Int32).toInt = 0 by decide, iI_toInt (by omega) (by omega)] at k1 k2
  rw [k1, k2]
  cases (iI a).toBitVec.msb <;> cases (iI c).toBitVec.msb <;> simp
theorem c_floor {a c : Int} (a1 : -1000000000 ≤ a) (a2 : a ≤ 1000000000) (c1 : -1000000000 ≤ c) (c2 : c ≤ 1000000000) (h0 : c ≠ 0) : C1 (D + 1) 6 [.int (iI a), .int (iI c)] I J (.int (iI (Int.fdiv a c))) I J := by
  refine mj_mk (e6 _ _ ?_)
  have n0 : ¬ iI c = 0 := fun z => h0 ((iI_z (by omega) (by omega)).mp z)
  have ht := tdiv_rng (c := c) a1 a2
  have ed : iI a / iI c = iI (a.tdiv c) := by
    apply Int32.toInt_inj.mp
    rw [Int32.toInt_div, iI_toInt (by omega) (by omega), iI_toInt (by omega) (by omega), iI_toInt (by omega) (by omega)]
    exact Int.bmod_eq_of_le (by omega) (by omega)
  have hm : (a.tdiv c * c).natAbs ≤ a.natAbs := by
    rw [Int.natAbs_mul, Int.natAbs_tdiv]
    exact Nat.div_mul_le_self _ _
  have em : iI (a.tdiv c) * iI c = iI (a.tdiv c * c) := (Int32.ofInt_mul _ _).symm
  have es : iI (a.tdiv c) - 1 = iI (a.tdiv c - 1) := (Int32.ofInt_sub _ 1).symm
  refine ⟨n0, ?_⟩
  rw [ed, em, es, fd_t h0]
  refine if_i (fun x => if_i (fun y => ?_) (fun y => ?_)) (fun x => ?_)
  · rw [if_pos (Or.inl ((iI_inj (by omega) (by omega) (by omega) (by omega)).mp y))]
  · rw [if_neg (fun q => q.elim (fun q => y (by rw [q])) ((xr_s a1 a2 c1 c2).mp x))]
  · rw [if_pos (Or.inr (Classical.byContradiction fun q => x ((xr_s a1 a2 c1 c2).mpr q)))]
theorem c_holds {op : Nat} {a c : Int} (h1 : op = 11 ∨ op = 12 ∨ op = 13 ∨ op = 14 ∨ op = 15) (a1 : -1000000000 ≤ a) (a2 : a ≤ 1000000000) (c1 : -1000000000 ≤ c) (c2 : c ≤ 1000000000) : ∃ r, C1 (D + 1) 229 [.int (nI (opc op)), .int (iI a), .int (iI c)] I J (.int r) I J ∧ ((r = 0 ∧ twov op a c = 0) ∨ (r = 1 ∧ twov op a c = 1)) := by
  have za := iI_z (a := a) (by omega) (by omega)
  have zc := iI_z (a := c) (by omega) (by omega)
  have le1 := iI_leI (a := c) (c := a) (by omega) (by omega) (by omega) (by omega)
  have le2 := iI_leI (a := a) (c := c) (by omega) (by omega) (by omega) (by omega)
  have eq1 := iI_inj (a := a) (c := c) (by omega) (by omega) (by omega) (by omega)
  have t0 : ∀ {r : Int32} {b : Bool}, True := trivial
  rcases h1 with rfl | rfl | rfl | rfl | rfl
  · by_cases q : a < c
    · refine ⟨1, mj_mk (e229 _ _ _ ?_), Or.inr ⟨rfl, if_pos q⟩⟩
      rw [show nI (opc 11) = (60 : Int32) from rfl, if_neg (by decide), if_pos rfl, if_neg (fun z => by have := le1.mp z; omega)]
      exact ⟨Or.inr rfl, rfl⟩
    · refine ⟨0, mj_mk (e229 _ _ _ ?_), Or.inl ⟨rfl, if_neg q⟩⟩
      rw [show nI (opc 11) = (60 : Int32) from rfl, if_neg (by decide), if_pos rfl, if_pos (le1.mpr (by omega))]
      exact ⟨Or.inl rfl, rfl⟩
  · by_cases q : c < a
    · refine ⟨1, mj_mk (e229 _ _ _ ?_), Or.inr ⟨rfl, if_pos q⟩⟩
      rw [show nI (opc 12) = (62 : Int32) from rfl, if_neg (by decide), if_neg (by decide), if_neg (by decide), if_pos rfl, if_neg (fun z => by have := le2.mp z; omega)]
      exact ⟨Or.inr rfl, rfl⟩
    · refine ⟨0, mj_mk (e229 _ _ _ ?_), Or.inl ⟨rfl, if_neg q⟩⟩
      rw [show nI (opc 12) = (62 : Int32) from rfl, if_neg (by decide), if_neg (by decide), if_neg (by decide), if_pos rfl, if_pos (le2.mpr (by omega))]
      exact ⟨Or.inl rfl, rfl⟩
  · by_cases q : a = c
    · refine ⟨1, mj_mk (e229 _ _ _ ?_), Or.inr ⟨rfl, if_pos q⟩⟩
      rw [show nI (opc 13) = (61 : Int32) from rfl, if_neg (by decide), if_neg (by decide), if_pos rfl, if_pos (eq1.mpr q)]
      exact ⟨Or.inr rfl, rfl⟩
    · refine ⟨0, mj_mk (e229 _ _ _ ?_), Or.inl ⟨rfl, if_neg q⟩⟩
      rw [show nI (opc 13) = (61 : Int32) from rfl, if_neg (by decide), if_neg (by decide), if_pos rfl, if_neg (fun z => q (eq1.mp z))]
      exact ⟨Or.inl rfl, rfl⟩
  · by_cases q : a ≠ 0 ∧ c ≠ 0
    · refine ⟨1, mj_mk (e229 _ _ _ ?_), Or.inr ⟨rfl, if_pos q⟩⟩
      rw [show nI (opc 14) = (9 : Int32) from rfl, if_pos rfl, if_neg (fun z => q.1 (za.mp z)), if_neg (fun z => q.2 (zc.mp z))]
      exact ⟨Or.inr rfl, rfl⟩
    · refine ⟨0, mj_mk (e229 _ _ _ ?_), Or.inl ⟨rfl, if_neg q⟩⟩
      rw [show nI (opc 14) = (9 : Int32) from rfl, if_pos rfl]
      refine if_i (fun _ => ⟨Or.inl rfl, rfl⟩) (fun y => if_i (fun _ => ⟨Or.inl rfl, rfl⟩) (fun y2 => ?_))
      exact absurd ⟨fun z => y (za.mpr z), fun z => y2 (zc.mpr z)⟩ q
  · by_cases q : a ≠ 0 ∨ c ≠ 0
    · refine ⟨1, mj_mk (e229 _ _ _ ?_), Or.inr ⟨rfl, if_pos q⟩⟩
      rw [show nI (opc 15) = (8 : Int32) from rfl, if_neg (by decide), if_neg (by decide), if_neg (by decide), if_neg (by decide)]
      refine if_i (fun y => if_i (fun y2 => ?_) (fun _ => ⟨Or.inr rfl, rfl⟩)) (fun _ => ⟨Or.inr rfl, rfl⟩)
      have := za.mp y
      have := zc.mp y2
      omega
    · refine ⟨0, mj_mk (e229 _ _ _ ?_), Or.inl ⟨rfl, if_neg q⟩⟩
      rw [show nI (opc 15) = (8 : Int32) from rfl, if_neg (by decide), if_neg (by decide), if_neg (by decide), if_neg (by decide), if_pos (za.mpr (by omega)), if_pos (zc.mpr (by omega))]
      exact ⟨Or.inl rfl, rfl⟩
theorem c_join {op : Nat} {a c : Int} (h5 : 5 ≤ op) (h15 : op ≤ 15) (a1 : -1000000000 ≤ a) (a2 : a ≤ 1000000000) (c1 : -1000000000 ≤ c) (c2 : c ≤ 1000000000) : C1 (D + 3) 227 [.int (nI (opc op)), .int (iI a), .int (iI c)] I J (.int (iI (twov op a c))) I J := by
  have la : (iI a).toInt64 = lZ a := iI_lZ (by omega) (by omega)
  have lc : (iI c).toInt64 = lZ c := iI_lZ (by omega) (by omega)
  have hs : ∀ {op : Nat}, (op = 11 ∨ op = 12 ∨ op = 13 ∨ op = 14 ∨ op = 15) → (nI (opc op) ≠ (15 : Int32) ∧ nI (opc op) ≠ (16 : Int32) ∧ nI (opc op) ≠ (42 : Int32) ∧ nI (opc op) ≠ (43 : Int32) ∧ nI (opc op) ≠ (45 : Int32) ∧ nI (opc op) ≠ (47 : Int32)) → C1 (D + 3) 227 [.int (nI (opc op)), .int (iI a), .int (iI c)] I J (.int (iI (twov op a c))) I J := fun {op} ho hn => by
    obtain ⟨r, hr, hq⟩ := c_holds (D := D + 1) (I := I) (J := J) ho a1 a2 c1 c2
    refine mj_mk (e227 _ _ _ ?_)
    rw [if_neg hn.1, if_neg hn.2.1, if_neg hn.2.2.1, if_neg hn.2.2.2.1, if_neg hn.2.2.2.2.1, if_neg hn.2.2.2.2.2]
    refine ⟨trivial, _, _, _, hr, ?_⟩
    rcases hq with ⟨rfl, e⟩ | ⟨rfl, e⟩
    · rw [if_pos rfl, e]; rfl
    · rw [if_neg (by decide), e]; rfl
  match op, h5, h15 with
  | 5, _, _ =>
    refine mj_mk (e227 _ _ _ ?_)
    rw [show nI (opc 5) = (43 : Int32) from rfl, if_neg (by decide), if_neg (by decide), if_neg (by decide), if_pos rfl, la, lc, lZ_add]
    exact ⟨trivial, _, _, _, c_bounded (by omega) (by omega), rfl⟩
  | 6, _, _ =>
    refine mj_mk (e227 _ _ _ ?_)
    rw [show nI (opc 6) = (45 : Int32) from rfl, if_neg (by decide), if_neg (by decide), if_neg (by decide), if_neg (by decide), if_pos rfl, la, lc, lZ_sub]
    exact ⟨trivial, _, _, _, c_bounded (by omega) (by omega), rfl⟩
  | 7, _, _ =>
    refine mj_mk (e227 _ _ _ ?_)
    rw [show nI (opc 7) = (42 : Int32) from rfl, if_neg (by decide), if_neg (by decide), if_pos rfl, la, lc, lZ_mul]
    have hm : (a * c).natAbs ≤ 1000000000 * 1000000000 := by
      rw [Int.natAbs_mul]
      exact Nat.mul_le_mul (by omega) (by omega)
    exact ⟨trivial, _, _, _, c_bounded (by omega) (by omega), rfl⟩
  | 8, _, _ =>
    refine mj_mk (e227 _ _ _ ?_)
    rw [show nI (opc 8) = (47 : Int32) from rfl, if_neg (by decide), if_neg (by decide), if_neg (by decide), if_neg (by decide), if_neg (by decide), if_pos rfl]
    show if iI c = 0 then _ else _
    refine if_i (fun y => ?_) (fun y => ?_)
    · have e : twov 8 a c = 0 := if_pos ((iI_z (by omega) (by omega)).mp y)
      rw [e]; rfl
    · have y2 : c ≠ 0 := fun z => y ((iI_z (by omega) (by omega)).mpr z)
      have e : twov 8 a c = Int.fdiv a c := if_neg y2
      rw [e]
      exact ⟨trivial, _, _, _, mj_Cl_le (by omega) (c_floor (D := D) a1 a2 c1 c2 y2), rfl⟩
  | 9, _, _ =>
    refine mj_mk (e227 _ _ _ ?_)
    rw [show nI (opc 9) = (15 : Int32) from rfl, if_pos rfl]
    refine ⟨trivial, iI (twov 9 a c), I, J, mj_mk (e0 _ _ ?_), rfl⟩
    have e : twov 9 a c = if a < c then a else c := rfl
    rw [e]
    refine if_i (fun y => ?_) (fun y => ?_)
    · have := (iI_ltI (a := c) (c := a) (by omega) (by omega) (by omega) (by omega)).mp y
      rw [if_neg (by omega)]
    · have : ¬ c < a := fun z => y ((iI_ltI (by omega) (by omega) (by omega) (by omega)).mpr z)
      by_cases z : a < c
      · rw [if_pos z]
      · rw [if_neg z, show a = c by omega]
  | 10, _, _ =>
    refine mj_mk (e227 _ _ _ ?_)
    rw [show nI (opc 10) = (16 : Int32) from rfl, if_neg (by decide), if_pos rfl]
    refine ⟨trivial, iI (twov 10 a c), I, J, mj_mk (e1 _ _ ?_), rfl⟩
    have e : twov 10 a c = if a < c then c else a := rfl
    rw [e]
    refine if_i (fun y => ?_) (fun y => ?_)
    · have := (iI_ltI (a := a) (c := c) (by omega) (by omega) (by omega) (by omega)).mp y
      rw [if_pos this]
    · have : ¬ a < c := fun z => y ((iI_ltI (by omega) (by omega) (by omega) (by omega)).mpr z)
      rw [if_neg this]
  | 11, _, _ => exact hs (by omega) (by decide)
  | 12, _, _ => exact hs (by omega) (by decide)
  | 13, _, _ => exact hs (by omega) (by decide)
  | 14, _, _ => exact hs (by omega) (by decide)
  | 15, _, _ => exact hs (by omega) (by decide)
theorem jfr_tr {I' I'' : Nat → Nat → Int32} (h : jfr I I') (h' : jfr I' I'') : jfr I I'' := fun q a c => by rw [h' q a c, h q a c]
theorem c_work {c : Nat × Nat} {st st' : List Bool} {vs : List Int} (hW : W ≤ 4) (hH : H ≤ 12) (hm : m < 4096) (hh : ∀ w, w < W → hs w ≤ 200000 ∧ I 36 w = nI (hs w)) (ht : tys1 W H c st = some st') (hv : vok st vs) (hj : jS vs I) (hl : st'.length ≤ 64) : ∃ I' J', C1 (D + 5) 224 [.ref 34, .int (nI (opc c.1)), .int (nI c.2), .int (nI m), .ref 36] I J .null I' J' ∧ J' = J ∧ jS (ev1 hs m vs c) I' ∧ jfr I I' := by
  have hlen := vok_len hv
  rcases tys1_inv ht with ⟨h1, h2, rfl⟩ | ⟨h1, h2, r, rfl, rfl⟩ | ⟨h1, h2, h3, r, rfl, rfl⟩
  · have hl2 : vs.length < 64 := by
      have : st.length + 1 ≤ 64 := hl
      omega
    clear hl
    have ee : ev1 hs m vs c = leafv hs m c.1 c.2 :: vs := by unfold ev1; rw [if_pos h1]
    rw [ee]
    obtain ⟨op, n⟩ := c
    obtain ⟨q1, q2, q3, q4⟩ := h2
    obtain ⟨I', J', hc, rfl, g1, g2⟩ := c_jpush (D := D + 3) (J := J) (v := leafv hs m op n) hj hl2
    refine ⟨I', J', mj_mk (e224 _ _ _ ?_), rfl, g1, g2⟩
    obtain rfl | rfl | rfl | rfl | rfl : op = 0 ∨ op = 1 ∨ op = 2 ∨ op = 3 ∨ op = 4 := by
      have : op ≤ 4 := h1
      omega
    · rw [show nI (opc 0) = (17 : Int32) from rfl, if_neg (by decide), if_neg (by decide), if_neg (by decide), if_neg (by decide), if_neg (by decide), if_neg (by decide), if_neg (by decide), if_pos rfl]
      exact ⟨trivial, _, _, hc, rfl⟩
    · rw [show nI (opc 1) = (13 : Int32) from rfl, if_neg (by decide), if_neg (by decide), if_neg (by decide), if_pos rfl]
      refine ⟨trivial, _, _, _, mj_Cl_le (by omega) (c_bcI (D := D) (by omega)), ?_⟩
      rw [pcn_big 12 20 m (by omega)]
      exact ⟨trivial, _, _, hc, rfl⟩
    · have hn := q2 rfl
      rw [show nI (opc 2) = (14 : Int32) from rfl, if_neg (by decide), if_neg (by decide), if_neg (by decide), if_neg (by decide), if_pos rfl, show (4 : Int32) = nI 4 from rfl]
      refine if_le (by decide) (by show n < 2 ^ 31; omega) (fun z => absurd (show n < 4 by omega) (by have : 4 ≤ n := z; omega)) (fun _ => ?_)
      rw [nI_clamp (by omega), (hh n hn).2]
      exact ⟨vp_in_nI (by omega) (by decide), trivial, _, _, hc, rfl⟩
    · rw [show nI (opc 3) = (11 : Int32) from rfl, if_neg (by decide), if_pos rfl]
      exact ⟨trivial, _, _, hc, rfl⟩
    · have hn := q3 rfl
      rw [show nI (opc 4) = (12 : Int32) from rfl, if_neg (by decide), if_neg (by decide), if_pos rfl]
      rw [hb_bit n (by omega) m hm]
      exact ⟨trivial, _, _, hc, rfl⟩
  · match vs, hv, hj with
    | v :: vs, hv, hj =>
      have ee : ev1 hs m (v :: vs) c = (1 - v) :: vs := by unfold ev1; rw [if_neg (by omega), if_pos h1]
      rw [ee]
      obtain ⟨r1, Ia, Ja, ca, rfl, rfl, g1, g2⟩ := c_jpop (D := D + 3) (J := J) hj
      obtain ⟨I', J', hc, rfl, g3, g4⟩ := c_jpush (D := D + 3) (J := Ja) (v := 1 - v) g1 (by have := hj.2.1; have : vs.length + 1 ≤ 64 := this; omega)
      refine ⟨I', J', mj_mk (e224 _ _ _ ?_), rfl, g3, jfr_tr g2 g4⟩
      rw [h1, show nI (opc 16) = (10 : Int32) from rfl, if_pos rfl]
      refine ⟨trivial, _, _, _, ca, ?_⟩
      rw [show (1 : Int32) - iI v = iI (1 - v) from (Int32.ofInt_sub 1 v).symm]
      exact ⟨trivial, _, _, hc, rfl⟩
  · match vs, hv, hj with
    | y :: x :: vs, hv, hj =>
      have ee : ev1 hs m (y :: x :: vs) c = twov c.1 x y :: vs := by unfold ev1; rw [if_neg (by omega), if_neg (by omega)]
      rw [ee]
      obtain ⟨⟨-, y1, y2⟩, ⟨-, x1, x2⟩, -⟩ := hv
      obtain ⟨r1, Ia, Ja, ca, rfl, rfl, g1, g2⟩ := c_jpop (D := D + 3) (J := J) hj
      obtain ⟨r2, Ib, Jb, cb, rfl, rfl, g3, g4⟩ := c_jpop (D := D + 3) (J := Ja) g1
      obtain ⟨I', J', hc, rfl, g5, g6⟩ := c_jpush (D := D + 3) (J := Jb) (v := twov c.1 x y) g3 (by have := hj.2.1; have : vs.length + 2 ≤ 64 := this; omega)
      refine ⟨I', J', mj_mk (e224 _ _ _ ?_), rfl, g5, jfr_tr (jfr_tr g2 g4) g6⟩
      obtain ⟨op, n⟩ := c
      have cj := c_join (D := D + 1) (I := Ib) (J := J') (op := op) h1 h2 x1 x2 y1 y2
      have hx : ∀ op, op ≤ 15 → 5 ≤ op → nI (opc op) ≠ (10 : Int32) ∧ nI (opc op) ≠ (11 : Int32) ∧ nI (opc op) ≠ (12 : Int32) ∧ nI (opc op) ≠ (13 : Int32) ∧ nI (opc op) ≠ (14 : Int32) ∧ nI (opc op) ≠ (17 : Int32) := by decide
      obtain ⟨n1, n2, n3, n4, n5, n6⟩ := hx op h2 h1
      rw [if_neg n1, if_neg n2, if_neg n3, if_neg n4, if_neg n5]
      refine if_i (fun _ => ⟨trivial, _, _, _, ca, trivial, _, _, _, cb, trivial, _, _, _, cj, trivial, _, _, hc, rfl⟩) (fun _ => if_i (fun _ => ⟨trivial, _, _, _, ca, trivial, _, _, _, cb, trivial, _, _, _, cj, trivial, _, _, hc, rfl⟩) (fun _ => ?_))
      rw [if_neg n6]
      exact ⟨trivial, _, _, _, ca, trivial, _, _, _, cb, trivial, _, _, _, cj, trivial, _, _, hc, rfl⟩
end S97
end
section
/-! the class gathers all sets that the tests allow -/
theorem sh14 {x : Nat} (h : x < 2 ^ 31) : nI x >>> ((14 : Int32) &&& 31) = nI (x / 16384) := by
  apply Int32.toInt_inj.mp
  have e : (nI x >>> ((14 : Int32) &&& 31)).toInt = (nI x).toInt >>> 14 := by
    have hD : (((14 : Int32) &&& 31).toBitVec.smod 32).toNat = 14 := by decide
    rw [← hD]
    exact BitVec.toInt_sshiftRight ..
  rw [e, Int.shiftRight_eq_div_pow, nI_toInt h, nI_toInt (Nat.lt_of_le_of_lt (Nat.div_le_self _ _) h)]
  rfl
theorem sh_lo {x : Nat} : nI x &&& (16383 : Int32) = nI (x % 16384) := by
  rw [show (16383 : Int32) = nI 16383 from rfl, nx_and, show (16383 : Nat) = 2 ^ 14 - 1 from rfl, Nat.and_two_pow_sub_one_eq_mod]
theorem sh_p2 : ∀ k, k < 13 → ((1 : Int32) <<< (nI k &&& 31)) = nI (2 ^ k) := by decide +kernel
theorem n_long (m : Nat) (hm : m < 4096) : (nI m).toInt64 = lN m := iI_lZ (z := (m : Nat)) (by omega) (by omega)
theorem opc_le : ∀ op, op ≤ 16 → opc op < 64 := by decide
theorem opc_inj : ∀ a, a ≤ 16 → ∀ c, c ≤ 16 → opc a = opc c → a = c := by decide
section S98
variable {D W Hn Un m : Nat} {A : Nat → List (Nat × Nat)} {hs : Nat → Nat} {I : Nat → Nat → Int32} {J : Nat → Nat → Int64}
theorem tys1_rng {H : Nat} {c : Nat × Nat} {st st' : List Bool} (hW : W ≤ 4) (hH : H ≤ 12) (h : tys1 W H c st = some st') : c.1 ≤ 16 ∧ c.2 ≤ 9999 := by
  rcases tys1_inv h with ⟨h1, ⟨q1, q2, q3, q4⟩, -⟩ | ⟨h1, h2, -⟩ | ⟨h1, h2, h3, -⟩
  · refine ⟨by omega, ?_⟩
    rcases (by omega : c.1 = 0 ∨ c.1 = 1 ∨ c.1 = 2 ∨ c.1 = 3 ∨ c.1 = 4) with e | e | e | e | e
    · exact q1 e
    · have := q4 (Or.inl e); omega
    · have := q2 e; omega
    · have := q4 (Or.inr e); omega
    · have := q3 e; omega
  · omega
  · omega
theorem tyc_rng {M H : Nat} (hW : W ≤ 4) (hH : H ≤ 12) : ∀ {a : List (Nat × Nat)} {st s2 : List Bool}, tyc M W H a st = some s2 → ∀ c, c ∈ a → c.1 ≤ 16 ∧ c.2 ≤ 9999
  | [], _, _, _, c, hc => absurd hc List.not_mem_nil
  | d :: r, st, s2, h, c, hc => by
    obtain ⟨st', h1, h2, h3⟩ := tyc_cons h
    rcases List.mem_cons.mp hc with rfl | hc
    · exact tys1_rng hW hH h1
    · exact tyc_rng hW hH h3 c hc
/-- the steps of a rule can be read off but in one way -/
theorem cd_uniq {M H c p : Nat} {a a' : List (Nat × Nat)} (hW : W ≤ 4) (hH : H ≤ 12) (hl : a.length = a'.length) (h : cdC I c p a) (h' : cdC I c p a') {s s' : List Bool} (t : tyc M W H a [] = some s) (t' : tyc M W H a' [] = some s') : a = a' := by
  apply List.ext_getElem? 
  intro k
  by_cases hk : k < a.length
  · have e1 : a[k]? = some a[k] := List.getElem?_eq_getElem hk
    have e2 : a'[k]? = some (a'[k]'(by omega)) := List.getElem?_eq_getElem (by omega)
    have r1 := tyc_rng hW hH t _ (List.getElem_mem hk)
    have r2 := tyc_rng hW hH t' _ (List.getElem_mem (show k < a'.length by omega))
    have q := (h k _ e1).symm.trans (h' k _ e2)
    have o1 := opc_le _ r1.1
    have o2 := opc_le _ r2.1
    have q := (nI_eq (by omega) (by omega)).mp q
    have q1 : opc a[k].1 = opc (a'[k]'(by omega)).1 := by omega
    have q2 : a[k].2 = (a'[k]'(by omega)).2 := by omega
    rw [e1, e2, Prod.ext (opc_inj _ r1.1 _ r2.1 q1) q2]
  · rw [List.getElem?_eq_none (by omega), List.getElem?_eq_none (by omega)]
/-- the rules of the class' Tale, as rows of steps -/
def ruA (I : Nat → Nat → Int32) (W Hn Un : Nat) (A : Nat → List (Nat × Nat)) : Prop := ∀ u, u < Un → tyc 64 W Hn (A u) [] = some [true] ∧ I 10 u = nI (rb I 10 u + (A u).length) ∧ rb I 10 u + (A u).length ≤ 900 ∧ cdC I 9 (rb I 10 u) (A u)
theorem ruA_ruT (hW : W ≤ 4) (hH : Hn ≤ 12) (h : ruA I W Hn Un A) {u : Nat} (hu : u < Un) : ruT I W Hn u m ↔ ev (hsf I Hn m) m (A u) [] = [1] := by
  obtain ⟨h1, h2, h3, h4⟩ := h u hu
  constructor
  · rintro ⟨a, a1, a2, a3, a4, a5⟩
    have hl : a.length = (A u).length := by
      have := (nI_eq (by omega) (by omega)).mp (a1.symm.trans h2)
      omega
    rw [cd_uniq hW hH hl a3 h4 a4 h1] at a5
    exact a5
  · exact fun e => ⟨A u, h2, h3, h4, h1, e⟩
theorem c_allows (hW : W ≤ 4) (hH : Hn ≤ 12) (hm : m < 4096) (hU : I 2 5 = nI Un) (hU2 : Un ≤ 12) (hA : ruA I W Hn Un A) (hh : ∀ w, w < W → hs w ≤ 200000 ∧ I 36 w = nI (hs w)) : ∃ r I' J', C1 (D + 6) 223 [.ref 34, .ref 1, .int (nI m), .ref 36] I J (.int r) I' J' ∧ r = tf (∀ u, u < Un → ev hs m (A u) [] = [1]) ∧ J' = J ∧ jfr I I' := by
  refine mj_cI (e223 _ ?_)
  obtain ⟨Q, hQ⟩ : ∃ Q, Q = qI mj_R1 (fun r I' J' => r = tf (∀ u, u < Un → ev hs m (A u) [] = [1]) ∧ J' = J ∧ jfr I I') := ⟨_, rfl⟩
  rw [← hQ]
  have lp := lp_up (n := Un) (fun u => ∀ I0, jfr I I0 → (∀ v, v < u → ev hs m (A v) [] = [1]) → E1 223 (D + 5) Q 6 [(0, .ref 34), (1, .ref 1), (2, .int (nI m)), (3, .ref 36), (4, .int (nI (rb I 10 u))), (5, .int (nI u))] I0 J) (fun u hu ih I0 h1 h2 => ?_) 0 (by omega) I (fun _ _ _ => rfl) (fun v hv => by omega)
  · exact lp
  refine mj_on (s223_6 _ _ _ ?_)
  rw [show ((5 : Int32)).toNatClampNeg = 5 from rfl, h1 2 (by decide) (by decide), hU]
  refine ⟨vp_in_nI (n := 5) (by decide) (by decide), if_le (by omega) (by omega) (fun c => ?_) (fun c => ?_)⟩
  · obtain rfl : u = Un := by omega
    rw [hQ]
    exact ⟨Or.inr rfl, _, _, _, rfl, (tf_t h2).symm, rfl, h1⟩
  obtain ⟨t1, t2, t3, t4⟩ := hA u c
  have inner : ∀ (rest : List (Nat × Nat)) (k : Nat) (st : List Bool) (vs : List Int) (I1 : Nat → Nat → Int32), k + rest.length = (A u).length → (A u).drop k = rest → tyc 64 W Hn rest st = some [true] → vok st vs → jS vs I1 → jfr I I1 → ev hs m rest vs = ev hs m (A u) [] → E1 223 (D + 5) Q 22 [(0, .ref 34), (1, .ref 1), (2, .int (nI m)), (3, .ref 36), (4, .int (nI (rb I 10 u + k))), (5, .int (nI u))] I1 J := by
    intro rest
    induction rest with
    | nil =>
      intro k st vs I1 hk hd ht hv hj hf he
      have hk : k = (A u).length := by simpa using hk
      unfold tyc at ht
      cases ht
      obtain ⟨v, rfl, hv2⟩ := vok_one hv
      refine mj_on (s223_22 _ _ _ ?_)
      rw [nI_clamp (by omega), hf 10 (by decide) (by decide), t2]
      refine ⟨vp_in_nI (by omega) (by decide), if_le (by omega) (by omega) (fun _ => ?_) (fun z => absurd z (by omega))⟩
      obtain ⟨r1, Ia, Ja, ca, rfl, rfl, g1, g2⟩ := c_jpop (D := D + 4) (J := J) hj
      refine ⟨trivial, _, _, _, ca, ?_⟩
      have he : [v] = ev hs m (A u) [] := he
      rcases hv2 with rfl | rfl
      · rw [if_pos (show iI 0 = 0 from rfl), hQ]
        refine ⟨Or.inl rfl, _, _, _, rfl, (tf_f (fun q => ?_)).symm, rfl, jfr_tr hf g2⟩
        have := q u c
        rw [← he] at this
        exact absurd this (by decide)
      · rw [if_neg (show ¬ iI 1 = 0 by decide), nI_1]
        have e : rb I 10 (u + 1) = rb I 10 u + k := by
          show (I 10 u).toNatClampNeg = _
          rw [t2, nI_clamp (by omega), hk]
        have := ih c Ia (jfr_tr hf g2) (fun v hv => ?_)
        · rw [e] at this
          exact this
        · by_cases z : v = u
          · subst z; exact he.symm
          · exact h2 v (by omega)
    | cons x rest ihr =>
      intro k st vs I1 hk hd ht hv hj hf he
      have hk2 : k + (rest.length + 1) = (A u).length := hk
      obtain ⟨st', w1, w2, w3⟩ := tyc_cons ht
      have hx : (A u)[k]? = some x := by
        have : ((A u).drop k)[0]? = some x := by rw [hd]; rfl
        rw [List.getElem?_drop] at this
        exact this
      have hr := tys1_rng hW hH w1
      have ho := opc_le _ hr.1
      refine mj_on (s223_22 _ _ _ ?_)
      rw [nI_clamp (by omega), hf 10 (by decide) (by decide), t2]
      refine ⟨vp_in_nI (by omega) (by decide), if_le (by omega) (by omega) (fun z => absurd z (by omega)) (fun _ => ?_)⟩
      rw [nI_clamp (by omega), hf 9 (by decide) (by decide), t4 k x hx, sh14 (by omega), sh_lo, show (opc x.1 * 16384 + x.2) / 16384 = opc x.1 by omega, show (opc x.1 * 16384 + x.2) % 16384 = x.2 by omega, nI_1]
      refine ⟨vp_in_nI (by omega) (by decide), vp_in_nI (by omega) (by decide), ?_⟩
      obtain ⟨Ia, Ja, ca, rfl, g1, g2⟩ := c_work (D := D) (J := J) (hs := hs) hW hH hm (fun w hw => ⟨(hh w hw).1, by rw [hf 36 (by decide) (by decide)]; exact (hh w hw).2⟩) w1 hv hj w2
      refine ⟨trivial, _, _, ca, ?_⟩
      exact ihr (k + 1) st' _ Ia (by omega) (by rw [← List.drop_drop, hd]; rfl) w3 (tys1_ok (fun w hw => (hh w hw).1) w1 hv) g1 (jfr_tr hf g2) (by rw [← he]; rfl)
  have := inner (A u) 0 [] [] (mj_up I0 34 1 0) (by omega) rfl t1 trivial ⟨up_s, by decide, trivial⟩ (jfr_tr h1 fun q q1 q2 => up_c q1) rfl
  exact this
/-- the things of the class' Tale -/
def thq (W Hn : Nat) (I : Nat → Nat → Int32) : Prop := W ≤ 4 ∧ Hn ≤ 12 ∧ I 2 0 = nI W ∧ I 2 4 = nI Hn ∧ ∀ k, k < Hn → ∀ w, w < W → ∃ x, x ≤ 9999 ∧ I 5 (640 + 4 * k + w) = nI x
theorem hsu_le (h : thq W Hn I) {w : Nat} (hw : w < W) : ∀ n, n ≤ Hn → hsu I w m n ≤ 9999 * n
  | 0, _ => by simp [hsu]
  | n + 1, hn => by
    have ih := hsu_le h hw n (by omega)
    obtain ⟨x, hx, e⟩ := h.2.2.2.2 n (by omega) w hw
    rw [hsu_s, e, nI_clamp (by omega)]
    rcases tbit_01 m n with q | q <;> rw [q] <;> omega
theorem c_addUp (h : thq W Hn I) (hm : m < 4096) : ∃ I' J', C1 (D + 2) 222 [.ref 33, .ref 1, .int (nI m)] I J .null I' J' ∧ J' = J ∧ (∀ w, w < W → I' 36 w = nI (hsu I w m Hn)) ∧ ∀ q, q ≠ 36 → I' q = I q := by
  obtain ⟨w4, n12, aW, aH, aA⟩ := id h
  refine mj_cN (e222 _ ?_)
  obtain ⟨Q, hQ⟩ : ∃ Q, Q = qN mj_R1 (fun I' J' => J' = J ∧ (∀ w, w < W → I' 36 w = nI (hsu I w m Hn)) ∧ ∀ q, q ≠ 36 → I' q = I q) := ⟨_, rfl⟩
  rw [← hQ]
  have lp := lp_up (n := W) (fun w => ∀ I0, (∀ q, q ≠ 36 → I0 q = I q) → (∀ u, u < w → I0 36 u = nI (hsu I u m Hn)) → E1 222 (D + 1) Q 2 [(0, .ref 33), (1, .ref 1), (2, .int (nI m)), (3, .int (nI w))] I0 J) (fun w hw ih I0 h1 h2 => ?_) 0 (by omega) I (fun _ _ => rfl) (fun u hu => by omega)
  · exact lp
  refine mj_on (s222_2 _ _ ?_)
  rw [show ((0 : Int32)).toNatClampNeg = 0 from rfl, h1 2 (by decide), aW]
  refine ⟨vp_in_nI (n := 0) (by decide) (by decide), if_le (by omega) (by omega) (fun c => ?_) (fun c => ?_)⟩
  · obtain rfl : w = W := by omega
    rw [hQ]
    exact ⟨_, _, rfl, rfl, h2, h1⟩
  rw [nI_clamp (by omega)]
  refine ⟨vp_in_nI (by omega) (by decide), ?_⟩
  have lp2 := lp_up (n := Hn) (fun k => ∀ I1, (∀ q, q ≠ 36 → I1 q = I q) → (∀ u, u < w → I1 36 u = nI (hsu I u m Hn)) → I1 36 w = nI (hsu I w m k) → E1 222 (D + 1) Q 22 [(0, .ref 33), (1, .ref 1), (2, .int (nI m)), (3, .int (nI w)), (4, .int (nI k))] I1 J) (fun k hk ih2 I1 k1 k2 k3 => ?_) 0 (by omega) (mj_up I0 36 w 0) (fun q hq => by rw [up_c hq]; exact h1 q hq) (fun u hu => by rw [up_j (by omega)]; exact h2 u hu) (by rw [up_s]; rfl)
  · exact lp2
  refine mj_on (s222_22 _ _ _ ?_)
  rw [show ((4 : Int32)).toNatClampNeg = 4 from rfl, k1 2 (by decide), aH]
  refine ⟨vp_in_nI (n := 4) (by decide) (by decide), if_le (by omega) (by omega) (fun d => ?_) (fun d => ?_)⟩
  · obtain rfl : k = Hn := by omega
    rw [nI_1]
    refine ih c I1 k1 (fun u hu => ?_)
    by_cases e : u = w
    · subst e; exact k3
    · exact k2 u (by omega)
  obtain ⟨x, hx, ex⟩ := aA k d w c
  have hle := hsu_le (m := m) h c k (by omega)
  rw [hb_bit k (by omega) m hm, nI_1]
  refine if_i (fun e => ?_) (fun e => ?_)
  · have e0 : tbit m k = 0 := by
      rcases tbit_01 m k with q | q
      · exact q
      · rw [q] at e; exact absurd e (by decide)
    refine ih2 d I1 k1 k2 ?_
    rw [hsu_s, e0, Nat.zero_mul, Nat.add_zero]
    exact k3
  · have e1 : tbit m k = 1 := by
      rcases tbit_01 m k with q | q
      · rw [q] at e; exact absurd rfl e
      · exact q
    rw [nI_clamp (by omega)]
    refine ⟨vp_in_nI (by omega) (by decide), trivial, _, _, _, c_slot (k := 4), vp_in_nI (by omega) (by decide), vp_in_nI (by omega) (by decide), ?_⟩
    rw [nI_clamp (by omega), show 160 * 4 + 4 * k + w = 640 + 4 * k + w by omega, k3, k1 5 (by decide), ex, nI_add]
    refine ih2 d _ (fun q hq => by rw [up_c hq]; exact k1 q hq) (fun u hu => by rw [up_j (by omega)]; exact k2 u hu) ?_
    rw [up_s, hsu_s, e1, ex, nI_clamp (by omega), Nat.one_mul]
/-- what the first sets have that the tests allow -/
def aA (I : Nat → Nat → Int32) (Hn Un : Nat) (A : Nat → List (Nat × Nat)) (n : Nat) (v : Nat → Nat) : Prop := ∃ m, m < n ∧ (∀ u, u < Un → ev (hsf I Hn m) m (A u) [] = [1]) ∧ v = fun w => hsu I w m Hn
theorem hsu_cg {I' : Nat → Nat → Int32} (e : I' 5 = I 5) : hsu I' = hsu I := by
  funext w m n
  unfold hsu
  rw [e]
theorem c_gatherSets (h : thq W Hn I) (hU : I 2 5 = nI Un) (hU2 : Un ≤ 12) (hA : ruA I W Hn Un A) : ∃ I' J', C1 (D + 8) 221 [.ref 33, .ref 1, .ref 29] I J .null I' J' ∧ (∃ L, plL W L I' J' ∧ ∀ v, v ∈ L ↔ aA I Hn Un A (2 ^ Hn) v) ∧ (∀ q, q ≠ 29 → q ≠ 30 → q ≠ 32 → q ≠ 34 → q ≠ 35 → q ≠ 36 → q ≠ 37 → I' q = I q) ∧ ∀ q, q ≠ 31 → J' q = J q := by
  obtain ⟨w4, n12, aW, aH, aAm⟩ := id h
  have hp : (2 : Nat) ^ Hn ≤ 4096 := Nat.le_trans (Nat.pow_le_pow_right (by decide) n12) (by decide)
  refine mj_cN (e221 ?_)
  rw [show ((0 : Int32)).toNatClampNeg = 0 from rfl, aW]
  refine ⟨vp_in_nI (n := 0) (by decide) (by decide), trivial, _, _, mj_mk (e208 _ rfl), ?_⟩
  obtain ⟨Q, hQ⟩ : ∃ Q, Q = qN mj_R1 (fun I' J' => (∃ L, plL W L I' J' ∧ ∀ v, v ∈ L ↔ aA I Hn Un A (2 ^ Hn) v) ∧ (∀ q, q ≠ 29 → q ≠ 30 → q ≠ 32 → q ≠ 34 → q ≠ 35 → q ≠ 36 → q ≠ 37 → I' q = I q) ∧ ∀ q, q ≠ 31 → J' q = J q) := ⟨_, rfl⟩
  rw [← hQ]
  have lp := lp_up (n := 2 ^ Hn) (fun m => ∀ I0 J0 L, plL W L I0 J0 → L.length ≤ m → (∀ v, v ∈ L ↔ aA I Hn Un A m v) → (∀ q, q ≠ 29 → q ≠ 30 → q ≠ 32 → q ≠ 34 → q ≠ 35 → q ≠ 36 → q ≠ 37 → I0 q = I q) → (∀ q, q ≠ 31 → J0 q = J q) → E1 221 (D + 7) Q 12 [(0, .ref 33), (1, .ref 1), (2, .ref 29), (3, .int (nI m))] I0 J0) (fun m hm ih I0 J0 L h1 h2 h3 h4 h5 => ?_) 0 (Nat.zero_le _) (mj_up (mj_up I 29 3 0) 29 4 (nI W)) J [] ⟨by rw [up_j (by decide), up_s]; rfl, up_s, by decide, fun x v hx => by simp at hx⟩ (Nat.le_refl 0) (fun v => ⟨fun q => absurd q List.not_mem_nil, fun ⟨m, q, _⟩ => absurd q (by omega)⟩) (fun q q1 _ _ _ _ _ _ => by rw [up_c q1, up_c q1]) (fun _ _ => rfl)
  · exact lp
  refine mj_on (s221_12 _ ?_)
  rw [show ((4 : Int32)).toNatClampNeg = 4 from rfl, h4 2 (by decide) (by decide) (by decide) (by decide) (by decide) (by decide) (by decide), aH, sh_p2 Hn (by omega)]
  refine ⟨vp_in_nI (n := 4) (by decide) (by decide), if_le (by omega) (by omega) (fun c => ?_) (fun c => ?_)⟩
  · obtain rfl : m = 2 ^ Hn := by omega
    rw [hQ]
    exact ⟨_, _, rfl, ⟨L, h1, h3⟩, h4, h5⟩
  have hm4 : m < 4096 := by omega
  have t0 : thq W Hn I0 := by
    unfold thq at h ⊢
    rw [h4 2 (by decide) (by decide) (by decide) (by decide) (by decide) (by decide) (by decide), h4 5 (by decide) (by decide) (by decide) (by decide) (by decide) (by decide) (by decide)]
    exact h
  have hsu0 : hsu I0 = hsu I := hsu_cg (h4 5 (by decide) (by decide) (by decide) (by decide) (by decide) (by decide) (by decide))
  obtain ⟨Ia, Ja, ca, rfl, a1, a2⟩ := c_addUp (D := D + 5) (J := J0) t0 hm4
  rw [hsu0] at a1
  have fa : ∀ q, q ≠ 29 → q ≠ 30 → q ≠ 32 → q ≠ 34 → q ≠ 35 → q ≠ 36 → q ≠ 37 → Ia q = I q := fun q q1 q2 q3 q4 q5 q6 q7 => by rw [a2 q q6, h4 q q1 q2 q3 q4 q5 q6 q7]
  have ra : ruA Ia W Hn Un A := by
    have e10 := fa 10 (by decide) (by decide) (by decide) (by decide) (by decide) (by decide) (by decide)
    have e9 := fa 9 (by decide) (by decide) (by decide) (by decide) (by decide) (by decide) (by decide)
    have er : ∀ u, rb Ia 10 u = rb I 10 u := fun u => by
      cases u with
      | zero => rfl
      | succ u => show (Ia 10 u).toNatClampNeg = (I 10 u).toNatClampNeg; rw [e10]
    intro u hu
    obtain ⟨z1, z2, z3, z4⟩ := hA u hu
    refine ⟨z1, by rw [e10, er]; exact z2, by rw [er]; exact z3, ?_⟩
    unfold cdC at z4 ⊢
    rw [e9, er]
    exact z4
  obtain ⟨r, Ib, Jb, cb, hr, rfl, fb⟩ := c_allows (D := D + 1) (J := Ja) (A := A) (m := m) (hs := hsf I Hn m) w4 n12 hm4 (by rw [fa 2 (by decide) (by decide) (by decide) (by decide) (by decide) (by decide) (by decide)]; exact hU) hU2 ra (fun w hw => ⟨by have := hsu_le (m := m) h hw Hn (Nat.le_refl _); show hsu I w m Hn ≤ 200000; omega, a1 w hw⟩)
  refine ⟨trivial, _, _, ca, trivial, _, _, _, cb, ?_⟩
  rw [hr, nI_1]
  have fbq : ∀ q, q ≠ 29 → q ≠ 30 → q ≠ 32 → q ≠ 34 → q ≠ 35 → q ≠ 36 → q ≠ 37 → Ib q = I q := fun q q1 q2 q3 q4 q5 q6 q7 => by rw [fb q q4 q5, fa q q1 q2 q3 q4 q5 q6 q7]
  have plb : plL W L Ib Jb := plL_cg h1 (by rw [fb 29 (by decide) (by decide), a2 29 (by decide)]) (by rw [fb 30 (by decide) (by decide), a2 30 (by decide)]) (by rw [fb 32 (by decide) (by decide), a2 32 (by decide)]) (by rw [fb 4 (by decide) (by decide), a2 4 (by decide)]) rfl
  refine if_tf (fun ok => ?_) (fun no => ?_)
  · obtain ⟨Ic, Jc, cc, rfl, p1, p2⟩ := c_putLosses (D := D + 5) (I := Ib) (J := Jb) (a := 0) (W := W) (by rw [fbq 2 (by decide) (by decide) (by decide) (by decide) (by decide) (by decide) (by decide)]; exact aW) w4 (by omega)
    have plc : plL W L Ic Jc := plL_cg plb (p2 29 (by decide)) (p2 30 (by decide)) (p2 32 (by decide)) (p2 4 (by decide)) rfl
    have hl : L.length < 6561 := by omega
    rw [n_long m hm4]
    refine ⟨trivial, _, _, cc, trivial, _, _, c_padd plc.1 hl, ?_⟩
    refine ih c _ _ (L ++ [fun w => hsu I w m Hn]) (plL_add plc w4 hl (fun w hw => ?_) ⟨m, by omega, rfl⟩) (by rw [List.length_append]; simp; omega) (fun v => ?_) (fun q q1 q2 q3 q4 q5 q6 q7 => by rw [paI_f q1 q2 q3, p2 q q7, fbq q q1 q2 q3 q4 q5 q6 q7]) (fun q hq => by rw [up_c hq]; exact h5 q hq)
    · rw [p1 w hw, p2 4 (by decide), fb 36 (by decide) (by decide), show 0 + w = w by omega, a1 w hw]
    · rw [List.mem_append, List.mem_singleton, h3]
      constructor
      · rintro (⟨m', q1, q2, q3⟩ | rfl)
        · exact ⟨m', by omega, q2, q3⟩
        · exact ⟨m, by omega, ok, rfl⟩
      · rintro ⟨m', q1, q2, q3⟩
        by_cases e : m' = m
        · subst e; exact Or.inr q3
        · exact Or.inl ⟨m', by omega, q2, q3⟩
  · refine ih c Ib Jb L plb (by omega) (fun v => ?_) fbq h5
    rw [h3]
    constructor
    · rintro ⟨m', q1, q2, q3⟩
      exact ⟨m', by omega, q2, q3⟩
    · rintro ⟨m', q1, q2, q3⟩
      by_cases e : m' = m
      · subst e; exact absurd q2 no
      · exact ⟨m', by omega, q2, q3⟩
end S98
end
section
/-! the reference says of a set whether the tests hold, and gathers the sets -/
theorem lZ_z {z : Int} (h1 : -2 ^ 62 < z) (h2 : z < 2 ^ 62) : lZ z = 0 ↔ z = 0 := by
  constructor
  · intro h
    have := congrArg Int64.toInt h
    rw [lZ_toInt h1 h2] at this
    exact this
  · rintro rfl; rfl
theorem n1_neg {n : Nat} : nI (n + 1) + -1 = nI n := by
  rw [← Int32.sub_eq_add_neg]
  exact n1_sub
section S98b
variable {D b W Rn Hn Un m : Nat} {A : Nat → List (Nat × Nat)} {hs : Nat → Nat} {I I1 : Nat → Nat → Int32} {J : Nat → Nat → Int64} {mo : Nat → Int32}
theorem r_over {a c : Int} (a1 : -1000000000 ≤ a) (a2 : a ≤ 1000000000) (c1 : -1000000000 ≤ c) (c2 : c ≤ 1000000000) : C2 (D + 1) 82 [.long (lZ a), .long (lZ c)] I J (.long (lZ (twov 8 a c))) I J := by
  refine mj_mk (e82 _ _ ?_)
  by_cases h0 : c = 0
  · subst h0
    rw [if_pos (cmp0.mpr (show lZ 0 = 0 from rfl))]
    rfl
  have n0 : ¬ lZ c = 0 := fun z => h0 ((lZ_z (by omega) (by omega)).mp z)
  have ht := tdiv_rng (c := c) a1 a2
  have ed : lZ a / lZ c = lZ (a.tdiv c) := by
    apply Int64.toInt_inj.mp
    rw [Int64.toInt_div, lZ_toInt (by omega) (by omega), lZ_toInt (by omega) (by omega), lZ_toInt (by omega) (by omega)]
    exact Int.bmod_eq_of_le (by omega) (by omega)
  have hm : (a.tdiv c * c).natAbs ≤ a.natAbs := by
    rw [Int.natAbs_mul, Int.natAbs_tdiv]
    exact Nat.div_mul_le_self _ _
  have es : lZ (a.tdiv c) - 1 = lZ (a.tdiv c - 1) := lZ_sub _ 1
  have ev : twov 8 a c = Int.fdiv a c := if_neg h0
  have sa : (lg_cmp (lZ a) 0 < 0) ↔ a < 0 := by rw [cmp_lt.1, lZ_toInt (by omega) (by omega), show (0 : Int64).toInt = 0 by decide]
  have sc : (lg_cmp (lZ c) 0 < 0) ↔ c < 0 := by rw [cmp_lt.1, lZ_toInt (by omega) (by omega), show (0 : Int64).toInt = 0 by decide]
  rw [if_neg (fun z => n0 (cmp0.mp z)), ed, lZ_mul, lZ_sub, es, ev, fd_t h0]
  refine ⟨n0, n0, if_i (fun x => ?_) (fun x => ?_)⟩
  · rw [if_pos (Or.inl (by have := (lZ_z (by omega) (by omega)).mp (cmp0.mp x); omega))]
  · have x2 : ¬ a.tdiv c * c = a := fun q => x (cmp0.mpr (by rw [q, Int.sub_self]; rfl))
    refine if_i (fun y => if_i (fun z => ?_) (fun z => ?_)) (fun y => if_i (fun z => ?_) (fun z => ?_))
    · rw [if_pos (Or.inr ⟨fun _ => sc.mp z, fun _ => sa.mp y⟩)]
    · rw [if_neg (fun q => q.elim x2 fun q => z (sc.mpr (q.mp (sa.mp y))))]
    · rw [if_neg (fun q => q.elim x2 fun q => y (sa.mpr (q.mpr (sc.mp z))))]
    · rw [if_pos (Or.inr ⟨fun q => absurd (sa.mpr q) y, fun q => absurd (sc.mpr q) z⟩)]
theorem r_two {op : Nat} {a c : Int} (h5 : 5 ≤ op) (h15 : op ≤ 15) (ha : vok1 (decide (14 ≤ op)) a) (hc : vok1 (decide (14 ≤ op)) c) : C2 (D + 2) 80 [.int (nI op), .long (lZ a), .long (lZ c)] I J (.long (lZ (twov op a c))) I J := by
  obtain ⟨ha0, a1, a2⟩ := ha
  obtain ⟨hc0, c1, c2⟩ := hc
  have l1 : lg_cmp (lZ a) (lZ c) < 0 ↔ a < c := by rw [cmp_lt.1, lZ_toInt (by omega) (by omega), lZ_toInt (by omega) (by omega)]
  have l2 : lg_cmp (lZ a) (lZ c) ≤ 0 ↔ a ≤ c := by rw [cmp_lt.2, lZ_toInt (by omega) (by omega), lZ_toInt (by omega) (by omega)]
  have l3 : lg_cmp (lZ (a + c)) 0 ≤ 0 ↔ a + c ≤ 0 := by rw [cmp_lt.2, lZ_toInt (by omega) (by omega), show (0 : Int64).toInt = 0 by decide]
  match op, h5, h15, ha0, hc0 with
  | 5, _, _, _, _ =>
    refine mj_mk (e80 _ _ _ ?_)
    rw [if_pos (show nI 5 = 5 from rfl), lZ_add]
    exact ⟨trivial, _, _, _, r_held (by omega) (by omega), rfl⟩
  | 6, _, _, _, _ =>
    refine mj_mk (e80 _ _ _ ?_)
    rw [if_neg (show ¬ nI 6 = 5 by decide), if_pos (show nI 6 = 6 from rfl), lZ_sub]
    exact ⟨trivial, _, _, _, r_held (by omega) (by omega), rfl⟩
  | 7, _, _, _, _ =>
    refine mj_mk (e80 _ _ _ ?_)
    rw [if_neg (show ¬ nI 7 = 5 by decide), if_neg (show ¬ nI 7 = 6 by decide), if_pos (show nI 7 = 7 from rfl), lZ_mul]
    have hm : (a * c).natAbs ≤ 1000000000 * 1000000000 := by
      rw [Int.natAbs_mul]
      exact Nat.mul_le_mul (by omega) (by omega)
    exact ⟨trivial, _, _, _, r_held (by omega) (by omega), rfl⟩
  | 8, _, _, _, _ =>
    refine mj_mk (e80 _ _ _ ?_)
    rw [if_neg (show ¬ nI 8 = 5 by decide), if_neg (show ¬ nI 8 = 6 by decide), if_neg (show ¬ nI 8 = 7 by decide), if_pos (show nI 8 = 8 from rfl)]
    exact ⟨trivial, _, _, _, r_over a1 a2 c1 c2, rfl⟩
  | 9, _, _, _, _ =>
    refine mj_mk (e80 _ _ _ ?_)
    rw [if_neg (show ¬ nI 9 = 5 by decide), if_neg (show ¬ nI 9 = 6 by decide), if_neg (show ¬ nI 9 = 7 by decide), if_neg (show ¬ nI 9 = 8 by decide), if_pos (show nI 9 = 9 from rfl), show twov 9 a c = if a < c then a else c from rfl]
    refine if_i (fun y => ?_) (fun y => ?_)
    · rw [if_pos (l1.mp y)]
    · rw [if_neg (fun z => y (l1.mpr z))]
  | 10, _, _, _, _ =>
    refine mj_mk (e80 _ _ _ ?_)
    rw [if_neg (show ¬ nI 10 = 5 by decide), if_neg (show ¬ nI 10 = 6 by decide), if_neg (show ¬ nI 10 = 7 by decide), if_neg (show ¬ nI 10 = 8 by decide), if_neg (show ¬ nI 10 = 9 by decide), if_pos (show nI 10 = 10 from rfl), show twov 10 a c = if a < c then c else a from rfl]
    refine if_i (fun y => ?_) (fun y => ?_)
    · by_cases z : a < c
      · rw [if_pos z]
      · rw [if_neg z, show a = c by have := l2.mp y; omega]
    · rw [if_neg (fun z => y (l2.mpr (by omega)))]
  | 11, _, _, _, _ =>
    refine mj_mk (e80 _ _ _ ?_)
    rw [if_neg (show ¬ nI 11 = 5 by decide), if_neg (show ¬ nI 11 = 6 by decide), if_neg (show ¬ nI 11 = 7 by decide), if_neg (show ¬ nI 11 = 8 by decide), if_neg (show ¬ nI 11 = 9 by decide), if_neg (show ¬ nI 11 = 10 by decide), if_pos (show nI 11 = 11 from rfl)]
    refine if_i (fun y => ?_) (fun y => ?_)
    · have e : twov 11 a c = 1 := if_pos (l1.mp y)
      rw [e]; rfl
    · have e : twov 11 a c = 0 := if_neg (fun z => y (l1.mpr z))
      rw [e]; rfl
  | 12, _, _, _, _ =>
    refine mj_mk (e80 _ _ _ ?_)
    rw [if_neg (show ¬ nI 12 = 5 by decide), if_neg (show ¬ nI 12 = 6 by decide), if_neg (show ¬ nI 12 = 7 by decide), if_neg (show ¬ nI 12 = 8 by decide), if_neg (show ¬ nI 12 = 9 by decide), if_neg (show ¬ nI 12 = 10 by decide), if_neg (show ¬ nI 12 = 11 by decide), if_pos (show nI 12 = 12 from rfl)]
    refine if_i (fun y => ?_) (fun y => ?_)
    · have e : twov 12 a c = 0 := if_neg (by have := l2.mp y; omega)
      rw [e]; rfl
    · have e : twov 12 a c = 1 := if_pos (Classical.byContradiction fun z => y (l2.mpr (by omega)))
      rw [e]; rfl
  | 13, _, _, _, _ =>
    refine mj_mk (e80 _ _ _ ?_)
    rw [if_neg (show ¬ nI 13 = 5 by decide), if_neg (show ¬ nI 13 = 6 by decide), if_neg (show ¬ nI 13 = 7 by decide), if_neg (show ¬ nI 13 = 8 by decide), if_neg (show ¬ nI 13 = 9 by decide), if_neg (show ¬ nI 13 = 10 by decide), if_neg (show ¬ nI 13 = 11 by decide), if_neg (show ¬ nI 13 = 12 by decide), if_pos (show nI 13 = 13 from rfl)]
    refine if_i (fun y => ?_) (fun y => ?_)
    · have q := congrArg Int64.toInt (cmp0.mp y)
      rw [lZ_toInt (by omega) (by omega), lZ_toInt (by omega) (by omega)] at q
      have e : twov 13 a c = 1 := if_pos q
      rw [e]; rfl
    · have e : twov 13 a c = 0 := if_neg (fun z => y (cmp0.mpr (by rw [z])))
      rw [e]; rfl
  | 14, _, _, ha0, hc0 =>
    refine mj_mk (e80 _ _ _ ?_)
    rw [if_neg (show ¬ nI 14 = 5 by decide), if_neg (show ¬ nI 14 = 6 by decide), if_neg (show ¬ nI 14 = 7 by decide), if_neg (show ¬ nI 14 = 8 by decide), if_neg (show ¬ nI 14 = 9 by decide), if_neg (show ¬ nI 14 = 10 by decide), if_neg (show ¬ nI 14 = 11 by decide), if_neg (show ¬ nI 14 = 12 by decide), if_neg (show ¬ nI 14 = 13 by decide), if_pos (show nI 14 = 14 from rfl), lZ_mul]
    have e : twov 14 a c = a * c := by
      show (if a ≠ 0 ∧ c ≠ 0 then 1 else 0) = a * c
      rcases ha0 rfl with rfl | rfl <;> rcases hc0 rfl with rfl | rfl <;> decide
    rw [e]
  | 15, _, _, ha0, hc0 =>
    refine mj_mk (e80 _ _ _ ?_)
    rw [if_neg (show ¬ nI 15 = 5 by decide), if_neg (show ¬ nI 15 = 6 by decide), if_neg (show ¬ nI 15 = 7 by decide), if_neg (show ¬ nI 15 = 8 by decide), if_neg (show ¬ nI 15 = 9 by decide), if_neg (show ¬ nI 15 = 10 by decide), if_neg (show ¬ nI 15 = 11 by decide), if_neg (show ¬ nI 15 = 12 by decide), if_neg (show ¬ nI 15 = 13 by decide), if_neg (show ¬ nI 15 = 14 by decide), lZ_add]
    have va := ha0 rfl
    have vc := hc0 rfl
    refine if_i (fun y => ?_) (fun y => ?_)
    · have e : twov 15 a c = 0 := if_neg (by have := l3.mp y; omega)
      rw [e]; rfl
    · have e : twov 15 a c = 1 := if_pos (by have : ¬ a + c ≤ 0 := fun z => y (l3.mpr z); omega)
      rw [e]; rfl
/-- the things of the reference's Tale, by the class' -/
def thr (b W Hn : Nat) (I1 I : Nat → Nat → Int32) : Prop := W ≤ 4 ∧ Hn ≤ 12 ∧ I 0 12 = nI b ∧ b < 2 ∧ I 6 b = nI Hn ∧ ∀ k, k < Hn → ∀ w, w < W → ∃ x, x ≤ 9999 ∧ I1 5 (640 + 4 * k + w) = nI x ∧ I 18 (4 * (12 * b + k) + w) = nI x
theorem r_setHas (ht : thr b W Hn I1 I) (h56 : I 0 56 = nI m) (hm : m < 4096) {w : Nat} (hw : w < W) : C2 (D + 1) 79 [.ref 0, .int (nI w)] I J (.int (nI (hsu I1 w m Hn))) I J := by
  obtain ⟨w4, n12, hb, hb2, h6, hA⟩ := ht
  refine mj_mk (e79 _ ?_)
  have lp := lp_up (n := Hn) (fun k => E2 79 D (fun x => x = (.int (nI (hsu I1 w m Hn)), (I, J, mj_R2))) 4 [(0, .ref 0), (1, .int (nI w)), (2, .int (nI (hsu I1 w m k))), (3, .int (nI k))] I J) (fun k hk ih => ?_) 0 (by omega)
  · exact lp
  refine mj_on (s79_4 _ _ _ ?_)
  rw [hb, nI_clamp (by omega), h6, h56]
  refine ⟨vp_in_nI hb2 (by decide), if_le (by omega) (by omega) (fun c => ?_) (fun c => ?_)⟩
  · obtain rfl : k = Hn := by omega
    rfl
  obtain ⟨x, hx, e1, e2⟩ := hA k c w hw
  have := ih c
  rw [hsu_s, e1, nI_clamp (by omega)] at this
  rw [hb_bit k (by omega) m hm, nI_1]
  refine if_i (fun e => ?_) (fun e => ?_)
  · have e1 : tbit m k = 1 := by
      rcases tbit_01 m k with q | q
      · rw [q] at e; exact absurd e (by decide)
      · exact q
    rw [e1, Nat.one_mul] at this
    rw [show (12 : Int32) = nI 12 from rfl, show (4 : Int32) = nI 4 from rfl, pk_mul, nI_add, pk_mul, nI_add, nI_clamp (by omega), e2, nI_add]
    exact ⟨vp_in_nI (by omega) (by decide), this⟩
  · have e0 : tbit m k = 0 := by
      rcases tbit_01 m k with q | q
      · exact q
      · rw [q] at e; exact absurd rfl e
    rw [e0, Nat.zero_mul] at this
    rw [show (0 : Int32) = nI 0 from rfl, nI_add]
    exact this
theorem r_leaf (hm : m < 4096) (h56 : I 0 56 = nI m) (hh : ∀ w, w < W → hs w ≤ 200000) (h79 : ∀ w, w < W → C2 (D + 1) 79 [.ref 0, .int (nI w)] I J (.int (nI (hs w))) I J) {op v : Nat} (h1 : op ≤ 4) (hH : Hn ≤ 12) (hc : (op = 0 → v ≤ 9999) ∧ (op = 2 → v < W) ∧ (op = 4 → v < Hn) ∧ (op = 1 ∨ op = 3 → v = 0)) : C2 (D + 2) 78 [.ref 0, .int (nI op), .int (nI v)] I J (.long (lZ (leafv hs m op v))) I J := by
  obtain ⟨q1, q2, q3, q4⟩ := hc
  have il : ∀ n : Nat, n < 2 ^ 31 → (nI n).toInt64 = lZ (n : Nat) := fun n hn => iI_lZ (z := (n : Nat)) (by omega) (by omega)
  match op, h1 with
  | 0, _ =>
    refine mj_mk (e78 _ _ ?_)
    rw [if_pos (show nI 0 = 0 from rfl), il v (by have := q1 rfl; omega)]
    rfl
  | 1, _ =>
    refine mj_mk (e78 _ _ ?_)
    rw [if_neg (show ¬ nI 1 = 0 by decide), if_pos (show nI 1 = 1 from rfl), h56, n_long m hm]
    refine ⟨trivial, _, _, _, r_bits, ?_⟩
    have := pcn_le 12 m
    rw [pcL_lN (by omega), pcn_big 12 52 m (by omega), il _ (by omega)]
    rfl
  | 2, _ =>
    refine mj_mk (e78 _ _ ?_)
    rw [if_neg (show ¬ nI 2 = 0 by decide), if_neg (show ¬ nI 2 = 1 by decide), if_pos (show nI 2 = 2 from rfl)]
    refine ⟨trivial, _, _, _, h79 v (q2 rfl), ?_⟩
    have := hh v (q2 rfl)
    rw [il _ (by omega)]
    rfl
  | 3, _ =>
    refine mj_mk (e78 _ _ ?_)
    rw [if_neg (show ¬ nI 3 = 0 by decide), if_neg (show ¬ nI 3 = 1 by decide), if_neg (show ¬ nI 3 = 2 by decide), if_pos (show nI 3 = 3 from rfl)]
    rfl
  | 4, _ =>
    refine mj_mk (e78 _ _ ?_)
    have := q3 rfl
    rw [if_neg (show ¬ nI 4 = 0 by decide), if_neg (show ¬ nI 4 = 1 by decide), if_neg (show ¬ nI 4 = 2 by decide), if_neg (show ¬ nI 4 = 3 by decide), h56, hb_bit v (by omega) m hm, il _ (by rcases tbit_01 m v with q | q <;> omega)]
    rfl
def jrt (J : Nat → Nat → Int64) : List Int → Prop
  | [] => True
  | v :: r => J 36 r.length = lZ v ∧ jrt J r
theorem jrt_cg {J J' : Nat → Nat → Int64} : ∀ {vs : List Int}, jrt J vs → (∀ k, k < vs.length → J' 36 k = J 36 k) → jrt J' vs
  | [], _, _ => trivial
  | v :: r, h, e => ⟨by rw [e _ (by simp)]; exact h.1, jrt_cg h.2 fun k hk => e k (by simp; omega)⟩
theorem r_works {f : Nat} {a : List (Nat × Nat)} (hb : I 0 12 = nI b) (hb2 : b < 2) (hm : m < 4096) (h56 : I 0 56 = nI m) (hH : Hn ≤ 12) (hh : ∀ w, w < W → hs w ≤ 200000) (h79 : ∀ J w, w < W → C2 (D + 1) 79 [.ref 0, .int (nI w)] I J (.int (nI (hs w))) I J) (hl : f + a.length ≤ 900) (hcd : cdR I (900 * b + f) a) (hty : tyc 950 W Hn a [] = some [true]) : ∃ r I' J', C2 (D + 3) 77 [.ref 0, .int (nI f), .int (nI (f + a.length))] I J (.long r) I' J' ∧ (∃ v, ev hs m a [] = [v] ∧ (v = 0 ∨ v = 1) ∧ r = lZ v) ∧ I' = I ∧ ∀ q, q ≠ 36 → J' q = J q := by
  refine mj_cL (e77 _ _ ?_)
  obtain ⟨Q, hQ⟩ : ∃ Q, Q = qL mj_R2 (fun r I' J' => (∃ v, ev hs m a [] = [v] ∧ (v = 0 ∨ v = 1) ∧ r = lZ v) ∧ I' = I ∧ ∀ q, q ≠ 36 → J' q = J q) := ⟨_, rfl⟩
  rw [← hQ, hb, show (900 : Int32) = nI 900 from rfl, pk_mul, nI_add]
  have inner : ∀ (rest : List (Nat × Nat)) (k : Nat) (st : List Bool) (vs : List Int) (J1 : Nat → Nat → Int64), k + rest.length = a.length → a.drop k = rest → tyc 950 W Hn rest st = some [true] → vok st vs → jrt J1 vs → vs.length ≤ 950 → (∀ q, q ≠ 36 → J1 q = J q) → ev hs m rest vs = ev hs m a [] → E2 77 (D + 2) Q 14 [(0, .ref 0), (2, .int (nI (f + a.length))), (3, .int (nI vs.length)), (4, .int (nI (900 * b + f + k)))] I J1 := by
    intro rest
    induction rest with
    | nil =>
      intro k st vs J1 hk hd ht hv hj hvl hf he
      have hk : k = a.length := by simpa using hk
      unfold tyc at ht
      cases ht
      obtain ⟨v, rfl, hv2⟩ := vok_one hv
      refine mj_on (s77_14 _ _ _ ?_)
      rw [hb, show (900 : Int32) = nI 900 from rfl, pk_mul, nI_add]
      refine if_le (by omega) (by omega) (fun _ => ?_) (fun z => absurd z (by omega))
      rw [show ((0 : Int32)).toNatClampNeg = 0 from rfl, hQ]
      exact ⟨vp_in_nI (n := 0) (by decide) (by decide), _, _, _, rfl, ⟨v, he.symm, hv2, hj.1⟩, rfl, hf⟩
    | cons x rest ihr =>
      intro k st vs J1 hk hd ht hv hj hvl hf he
      have hk2 : k + (rest.length + 1) = a.length := hk
      obtain ⟨st', w1, w2, w3⟩ := tyc_cons ht
      have hx : a[k]? = some x := by
        have : (a.drop k)[0]? = some x := by rw [hd]; rfl
        rw [List.getElem?_drop] at this
        exact this
      obtain ⟨x1, x2⟩ := hcd k x hx
      have hdr : a.drop (k + 1) = rest := by rw [← List.drop_drop, hd]; rfl
      have hv' := tys1_ok (m := m) hh w1 hv
      have hl' := vok_len hv'
      have next := fun J2 (hj2 : jrt J2 (ev1 hs m vs x)) hf2 => ihr (k + 1) st' (ev1 hs m vs x) J2 (by omega) hdr w3 hv' hj2 (by omega) hf2 (by rw [← he]; rfl)
      refine mj_on (s77_14 _ _ _ ?_)
      rw [hb, show (900 : Int32) = nI 900 from rfl, pk_mul, nI_add]
      refine if_le (by omega) (by omega) (fun z => absurd z (by omega)) (fun _ => ?_)
      rw [nI_clamp (by omega), x1, x2, show (4 : Int32) = nI 4 from rfl]
      refine ⟨vp_in_nI (by omega) (by decide), ?_⟩
      have hlen := vok_len hv
      rcases tys1_inv w1 with ⟨h1, h2, rfl⟩ | ⟨h1, h2, r, rfl, rfl⟩ | ⟨h1, h2, h3, r, rfl, rfl⟩
      · have ee : ev1 hs m vs x = leafv hs m x.1 x.2 :: vs := by unfold ev1; rw [if_pos h1]
        rw [ee] at next
        refine if_lt (by decide) (by omega) (fun z => absurd z (by omega)) (fun _ => ?_)
        have hn : vs.length < 950 := by
          have : st.length + 1 ≤ 950 := w2
          omega
        refine ⟨vp_in_nI (by omega) (by decide), trivial, _, _, _, r_leaf hm h56 hh (fun w hw => h79 J1 w hw) h1 hH h2, vp_in_nI hn (by decide), ?_⟩
        rw [nI_clamp (by omega), nI_1, nI_1]
        exact next _ ⟨up_s, jrt_cg hj fun k hk => by rw [up_j (by omega)]⟩ (fun q hq => by rw [up_c hq]; exact hf q hq)
      · match vs, hv, hj, hvl, next with
        | v :: vs, hv, hj, hvl, next =>
          have hvl : vs.length + 1 ≤ 950 := hvl
          have ee : ev1 hs m (v :: vs) x = (1 - v) :: vs := by unfold ev1; rw [if_neg (by omega), if_pos h1]
          rw [ee] at next
          rw [h1]
          refine if_lt (by decide) (by decide) (fun _ => ?_) (fun z => absurd z (by decide))
          rw [if_pos (show nI 16 = 16 from rfl), show (v :: vs).length = vs.length + 1 from rfl, n1_sub, nI_clamp (by omega), hj.1, show (1 : Int64) - lZ v = lZ (1 - v) from lZ_sub 1 v, nI_1]
          exact ⟨vp_in_nI (by omega) (by decide), vp_in_nI (by omega) (by decide), next _ ⟨up_s, jrt_cg hj.2 fun k hk => by rw [up_j (by omega)]⟩ (fun q hq => by rw [up_c hq]; exact hf q hq)⟩
      · match vs, hv, hj, hvl, next with
        | y :: z :: vs, hv, hj, hvl, next =>
          have hvl : vs.length + 2 ≤ 950 := hvl
          have ee : ev1 hs m (y :: z :: vs) x = twov x.1 z y :: vs := by unfold ev1; rw [if_neg (by omega), if_neg (by omega)]
          rw [ee] at next
          obtain ⟨v1, v2, -⟩ := hv
          obtain ⟨j1, j2, j3⟩ := hj
          refine if_lt (by decide) (by omega) (fun _ => ?_) (fun q => absurd q (by omega))
          rw [if_neg (show ¬ nI x.1 = 16 from fun q => by have := (nI_eq (a := x.1) (b := 16) (by omega) (by decide)).mp q; omega)]
          rw [show (y :: z :: vs).length = vs.length + 1 + 1 from rfl, n1_neg, n1_sub, nI_clamp (by omega), nI_clamp (by omega), show J1 36 (vs.length + 1) = lZ y from j1, j2, nI_1]
          exact ⟨vp_in_nI (by omega) (by decide), vp_in_nI (by omega) (by decide), trivial, _, _, _, r_two h1 h2 v2 v1, vp_in_nI (by omega) (by decide), next _ ⟨up_s, jrt_cg j3 fun k hk => by rw [up_j (by omega)]⟩ (fun q hq => by rw [up_c hq]; exact hf q hq)⟩
  have := inner a 0 [] [] J (by omega) rfl hty trivial trivial (by decide) (fun _ _ => rfl) rfl
  exact this
def ruR (I : Nat → Nat → Int32) (b W Hn Un : Nat) (A : Nat → List (Nat × Nat)) : Prop := ∀ u, u < Un → ∃ f, I 19 (12 * b + u) = nI f ∧ I 20 (12 * b + u) = nI (f + (A u).length) ∧ f + (A u).length ≤ 900 ∧ cdR I (900 * b + f) (A u) ∧ tyc 950 W Hn (A u) [] = some [true]
def sfr (I I' : Nat → Nat → Int32) : Prop := ∀ q j, q ≠ 29 → q ≠ 30 → q ≠ 31 → q ≠ 32 → (q ≠ 0 ∨ (j ≠ 48 ∧ j ≠ 56)) → I' q j = I q j
theorem sfr_tr {I I' I'' : Nat → Nat → Int32} (h : sfr I I') (h' : sfr I' I'') : sfr I I'' := fun q j q1 q2 q3 q4 q5 => by rw [h' q j q1 q2 q3 q4 q5, h q j q1 q2 q3 q4 q5]
theorem sfr_c {I I' : Nat → Nat → Int32} (h : sfr I I') (q : Nat) (h1 : 1 ≤ q) (h2 : q < 29) : I' q = I q := by
  funext j
  exact h q j (by omega) (by omega) (by omega) (by omega) (by omega)
theorem thr_cg {I' : Nat → Nat → Int32} (h : thr b W Hn I1 I) (e : sfr I I') : thr b W Hn I1 I' := by
  unfold thr at h ⊢
  rw [e 0 12 (by decide) (by decide) (by decide) (by decide) (by decide), sfr_c e 6 (by decide) (by decide), sfr_c e 18 (by decide) (by decide)]
  exact h
theorem r_sets (hB : rB I b W Rn) (ht : thr b W Hn I1 I) (hq : thq W Hn I1) (hU : I 7 b = nI Un) (hU2 : Un ≤ 12) (hA : ruR I b W Hn Un A) (hmo : ∀ w, w < W → I 9 (4 * b + w) = mo w) (h48 : I 0 48 = nI 0) : ∃ I' J', C2 (D + 5) 76 [.ref 0] I J .null I' J' ∧ (∃ R, gaL W (fun _ => True) R I' ∧ mnR W (rS mo (aA I1 Hn Un A (2 ^ Hn))) R) ∧ sfr I I' ∧ ∀ q, q ≠ 36 → J' q = J q := by
  obtain ⟨w4, n12, hb, hb2, h6, hTh⟩ := id ht
  have hp : (2 : Nat) ^ Hn ≤ 4096 := Nat.le_trans (Nat.pow_le_pow_right (by decide) n12) (by decide)
  refine mj_cN (e76 ?_)
  obtain ⟨Q, hQ⟩ : ∃ Q, Q = qN mj_R2 (fun I' J' => (∃ R, gaL W (fun _ => True) R I' ∧ mnR W (rS mo (aA I1 Hn Un A (2 ^ Hn))) R) ∧ sfr I I' ∧ ∀ q, q ≠ 36 → J' q = J q) := ⟨_, rfl⟩
  rw [← hQ]
  have lp := lp_up (n := 2 ^ Hn) (fun m => ∀ I0 J0 R, gaL W (fun _ => True) R I0 → mnR W (rS mo (aA I1 Hn Un A m)) R → sfr I I0 → (∀ q, q ≠ 36 → J0 q = J q) → E2 76 (D + 4) Q 2 [(0, .ref 0), (1, .int (nI m))] I0 J0) (fun m hm ih I0 J0 R h1 h2 h3 h4 => ?_) 0 (Nat.zero_le _) I J [] ⟨h48, fun k r hk => by simp at hk⟩ ⟨fun r hr => absurd hr List.not_mem_nil, List.Pairwise.nil, fun f ⟨v, ⟨m, q, _⟩, _⟩ => absurd q (by omega)⟩ (fun _ _ _ _ _ _ _ => rfl) (fun _ _ => rfl)
  · exact lp
  have b12 : I0 0 12 = nI b := by rw [h3 0 12 (by decide) (by decide) (by decide) (by decide) (by decide)]; exact hb
  refine mj_on (s76_2 _ ?_)
  rw [b12, nI_clamp (by omega), sfr_c h3 6 (by decide) (by decide), h6, sh_p2 Hn (by omega)]
  refine ⟨vp_in_nI hb2 (by decide), if_le (by omega) (by omega) (fun c => ?_) (fun c => ?_)⟩
  · obtain rfl : m = 2 ^ Hn := by omega
    rw [hQ]
    exact ⟨_, _, rfl, ⟨R, h1, h2⟩, h3, h4⟩
  have hm4 : m < 4096 := by omega
  have hRl : R.length < 8191 := by
    have := mnR_len (L := (List.range m).map fun m' => rho mo (fun w => hsu I1 w m' Hn)) h2 (fun f ⟨v, ⟨m', q1, _, q2⟩, q3⟩ => by rw [q3, q2]; exact List.mem_map.mpr ⟨m', List.mem_range.mpr q1, rfl⟩)
    rw [List.length_map, List.length_range] at this
    omega
  obtain ⟨Ia, hIa⟩ : ∃ Ia, Ia = mj_up I0 0 56 (nI m) := ⟨_, rfl⟩
  rw [← hIa]
  have fa : sfr I Ia := sfr_tr h3 fun q j q1 q2 q3 q4 q5 => by rw [hIa, up_n (by omega)]
  have a56 : Ia 0 56 = nI m := by rw [hIa, up_s]
  have ga : gaL W (fun _ => True) R Ia := gaL_cg h1 (by rw [hIa, up_j (by decide)]) (by rw [hIa, up_c (by decide)]) (by rw [hIa, up_c (by decide)])
  have ta := thr_cg ht fa
  obtain ⟨ok, hok⟩ : ∃ ok : Nat → Prop, ok = fun u => ev (hsf I1 Hn m) m (A u) [] = [1] := ⟨_, rfl⟩
  have hh : ∀ w, w < W → hsf I1 Hn m w ≤ 200000 := fun w hw => by have := hsu_le (m := m) hq hw Hn (Nat.le_refl _); show hsu I1 w m Hn ≤ 200000; omega
  have ab12 : Ia 0 12 = nI b := ta.2.2.1
  -- not all tests hold
  have end0 : ∀ J1, (∀ q, q ≠ 36 → J1 q = J q) → (∃ u, u < Un ∧ ¬ ok u) → E2 76 (D + 4) Q 92 [(0, .ref 0), (1, .int (nI m)), (2, .int 0)] Ia J1 := fun J1 k1 k2 => by
    refine mj_on (s76_92 _ _ ?_)
    rw [if_pos rfl, nI_1]
    refine ih c Ia J1 R ga (mnR_cg h2 fun f => ?_) fa k1
    obtain ⟨u, hu, hno⟩ := k2
    rw [hok] at hno
    constructor
    · rintro ⟨v, ⟨m', q1, q2⟩, q3⟩
      exact ⟨v, ⟨m', by omega, q2⟩, q3⟩
    · rintro ⟨v, ⟨m', q1, q2, q4⟩, q3⟩
      by_cases e : m' = m
      · subst e; exact absurd (q2 u hu) hno
      · exact ⟨v, ⟨m', by omega, q2, q4⟩, q3⟩
  -- all hold
  have end1 : ∀ J1, (∀ q, q ≠ 36 → J1 q = J q) → (∀ u, u < Un → ok u) → E2 76 (D + 4) Q 92 [(0, .ref 0), (1, .int (nI m)), (2, .int 1)] Ia J1 := fun J1 k1 k2 => by
    refine mj_on (s76_92 _ _ ?_)
    rw [if_neg (by decide)]
    obtain ⟨v, hv⟩ : ∃ v : Nat → Nat, v = fun w => hsu I1 w m Hn := ⟨_, rfl⟩
    have lp3 := lp_up (n := W) (fun w => ∀ I3, (∀ q, q ≠ 32 → I3 q = Ia q) → (∀ u, u < w → I3 32 u = rho mo v u) → E2 76 (D + 4) Q 101 [(0, .ref 0), (1, .int (nI m)), (3, .int (nI w))] I3 J1) (fun w hw ih3 I3 g1 g2 => ?_) 0 (by omega) Ia (fun _ _ => rfl) (fun u hu => by omega)
    · exact lp3
    have f3 : sfr I I3 := sfr_tr fa fun q j q1 q2 q3 q4 q5 => by rw [g1 q q4]
    have hB3 : rB I3 b W Rn := by
      unfold rB at hB ⊢
      rw [f3 0 12 (by decide) (by decide) (by decide) (by decide) (by decide), sfr_c f3 2 (by decide) (by decide), sfr_c f3 3 (by decide) (by decide)]
      exact hB
    refine mj_on (s76_101 _ _ ?_)
    rw [g1 0 (by decide), ab12, nI_clamp (by omega), hB3.2.2.1]
    refine ⟨vp_in_nI hb2 (by decide), if_le (by omega) (by omega) (fun d => ?_) (fun d => ?_)⟩
    · obtain rfl : w = W := by omega
      obtain ⟨I4, J4, c4, rfl, o1, o2⟩ := r_gathers (D := D + 2) (J := J1) (v := rho mo v) (x := m) (Wb := fun _ => True) hB3 (gaL_cg ga (by rw [g1 0 (by decide)]) (g1 29 (by decide)) (g1 30 (by decide))) g2 hRl trivial
      rw [nI_1]
      refine ⟨trivial, _, _, c4, ih c I4 J4 _ o1 (mnR_cg (mnR_gth h2) fun f => ?_) (sfr_tr f3 fun q j q1 q2 q3 q4 q5 => o2 q j q1 q2 q3 (by omega)) k1⟩
      constructor
      · rintro (⟨v', ⟨m', q1, q2⟩, q3⟩ | rfl)
        · exact ⟨v', ⟨m', by omega, q2⟩, q3⟩
        · exact ⟨v, ⟨m, by omega, fun u hu => by have := k2 u hu; rw [hok] at this; exact this, hv⟩, rfl⟩
      · rintro ⟨v', ⟨m', q1, q2, q4⟩, q3⟩
        by_cases e : m' = m
        · subst e
          right
          rw [q3, q4, hv]
        · exact Or.inl ⟨v', ⟨m', by omega, q2, q4⟩, q3⟩
    · refine ⟨trivial, _, _, _, r_setHas (D := D + 3) (thr_cg ht f3) (by rw [g1 0 (by decide)]; exact a56) hm4 d, trivial, _, _, _, r_lossOf hB3 d, vp_in_nI (by omega) (by decide), ?_⟩
      rw [nI_clamp (by omega), nI_1, sfr_c f3 9 (by decide) (by decide), hmo w d]
      refine ih3 d _ (fun q hq => by rw [up_c hq]; exact g1 q hq) (fun u hu => ?_)
      by_cases z : u = w
      · subst z
        rw [up_s, hv]
        rfl
      · rw [up_j z]; exact g2 u (by omega)
  have lp2 := lp_up (n := Un) (fun u => ∀ J1 (fl : Int32), (∀ q, q ≠ 36 → J1 q = J q) → ((fl = 1 ∧ ∀ v, v < u → ok v) ∨ (fl = 0 ∧ ∃ v, v < Un ∧ ¬ ok v)) → E2 76 (D + 4) Q 26 [(0, .ref 0), (1, .int (nI m)), (2, .int fl), (3, .int (nI u))] Ia J1) (fun u hu ih2 J1 fl k1 k2 => ?_) 0 (by omega) J0 1 h4 (Or.inl ⟨rfl, fun v hv => by omega⟩)
  · exact lp2
  refine mj_on (s76_26 _ _ _ ?_)
  rw [ab12, nI_clamp (by omega), sfr_c fa 7 (by decide) (by decide), hU]
  refine ⟨vp_in_nI hb2 (by decide), if_le (by omega) (by omega) (fun d => ?_) (fun d => ?_)⟩
  · obtain rfl : u = Un := by omega
    rcases k2 with ⟨rfl, k2⟩ | ⟨rfl, k2⟩
    · exact end1 J1 k1 k2
    · exact end0 J1 k1 k2
  rcases k2 with ⟨rfl, k2⟩ | ⟨rfl, k2⟩
  · obtain ⟨f, z1, z2, z3, z4, z5⟩ := hA u d
    rw [if_neg (by decide), show (12 : Int32) = nI 12 from rfl, pk_mul, nI_add, nI_clamp (by omega), sfr_c fa 19 (by decide) (by decide), sfr_c fa 20 (by decide) (by decide), z1, z2, nI_1]
    obtain ⟨r, Ib, Jb, cb, ⟨v, v1, v2, rfl⟩, rfl, fb⟩ := r_works (D := D + 1) (J := J1) (I := Ia) (a := A u) (f := f) (W := W) (Hn := Hn) (hs := hsf I1 Hn m) ab12 hb2 hm4 a56 n12 hh (fun J' w hw => r_setHas (D := D + 1) (J := J') ta a56 hm4 hw) z3 (by unfold cdR at z4 ⊢; rw [sfr_c fa 21 (by decide) (by decide), sfr_c fa 22 (by decide) (by decide)]; exact z4) z5
    refine ⟨vp_in_nI (by omega) (by decide), vp_in_nI (by omega) (by decide), trivial, _, _, _, cb, ?_⟩
    have k1b : ∀ q, q ≠ 36 → Jb q = J q := fun q hq => by rw [fb q hq, k1 q hq]
    rcases v2 with rfl | rfl
    · rw [if_neg (fun z => absurd (cmp0.mp z) (by decide))]
      refine ih2 d Jb 0 k1b (Or.inr ⟨rfl, u, d, ?_⟩)
      rw [hok]
      intro z
      have z : ev (hsf I1 Hn m) m (A u) [] = [1] := z
      rw [v1] at z
      exact absurd z (by decide)
    · rw [if_pos (cmp0.mpr (show lZ 1 = 1 from rfl))]
      refine ih2 d Jb 1 k1b (Or.inl ⟨rfl, fun v hv => ?_⟩)
      by_cases e : v = u
      · subst e; rw [hok]; exact v1
      · exact k2 v (by omega)
  · rw [if_pos rfl]
    exact end0 J1 k1 k2
end S98b
end
section
/-! front: sets, on both sides -/
theorem FR_cg {W n : Nat} {C : (Nat → Int32) → Nat → Prop} {F F' : Nat → Nat → Int32} {key : Nat → Nat} (h : FR W C n F key) (hC : ∀ f f' k, C f k → (∀ w, w < W → f w = f' w) → C f' k) (e : ∀ i, i < n → ∀ w, w < W → F i w = F' i w) : FR W C n F' key := by
  obtain ⟨h1, h2, h3, h4, h5⟩ := h
  refine ⟨fun i j hij hj => ?_, fun i hi => hC _ _ _ (h2 i hi) (e i hi), fun i hi f k hc hn w hw => ?_, fun i hi f k hc hf => ?_, fun f k hc => ?_⟩
  · obtain ⟨w, w1, w2, w3⟩ := h1 i j hij hj
    refine ⟨w, w1, by rw [← e i (by omega) w w1, ← e j hj w w1]; exact w2, fun u hu => ?_⟩
    rw [← e i (by omega) u (by omega), ← e j hj u (by omega)]
    exact w3 u hu
  · rw [← e i hi w hw]
    exact h3 i hi f k hc (fun u hu => by rw [e i hi u hu]; exact hn u hu) w hw
  · exact h4 i hi f k hc fun w hw => by rw [hf w hw, e i hi w hw]
  · obtain ⟨i, hi, q⟩ := h5 f k hc
    exact ⟨i, hi, fun w hw => by rw [← e i hi w hw]; exact q w hw⟩
theorem sC_cg {I I' : Nat → Nat → Int32} (h4 : I' 4 = I 4) (h5 : I' 5 = I 5) (h9 : I' 9 = I 9) (h10 : I' 10 = I 10) : sC I' = sC I := by
  have e1 : hsu I' = hsu I := hsu_cg h5
  have e2 : rb I' 10 = rb I 10 := by
    funext u
    cases u with
    | zero => rfl
    | succ u => show (I' 10 u).toNatClampNeg = (I 10 u).toNatClampNeg; rw [h10]
  have e3 : ruT I' = ruT I := by
    funext W Hn u m
    unfold ruT hsf cdC
    rw [e1, e2, h9, h10]
  funext W Hn Un f m
  unfold sC aT
  rw [e1, e3, h4]
section S98c
variable {D b W Rn Kn Tn Hn Un g : Nat} {I I1 I2 : Nat → Nat → Int32} {J J1 J2 : Nat → Nat → Int64}
theorem Rl.things (h : Rl b W Rn Kn Tn Hn Un g I1 J1 I2 J2) : thq W Hn I1 ∧ thr b W Hn I1 I2 := by
  obtain ⟨h1, ⟨n, -, -, -, t, -⟩, -⟩ := id h
  obtain ⟨a1, a2, a3, a4, a5, a6, b1, b2, b3, b4, b5, b6, c1, c2, c3, c4, c5, c6, c7⟩ := n
  refine ⟨⟨c2, c6, a1, a5, fun k hk w hw => ?_⟩, c2, c6, h1, c1, b5, fun k hk w hw => ?_⟩
  · obtain ⟨-, x, hx, e⟩ := t k hk w hw
    exact ⟨x, hx, e⟩
  · obtain ⟨e2, x, hx, e⟩ := t k hk w hw
    exact ⟨x, hx, e, e2.trans e⟩
theorem Rl.rules (h : Rl b W Rn Kn Tn Hn Un g I1 J1 I2 J2) : ∃ A1 A2 : Nat → List (Nat × Nat), ruA I1 W Hn Un A1 ∧ ruR I2 b W Hn Un A2 ∧ ∀ u, u < Un → ∀ hs m, ev hs m (A1 u) [] = ev hs m (A2 u) [] := by
  have t := h.2.1.2.2.2.2.2.2
  have key : ∀ u, ∃ p : List (Nat × Nat) × List (Nat × Nat), u < Un → ∃ f, sgB 64 950 W Hn p.1 p.2 ∧ I1 10 u = nI (rb I1 10 u + p.1.length) ∧ rb I1 10 u + p.1.length ≤ 900 ∧ cdC I1 9 (rb I1 10 u) p.1 ∧ I2 19 (12 * b + u) = nI f ∧ I2 20 (12 * b + u) = nI (f + p.2.length) ∧ f + p.2.length ≤ 900 ∧ cdR I2 (900 * b + f) p.2 := fun u => by
    by_cases c : u < Un
    · obtain ⟨f, a1, a2, q⟩ := t u c
      exact ⟨(a1, a2), fun _ => ⟨f, q⟩⟩
    · exact ⟨([], []), fun q => absurd q c⟩
  obtain ⟨p, hp⟩ := Classical.axiomOfChoice key
  refine ⟨fun u => (p u).1, fun u => (p u).2, fun u hu => ?_, fun u hu => ?_, fun u hu => ?_⟩
  · obtain ⟨f, ⟨s1, s2, s3⟩, q1, q2, q3, q4, q5, q6, q7⟩ := hp u hu
    exact ⟨s1, q1, q2, q3⟩
  · obtain ⟨f, ⟨s1, s2, s3⟩, q1, q2, q3, q4, q5, q6, q7⟩ := hp u hu
    exact ⟨f, q4, q5, q6, q7, s2⟩
  · obtain ⟨f, ⟨s1, s2, s3⟩, q⟩ := hp u hu
    exact s3
theorem aT_aA {A1 A2 : Nat → List (Nat × Nat)} (hW : W ≤ 4) (hH : Hn ≤ 12) (hA : ruA I1 W Hn Un A1) (he : ∀ u, u < Un → ∀ hs m, ev hs m (A1 u) [] = ev hs m (A2 u) []) (v : Nat → Nat) : (aA I1 Hn Un A1 (2 ^ Hn) v ↔ aT I1 W Hn Un v) ∧ (aA I1 Hn Un A2 (2 ^ Hn) v ↔ aT I1 W Hn Un v) := by
  have k1 : ∀ m u, u < Un → (ruT I1 W Hn u m ↔ ev (hsf I1 Hn m) m (A1 u) [] = [1]) := fun m u hu => ruA_ruT hW hH hA hu
  constructor
  · constructor
    · rintro ⟨m, q1, q2, q3⟩
      exact ⟨m, q1, fun u hu => (k1 m u hu).mpr (q2 u hu), q3⟩
    · rintro ⟨m, q1, q2, q3⟩
      exact ⟨m, q1, fun u hu => (k1 m u hu).mp (q2 u hu), q3⟩
  · constructor
    · rintro ⟨m, q1, q2, q3⟩
      exact ⟨m, q1, fun u hu => (k1 m u hu).mpr ((he u hu _ _).trans (q2 u hu)), q3⟩
    · rintro ⟨m, q1, q2, q3⟩
      exact ⟨m, q1, fun u hu => (he u hu _ _).symm.trans ((k1 m u hu).mp (q2 u hu)), q3⟩
theorem al_front2 {x2 x3 : Int32} (h : Rl b W Rn Kn Tn Hn Un g I1 J1 I2 J2) (hW : W ≠ 0) : AI 203 70 [.int (nI 2), .int x2, .int x3] I1 J1 I2 J2 (Rl b W Rn Kn Tn Hn Un g) := by
  obtain ⟨a1, a2, a3, a4, a5, a6, b1, b2, b3, b4, b5, b6, c1, c2, c3, c4, c5, c6, c7⟩ := id h.N
  have a1 : I1 2 0 = nI W := a1
  have a6 : I1 2 5 = nI Un := a6
  have hB := h.rB
  obtain ⟨d1, d2, d3, d4, d5, d6⟩ := id hB
  have v0 : vp_in 0 6 := vp_in_nI (n := 0) (by decide) (by decide)
  have vb : vp_in (nI b) 2 := vp_in_nI d2 (by decide)
  have hW0 : ¬ nI W = 0 := nI_ne0 (by omega) (by omega)
  have n2 : ∀ {n : Nat}, n ≤ 100 → ¬ nI n = -2 := fun {n} hn z => by
    have := congrArg Int32.toInt z
    rw [nI_toInt (by omega)] at this
    have h2 : (-2 : Int32).toInt = -2 := by decide
    omega
  obtain ⟨tq, tr⟩ := h.things
  obtain ⟨A1, A2, rA1, rA2, rE⟩ := h.rules
  have hAA := aT_aA c2 c6 rA1 rE
  have hsC : ∀ I : Nat → Nat → Int32, sC I W Hn Un = cdT W (I 4) (aT I W Hn Un) := fun I => rfl
  have hCc : ∀ f f' k, sC I1 W Hn Un f k → (∀ w, w < W → f w = f' w) → sC I1 W Hn Un f' k := fun f f' k ⟨q1, v, q2, q3⟩ e => ⟨q1, v, q2, fun w hw => by rw [← e w hw]; exact q3 w hw⟩
  -- the class' sets
  have cla : ∃ (Ib : Nat → Nat → Int32) (Jb : Nat → Nat → Int64) (n : Nat) (F : Nat → Nat → Int32), FR W (sC I1 W Hn Un) n F (fun _ => 0) ∧ (∀ q j, q ≠ 29 → q ≠ 30 → q ≠ 32 → q ≠ 34 → q ≠ 35 → q ≠ 36 → q ≠ 37 → q ≠ 44 → q ≠ 45 → (q ≠ 0 ∨ j ≠ 9) → Ib q j = I1 q j) ∧ (∀ q, q ≠ 31 → q ≠ 46 → Jb q = J1 q) ∧ ((n ≤ 100 ∧ Ib 0 9 = nI n ∧ Ib 44 0 = nI 2 ∧ Ib 44 1 = nI n ∧ F = fun k w => Ib 45 (4 * k + w)) ∨ (100 < n ∧ Ib 0 9 = -2)) ∧
      ∀ Q : mj_R → Prop, E1 220 898 Q 40 [(0, .ref 0)] Ib Jb → mj_if (Nat.ble (mj_sz [.ref 0]) (mj_CD 220).2.2) (mj_sg mj_S1 (mj_CD 220) (mj_Cl mj_S1 mj_CD 898) Q (mj_Ev mj_S1 (mj_CD 220) (mj_Cl mj_S1 mj_CD 898) Q) 100 0 (mj_a0 0 [.ref 0]) [] (I1, J1, mj_R1)) := by
    rcases h.2.2.2.2.2.2.2.2.2.2.2.2 with z | ⟨z, n, F, z1, z2⟩ | ⟨n, z1, z, z2, z3, z4⟩
    · obtain ⟨Ia, Ja, ca, ⟨L, pa, hL⟩, fa, ga⟩ := c_gatherSets (D := 890) (J := J1) tq a6 c7 rA1
      have hL : ∀ v, v ∈ L ↔ aT I1 W Hn Un v := fun v => (hL v).trans (hAA v).1
      obtain ⟨K, pP, pO⟩ := plL_plP pa c2
      have e4 : Ia 4 = I1 4 := fa 4 (by decide) (by decide) (by decide) (by decide) (by decide) (by decide) (by decide)
      rw [e4] at pP
      obtain ⟨f, hf, hsrt, r, Ib, Jb, cb, fb, gb, kb, sb, tb⟩ := c_putF_a (D := 894) (kd := 2) pP pO
      have frc := fr_cla (T := aT I1 W Hn Un) (mo := I1 4) (cho_FR hf hsrt) (fun f' k hk => by
        obtain ⟨x, hx, e, -⟩ := hk
        exact ⟨L.getD x (fun _ => 0), (hL _).mp (List.mem_of_getElem? (by rw [List.getD_eq_getElem?_getD, List.getElem?_eq_getElem hx]; rfl)), e⟩) (fun v hv => by
        obtain ⟨x, hx⟩ := List.getElem?_of_mem ((hL v).mpr hv)
        have hxl := (List.getElem?_eq_some_iff.mp hx).1
        refine ⟨rho (I1 4) v, K x, ⟨x, hxl, fun w hw => ?_, rfl⟩, fun _ _ => rfl⟩
        show rho (I1 4) v w = rho (I1 4) (L.getD x (fun _ => 0)) w
        rw [List.getD_eq_getElem?_getD, hx]; rfl)
      obtain ⟨n, hn⟩ : ∃ n, n = (cho W (fun x => rho (I1 4) (L.getD x (fun _ => 0))) f L.length).length := ⟨_, rfl⟩
      rw [← hn] at frc sb tb
      have fr : ∀ q j, q ≠ 29 → q ≠ 30 → q ≠ 32 → q ≠ 34 → q ≠ 35 → q ≠ 36 → q ≠ 37 → q ≠ 44 → q ≠ 45 → (q ≠ 0 ∨ j ≠ 9) → mj_up Ib 0 9 r q j = I1 q j := fun q j q1 q2 q3 q4 q5 q6 q7 q8 q9 q0 => by rw [up_n q0, fb q q3 q8 q9, fa q q1 q2 q3 q4 q5 q6 q7]
      have go : ∀ Q : mj_R → Prop, E1 220 898 Q 40 [(0, .ref 0)] (mj_up Ib 0 9 r) Jb → mj_if (Nat.ble (mj_sz [.ref 0]) (mj_CD 220).2.2) (mj_sg mj_S1 (mj_CD 220) (mj_Cl mj_S1 mj_CD 898) Q (mj_Ev mj_S1 (mj_CD 220) (mj_Cl mj_S1 mj_CD 898) Q) 100 0 (mj_a0 0 [.ref 0]) [] (I1, J1, mj_R1)) := fun Q hh => by
        refine e220 ?_
        rw [if_pos z]
        exact ⟨trivial, _, _, ca, trivial, _, _, _, cb, hh⟩
      by_cases c : n ≤ 100
      · obtain ⟨er, s1, s2⟩ := sb c
        refine ⟨mj_up Ib 0 9 r, Jb, n, fun k w => mj_up Ib 0 9 r 45 (4 * k + w), FR_cg frc hCc (fun i hi w hw => ?_), fr, fun q q1 q2 => by rw [gb q q2, ga q q1], Or.inl ⟨c, by rw [up_s, er], by rw [up_c (by decide)]; exact kb, by rw [up_c (by decide), s1, hn], rfl⟩, go⟩
        have hi2 : i < (cho W (fun x => rho (I1 4) (L.getD x (fun _ => 0))) f L.length).length := by omega
        obtain ⟨x, hx1, hx2, -⟩ := gt_of hi2
        have ex : (cho W (fun x => rho (I1 4) (L.getD x (fun _ => 0))) f L.length).getD i 0 = x := by rw [List.getD_eq_getElem?_getD, hx1]; rfl
        show rho (I1 4) (L.getD ((cho W (fun x => rho (I1 4) (L.getD x (fun _ => 0))) f L.length).getD i 0) (fun _ => 0)) w = _
        rw [ex, up_c (by decide), (s2 i x hx1).1 w hw]
      · exact ⟨mj_up Ib 0 9 r, Jb, n, _, frc, fr, fun q q1 q2 => by rw [gb q q2, ga q q1], Or.inr ⟨by omega, by rw [up_s, tb (by omega)]⟩, go⟩
    · refine ⟨I1, J1, n, F, z2, fun _ _ _ _ _ _ _ _ _ _ _ _ => rfl, fun _ _ _ => rfl, Or.inr ⟨z1, z⟩, fun Q hh => e220 ?_⟩
      rw [if_neg (show ¬ I1 0 9 = -3 by rw [z]; decide)]
      exact hh
    · refine ⟨I1, J1, n, _, z4, fun _ _ _ _ _ _ _ _ _ _ _ _ => rfl, fun _ _ _ => rfl, Or.inl ⟨z1, z, z2, z3, rfl⟩, fun Q hh => e220 ?_⟩
      have n3 : ¬ I1 0 9 = -3 := fun q => by
        rw [z] at q
        have := congrArg Int32.toInt q
        rw [nI_toInt (by omega)] at this
        have h2 : (-3 : Int32).toInt = -3 := by decide
        omega
      rw [if_neg n3]
      exact hh
  obtain ⟨Ib, Jb, n, F, frF, fb, gb, alt, go⟩ := cla
  have top : ∀ (r : Int32) (I' : Nat → Nat → Int32) (J' : Nat → Nat → Int64), C1 899 220 [.ref 0] I1 J1 (.int r) I' J' → C1 900 203 [.ref 0, .int (nI 2), .int x2, .int x3] I1 J1 (.int r) I' J' := fun r I' J' hc => by
    refine mj_mk (D := 899) (e203 _ _ _ ?_)
    rw [if_neg (show ¬ nI 2 < 0 by decide), if_neg (show ¬ 2 < nI 2 by decide), show ((0 : Int32)).toNatClampNeg = 0 from rfl, a1, if_neg hW0, if_neg (show ¬ nI 2 = 0 by decide), if_neg (show ¬ nI 2 = 1 by decide)]
    exact ⟨v0, trivial, _, _, _, hc, rfl⟩
  -- the reference's
  obtain ⟨I2a, J2a, c2a, ⟨R, g1, m1⟩, w1, w2⟩ := r_sets (D := 894) (J := J2) (I := mj_up I2 0 48 (nI 0)) (b := b) (Rn := Rn) (mo := I1 4) (by
      unfold rB at hB ⊢
      rw [up_j (by decide), up_c (by decide), up_c (by decide)]
      exact hB) (thr_cg tr fun q j q1 q2 q3 q4 q5 => by rw [up_n (by omega)]) tq (by rw [up_c (by decide)]; exact b6) c7 (A := A2) (by
      intro u hu
      obtain ⟨f, z1, z2, z3, z4, z5⟩ := rA2 u hu
      refine ⟨f, by rw [up_c (by decide)]; exact z1, by rw [up_c (by decide)]; exact z2, z3, ?_, z5⟩
      unfold cdR at z4 ⊢
      rw [up_c (by decide), up_c (by decide)]
      exact z4) (fun w hw => by rw [up_c (by decide)]; exact (h.2.1.2.1 w hw).1) up_s
  have m2 : mnR W (rS (I1 4) (aT I1 W Hn Un)) R := mnR_cg m1 fun f => ⟨fun ⟨v, q1, q2⟩ => ⟨v, (hAA v).2.mp q1, q2⟩, fun ⟨v, q1, q2⟩ => ⟨v, (hAA v).2.mpr q1, q2⟩⟩
  have hu := unl_of m2
  obtain ⟨σ, hσ⟩ := rkk_at hu
  obtain ⟨e1, e2⟩ := FR_one frF (fr_ref m2 hσ)
  have wf2 : sfr I2 I2a := sfr_tr (fun q j q1 q2 q3 q4 q5 => by rw [up_n (by omega)]) w1
  have rf : ∀ {Q : mj_R → Prop}, mj_Ev mj_S2 (mj_CD 70) (mj_Cl mj_S2 mj_CD 899) Q 212 [(0, .ref 0), (1, .int (nI 2))] [] (I2a, J2a, mj_R2) → mj_if (Nat.ble (mj_sz [.ref 0, .int (nI 2), .int x2, .int x3]) (mj_CD 70).2.2) (mj_sg mj_S2 (mj_CD 70) (mj_Cl mj_S2 mj_CD 899) Q (mj_Ev mj_S2 (mj_CD 70) (mj_Cl mj_S2 mj_CD 899) Q) 100 0 (mj_a0 0 [.ref 0, .int (nI 2), .int x2, .int x3]) [] (I2, J2, mj_R2)) := fun {Q} hh => by
    refine e70 _ _ _ ?_
    refine ⟨trivial, _, _, _, r_is, if_tf (fun _ => ?_) (fun z => absurd ⟨by decide, by decide⟩ z)⟩
    rw [d1, nI_clamp (by omega), d3, if_neg hW0, if_neg (show ¬ nI 2 = 1 by decide)]
    refine ⟨vb, ?_⟩
    refine mj_on (s70_73 _ _ _ ?_)
    rw [if_neg (show ¬ nI 2 = 0 by decide)]
    refine mj_on (s70_192 _ _ _ ?_)
    rw [if_neg (show ¬ nI 2 = 1 by decide), if_pos (show nI 2 = 2 from rfl)]
    exact ⟨trivial, _, _, mj_Cl_le (by decide) c2a, hh⟩
  have hB2 : rB I2a b W Rn := by
    unfold rB at hB ⊢
    rw [wf2 0 12 (by decide) (by decide) (by decide) (by decide) (by decide), sfr_c wf2 2 (by decide) (by decide), sfr_c wf2 3 (by decide) (by decide)]
    exact hB
  have mI1 : ∀ (D : List Nat) (E : List (Nat × Nat)), D.elem 29 = true → D.elem 30 = true → D.elem 32 = true → D.elem 34 = true → D.elem 35 = true → D.elem 36 = true → D.elem 37 = true → D.elem 44 = true → D.elem 45 = true → E.elem (0, 9) = true → mkI D E Ib = mkI D E I1 := fun D E z1 z2 z3 z4 z5 z6 z7 z8 z9 z0 => mkI_of fun q j y1 y2 => by
    have ne : ∀ p, D.elem p = true → q ≠ p := fun p hp e => by rw [e, hp] at y1; cases y1
    refine fb q j (ne 29 z1) (ne 30 z2) (ne 32 z3) (ne 34 z4) (ne 35 z5) (ne 36 z6) (ne 37 z7) (ne 44 z8) (ne 45 z9) ?_
    by_cases e : q = 0
    · right
      intro e3
      rw [e, e3, z0] at y2
      cases y2
    · exact Or.inl e
  have mJ1 : ∀ (D : List Nat) (E : List (Nat × Nat)), D.elem 31 = true → D.elem 46 = true → mkJ D E Jb = mkJ D E J1 := fun D E z1 z2 => mkJ_of fun q j y1 y2 => by
    have ne : ∀ p, D.elem p = true → q ≠ p := fun p hp e => by rw [e, hp] at y1; cases y1
    rw [gb q (ne 31 z1) (ne 46 z2)]
  have mI2 : ∀ (D : List Nat) (E : List (Nat × Nat)), D.elem 29 = true → D.elem 30 = true → D.elem 31 = true → D.elem 32 = true → E.elem (0, 48) = true → E.elem (0, 56) = true → mkI D E I2a = mkI D E I2 := fun D E z1 z2 z3 z4 z5 z6 => mkI_of fun q j y1 y2 => by
    have ne : ∀ p, D.elem p = true → q ≠ p := fun p hp e => by rw [e, hp] at y1; cases y1
    refine wf2 q j (ne 29 z1) (ne 30 z2) (ne 31 z3) (ne 32 z4) ?_
    by_cases e : q = 0
    · right
      constructor
      · intro e3
        rw [e, e3, z5] at y2
        cases y2
      · intro e3
        rw [e, e3, z6] at y2
        cases y2
    · exact Or.inl e
  have mJ2 : ∀ (D : List Nat) (E : List (Nat × Nat)), D.elem 36 = true → mkJ D E J2a = mkJ D E J2 := fun D E z1 => mkJ_of fun q j y1 y2 => by
    rw [w2 q (fun z => by rw [z, z1] at y1; cases y1)]
  have fbq : ∀ q, q ≠ 0 → q ≠ 29 → q ≠ 30 → q ≠ 32 → q ≠ 34 → q ≠ 35 → q ≠ 36 → q ≠ 37 → q ≠ 44 → q ≠ 45 → Ib q = I1 q := fun q q0 q1 q2 q3 q4 q5 q6 q7 q8 q9 => by
    funext j
    exact fb q j q1 q2 q3 q4 q5 q6 q7 q8 q9 (Or.inl q0)
  have sCb : sC Ib = sC I1 := sC_cg (fbq 4 (by decide) (by decide) (by decide) (by decide) (by decide) (by decide) (by decide) (by decide) (by decide) (by decide)) (fbq 5 (by decide) (by decide) (by decide) (by decide) (by decide) (by decide) (by decide) (by decide) (by decide) (by decide)) (fbq 9 (by decide) (by decide) (by decide) (by decide) (by decide) (by decide) (by decide) (by decide) (by decide) (by decide)) (fbq 10 (by decide) (by decide) (by decide) (by decide) (by decide) (by decide) (by decide) (by decide) (by decide) (by decide))
  rcases alt with ⟨hc, s9, s0, s1, rfl⟩ | ⟨hc, s9⟩
  · obtain ⟨Ic, Jc, cc, o1, o2, o3, o4, o5, o6⟩ := c_copy_a (D := 896) (n := n) (I := Ib) (J := Jb) s1 hc
    have ic9 : Ic 0 9 = nI n := by rw [o1 0 9 (by decide) (fun z => absurd z (by decide))]; exact s9
    have k1 : C1 899 220 [.ref 0] I1 J1 (.int (nI n)) Ic Jc := by
      refine mj_mk (D := 898) (go _ ?_)
      refine mj_on (s220_40 ?_)
      rw [s9, if_neg (n2 hc)]
      refine ⟨trivial, _, _, cc, ?_⟩
      rw [ic9]
    have hRl : R.length ≤ 100 := by omega
    obtain ⟨r2, I2b, J2b, c2b, rr, p1, p2, p3⟩ := mj_cI (S := mj_S2) (CD := mj_CD) (R := mj_R2) (P := fun r I' J' => r = nI n ∧ J' = J2a ∧ (∀ k, k < n → (∀ w, w < W → I' 37 (4 * k + w) = rwR R (σ k) w) ∧ ∃ y, True ∧ I' 38 k = nI y) ∧ ∀ q, q ≠ 37 → q ≠ 38 → q ≠ 39 → I' q = mj_up (mj_up I2a 0 59 (nI 2)) 0 58 (nI n) q) (rf (by
      refine mj_on (s70_212 _ ?_)
      rw [g1.1, show (100 : Int32) = nI 100 from rfl, ← e1]
      refine if_le (by omega) (by decide) (fun _ => ?_) (fun z => absurd z (by omega))
      refine r_placeF (Wb := fun _ => True) (W := W) (b := b) (Rn := Rn) (D := 898) (R := R) (σ := σ) (kd := 2) ?_ ?_ hu hRl (by decide) (by decide) hσ (fun I' i1 i2 => ⟨_, _, _, rfl, by rw [e1], rfl, fun k hk => i1 k (by omega), i2⟩)
      · unfold rB at hB2 ⊢
        rw [up_j (by decide), up_j (by decide), up_c (by decide), up_c (by decide), up_c (by decide), up_c (by decide)]
        exact hB2
      · exact gaL_cg g1 (by rw [up_j (by decide), up_j (by decide)]) (by rw [up_c (by decide), up_c (by decide)]) (by rw [up_c (by decide), up_c (by decide)])))
    subst rr
    subst p1
    have lrow : ∀ k, k < n → ∀ w, w < W → Ic 39 (4 * k + w) = rwR R (σ k) w := fun k hk w hw => by
      rw [o5 k w hk (by omega)]
      exact (e2 k hk).1 w hw
    have mIc : ∀ (D : List Nat) (E : List (Nat × Nat)), D.elem 39 = true → E.elem (38, 0) = true → E.elem (38, 1) = true → mkI D E Ic = mkI D E Ib := fun D E z1 z2 z3 => mkI_of fun q j y1 y2 => by
      refine o1 q j (fun z => by rw [z, z1] at y1; cases y1) fun z => ⟨fun y => ?_, fun y => ?_⟩
      · rw [z, y, z2] at y2; cases y2
      · rw [z, y, z3] at y2; cases y2
    have mJc : ∀ (D : List Nat) (E : List (Nat × Nat)), D.elem 40 = true → mkJ D E Jc = mkJ D E Jb := fun D E z1 => mkJ_of fun q j y1 _ => by
      rw [o2 q (fun z => by rw [z, z1] at y1; cases y1)]
    have icq : ∀ q, q ≠ 38 → q ≠ 39 → Ic q = Ib q := fun q q1 q2 => by
      funext j
      exact o1 q j q2 fun z => absurd z q1
    refine ⟨_, Ic, Jc, I2b, J2b, top _ _ _ k1, c2b, Rl_H h ((mIc _ _ rfl rfl rfl).trans (mI1 _ _ rfl rfl rfl rfl rfl rfl rfl rfl rfl rfl)) ((mJc _ _ rfl).trans (mJ1 _ _ rfl rfl)) ((mkI_of fun q j y1 y2 => ?_ : mkI ([37, 38, 39] ++ sc2) ([(0, 58), (0, 59)] ++ sl2) I2b = mkI ([37, 38, 39] ++ sc2) ([(0, 58), (0, 59)] ++ sl2) I2a).trans (mI2 _ _ rfl rfl rfl rfl rfl rfl)) (mJ2 _ _ rfl) ?_ ?_⟩
    · have ne : ∀ p, ([37, 38, 39] ++ sc2).elem p = true → q ≠ p := fun p hp e => by rw [e, hp] at y1; cases y1
      rw [p3 q (ne 37 rfl) (ne 38 rfl) (ne 39 rfl)]
      have n58 : q ≠ 0 ∨ j ≠ 58 := by
        by_cases e : q = 0
        · right; intro e3; rw [e, e3] at y2; exact absurd y2 (by decide)
        · exact Or.inl e
      have n59 : q ≠ 0 ∨ j ≠ 59 := by
        by_cases e : q = 0
        · right; intro e3; rw [e, e3] at y2; exact absurd y2 (by decide)
        · exact Or.inl e
      rw [up_n n58, up_n n59]
    · refine Or.inr ⟨2, n, by decide, hc, by rw [o3, s0], o4, ?_, ?_, by omega, fun k hk w hw => ⟨?_, ?_⟩, fun z => absurd z (by decide)⟩
      · rw [p3 0 (by decide) (by decide) (by decide), up_s]
      · rw [p3 0 (by decide) (by decide) (by decide), up_j (by decide), up_s]
      · rw [(p2 k hk).1 w hw, lrow k hk w hw]
      · rw [lrow k hk w hw]
        obtain ⟨v, ⟨m, -, -, hv⟩, ev⟩ := m2.1 _ (List.mem_of_getElem? (rwR_of (hσ k (by omega)).1))
        rw [ev]
        refine rho_rng ?_
        rw [hv]
        have := hsu_le (m := m) tq hw Hn (Nat.le_refl _)
        show hsu I1 w m Hn ≤ 200000
        omega
    · refine Or.inr (Or.inr ⟨n, hc, ic9, by rw [icq 44 (by decide) (by decide)]; exact s0, by rw [icq 44 (by decide) (by decide)]; exact s1, ?_⟩)
      rw [sC_cg (icq 4 (by decide) (by decide)) (icq 5 (by decide) (by decide)) (icq 9 (by decide) (by decide)) (icq 10 (by decide) (by decide)), sCb, icq 45 (by decide) (by decide)]
      exact frF
  · have k1 : C1 899 220 [.ref 0] I1 J1 (.int (-2)) Ib Jb := by
      refine mj_mk (D := 898) (go _ ?_)
      refine mj_on (s220_40 ?_)
      rw [s9, if_pos rfl]
    obtain ⟨r2, I2b, J2b, c2b, rr, p1, p2⟩ := mj_cI (S := mj_S2) (CD := mj_CD) (R := mj_R2) (P := fun r I' J' => r = -2 ∧ I' = I2a ∧ J' = J2a) (rf (by
      refine mj_on (s70_212 _ ?_)
      rw [g1.1, show (100 : Int32) = nI 100 from rfl, ← e1]
      have hRl : R.length ≤ 4096 := by
        have hp : (2 : Nat) ^ Hn ≤ 4096 := Nat.le_trans (Nat.pow_le_pow_right (by decide) c6) (by decide)
        have := mnR_len (L := (List.range (2 ^ Hn)).map fun m' => rho (I1 4) (fun w => hsu I1 w m' Hn)) m2 (fun f ⟨v, ⟨m', q1, _, q2⟩, q3⟩ => by rw [q3, q2]; exact List.mem_map.mpr ⟨m', List.mem_range.mpr q1, rfl⟩)
        rw [List.length_map, List.length_range] at this
        omega
      exact if_le (by omega) (by decide) (fun z => absurd z (by omega)) (fun _ => ⟨_, _, _, rfl, rfl, rfl, rfl⟩)))
    subst rr
    subst p1
    subst p2
    refine ⟨_, Ib, Jb, I2b, J2b, top _ _ _ k1, c2b, Rl_H h (mI1 _ _ rfl rfl rfl rfl rfl rfl rfl rfl rfl rfl) (mJ1 _ _ rfl rfl) (mI2 _ _ rfl rfl rfl rfl rfl rfl) (mJ2 _ _ rfl) ?_ ?_⟩
    · have q := h.2.2.2.2.2.1
      unfold rlH at q ⊢
      rw [fbq 38 (by decide) (by decide) (by decide) (by decide) (by decide) (by decide) (by decide) (by decide) (by decide) (by decide), fbq 39 (by decide) (by decide) (by decide) (by decide) (by decide) (by decide) (by decide) (by decide) (by decide) (by decide), wf2 0 58 (by decide) (by decide) (by decide) (by decide) (by decide), wf2 0 59 (by decide) (by decide) (by decide) (by decide) (by decide)]
      have e37 : I2b 37 = I2 37 := by funext j; exact wf2 37 j (by decide) (by decide) (by decide) (by decide) (Or.inl (by decide))
      have e38 : I2b 38 = I2 38 := by funext j; exact wf2 38 j (by decide) (by decide) (by decide) (by decide) (Or.inl (by decide))
      rw [e37, e38]
      exact q
    · refine Or.inr (Or.inl ⟨s9, n, F, hc, ?_⟩)
      rw [sCb]
      exact frF
end S98c
end
section
/-! front, of every kind -/
section S98d
variable {b W Rn Kn Tn Hn Un g : Nat} {I1 I2 : Nat → Nat → Int32} {J1 J2 : Nat → Nat → Int64}
theorem al_front {x1 x2 x3 : Int32} (h : Rl b W Rn Kn Tn Hn Un g I1 J1 I2 J2) : AI 203 70 [.int x1, .int x2, .int x3] I1 J1 I2 J2 (Rl b W Rn Kn Tn Hn Un g) := by
  by_cases hW : W = 0
  · exact al_front0 h (Or.inr hW)
  · by_cases e1 : x1 = 1
    · subst e1; exact al_front1 h hW
    · by_cases e2 : x1 = 2
      · subst e2; exact al_front2 h hW
      · exact al_front0 h (Or.inl ⟨e1, e2⟩)
end S98d
end
section
/-! what stands at a place of the text: signs, numbers, words -/
def lxk (x : Nat) : Nat := if 97 ≤ x ∧ x ≤ 122 then 3 else if 48 ≤ x ∧ x ≤ 57 then 2 else 1
theorem lxk_3 {x : Nat} : lxk x = 3 ↔ 97 ≤ x ∧ x ≤ 122 := by
  unfold lxk
  by_cases h : 97 ≤ x ∧ x ≤ 122
  · rw [if_pos h]; exact ⟨fun _ => h, fun _ => rfl⟩
  · rw [if_neg h]
    refine ⟨fun q => ?_, fun q => absurd q h⟩
    split at q <;> omega
theorem lxk_2 {x : Nat} : lxk x = 2 ↔ 48 ≤ x ∧ x ≤ 57 := by
  unfold lxk
  by_cases h : 97 ≤ x ∧ x ≤ 122
  · rw [if_pos h]
    exact ⟨fun q => by omega, fun q => by omega⟩
  · rw [if_neg h]
    by_cases h2 : 48 ≤ x ∧ x ≤ 57
    · rw [if_pos h2]; exact ⟨fun _ => h2, fun _ => rfl⟩
    · rw [if_neg h2]; exact ⟨fun q => by omega, fun q => absurd q h2⟩
theorem lxk_rng (x : Nat) : lxk x = 1 ∨ lxk x = 2 ∨ lxk x = 3 := by
  unfold lxk
  split
  · exact Or.inr (Or.inr rfl)
  · split
    · exact Or.inr (Or.inl rfl)
    · exact Or.inl rfl
def lxb (x : Nat) : Prop := x = 32 ∨ x = 10
def lxt (n : Nat) (x : Nat → Nat) (I : Nat → Nat → Int32) (c : Nat) : Prop := n ≤ 900 ∧ ∀ j, j < n → I c j = nI (x j) ∧ x j < 256
/-- a word's letters, from its last one on -/
def lxw (x : Nat → Nat) (p : Nat) : Nat → List Nat
  | 0 => []
  | i + 1 => (x (p + i) - 96) :: lxw x p i
def lxn (x : Nat → Nat) (p : Nat) : Nat → Nat
  | 0 => 0
  | i + 1 => 10 * lxn x p i + (x (p + i) - 48)
def lxl (l : List Nat) : Prop := 1 ≤ l.length ∧ l.length ≤ 6 ∧ ∀ a ∈ l, 1 ≤ a ∧ a ≤ 26
theorem lxw_len {x : Nat → Nat} {p : Nat} : ∀ {i}, (lxw x p i).length = i
  | 0 => rfl
  | i + 1 => by show (lxw x p i).length + 1 = _; rw [lxw_len]
theorem lxw_ok {x : Nat → Nat} {p : Nat} : ∀ {i}, (∀ j, j < i → lxk (x (p + j)) = 3) → ∀ a ∈ lxw x p i, 1 ≤ a ∧ a ≤ 26
  | 0, _, a, ha => absurd ha List.not_mem_nil
  | i + 1, h, a, ha => by
    rcases List.mem_cons.mp ha with rfl | ha
    · have := lxk_3.mp (h i (by omega)); omega
    · exact lxw_ok (fun j hj => h j (by omega)) a ha
theorem lxn_lt {x : Nat → Nat} {p : Nat} : ∀ {i}, (∀ j, j < i → lxk (x (p + j)) = 2) → lxn x p i < 10 ^ i
  | 0, _ => Nat.zero_lt_one
  | i + 1, h => by
    have ih := lxn_lt (x := x) (p := p) (i := i) fun j hj => h j (by omega)
    have := lxk_2.mp (h i (by omega))
    show 10 * lxn x p i + (x (p + i) - 48) < _
    rw [Nat.pow_succ]
    omega
theorem nmC_inj : ∀ {l m : List Nat}, (∀ a ∈ l, 1 ≤ a ∧ a ≤ 26) → (∀ a ∈ m, 1 ≤ a ∧ a ≤ 26) → nmC l = nmC m → l = m
  | [], [], _, _, _ => rfl
  | [], y :: m, _, h, e => by
    have := h y List.mem_cons_self
    have e : 0 = nmC m * 32 + y := e
    omega
  | y :: l, [], h, _, e => by
    have := h y List.mem_cons_self
    have e : nmC l * 32 + y = 0 := e
    omega
  | y :: l, z :: m, h, h', e => by
    have h1 := h y List.mem_cons_self
    have h2 := h' z List.mem_cons_self
    have e : nmC l * 32 + y = nmC m * 32 + z := e
    have e1 : y = z := by omega
    have e2 : nmC l = nmC m := by omega
    rw [e1, nmC_inj (fun a ha => h a (List.mem_cons_of_mem _ ha)) (fun a ha => h' a (List.mem_cons_of_mem _ ha)) e2]
theorem nmR_inj : ∀ {l m : List Nat}, (∀ a ∈ l, 1 ≤ a ∧ a ≤ 26) → (∀ a ∈ m, 1 ≤ a ∧ a ≤ 26) → nmR l = nmR m → l = m
  | [], [], _, _, _ => rfl
  | [], y :: m, _, h, e => by
    have := h y List.mem_cons_self
    have e : 0 = nmR m * 256 + (y + 96) := e
    omega
  | y :: l, [], h, _, e => by
    have := h y List.mem_cons_self
    have e : nmR l * 256 + (y + 96) = 0 := e
    omega
  | y :: l, z :: m, h, h', e => by
    have h1 := h y List.mem_cons_self
    have h2 := h' z List.mem_cons_self
    have e : nmR l * 256 + (y + 96) = nmR m * 256 + (z + 96) := e
    have e1 : y = z := by omega
    have e2 : nmR l = nmR m := by omega
    rw [e1, nmR_inj (fun a ha => h a (List.mem_cons_of_mem _ ha)) (fun a ha => h' a (List.mem_cons_of_mem _ ha)) e2]
theorem owL_ok : ∀ n, n < 17 → (1 ≤ (owL.getD n []).length ∧ (owL.getD n []).length ≤ 6 ∧ ∀ a ∈ owL.getD n [], 1 ≤ a ∧ a ≤ 26) := by decide
/-- the number of a word that the language has for itself, or -1 -/
def lxo (l : List Nat) (o : Int) : Prop := (o = -1 ∧ ∀ n, n < 17 → owL.getD n [] ≠ l) ∨ ∃ n : Nat, n < 17 ∧ o = n ∧ owL.getD n [] = l
section Sa0
variable {D n a p : Nat} {x : Nat → Nat} {I : Nat → Nat → Int32} {J : Nat → Nat → Int64}
theorem c_kind {y : Nat} (hx : y < 256) : C1 (D + 1) 141 [.int (nI y)] I J (.int (nI (lxk y))) I J := by
  refine mj_mk (e141 _ ?_)
  have low : ¬ (97 ≤ y ∧ y ≤ 122) → E1 141 D (fun r => r = (.int (nI (lxk y)), (I, J, mj_R1))) 14 [(0, .int (nI y))] I J := fun h => by
    refine mj_on (s141_14 _ ?_)
    rw [show (48 : Int32) = nI 48 from rfl, show (57 : Int32) = nI 57 from rfl]
    refine if_lt (by omega) (by decide) (fun c => ?_) (fun c => if_lt (by decide) (by omega) (fun d => ?_) (fun d => ?_))
    · have e : lxk y = 1 := by
        rcases lxk_rng y with q | q | q
        · exact q
        · have := lxk_2.mp q; omega
        · exact absurd (lxk_3.mp q) h
      rw [e]; rfl
    · have e : lxk y = 1 := by
        rcases lxk_rng y with q | q | q
        · exact q
        · have := lxk_2.mp q; omega
        · exact absurd (lxk_3.mp q) h
      rw [e]; rfl
    · rw [lxk_2.mpr ⟨c, d⟩]; rfl
  rw [show (97 : Int32) = nI 97 from rfl, show (122 : Int32) = nI 122 from rfl]
  refine if_lt (by omega) (by decide) (fun c => low (by omega)) (fun c => if_lt (by decide) (by omega) (fun d => low (by omega)) (fun d => ?_))
  rw [lxk_3.mpr ⟨c, d⟩]; rfl
theorem r_letter {y : Nat} (hx : y < 256) : C2 (D + 1) 14 [.int (nI y)] I J (.int (tf (lxk y = 3))) I J := by
  refine mj_mk (e14 _ ?_)
  rw [show (97 : Int32) = nI 97 from rfl, show (122 : Int32) = nI 122 from rfl]
  exact if_lt (by omega) (by decide) (fun c => mzF fun q => by have := lxk_3.mp q; omega) (fun c => if_lt (by decide) (by omega) (fun d => mzF fun q => by have := lxk_3.mp q; omega) (fun d => mzT (lxk_3.mpr ⟨c, d⟩)))
theorem r_digit {y : Nat} (hx : y < 256) : C2 (D + 1) 15 [.int (nI y)] I J (.int (tf (lxk y = 2))) I J := by
  refine mj_mk (e15 _ ?_)
  rw [show (48 : Int32) = nI 48 from rfl, show (57 : Int32) = nI 57 from rfl]
  exact if_lt (by omega) (by decide) (fun c => mzF fun q => by have := lxk_2.mp q; omega) (fun c => if_lt (by decide) (by omega) (fun d => mzF fun q => by have := lxk_2.mp q; omega) (fun d => mzT (lxk_2.mpr ⟨c, d⟩)))
/-- from a on to p there are but blanks -/
def lxs (n : Nat) (x : Nat → Nat) (a p : Nat) : Prop := a ≤ p ∧ p ≤ n ∧ (∀ j, a ≤ j → j < p → lxb (x j)) ∧ (p < n → ¬ lxb (x p))
theorem lxs_ex : ∀ (k a : Nat), n = a + k → ∃ p, lxs n x a p
  | 0, a, h => ⟨a, Nat.le_refl _, by omega, fun j h1 h2 => by omega, fun q => by omega⟩
  | k + 1, a, h => by
    rcases Classical.em (lxb (x a)) with c | c
    · obtain ⟨p, h1, h2, h3, h4⟩ := lxs_ex k (a + 1) (by omega)
      refine ⟨p, by omega, h2, fun j q1 q2 => ?_, h4⟩
      by_cases e : j = a
      · subst e; exact c
      · exact h3 j (by omega) q2
    · exact ⟨a, Nat.le_refl _, by omega, fun j h1 h2 => by omega, fun _ => c⟩
theorem c_skip (ht : lxt n x I 13) (h2 : I 11 2 = nI n) (h4 : I 11 4 = nI a) (hs : lxs n x a p) : ∃ I' J', C1 (D + 1) 140 [.ref 11] I J .null I' J' ∧ J' = J ∧ I' 11 4 = nI p ∧ ∀ q j, (q ≠ 11 ∨ j ≠ 4) → I' q j = I q j := by
  obtain ⟨s1, s2, s3, s4⟩ := hs
  obtain ⟨t1, t2⟩ := ht
  refine mj_cN (e140 ?_)
  obtain ⟨Q, hQ⟩ : ∃ Q, Q = qN mj_R1 (fun I' J' => J' = J ∧ I' 11 4 = nI p ∧ ∀ q j, (q ≠ 11 ∨ j ≠ 4) → I' q j = I q j) := ⟨_, rfl⟩
  rw [← hQ, h4]
  have lp := lp_up (n := p) (fun i => a ≤ i → ∀ I0, I0 11 4 = nI i → (∀ q j, (q ≠ 11 ∨ j ≠ 4) → I0 q j = I q j) → E1 140 D Q 5 [(0, .ref 11), (1, .int (nI i))] I0 J) (fun i hi ih hai I0 g1 g2 => ?_) a s1 (Nat.le_refl _) I h4 (fun _ _ _ => rfl)
  · exact lp
  have nxt : i < p → E1 140 D Q 35 [(0, .ref 11), (1, .int (nI i))] I0 J := fun c => by
    refine mj_on (s140_35 _ ?_)
    rw [nI_1]
    exact ih c (by omega) _ up_s (fun q j hq => by rw [up_n hq]; exact g2 q j hq)
  refine mj_on (s140_5 _ ?_)
  rw [g2 11 2 (by decide), h2]
  refine if_le (by omega) (by omega) (fun c => ?_) (fun c => ?_)
  · obtain rfl : i = p := by omega
    rw [hQ]
    exact ⟨_, _, rfl, rfl, g1, g2⟩
  obtain ⟨u1, u2⟩ := t2 i c
  rw [nI_clamp (by omega), g2 13 i (Or.inl (by decide)), u1, show (32 : Int32) = nI 32 from rfl, show (10 : Int32) = nI 10 from rfl]
  have vi : vp_in (nI i) 900 := vp_in_nI (by omega) (by decide)
  by_cases e : i = p
  · subst e
    have nb := s4 c
    refine ⟨vi, if_eq (by omega) (by decide) (fun q => absurd (Or.inl q) nb) (fun _ => ⟨vi, if_eq (by omega) (by decide) (fun q => absurd (Or.inr q) nb) (fun _ => ?_)⟩)⟩
    rw [hQ]
    exact ⟨_, _, rfl, rfl, g1, g2⟩
  · have hb := s3 i hai (by omega)
    refine ⟨vi, if_eq (by omega) (by decide) (fun _ => nxt (by omega)) (fun q1 => ⟨vi, if_eq (by omega) (by decide) (fun _ => nxt (by omega)) (fun q2 => ?_)⟩)⟩
    rcases hb with hb | hb
    · exact absurd hb q1
    · exact absurd hb q2
theorem r_skip {Q : mj_R → Prop} (ht : lxt n x I 1) (h2 : I 0 2 = nI n) (hs : lxs n x a p) (h : E2 13 D Q 41 [(0, .ref 0), (1, .int (nI p))] I J) : E2 13 D Q 5 [(0, .ref 0), (1, .int (nI a))] I J := by
  obtain ⟨s1, s2, s3, s4⟩ := hs
  obtain ⟨t1, t2⟩ := ht
  have lp := lp_up (n := p) (fun i => a ≤ i → E2 13 D Q 5 [(0, .ref 0), (1, .int (nI i))] I J) (fun i hi ih hai => ?_) a s1 (Nat.le_refl _)
  · exact lp
  refine mj_on (s13_5 _ ?_)
  rw [h2, nI_1]
  refine if_le (by omega) (by omega) (fun c => ?_) (fun c => ?_)
  · obtain rfl : i = p := by omega
    exact h
  obtain ⟨u1, u2⟩ := t2 i c
  rw [nI_clamp (by omega), u1, show (32 : Int32) = nI 32 from rfl, show (10 : Int32) = nI 10 from rfl]
  have vi : vp_in (nI i) 900 := vp_in_nI (by omega) (by decide)
  by_cases e : i = p
  · subst e
    have nb := s4 c
    exact ⟨vi, if_eq (by omega) (by decide) (fun q => absurd (Or.inl q) nb) (fun _ => ⟨vi, if_eq (by omega) (by decide) (fun q => absurd (Or.inr q) nb) (fun _ => h)⟩)⟩
  · have hb := s3 i hai (by omega)
    refine ⟨vi, if_eq (by omega) (by decide) (fun _ => ih (by omega) (by omega)) (fun q1 => ⟨vi, if_eq (by omega) (by decide) (fun _ => ih (by omega) (by omega)) (fun q2 => ?_)⟩)⟩
    rcases hb with hb | hb
    · exact absurd hb q1
    · exact absurd hb q2
/-- the run of k's that begins at p: m long -/
def lxr (n : Nat) (x : Nat → Nat) (p k m : Nat) : Prop := p + m ≤ n ∧ (∀ j, j < m → lxk (x (p + j)) = k) ∧ (p + m < n → lxk (x (p + m)) ≠ k)
theorem lxr_ex (k : Nat) : ∀ (r p : Nat), n = p + r → ∃ m, lxr n x p k m
  | 0, p, h => ⟨0, by omega, fun j hj => by omega, fun q => by omega⟩
  | r + 1, p, h => by
    by_cases c : lxk (x p) = k
    · obtain ⟨m, h1, h2, h3⟩ := lxr_ex k r (p + 1) (by omega)
      refine ⟨m + 1, by omega, fun j hj => ?_, fun q => ?_⟩
      · by_cases e : j = 0
        · subst e; exact c
        · have := h2 (j - 1) (by omega)
          rw [show p + 1 + (j - 1) = p + j by omega] at this
          exact this
      · have := h3 (by omega)
        rw [show p + 1 + m = p + (m + 1) by omega] at this
        exact this
    · exact ⟨0, by omega, fun j hj => by omega, fun _ => c⟩
/-- the number of an own word -/
theorem c_own {l : List Nat} (hO : rlO I) (hl : ∀ a ∈ l, 1 ≤ a ∧ a ≤ 26) (h6 : l.length ≤ 6) : ∃ r I' J', C1 (D + 1) 142 [.ref 11, .int (nI (nmC l))] I J (.int r) I' J' ∧ (∃ o, r = iI o ∧ lxo l o) ∧ I' = I ∧ J' = J := by
  refine mj_cI (e142 _ ?_)
  obtain ⟨Q, hQ⟩ : ∃ Q, Q = qI mj_R1 (fun r I' J' => (∃ o, r = iI o ∧ lxo l o) ∧ I' = I ∧ J' = J) := ⟨_, rfl⟩
  rw [← hQ]
  have lt : ∀ {l : List Nat}, (∀ a ∈ l, 1 ≤ a ∧ a ≤ 26) → l.length ≤ 6 → nmC l < 2 ^ 30 := fun {l} h1 h2 => by
    have := nmC_lt h1
    have h3 : 32 ^ l.length ≤ 32 ^ 6 := Nat.pow_le_pow_right (by decide) h2
    omega
  have lp := lp_up (n := 17) (fun k => (∀ i, i < k → owL.getD i [] ≠ l) → E1 142 D Q 2 [(0, .ref 11), (1, .int (nI (nmC l))), (2, .int (nI k))] I J) (fun k hk ih hn => ?_) 0 (by omega) (fun i hi => by omega)
  · exact lp
  refine mj_on (s142_2 _ _ ?_)
  rw [show (17 : Int32) = nI 17 from rfl]
  refine if_le (by decide) (by omega) (fun c => ?_) (fun c => ?_)
  · obtain rfl : k = 17 := by omega
    rw [hQ]
    exact ⟨_, _, _, rfl, ⟨-1, rfl, Or.inl ⟨rfl, hn⟩⟩, rfl, rfl⟩
  obtain ⟨w1, w2, w3⟩ := owL_ok k c
  rw [nI_clamp (by omega), hO k c, nI_1]
  refine ⟨vp_in_nI c (by decide), if_eq (by have := lt w3 w2; omega) (by have := lt hl h6; omega) (fun e => ?_) (fun e => ?_)⟩
  · have := nmC_inj w3 hl e
    rw [hQ]
    exact ⟨_, _, _, rfl, ⟨k, (iI_nI k).symm, Or.inr ⟨k, c, rfl, this⟩⟩, rfl, rfl⟩
  · refine ih c (fun i hi => ?_)
    by_cases z : i = k
    · subst z; intro q; exact e (by rw [q])
    · exact hn i (by omega)
end Sa0
end
section
/-! the class reads what stands next -/
theorem nI_mns {a c : Nat} (h : c ≤ a) : nI a - nI c = nI (a - c) := by
  have : nI a = nI (a - c) + nI c := by rw [nI_add, Nat.sub_add_cancel h]
  rw [this, Int32.add_sub_cancel]
/-- the longest that a word or a number may be -/
def lxm (k : Nat) : Nat := if k = 3 then 6 else 4
def lxf (I I' : Nat → Nat → Int32) : Prop := ∀ q j, (q ≠ 11 ∨ (j ≠ 4 ∧ j ≠ 5 ∧ j ≠ 6 ∧ j ≠ 7 ∧ j ≠ 8)) → I' q j = I q j
section Sa1
variable {D n a p t m : Nat} {x : Nat → Nat} {I : Nat → Nat → Int32} {J : Nat → Nat → Int64}
theorem c_advE (ht : lxt n x I 13) (h2 : I 11 2 = nI n) (h4 : I 11 4 = nI a) (hs : lxs n x a n) : ∃ I' J', C1 (D + 3) 139 [.ref 11] I J .null I' J' ∧ J' = J ∧ lxf I I' ∧ I' 11 4 = nI n ∧ I' 11 5 = nI 0 ∧ I' 11 7 = -1 ∧ I' 11 8 = nI n := by
  have hn := ht.1
  refine mj_cN (e139 ?_)
  have go : ∀ fl : Int32, E1 139 (D + 2) (qN mj_R1 fun I' J' => J' = J ∧ lxf I I' ∧ I' 11 4 = nI n ∧ I' 11 5 = nI 0 ∧ I' 11 7 = -1 ∧ I' 11 8 = nI n) 22 [(0, .ref 11), (1, .int fl)] I J := fun fl => by
    obtain ⟨Ia, Ja, ca, rfl, a1, a2⟩ := c_skip (D := D + 1) (J := J) ht h2 h4 hs
    refine mj_on (s139_22 _ ?_)
    refine ⟨trivial, _, _, ca, ?_⟩
    rw [a1, a2 11 2 (by decide), h2]
    refine if_lt (by omega) (by omega) (fun z => absurd z (by omega)) (fun _ => ⟨_, _, rfl, rfl, fun q j hq => ?_, ?_, up_s, ?_, ?_⟩)
    · rw [up_n (by omega), up_n (by omega), up_n (by omega), up_n (by omega), a2 q j (by omega)]
    · rw [up_n (by decide), up_n (by decide), up_n (by decide), up_n (by decide), a1]
    · rw [up_n (by decide), up_n (by decide), up_s]
    · rw [up_n (by decide), up_n (by decide), up_n (by decide), up_s]
  exact if_i (fun _ => go 1) (fun _ => if_i (fun _ => go 1) (fun _ => go 0))
theorem c_advT (ht : lxt n x I 13) (hO : rlO I) (h2 : I 11 2 = nI n) (h4 : I 11 4 = nI a) (h5 : I 11 5 = nI t) (ht4 : t ≤ 4) (hs : lxs n x a p) (hp : p < n) (hr : lxr n x p (lxk (x p)) m) : ∃ I' J', C1 (D + 3) 139 [.ref 11] I J .null I' J' ∧ J' = J ∧ lxf I I' ∧
    (lxk (x p) = 1 → I' 11 4 = nI (p + 1) ∧ I' 11 5 = nI 1 ∧ I' 11 6 = nI (x p) ∧ I' 11 7 = -1 ∧ I' 11 8 = nI p) ∧
    (lxk (x p) ≠ 1 → (t = 2 ∨ t = 3) → p = a → I' 11 5 = nI 4 ∧ I' 11 7 = -1 ∧ I' 11 8 = nI p) ∧
    (lxk (x p) ≠ 1 → ¬ ((t = 2 ∨ t = 3) ∧ p = a) → lxm (lxk (x p)) < m → I' 11 5 = nI 4 ∧ I' 11 7 = -1 ∧ I' 11 8 = nI (p + lxm (lxk (x p)))) ∧
    (lxk (x p) ≠ 1 → ¬ ((t = 2 ∨ t = 3) ∧ p = a) → m ≤ lxm (lxk (x p)) → I' 11 4 = nI (p + m) ∧ I' 11 5 = nI (lxk (x p)) ∧ I' 11 8 = nI p ∧ (lxk (x p) = 2 → I' 11 6 = nI (lxn x p m) ∧ I' 11 7 = -1) ∧ (lxk (x p) = 3 → I' 11 6 = nI (nmC (lxw x p m)) ∧ ∃ o, I' 11 7 = iI o ∧ lxo (lxw x p m) o)) := by
  have hn := ht.1
  obtain ⟨hx, hx2⟩ := ht.2 p hp
  obtain ⟨k, hk⟩ : ∃ k, k = lxk (x p) := ⟨_, rfl⟩
  rw [← hk] at hr ⊢
  obtain ⟨r1, r2, r3⟩ := hr
  have k123 : k = 1 ∨ k = 2 ∨ k = 3 := by rw [hk]; exact lxk_rng _
  have m1 : 1 ≤ m := by
    refine Classical.byContradiction fun q => ?_
    obtain rfl : m = 0 := by omega
    exact r3 (by omega) hk.symm
  refine mj_cN (e139 ?_)
  obtain ⟨P, hP⟩ : ∃ P : (Nat → Nat → Int32) → Prop, P = fun I' => lxf I I' ∧
    (k = 1 → I' 11 4 = nI (p + 1) ∧ I' 11 5 = nI 1 ∧ I' 11 6 = nI (x p) ∧ I' 11 7 = -1 ∧ I' 11 8 = nI p) ∧
    (k ≠ 1 → (t = 2 ∨ t = 3) → p = a → I' 11 5 = nI 4 ∧ I' 11 7 = -1 ∧ I' 11 8 = nI p) ∧
    (k ≠ 1 → ¬ ((t = 2 ∨ t = 3) ∧ p = a) → lxm k < m → I' 11 5 = nI 4 ∧ I' 11 7 = -1 ∧ I' 11 8 = nI (p + lxm k)) ∧
    (k ≠ 1 → ¬ ((t = 2 ∨ t = 3) ∧ p = a) → m ≤ lxm k → I' 11 4 = nI (p + m) ∧ I' 11 5 = nI k ∧ I' 11 8 = nI p ∧ (k = 2 → I' 11 6 = nI (lxn x p m) ∧ I' 11 7 = -1) ∧ (k = 3 → I' 11 6 = nI (nmC (lxw x p m)) ∧ ∃ o, I' 11 7 = iI o ∧ lxo (lxw x p m) o)) := ⟨_, rfl⟩
  obtain ⟨Q, hQ⟩ : ∃ Q, Q = qN mj_R1 (fun I' J' => J' = J ∧ P I') := ⟨_, rfl⟩
  have eQ : qN mj_R1 (fun I' J' => J' = J ∧ lxf I I' ∧
    (k = 1 → I' 11 4 = nI (p + 1) ∧ I' 11 5 = nI 1 ∧ I' 11 6 = nI (x p) ∧ I' 11 7 = -1 ∧ I' 11 8 = nI p) ∧
    (k ≠ 1 → (t = 2 ∨ t = 3) → p = a → I' 11 5 = nI 4 ∧ I' 11 7 = -1 ∧ I' 11 8 = nI p) ∧
    (k ≠ 1 → ¬ ((t = 2 ∨ t = 3) ∧ p = a) → lxm k < m → I' 11 5 = nI 4 ∧ I' 11 7 = -1 ∧ I' 11 8 = nI (p + lxm k)) ∧
    (k ≠ 1 → ¬ ((t = 2 ∨ t = 3) ∧ p = a) → m ≤ lxm k → I' 11 4 = nI (p + m) ∧ I' 11 5 = nI k ∧ I' 11 8 = nI p ∧ (k = 2 → I' 11 6 = nI (lxn x p m) ∧ I' 11 7 = -1) ∧ (k = 3 → I' 11 6 = nI (nmC (lxw x p m)) ∧ ∃ o, I' 11 7 = iI o ∧ lxo (lxw x p m) o))) = Q := by rw [hQ, hP]
  rw [eQ]
  have fin : ∀ I', P I' → Q (.null, (I', J, mj_R1)) := fun I' h => by rw [hQ]; exact ⟨_, _, rfl, rfl, h⟩
  have go : ∀ fl : Int32, (fl = 0 ↔ ¬ (t = 2 ∨ t = 3)) → E1 139 (D + 2) Q 22 [(0, .ref 11), (1, .int fl)] I J := fun fl hfl => by
    obtain ⟨Ia, Ja, ca, hJa, a1, a2⟩ := c_skip (D := D + 1) (J := J) ht h2 h4 hs
    rw [hJa] at ca
    refine mj_on (s139_22 _ ?_)
    refine ⟨trivial, _, _, ca, ?_⟩
    rw [a1, a2 11 2 (by decide), h2]
    refine if_lt (by omega) (by omega) (fun _ => ?_) (fun z => absurd z (by omega))
    rw [nI_clamp (by omega), a2 13 p (Or.inl (by decide)), hx]
    obtain ⟨Ib, hIb⟩ : ∃ Ib, Ib = mj_up (mj_up (mj_up Ia 11 8 (nI p)) 11 7 (-1)) 11 6 0 := ⟨_, rfl⟩
    rw [← hIb]
    have vp : vp_in (nI p) 900 := vp_in_nI (by omega) (by decide)
    refine ⟨vp, trivial, _, _, _, c_kind hx2, ?_⟩
    rw [← hk]
    have b4 : Ib 11 4 = nI p := by rw [hIb, up_n (by decide), up_n (by decide), up_n (by decide), a1]
    have b8 : Ib 11 8 = nI p := by rw [hIb, up_n (by decide), up_n (by decide), up_s]
    have b7 : Ib 11 7 = -1 := by rw [hIb, up_n (by decide), up_s]
    have b6 : Ib 11 6 = nI 0 := by rw [hIb, up_s]; rfl
    have fb : lxf I Ib := fun q j hq => by rw [hIb, up_n (by omega), up_n (by omega), up_n (by omega), a2 q j (by omega)]
    rw [b4, b8, h4, nI_clamp (by omega), fb 13 p (Or.inl (by decide)), hx, nI_1]
    by_cases k1 : k = 1
    · rw [if_pos (show nI k = 1 by rw [k1]; rfl)]
      refine ⟨vp, fin _ ?_⟩
      rw [hP]
      refine ⟨fun q j hq => ?_, fun _ => ⟨up_s, ?_, ?_, ?_, ?_⟩, fun q => absurd k1 q, fun q => absurd k1 q, fun q => absurd k1 q⟩
      · rw [up_n (by omega), up_n (by omega), up_n (by omega)]; exact fb q j hq
      · rw [up_n (by decide), up_n (by decide), up_s, k1]
      · rw [up_n (by decide), up_s]
      · rw [up_n (by decide), up_n (by decide), up_n (by decide)]; exact b7
      · rw [up_n (by decide), up_n (by decide), up_n (by decide)]; exact b8
    rw [if_neg (show ¬ nI k = 1 from fun z => k1 ((nI_eq (b := 1) (by omega) (by decide)).mp z))]
    obtain ⟨Ic, hIc⟩ : ∃ Ic, Ic = mj_up Ib 11 5 (nI k) := ⟨_, rfl⟩
    rw [← hIc]
    have c4 : Ic 11 4 = nI p := by rw [hIc, up_n (by decide)]; exact b4
    have c5 : Ic 11 5 = nI k := by rw [hIc, up_s]
    have c6 : Ic 11 6 = nI 0 := by rw [hIc, up_n (by decide)]; exact b6
    have c7 : Ic 11 7 = -1 := by rw [hIc, up_n (by decide)]; exact b7
    have c8 : Ic 11 8 = nI p := by rw [hIc, up_n (by decide)]; exact b8
    have fc : lxf I Ic := fun q j hq => by rw [hIc, up_n (by omega)]; exact fb q j hq
    have run : ¬ ((t = 2 ∨ t = 3) ∧ p = a) → E1 139 (D + 2) Q 132 [(0, .ref 11)] Ic J := fun hna => by
      have inv0 : ∀ i, i ≤ m → i ≤ lxm k → ∃ z : Nat, z = if k = 3 then nmC (lxw x p i) else lxn x p i := fun i _ _ => ⟨_, rfl⟩
      -- behind the run
      have e303 : ∀ I0, lxf I I0 → m ≤ lxm k → I0 11 4 = nI (p + m) → I0 11 5 = nI k → I0 11 6 = nI (if k = 3 then nmC (lxw x p m) else lxn x p m) → I0 11 7 = -1 → I0 11 8 = nI p → E1 139 (D + 2) Q 303 [(0, .ref 11)] I0 J := fun I0 f0 hm i4 i5 i6 i7 i8 => by
        refine mj_on (s139_303 ?_)
        rw [i5]
        by_cases k3 : k = 3
        · rw [if_pos (show nI k = 3 by rw [k3]; rfl), i6, if_pos k3]
          have hw : ∀ z ∈ lxw x p m, 1 ≤ z ∧ z ≤ 26 := lxw_ok fun j hj => by rw [r2 j hj, k3]
          obtain ⟨r, Id, Jd, cd, ⟨o, rfl, ho⟩, hId, hJd⟩ := c_own (D := D + 1) (J := J) (I := I0) (l := lxw x p m) (fun z hz => by rw [f0 12 z (Or.inl (by decide))]; exact hO z hz) hw (by rw [lxw_len]; rw [k3] at hm; exact hm)
          rw [hId, hJd] at cd
          refine ⟨trivial, _, _, _, cd, fin _ ?_⟩
          rw [hP]
          refine ⟨fun q j hq => by rw [up_n (by omega)]; exact f0 q j hq, fun q => absurd q k1, fun _ q1 q2 => absurd ⟨q1, q2⟩ hna, fun _ _ q => absurd q (by omega), fun _ _ _ => ⟨?_, ?_, ?_, fun q => absurd q (by omega), fun _ => ⟨?_, o, up_s, ho⟩⟩⟩
          · rw [up_n (by decide)]; exact i4
          · rw [up_n (by decide)]; exact i5
          · rw [up_n (by decide)]; exact i8
          · rw [up_n (by decide), i6, if_pos k3]
        · rw [if_neg (show ¬ nI k = 3 from fun z => k3 ((nI_eq (b := 3) (by omega) (by decide)).mp z))]
          refine fin _ ?_
          rw [hP]
          rw [if_neg k3] at i6
          exact ⟨f0, fun q => absurd q k1, fun _ q1 q2 => absurd ⟨q1, q2⟩ hna, fun _ _ q => absurd q (by omega), fun _ _ _ => ⟨i4, i5, i8, fun _ => ⟨i6, i7⟩, fun q => absurd q k3⟩⟩
      have e257 : ∀ i I0, i ≤ m → (i = m ∧ i ≤ lxm k ∨ i = lxm k) → lxf I I0 → I0 11 4 = nI (p + i) → I0 11 5 = nI k → I0 11 6 = nI (if k = 3 then nmC (lxw x p i) else lxn x p i) → I0 11 7 = -1 → I0 11 8 = nI p → E1 139 (D + 2) Q 257 [(0, .ref 11)] I0 J := fun i I0 him hi f0 i4 i5 i6 i7 i8 => by
        refine mj_on (s139_257 ?_)
        rw [f0 11 2 (by decide), h2, i4]
        refine if_le (by omega) (by omega) (fun c => ?_) (fun c => ?_)
        · obtain rfl : i = m := by omega
          exact e303 I0 f0 (by omega) i4 i5 i6 i7 i8
        · obtain ⟨u1, u2⟩ := ht.2 (p + i) c
          rw [nI_clamp (by omega), f0 13 (p + i) (Or.inl (by decide)), u1]
          refine ⟨vp_in_nI (by omega) (by decide), trivial, _, _, _, c_kind u2, ?_⟩
          rw [i5]
          have lk : lxk (x (p + i)) < 2 ^ 31 := by rcases lxk_rng (x (p + i)) with q | q | q <;> omega
          refine if_eq lk (by omega) (fun e => ?_) (fun e => ?_)
          · have hlt : i < m := Classical.byContradiction fun q => by
              obtain rfl : i = m := by omega
              exact r3 c e
            refine fin _ ?_
            rw [hP, i4]
            have il : i = lxm k := by omega
            refine ⟨fun q j hq => by rw [up_n (by omega), up_n (by omega)]; exact f0 q j hq, fun q => absurd q k1, fun _ q1 q2 => absurd ⟨q1, q2⟩ hna, fun _ _ _ => ⟨?_, ?_, ?_⟩, fun _ _ q => absurd q (by omega)⟩
            · rw [up_n (by decide), up_s]; rfl
            · rw [up_n (by decide), up_n (by decide)]; exact i7
            · rw [up_s, il]
          · obtain rfl : i = m := Classical.byContradiction fun q => e (r2 i (by omega))
            exact e303 I0 f0 (by omega) i4 i5 i6 i7 i8
      have lm : lxm k = 6 ∨ lxm k = 4 := by unfold lxm; split <;> omega
      have e147 : E1 139 (D + 2) Q 147 [(0, .ref 11), (3, .int (nI (lxm k)))] Ic J := by
        refine mj_on (s139_147 _ ?_)
        rw [fc 11 2 (by decide), h2, c4, nI_add]
        refine ⟨trivial, _, _, _, c_minN (by omega) (by omega), ?_⟩
        rw [c4]
        obtain ⟨N, hN⟩ : ∃ N, N = min m (lxm k) := ⟨_, rfl⟩
        have lp := lp_up (n := N) (fun i => ∀ I0, lxf I I0 → I0 11 4 = nI (p + i) → I0 11 5 = nI k → I0 11 6 = nI (if k = 3 then nmC (lxw x p i) else lxn x p i) → I0 11 7 = -1 → I0 11 8 = nI p → E1 139 (D + 2) Q 168 [(0, .ref 11), (4, .int (nI (min n (p + lxm k)))), (5, .int (nI (p + i)))] I0 J) (fun i hi ih I0 f0 i4 i5 i6 i7 i8 => ?_) 0 (Nat.zero_le _) Ic fc c4 c5 (by rw [c6]; split <;> rfl) c7 c8
        · exact lp
        refine mj_on (s139_168 _ _ ?_)
        refine if_le (by omega) (by omega) (fun c => ?_) (fun c => ?_)
        · exact e257 i I0 (by omega) (by omega) f0 i4 i5 i6 i7 i8
        · obtain ⟨u1, u2⟩ := ht.2 (p + i) (by omega)
          rw [nI_clamp (by omega), f0 13 (p + i) (Or.inl (by decide)), u1]
          have vi : vp_in (nI (p + i)) 900 := vp_in_nI (by omega) (by decide)
          refine ⟨vi, trivial, _, _, _, c_kind u2, ?_⟩
          rw [i5]
          have lk : lxk (x (p + i)) < 2 ^ 31 := by rcases lxk_rng (x (p + i)) with q | q | q <;> omega
          refine if_eq lk (by omega) (fun e => ?_) (fun e => ?_)
          · have hlt : i < m := Classical.byContradiction fun q => by
              obtain rfl : i = m := by omega
              exact r3 (by omega) e
            have hiN : i < N := by omega
            rw [f0 13 (p + i) (Or.inl (by decide)), u1, i6]
            have nx : ∀ z, z = nI (if k = 3 then nmC (lxw x p (i + 1)) else lxn x p (i + 1)) → E1 139 (D + 2) Q 243 [(0, .ref 11), (4, .int (nI (min n (p + lxm k)))), (5, .int (nI (p + i)))] (mj_up I0 11 6 z) J := fun z hz => by
              refine mj_on (s139_243 _ _ ?_)
              rw [nI_1]
              refine ih hiN _ (fun q j hq => by rw [up_n (by omega), up_n (by omega)]; exact f0 q j hq) up_s ?_ ?_ ?_ ?_
              · rw [up_n (by decide), up_n (by decide)]; exact i5
              · rw [up_n (by decide), up_s]; exact hz
              · rw [up_n (by decide), up_n (by decide)]; exact i7
              · rw [up_n (by decide), up_n (by decide)]; exact i8
            by_cases k3 : k = 3
            · rw [if_pos (show nI k = 3 by rw [k3]; rfl), if_pos k3]
              refine ⟨vi, nx _ ?_⟩
              have h3 := lxk_3.mp (e.trans k3)
              rw [if_pos k3, show (32 : Int32) = nI 32 from rfl, show (96 : Int32) = nI 96 from rfl, pk_mul, nI_add, nI_mns (by omega)]
              show _ = nI (nmC (lxw x p i) * 32 + (x (p + i) - 96))
              congr 1
              omega
            · rw [if_neg (show ¬ nI k = 3 from fun z => k3 ((nI_eq (b := 3) (by omega) (by decide)).mp z)), if_neg k3]
              refine ⟨vi, nx _ ?_⟩
              have h2 := lxk_2.mp (e.trans (show k = 2 by omega))
              rw [if_neg k3, show (10 : Int32) = nI 10 from rfl, show (48 : Int32) = nI 48 from rfl, pk_mul, nI_add, nI_mns (by omega)]
              show _ = nI (10 * lxn x p i + (x (p + i) - 48))
              congr 1
              omega
          · obtain rfl : i = m := Classical.byContradiction fun q => e (r2 i (by omega))
            exact e257 i I0 (Nat.le_refl _) (Or.inl ⟨rfl, by omega⟩) f0 i4 i5 i6 i7 i8
      refine mj_on (s139_132 ?_)
      rw [c5]
      by_cases k3 : k = 3
      · rw [if_pos (show nI k = 3 by rw [k3]; rfl)]
        have : lxm k = 6 := by rw [k3]; rfl
        rw [this] at e147
        exact e147
      · rw [if_neg (show ¬ nI k = 3 from fun z => k3 ((nI_eq (b := 3) (by omega) (by decide)).mp z))]
        have : lxm k = 4 := if_neg k3
        rw [this] at e147
        exact e147
    refine if_i (fun z => run fun q => hfl.mp z q.1) (fun z => ?_)
    refine if_eq (by omega) (by have := hs.1; omega) (fun e => ?_) (fun e => run fun q => e q.2)
    refine fin _ ?_
    rw [hP]
    have tt : t = 2 ∨ t = 3 := Classical.byContradiction fun q => z (hfl.mpr q)
    refine ⟨fun q j hq => by rw [up_n (by omega)]; exact fc q j hq, fun q => absurd q k1, fun _ _ _ => ⟨up_s, ?_, ?_⟩, fun _ q => absurd ⟨tt, e⟩ q, fun _ q => absurd ⟨tt, e⟩ q⟩
    · rw [up_n (by decide)]; exact c7
    · rw [up_n (by decide)]; exact c8
  rw [h5]
  refine if_i (fun z => go 1 ⟨fun q => absurd q (by decide), fun q => absurd (Or.inr ((nI_eq (b := 3) (by omega) (by decide)).mp z)) q⟩) (fun z3 => if_i (fun z => go 1 ⟨fun q => absurd q (by decide), fun q => absurd (Or.inl ((nI_eq (b := 2) (by omega) (by decide)).mp z)) q⟩) (fun z2 => go 0 ⟨fun _ q => ?_, fun _ => rfl⟩))
  rcases q with rfl | rfl
  · exact z2 rfl
  · exact z3 rfl
end Sa1
end
section
/-! the reference reads what stands next -/
theorem r_blame0 {D : Nat} {I : Nat → Nat → Int32} {J : Nat → Nat → Int64} {k p : Int32} (h : I 0 8 = 0) : C2 (D + 1) 16 [.ref 0, .int k, .int p] I J .null (mj_up (mj_up I 0 8 k) 0 9 p) J := by
  refine mj_mk (e16 _ _ ?_)
  rw [h, if_pos (by decide)]
theorem r_blame1 {D : Nat} {I : Nat → Nat → Int32} {J : Nat → Nat → Int64} {k p : Int32} (h : ¬ I 0 8 ≤ 0) : C2 (D + 1) 16 [.ref 0, .int k, .int p] I J .null I J := by
  refine mj_mk (e16 _ _ ?_)
  rw [if_neg h]
def lxg (I I' : Nat → Nat → Int32) : Prop := ∀ q j, (q ≠ 0 ∨ (j ≠ 3 ∧ j ≠ 4 ∧ j ≠ 5 ∧ j ≠ 6 ∧ j ≠ 8 ∧ j ≠ 9)) → I' q j = I q j
def lxgJ (J J' : Nat → Nat → Int64) : Prop := ∀ q j, (q ≠ 0 ∨ j ≠ 7) → J' q j = J q j
section Sa2
variable {D n a p m : Nat} {x : Nat → Nat} {I : Nat → Nat → Int32} {J : Nat → Nat → Int64}
theorem r_nxtE (ht : lxt n x I 1) (h2 : I 0 2 = nI n) (h5 : I 0 5 = nI a) (hs : lxs n x a n) : ∃ I' J', C2 (D + 1) 13 [.ref 0] I J .null I' J' ∧ lxg I I' ∧ J' = J ∧ I' 0 5 = nI n ∧ I' 0 4 = nI n ∧ I' 0 3 = nI 0 ∧ I' 0 8 = I 0 8 ∧ I' 0 9 = I 0 9 := by
  have hn := ht.1
  refine mj_cN (e13 ?_)
  rw [h5]
  refine r_skip ht h2 hs ?_
  refine mj_on (s13_41 _ ?_)
  rw [h2]
  refine if_lt (by omega) (by omega) (fun z => absurd z (by omega)) (fun _ => ⟨_, _, rfl, fun q j hq => ?_, rfl, ?_, ?_, up_s, ?_, ?_⟩)
  · rw [up_n (by omega), up_n (by omega), up_n (by omega)]
  · rw [up_n (by decide), up_s]
  · rw [up_n (by decide), up_n (by decide), up_s]
  · rw [up_n (by decide), up_n (by decide), up_n (by decide)]
  · rw [up_n (by decide), up_n (by decide), up_n (by decide)]
/-- what has been read of a word or a number -/
def lxv (k i : Nat) (x : Nat → Nat) (p : Nat) (I : Nat → Nat → Int32) (J : Nat → Nat → Int64) : Prop := (k = 2 → I 0 6 = nI (lxn x p i)) ∧ (k = 3 → J 0 7 = lN (nmR (lxw x p i)))
theorem nmR_le6 {l : List Nat} (h : ∀ a ∈ l, 1 ≤ a ∧ a ≤ 26) (h6 : l.length ≤ 6) : nmR l < 2 ^ 48 := by
  have h1 := nmR_lt h
  have h2 : 256 ^ l.length ≤ 256 ^ 6 := Nat.pow_le_pow_right (by decide) h6
  omega
theorem r_nxtT (ht : lxt n x I 1) (h2 : I 0 2 = nI n) (h5 : I 0 5 = nI a) (h8 : I 0 8 = 0) (hs : lxs n x a p) (hp : p < n) (hr : lxr n x p (lxk (x p)) m) : ∃ I' J', C2 (D + 2) 13 [.ref 0] I J .null I' J' ∧ lxg I I' ∧ lxgJ J J' ∧
    (lxk (x p) = 1 → I' 0 5 = nI (p + 1) ∧ I' 0 3 = nI 3 ∧ I' 0 6 = nI (x p) ∧ I' 0 4 = nI p ∧ I' 0 8 = 0 ∧ I' 0 9 = I 0 9) ∧
    (lxk (x p) ≠ 1 → 0 < p → lxk (x (p - 1)) ≠ 1 → I' 0 8 = nI 1 ∧ I' 0 9 = nI p) ∧
    (lxk (x p) ≠ 1 → ¬ (0 < p ∧ lxk (x (p - 1)) ≠ 1) → lxm (lxk (x p)) < m → I' 0 8 = nI 1 ∧ I' 0 9 = nI (p + lxm (lxk (x p)))) ∧
    (lxk (x p) ≠ 1 → ¬ (0 < p ∧ lxk (x (p - 1)) ≠ 1) → m ≤ lxm (lxk (x p)) → I' 0 8 = 0 ∧ I' 0 9 = I 0 9 ∧ I' 0 5 = nI (p + m) ∧ I' 0 3 = nI (4 - lxk (x p)) ∧ I' 0 4 = nI p ∧ lxv (lxk (x p)) m x p I' J') := by
  have hn := ht.1
  obtain ⟨hx, hx2⟩ := ht.2 p hp
  obtain ⟨k, hk⟩ : ∃ k, k = lxk (x p) := ⟨_, rfl⟩
  rw [← hk] at hr ⊢
  obtain ⟨r1, r2, r3⟩ := hr
  have k123 : k = 1 ∨ k = 2 ∨ k = 3 := by rw [hk]; exact lxk_rng _
  have m1 : 1 ≤ m := by
    refine Classical.byContradiction fun q => ?_
    obtain rfl : m = 0 := by omega
    exact r3 (by omega) hk.symm
  have vp : vp_in (nI p) 900 := vp_in_nI (by omega) (by decide)
  refine mj_cN (e13 ?_)
  obtain ⟨P, hP⟩ : ∃ P : (Nat → Nat → Int32) → (Nat → Nat → Int64) → Prop, P = fun I' J' => lxg I I' ∧ lxgJ J J' ∧
    (k = 1 → I' 0 5 = nI (p + 1) ∧ I' 0 3 = nI 3 ∧ I' 0 6 = nI (x p) ∧ I' 0 4 = nI p ∧ I' 0 8 = 0 ∧ I' 0 9 = I 0 9) ∧
    (k ≠ 1 → 0 < p → lxk (x (p - 1)) ≠ 1 → I' 0 8 = nI 1 ∧ I' 0 9 = nI p) ∧
    (k ≠ 1 → ¬ (0 < p ∧ lxk (x (p - 1)) ≠ 1) → lxm k < m → I' 0 8 = nI 1 ∧ I' 0 9 = nI (p + lxm k)) ∧
    (k ≠ 1 → ¬ (0 < p ∧ lxk (x (p - 1)) ≠ 1) → m ≤ lxm k → I' 0 8 = 0 ∧ I' 0 9 = I 0 9 ∧ I' 0 5 = nI (p + m) ∧ I' 0 3 = nI (4 - k) ∧ I' 0 4 = nI p ∧ lxv k m x p I' J') := ⟨_, rfl⟩
  obtain ⟨Q, hQ⟩ : ∃ Q, Q = qN mj_R2 (fun I' J' => P I' J') := ⟨_, rfl⟩
  have eQ : qN mj_R2 (fun I' J' => lxg I I' ∧ lxgJ J J' ∧
    (k = 1 → I' 0 5 = nI (p + 1) ∧ I' 0 3 = nI 3 ∧ I' 0 6 = nI (x p) ∧ I' 0 4 = nI p ∧ I' 0 8 = 0 ∧ I' 0 9 = I 0 9) ∧
    (k ≠ 1 → 0 < p → lxk (x (p - 1)) ≠ 1 → I' 0 8 = nI 1 ∧ I' 0 9 = nI p) ∧
    (k ≠ 1 → ¬ (0 < p ∧ lxk (x (p - 1)) ≠ 1) → lxm k < m → I' 0 8 = nI 1 ∧ I' 0 9 = nI (p + lxm k)) ∧
    (k ≠ 1 → ¬ (0 < p ∧ lxk (x (p - 1)) ≠ 1) → m ≤ lxm k → I' 0 8 = 0 ∧ I' 0 9 = I 0 9 ∧ I' 0 5 = nI (p + m) ∧ I' 0 3 = nI (4 - k) ∧ I' 0 4 = nI p ∧ lxv k m x p I' J')) = Q := by rw [hQ, hP]
  rw [eQ, h5]
  have fin : ∀ I' J', P I' J' → Q (.null, (I', J', mj_R2)) := fun I' J' h => by rw [hQ]; exact ⟨_, _, rfl, h⟩
  refine r_skip ht h2 hs ?_
  refine mj_on (s13_41 _ ?_)
  rw [h2, nI_clamp (by omega)]
  refine if_lt (by omega) (by omega) (fun _ => ?_) (fun z => absurd z (by omega))
  rw [hx]
  refine ⟨vp, trivial, _, _, _, r_letter hx2, vp, ?_⟩
  rw [up_n (Or.inl (by decide)), up_n (Or.inl (by decide)), up_n (Or.inl (by decide)), hx]
  refine ⟨trivial, _, _, _, r_digit hx2, ?_⟩
  rw [← hk]
  obtain ⟨Ia, hIa⟩ : ∃ Ia, Ia = mj_up (mj_up (mj_up I 0 4 (nI p)) 0 5 (nI p)) 0 3 0 := ⟨_, rfl⟩
  rw [← hIa]
  have a4 : Ia 0 4 = nI p := by rw [hIa, up_n (by decide), up_n (by decide), up_s]
  have a8 : Ia 0 8 = 0 := by rw [hIa, up_n (by decide), up_n (by decide), up_n (by decide)]; exact h8
  have a9 : Ia 0 9 = I 0 9 := by rw [hIa, up_n (by decide), up_n (by decide), up_n (by decide)]
  have fa : lxg I Ia := fun q j hq => by rw [hIa, up_n (by omega), up_n (by omega), up_n (by omega)]
  -- from 131 on, with a fault told or none
  obtain ⟨adj, hadj⟩ : ∃ adj : Prop, adj = (0 < p ∧ lxk (x (p - 1)) ≠ 1) := ⟨_, rfl⟩
  have e131 : ∀ Ib, lxg I Ib → Ib 0 4 = nI p → ((k = 1 ∨ ¬ adj) ∧ Ib 0 8 = 0 ∧ Ib 0 9 = I 0 9 ∨ adj ∧ k ≠ 1 ∧ Ib 0 8 = nI 1 ∧ Ib 0 9 = nI p) → E2 13 (D + 1) Q 131 [(0, .ref 0), (1, .int (nI p)), (2, .int (tf (k = 3))), (3, .int (tf (k = 2)))] Ib J := fun Ib fb b4 hb => by
    refine mj_on (s13_131 _ _ _ ?_)
    rw [nI_1]
    obtain ⟨Ic, hIc⟩ : ∃ Ic, Ic = mj_up (mj_up (mj_up Ib 0 6 0) 0 3 3) 0 5 (nI (p + 1)) := ⟨_, rfl⟩
    obtain ⟨Jc, hJc⟩ : ∃ Jc, Jc = mj_up J 0 7 0 := ⟨_, rfl⟩
    rw [← hIc, ← hJc]
    have c3 : Ic 0 3 = nI 3 := by rw [hIc, up_n (by decide), up_s]; rfl
    have c4 : Ic 0 4 = nI p := by rw [hIc, up_n (by decide), up_n (by decide), up_n (by decide)]; exact b4
    have c5 : Ic 0 5 = nI (p + 1) := by rw [hIc, up_s]
    have c6 : Ic 0 6 = nI 0 := by rw [hIc, up_n (by decide), up_n (by decide), up_s]; rfl
    have c8 : Ic 0 8 = Ib 0 8 := by rw [hIc, up_n (by decide), up_n (by decide), up_n (by decide)]
    have c9 : Ic 0 9 = Ib 0 9 := by rw [hIc, up_n (by decide), up_n (by decide), up_n (by decide)]
    have fc : lxg I Ic := fun q j hq => by rw [hIc, up_n (by omega), up_n (by omega), up_n (by omega)]; exact fb q j hq
    have fJ : lxgJ J Jc := fun q j hq => by rw [hJc, up_n hq]
    have j7 : Jc 0 7 = lN 0 := by rw [hJc, up_s]; rfl
    have hch : ∀ i, p + i < n → Ic 1 (p + i) = nI (x (p + i)) ∧ x (p + i) < 256 := fun i hi => by rw [fc 1 _ (Or.inl (by decide))]; exact ht.2 _ hi
    refine mj_on (s13_153 _ _ _ ?_)
    by_cases k1 : k = 1
    · rw [tf_f (show ¬ k = 3 by omega), tf_f (show ¬ k = 2 by omega), if_pos rfl, if_pos rfl, nI_clamp (by omega)]
      have hx' := (hch 0 (by omega)).1
      rw [Nat.add_zero] at hx'
      rw [hx']
      refine ⟨vp, fin _ _ ?_⟩
      rw [hP]
      rcases hb with ⟨-, b8, b9⟩ | ⟨_, q, _⟩
      · refine ⟨fun q j hq => by rw [up_n (by omega)]; exact fc q j hq, fJ, fun _ => ⟨?_, ?_, up_s, ?_, ?_, ?_⟩, fun q => absurd k1 q, fun q => absurd k1 q, fun q => absurd k1 q⟩
        · rw [up_n (by decide)]; exact c5
        · rw [up_n (by decide)]; exact c3
        · rw [up_n (by decide)]; exact c4
        · rw [up_n (by decide), c8]; exact b8
        · rw [up_n (by decide), c9]; exact b9
      · exact absurd k1 q
    -- a word or a number
    have e172 : E2 13 (D + 1) Q 172 [(0, .ref 0), (1, .int (nI p)), (2, .int (tf (k = 3))), (3, .int (tf (k = 2)))] Ic Jc := by
      refine mj_on (s13_172 _ _ _ ?_)
      have e185 : ∀ Id, Id = mj_up Ic 0 3 (nI (4 - k)) → E2 13 (D + 1) Q 185 [(0, .ref 0), (1, .int (nI p)), (2, .int (tf (k = 3))), (3, .int (tf (k = 2)))] Id Jc := fun Id hId => by
        have d3 : Id 0 3 = nI (4 - k) := by rw [hId, up_s]
        have d4 : Id 0 4 = nI p := by rw [hId, up_n (by decide)]; exact c4
        have d6 : Id 0 6 = nI 0 := by rw [hId, up_n (by decide)]; exact c6
        have d8 : Id 0 8 = Ib 0 8 := by rw [hId, up_n (by decide)]; exact c8
        have d9 : Id 0 9 = Ib 0 9 := by rw [hId, up_n (by decide)]; exact c9
        have fd : lxg I Id := fun q j hq => by rw [hId, up_n (by omega)]; exact fc q j hq
        have lm : lxm k = 6 ∨ lxm k = 4 := by unfold lxm; split <;> omega
        have e197 : E2 13 (D + 1) Q 197 [(0, .ref 0), (1, .int (nI p)), (2, .int (tf (k = 3))), (3, .int (tf (k = 2))), (4, .int (nI (lxm k)))] Id Jc := by
          refine mj_on (s13_197 _ _ _ _ ?_)
          have lp := lp_up (n := m) (fun i => ∀ I0 J0, lxg I I0 → lxgJ J J0 → I0 0 3 = nI (4 - k) → I0 0 4 = nI p → (i ≤ lxm k → lxv k i x p I0 J0) → (adj ∧ I0 0 8 = nI 1 ∧ I0 0 9 = nI p ∨ ¬ adj ∧ i ≤ lxm k ∧ I0 0 8 = 0 ∧ I0 0 9 = I 0 9 ∨ ¬ adj ∧ lxm k < i ∧ I0 0 8 = nI 1 ∧ I0 0 9 = nI (p + lxm k)) → E2 13 (D + 1) Q 200 [(0, .ref 0), (1, .int (nI (p + i))), (2, .int (tf (k = 3))), (3, .int (tf (k = 2))), (4, .int (nI (lxm k))), (5, .int (nI i))] I0 J0) (fun i hi ih I0 J0 f0 g0 i3 i4 iv ib => ?_) 0 (Nat.zero_le _) Id Jc fd fJ d3 d4 (fun _ => ⟨fun _ => d6, fun _ => j7⟩) (by
            rcases hb with ⟨q | q, b8, b9⟩ | ⟨q, -, b8, b9⟩
            · exact absurd q k1
            · exact Or.inr (Or.inl ⟨q, Nat.zero_le _, by rw [d8]; exact b8, by rw [d9]; exact b9⟩)
            · exact Or.inl ⟨q, by rw [d8]; exact b8, by rw [d9]; exact b9⟩)
          · exact lp
          refine mj_on (s13_200 _ _ _ _ _ ?_)
          rw [f0 0 2 (by decide), h2]
          have stop : i = m → Q (.null, (mj_up I0 0 5 (nI (p + i)), J0, mj_R2)) := fun e => by
            refine fin _ _ ?_
            rw [hP]
            refine ⟨fun q j hq => by rw [up_n (by omega)]; exact f0 q j hq, g0, fun q => absurd q k1, fun _ q1 q2 => ?_, fun _ q1 q2 => ?_, fun _ q1 q2 => ?_⟩
            · rw [up_n (by decide), up_n (by decide)]
              rw [hadj] at ib
              rcases ib with ⟨_, b⟩ | ⟨b, _⟩ | ⟨b, _⟩
              · exact b
              · exact absurd ⟨q1, q2⟩ b
              · exact absurd ⟨q1, q2⟩ b
            · rw [up_n (by decide), up_n (by decide)]
              rw [hadj] at ib
              rcases ib with ⟨b, _⟩ | ⟨_, b, _⟩ | ⟨_, _, b⟩
              · exact absurd b q1
              · omega
              · exact b
            · rw [hadj] at ib
              rcases ib with ⟨b, _⟩ | ⟨_, b, b8, b9⟩ | ⟨_, b, _⟩
              · exact absurd b q1
              · subst e
                refine ⟨?_, ?_, up_s, ?_, ?_, fun q => ?_, fun q => (iv b).2 q⟩
                · rw [up_n (by decide)]; exact b8
                · rw [up_n (by decide)]; exact b9
                · rw [up_n (by decide)]; exact i3
                · rw [up_n (by decide)]; exact i4
                · rw [up_n (by decide)]; exact (iv b).1 q
              · omega
          refine if_le (by omega) (by omega) (fun c => stop (by omega)) (fun c => ?_)
          obtain ⟨u1, u2⟩ := ht.2 (p + i) c
          have vi : vp_in (nI (p + i)) 900 := vp_in_nI (by omega) (by decide)
          rw [nI_clamp (by omega), f0 1 _ (Or.inl (by decide)), u1]
          have on : i < m → E2 13 (D + 1) Q 239 [(0, .ref 0), (1, .int (nI (p + i))), (2, .int (tf (k = 3))), (3, .int (tf (k = 2))), (4, .int (nI (lxm k))), (5, .int (nI i))] I0 J0 := fun him => by
            have hki := r2 i him
            have e252 : ∀ Ie, lxg I Ie → Ie 0 3 = nI (4 - k) → Ie 0 4 = nI p → (i ≤ lxm k → lxv k i x p Ie J0) → (adj ∧ Ie 0 8 = nI 1 ∧ Ie 0 9 = nI p ∨ ¬ adj ∧ i + 1 ≤ lxm k ∧ Ie 0 8 = 0 ∧ Ie 0 9 = I 0 9 ∨ ¬ adj ∧ lxm k < i + 1 ∧ Ie 0 8 = nI 1 ∧ Ie 0 9 = nI (p + lxm k)) → E2 13 (D + 1) Q 252 [(0, .ref 0), (1, .int (nI (p + i))), (2, .int (tf (k = 3))), (3, .int (tf (k = 2))), (4, .int (nI (lxm k))), (5, .int (nI i))] Ie J0 := fun Ie fe e3 e4 ev eb => by
              have e282 : ∀ If Jf, lxg I If → lxgJ J Jf → If 0 3 = nI (4 - k) → If 0 4 = nI p → (lxm k ≤ i ∨ (k = 3 ∧ lxv k (i + 1) x p If Jf) ∨ (k = 2 ∧ lxv k i x p If Jf)) → (adj ∧ If 0 8 = nI 1 ∧ If 0 9 = nI p ∨ ¬ adj ∧ i + 1 ≤ lxm k ∧ If 0 8 = 0 ∧ If 0 9 = I 0 9 ∨ ¬ adj ∧ lxm k < i + 1 ∧ If 0 8 = nI 1 ∧ If 0 9 = nI (p + lxm k)) → E2 13 (D + 1) Q 282 [(0, .ref 0), (1, .int (nI (p + i))), (2, .int (tf (k = 3))), (3, .int (tf (k = 2))), (4, .int (nI (lxm k))), (5, .int (nI i))] If Jf := fun If Jf ff gf f3 f4 fv fbl => by
                refine mj_on (s13_282 _ _ _ _ _ ?_)
                rw [nI_1, nI_1]
                refine if_le (by omega) (by omega) (fun d => ih him If Jf ff gf f3 f4 (fun q => absurd q (by omega)) fbl) (fun d => ?_)
                refine if_tf (fun k2 => ?_) (fun k2 => ?_)
                · refine ⟨vi, ?_⟩
                  rcases fv with q | ⟨q, _⟩ | ⟨_, fv⟩
                  · omega
                  · omega
                  rw [nI_clamp (by omega), ff 1 _ (Or.inl (by decide)), u1, fv.1 k2]
                  have hd := lxk_2.mp (hki.trans k2)
                  rw [show (10 : Int32) = nI 10 from rfl, show (48 : Int32) = nI 48 from rfl, pk_mul, nI_add, nI_mns (by omega)]
                  refine ih him _ Jf (fun q j hq => by rw [up_n (by omega)]; exact ff q j hq) gf (by rw [up_n (by decide)]; exact f3) (by rw [up_n (by decide)]; exact f4) (fun _ => ⟨fun _ => ?_, fun q => absurd q (by omega)⟩) ?_
                  · rw [up_s]
                    show _ = nI (10 * lxn x p i + (x (p + i) - 48))
                    congr 1
                    omega
                  · rw [up_n (by decide), up_n (by decide)]; exact fbl
                · refine ih him If Jf ff gf f3 f4 (fun _ => ?_) fbl
                  rcases fv with q | ⟨_, q⟩ | ⟨q, _⟩
                  · omega
                  · exact q
                  · exact absurd q k2
              refine mj_on (s13_252 _ _ _ _ _ ?_)
              refine if_le (by omega) (by omega) (fun d => e282 Ie J0 fe g0 e3 e4 (Or.inl d) eb) (fun d => ?_)
              refine if_tf (fun k3 => ?_) (fun k3 => e282 Ie J0 fe g0 e3 e4 (Or.inr (Or.inr ⟨by omega, ev (by omega)⟩)) eb)
              rw [nI_clamp (by omega), fe 1 _ (Or.inl (by decide)), u1, (ev (by omega)).2 k3]
              have hl := lxk_3.mp (hki.trans k3)
              have hw : ∀ z ∈ lxw x p i, 1 ≤ z ∧ z ≤ 26 := lxw_ok fun j hj => by rw [r2 j (by omega), k3]
              have h6 : i < 6 := by rw [k3] at d; exact d
              have hlt := nmR_le6 hw (by rw [lxw_len]; omega)
              have h48 := hlt
              rw [show (8 : Int32) = nI 8 from rfl, wb_shl _ (by decide), nI_toL (by omega), g_or (k := 8) (p := 2 ^ 8) rfl (by omega) (by omega)]
              refine ⟨vi, e282 Ie _ fe (fun q j hq => by rw [up_n hq]; exact g0 q j hq) e3 e4 (Or.inr (Or.inl ⟨k3, fun q => absurd q (by omega), fun _ => ?_⟩)) eb⟩
              rw [up_s]
              show _ = lN (nmR (lxw x p i) * 256 + (x (p + i) - 96 + 96))
              congr 1
              omega
            refine mj_on (s13_239 _ _ _ _ _ ?_)
            refine if_eq (by omega) (by omega) (fun e => ?_) (fun e => e252 I0 f0 i3 i4 iv ?_)
            · rcases ib with ⟨b1, b8, b9⟩ | ⟨b1, b2, b8, b9⟩ | ⟨b1, b2, _⟩
              · refine ⟨trivial, _, _, r_blame1 (by rw [b8]; decide), e252 I0 f0 i3 i4 iv (Or.inl ⟨b1, b8, b9⟩)⟩
              · refine ⟨trivial, _, _, r_blame0 b8, e252 _ (fun q j hq => by rw [up_n (by omega), up_n (by omega)]; exact f0 q j hq) (by rw [up_n (by decide), up_n (by decide)]; exact i3) (by rw [up_n (by decide), up_n (by decide)]; exact i4) (fun q => ⟨fun z => ?_, fun z => (iv q).2 z⟩) (Or.inr (Or.inr ⟨b1, by omega, ?_, ?_⟩))⟩
                · rw [up_n (by decide), up_n (by decide)]; exact (iv q).1 z
                · rw [up_n (by decide), up_s]; rfl
                · rw [up_s, e]
              · omega
            · rcases ib with b | ⟨b1, b2, b3⟩ | ⟨b1, b2, b3⟩
              · exact Or.inl b
              · exact Or.inr (Or.inl ⟨b1, by omega, b3⟩)
              · exact Or.inr (Or.inr ⟨b1, by omega, b3⟩)
          refine if_tf (fun k3 => ⟨vi, trivial, _, _, _, r_letter u2, if_tf (fun q => on (Classical.byContradiction fun z => ?_)) (fun q => stop (Classical.byContradiction fun z => ?_))⟩) (fun k3 => ⟨vi, trivial, _, _, _, r_digit u2, if_tf (fun q => on (Classical.byContradiction fun z => ?_)) (fun q => stop (Classical.byContradiction fun z => ?_))⟩)
          · obtain rfl : i = m := by omega
            exact r3 c (q.trans k3.symm)
          · exact q ((r2 i (by omega)).trans k3)
          · obtain rfl : i = m := by omega
            exact r3 c (q.trans (show 2 = k by omega))
          · exact q ((r2 i (by omega)).trans (show k = 2 by omega))
        refine mj_on (s13_185 _ _ _ ?_)
        refine if_tf (fun k3 => ?_) (fun k3 => ?_)
        · have : lxm k = 6 := by rw [k3]; rfl
          rw [this] at e197
          exact e197
        · have : lxm k = 4 := if_neg k3
          rw [this] at e197
          exact e197
      refine if_tf (fun k3 => e185 _ (by rw [k3]; rfl)) (fun k3 => e185 _ (by rw [show k = 2 by omega]; rfl))
    refine if_tf (fun _ => e172) (fun k3 => if_tf (fun _ => e172) (fun k2 => absurd k1 (by omega)))
  have none : (k = 1 ∨ ¬ adj) → E2 13 (D + 1) Q 131 [(0, .ref 0), (1, .int (nI p)), (2, .int (tf (k = 3))), (3, .int (tf (k = 2)))] Ia J := fun q => e131 Ia fa a4 (Or.inl ⟨q, a8, a9⟩)
  have e93 : k ≠ 1 → E2 13 (D + 1) Q 93 [(0, .ref 0), (1, .int (nI p)), (2, .int (tf (k = 3))), (3, .int (tf (k = 2)))] Ia J := fun k1 => by
    refine mj_on (s13_93 _ _ _ ?_)
    rw [show (0 : Int32) = nI 0 from rfl]
    refine if_le (by omega) (by decide) (fun c => none (Or.inr (by rw [hadj]; omega))) (fun c => ?_)
    obtain ⟨u1, u2⟩ := ht.2 (p - 1) (by omega)
    have vm : vp_in (nI (p - 1)) 900 := vp_in_nI (by omega) (by decide)
    rw [show (1 : Int32) = nI 1 from rfl, nI_mns (by omega), nI_clamp (by omega), fa 1 _ (Or.inl (by decide)), u1]
    have tell : lxk (x (p - 1)) ≠ 1 → E2 13 (D + 1) Q 131 [(0, .ref 0), (1, .int (nI p)), (2, .int (tf (k = 3))), (3, .int (tf (k = 2)))] (mj_up (mj_up Ia 0 8 1) 0 9 (nI p)) J := fun q => e131 _ (fun q j hq => by rw [up_n (by omega), up_n (by omega)]; exact fa q j hq) (by rw [up_n (by decide), up_n (by decide)]; exact a4) (Or.inr ⟨by rw [hadj]; exact ⟨c, q⟩, k1, by rw [up_n (by decide), up_s]; rfl, up_s⟩)
    refine ⟨vm, trivial, _, _, _, r_letter u2, if_tf (fun q => ⟨trivial, _, _, r_blame0 a8, tell (by omega)⟩) (fun q => ⟨vm, ?_⟩)⟩
    rw [fa 1 _ (Or.inl (by decide)), u1]
    refine ⟨trivial, _, _, _, r_digit u2, if_tf (fun q2 => ⟨trivial, _, _, r_blame0 a8, tell (by omega)⟩) (fun q2 => none (Or.inr ?_))⟩
    rw [hadj]
    intro z
    rcases lxk_rng (x (p - 1)) with w | w | w
    · exact z.2 w
    · exact q2 w
    · exact q w
  refine if_tf (fun k3 => e93 (by omega)) (fun k3 => if_tf (fun k2 => e93 (by omega)) (fun k2 => none (Or.inl (by omega))))
end Sa2
end
section
/-! one token on both sides, or a fault on both -/
def tkr (t : Nat) : Nat := if t = 0 then 0 else 4 - t
def tkS (n : Nat) (x : Nat → Nat) (p a t v : Nat) (l : List Nat) (o : Int) (I1 I2 : Nat → Nat → Int32) (J2 : Nat → Nat → Int64) : Prop :=
  (t = 0 ∧ p = n ∧ a = n ∧ o = -1) ∨
  (t = 1 ∧ p < n ∧ a = p + 1 ∧ lxk (x p) = 1 ∧ v = x p ∧ v < 256 ∧ I1 11 6 = nI v ∧ I2 0 6 = nI v ∧ o = -1) ∨
  (t = 2 ∧ p < a ∧ a ≤ n ∧ lxk (x (a - 1)) = 2 ∧ v ≤ 9999 ∧ I1 11 6 = nI v ∧ I2 0 6 = nI v ∧ o = -1) ∨
  (t = 3 ∧ p + l.length ≤ a ∧ a ≤ n ∧ lxk (x (a - 1)) = 3 ∧ lxl l ∧ I1 11 6 = nI (nmC l) ∧ J2 0 7 = lN (nmR l) ∧ lxo l o)
def tkR (n : Nat) (x : Nat → Nat) (p a t v : Nat) (l : List Nat) (o : Int) (I1 I2 : Nat → Nat → Int32) (J2 : Nat → Nat → Int64) : Prop :=
  lxt n x I1 13 ∧ lxt n x I2 1 ∧ rlO I1 ∧ I1 11 2 = nI n ∧ I2 0 2 = nI n ∧ I1 11 8 = nI p ∧ I2 0 4 = nI p ∧ I1 11 4 = nI a ∧ I2 0 5 = nI a ∧ I1 11 5 = nI t ∧ I2 0 3 = nI (tkr t) ∧ I1 11 7 = iI o ∧ (I1 11 10 = 0 ∧ I1 11 11 = -1) ∧ I2 0 8 = 0 ∧ I2 0 9 = -1 ∧ p ≤ n ∧ tkS n x p a t v l o I1 I2 J2
/-- a fault: k at p, on both sides (the class may have to tell it yet) -/
def tkD (k p : Nat) (I1 I2 : Nat → Nat → Int32) : Prop := 1 ≤ k ∧ k ≤ 6 ∧ p ≤ 900 ∧ I1 11 5 = nI 4 ∧ I1 11 7 = -1 ∧ ((I1 11 10 = 0 ∧ k = 1 ∧ I1 11 8 = nI p) ∨ (I1 11 10 = nI k ∧ I1 11 11 = nI p)) ∧ I2 0 8 = nI k ∧ I2 0 9 = nI p
/-- the class' flag and the reference's look back say the same -/
def tkA (n : Nat) (x : Nat → Nat) (a t : Nat) : Prop := ∀ p, lxs n x a p → p < n → (((t = 2 ∨ t = 3) ∧ p = a) ↔ (0 < p ∧ lxk (x (p - 1)) ≠ 1))
theorem lxb_1 {y : Nat} (h : lxb y) : lxk y = 1 := by
  rcases h with rfl | rfl <;> decide
theorem tkA_0 {n t : Nat} {x : Nat → Nat} (ht : t ≠ 2 ∧ t ≠ 3) : tkA n x 0 t := fun p hs hp => by
  constructor
  · rintro ⟨q, -⟩; omega
  · rintro ⟨q1, q2⟩
    exact absurd (lxb_1 (hs.2.2.1 (p - 1) (by omega) (by omega))) q2
section Sa3
variable {D D' n a p t v : Nat} {x : Nat → Nat} {l : List Nat} {o : Int} {I1 I2 : Nat → Nat → Int32} {J1 J2 : Nat → Nat → Int64}
theorem tkR_A (h : tkR n x p a t v l o I1 I2 J2) (h0 : t ≠ 0) : tkA n x a t := fun q hs hq => by
  have hS := h.2.2.2.2.2.2.2.2.2.2.2.2.2.2.2.2
  have back : a < q → lxk (x (q - 1)) = 1 := fun z => lxb_1 (hs.2.2.1 (q - 1) (by omega) (by omega))
  have haq := hs.1
  rcases hS with ⟨q1, -⟩ | ⟨q1, q2, q3, q4, -⟩ | ⟨q1, q2, q3, q4, -⟩ | ⟨q1, q2, q3, q4, ⟨q5, -⟩, -⟩
  · exact absurd q1 h0
  · constructor
    · rintro ⟨z, -⟩; omega
    · rintro ⟨z1, z2⟩
      by_cases e : a < q
      · exact absurd (back e) z2
      · rw [show q - 1 = p by omega] at z2
        exact absurd q4 z2
  · constructor
    · rintro ⟨-, rfl⟩
      exact ⟨by omega, by rw [q4]; decide⟩
    · rintro ⟨z1, z2⟩
      by_cases e : a < q
      · exact absurd (back e) z2
      · exact ⟨Or.inl q1, by omega⟩
  · constructor
    · rintro ⟨-, rfl⟩
      exact ⟨by omega, by rw [q4]; decide⟩
    · rintro ⟨z1, z2⟩
      by_cases e : a < q
      · exact absurd (back e) z2
      · exact ⟨Or.inr q1, by omega⟩
theorem adv_both (h1 : lxt n x I1 13) (h2 : lxt n x I2 1) (hO : rlO I1) (c2 : I1 11 2 = nI n) (r2 : I2 0 2 = nI n) (c4 : I1 11 4 = nI a) (r5 : I2 0 5 = nI a) (c5 : I1 11 5 = nI t) (ht : t ≤ 4) (w0 : I1 11 10 = 0 ∧ I1 11 11 = -1) (r8 : I2 0 8 = 0) (r9 : I2 0 9 = -1) (han : a ≤ n) (hadj : tkA n x a t) :
    ∃ I1' J1' I2' J2', C1 (D + 3) 139 [.ref 11] I1 J1 .null I1' J1' ∧ C2 (D' + 2) 13 [.ref 0] I2 J2 .null I2' J2' ∧ J1' = J1 ∧ lxf I1 I1' ∧ lxg I2 I2' ∧ lxgJ J2 J2' ∧ ((∃ p a' t' v l o, tkR n x p a' t' v l o I1' I2' J2' ∧ a ≤ p) ∨ ∃ p, tkD 1 p I1' I2') := by
  have hn := h1.1
  have im1 : (-1 : Int32) = iI (-1) := by decide
  obtain ⟨p, hs⟩ := lxs_ex (n := n) (x := x) (n - a) a (by omega)
  have hap := hs.1
  have hpn := hs.2.1
  have keep : ∀ {I1' I2'}, lxf I1 I1' → lxg I2 I2' → lxt n x I1' 13 ∧ lxt n x I2' 1 ∧ rlO I1' ∧ I1' 11 2 = nI n ∧ I2' 0 2 = nI n ∧ (I1' 11 10 = 0 ∧ I1' 11 11 = -1) := fun {I1' I2'} f g => ⟨⟨hn, fun j hj => by rw [f 13 j (Or.inl (by decide))]; exact h1.2 j hj⟩, ⟨hn, fun j hj => by rw [g 1 j (Or.inl (by decide))]; exact h2.2 j hj⟩, fun z hz => by rw [f 12 z (Or.inl (by decide))]; exact hO z hz, by rw [f 11 2 (by decide)]; exact c2, by rw [g 0 2 (by decide)]; exact r2, by rw [f 11 10 (by decide)]; exact w0.1, by rw [f 11 11 (by decide)]; exact w0.2⟩
  by_cases e : p = n
  · subst e
    obtain ⟨I1', J1', k1, k2, k3, k4, k5, k6, k7⟩ := c_advE (D := D) (J := J1) h1 c2 c4 hs
    obtain ⟨I2', J2', m1, m2, m3, m4, m5, m6, m7, m8⟩ := r_nxtE (D := D' + 1) (J := J2) h2 r2 r5 hs
    obtain ⟨g1, g2, g3, g4, g5, g6⟩ := keep k3 m2
    exact ⟨I1', J1', I2', J2', k1, m1, k2, k3, m2, fun q j _ => by rw [m3], Or.inl ⟨p, p, 0, 0, [], -1, ⟨g1, g2, g3, g4, g5, k7, m5, k4, m4, k5, m6, k6.trans im1, g6, by rw [m7]; exact r8, by rw [m8]; exact r9, Nat.le_refl _, Or.inl ⟨rfl, rfl, rfl, rfl⟩⟩, hap⟩⟩
  have hp : p < n := by omega
  obtain ⟨m, hr⟩ := lxr_ex (n := n) (x := x) (lxk (x p)) (n - p) p (by omega)
  obtain ⟨I1', J1', k1, k2, k3, k4, k5, k6, k7⟩ := c_advT (D := D) (J := J1) h1 hO c2 c4 c5 ht hs hp hr
  obtain ⟨I2', J2', m1, m2, m3, m4, m5, m6, m7⟩ := r_nxtT (D := D') (J := J2) h2 r2 r5 r8 hs hp hr
  obtain ⟨g1, g2, g3, g4, g5, g6⟩ := keep k3 m2
  have ha := hadj p hs hp
  refine ⟨I1', J1', I2', J2', k1, m1, k2, k3, m2, m3, ?_⟩
  by_cases q1 : lxk (x p) = 1
  · obtain ⟨u1, u2, u3, u4, u5⟩ := k4 q1
    obtain ⟨v1, v2, v3, v4, v5, v6⟩ := m4 q1
    exact Or.inl ⟨p, p + 1, 1, x p, [], -1, ⟨g1, g2, g3, g4, g5, u5, v4, u1, v1, u2, v2, u4.trans im1, g6, v5, by rw [v6]; exact r9, by omega, Or.inr (Or.inl ⟨rfl, hp, rfl, q1, rfl, (h1.2 p hp).2, u3, v3, rfl⟩)⟩, hap⟩
  by_cases ad : 0 < p ∧ lxk (x (p - 1)) ≠ 1
  · obtain ⟨tt, pa⟩ := ha.mpr ad
    obtain ⟨u1, u2, u3⟩ := k5 q1 tt pa
    obtain ⟨v1, v2⟩ := m5 q1 ad.1 ad.2
    exact Or.inr ⟨p, by decide, by decide, by omega, u1, u2, Or.inl ⟨g6.1, rfl, u3⟩, v1, v2⟩
  have nad : ¬ ((t = 2 ∨ t = 3) ∧ p = a) := fun z => ad (ha.mp z)
  have lm : lxm (lxk (x p)) = 6 ∨ lxm (lxk (x p)) = 4 := by unfold lxm; split <;> omega
  have hm1 : 1 ≤ m := Classical.byContradiction fun z => by
    obtain rfl : m = 0 := by omega
    exact hr.2.2 (by omega) rfl
  by_cases lg : lxm (lxk (x p)) < m
  · obtain ⟨u1, u2, u3⟩ := k6 q1 nad lg
    obtain ⟨v1, v2⟩ := m6 q1 ad lg
    have := hr.1
    exact Or.inr ⟨_, by decide, by decide, by omega, u1, u2, Or.inl ⟨g6.1, rfl, u3⟩, v1, v2⟩
  obtain ⟨u1, u2, u3, u4, u5⟩ := k7 q1 nad (by omega)
  obtain ⟨v1, v2, v3, v4, v5, v6⟩ := m7 q1 ad (by omega)
  have hpm := hr.1
  have hlast := hr.2.1 (m - 1) (by omega)
  rw [show p + (m - 1) = p + m - 1 by omega] at hlast
  rcases lxk_rng (x p) with z | z | z
  · exact absurd z q1
  · rw [z] at u2 v4 v6 hlast lg
    obtain ⟨s1, s2⟩ := u4 z
    have hv := lxn_lt (x := x) (p := p) (i := m) fun j hj => by rw [hr.2.1 j hj, z]
    have h4 : 10 ^ m ≤ 10 ^ 4 := Nat.pow_le_pow_right (by decide) (by have : lxm 2 = 4 := rfl; omega)
    exact Or.inl ⟨p, p + m, 2, lxn x p m, [], -1, ⟨g1, g2, g3, g4, g5, u3, v5, u1, v3, u2, v4, s2.trans im1, g6, v1, by rw [v2]; exact r9, by omega, Or.inr (Or.inr (Or.inl ⟨rfl, by omega, hpm, hlast, by omega, s1, v6.1 rfl, rfl⟩))⟩, hap⟩
  · rw [z] at u2 v4 v6 hlast lg
    obtain ⟨s1, o, s2, s3⟩ := u5 z
    have hw : ∀ y ∈ lxw x p m, 1 ≤ y ∧ y ≤ 26 := lxw_ok fun j hj => by rw [hr.2.1 j hj, z]
    have h6 : lxm 3 = 6 := rfl
    exact Or.inl ⟨p, p + m, 3, 0, lxw x p m, o, ⟨g1, g2, g3, g4, g5, u3, v5, u1, v3, u2, v4, s2, g6, v1, by rw [v2]; exact r9, by omega, Or.inr (Or.inr (Or.inr ⟨rfl, by rw [lxw_len]; exact Nat.le_refl _, hpm, hlast, ⟨by rw [lxw_len]; omega, by rw [lxw_len]; omega, hw⟩, s1, v6.2 rfl, s3⟩))⟩, hap⟩
theorem adv_tk (h : tkR n x p a t v l o I1 I2 J2) (h0 : t ≠ 0) : ∃ I1' J1' I2' J2', C1 (D + 3) 139 [.ref 11] I1 J1 .null I1' J1' ∧ C2 (D' + 2) 13 [.ref 0] I2 J2 .null I2' J2' ∧ J1' = J1 ∧ lxf I1 I1' ∧ lxg I2 I2' ∧ lxgJ J2 J2' ∧ ((∃ p' a' t' v' l' o', tkR n x p' a' t' v' l' o' I1' I2' J2' ∧ p < p') ∨ ∃ p', tkD 1 p' I1' I2') := by
  have hA := tkR_A h h0
  obtain ⟨h1, h2, hO, c2, r2, c8, r4, c4, r5, c5, r3, c7, w0, r8, r9, hpn, hS⟩ := h
  have key : t ≤ 4 ∧ a ≤ n ∧ p < a := by
    rcases hS with ⟨q, -⟩ | ⟨q1, q2, q3, -⟩ | ⟨q1, q2, q3, -⟩ | ⟨q1, q2, q3, -, ⟨q5, -⟩, -⟩
    · exact absurd q h0
    · omega
    · omega
    · omega
  obtain ⟨I1', J1', I2', J2', k1, k2, k3, k4, k5, k6, k7⟩ := adv_both (D := D) (D' := D') (J1 := J1) (J2 := J2) h1 h2 hO c2 r2 c4 r5 c5 key.1 w0 r8 r9 key.2.1 hA
  refine ⟨I1', J1', I2', J2', k1, k2, k3, k4, k5, k6, k7.imp (fun ⟨p', a', t', v', l', o', q1, q2⟩ => ⟨p', a', t', v', l', o', q1, by omega⟩) id⟩
end Sa3
end
section
/-! signs and words of the language, on both sides -/
theorem owL_inj : ∀ n, n < 17 → ∀ m, m < 17 → owL.getD n [] = owL.getD m [] → n = m := by decide
def owK : List Int64 := [2003399528, 7499639, 1802399604, 7629157, 499967946343, 1920298085, 1818588019, 1836020325, 28530, 6385252, 7237492, 6384748, 6840691, 1835101817, 28518, 7170414, 7168376]
theorem owK_at : ∀ w, w < 17 → owK.getD w 0 = lN (nmR (owL.getD w [])) := by decide
theorem lN_inj {y z : Nat} (hy : y < 2 ^ 62) (hz : z < 2 ^ 62) (h : lN y = lN z) : y = z := by
  have := congrArg Int64.toInt h
  rw [lNtI hy, lNtI hz] at this
  omega
theorem lxo_at {l : List Nat} {o : Int} (h : lxo l o) {w : Nat} (hw : w < 17) : o = w ↔ owL.getD w [] = l := by
  rcases h with ⟨rfl, q⟩ | ⟨n, hn, rfl, rfl⟩
  · exact ⟨fun z => by omega, fun z => absurd z (q w hw)⟩
  · exact ⟨fun z => by rw [show n = w by omega], fun z => by rw [owL_inj w hw n hn z]⟩
section Sa4
variable {D n a p t v : Nat} {x : Nat → Nat} {l : List Nat} {o : Int} {I1 I2 : Nat → Nat → Int32} {J1 J2 : Nat → Nat → Int64}
theorem tkS_t (h : tkS n x p a t v l o I1 I2 J2) : t ≤ 3 := by
  rcases h with ⟨q, -⟩ | ⟨q, -⟩ | ⟨q, -⟩ | ⟨q, -⟩ <;> omega
theorem sg_c (h : tkR n x p a t v l o I1 I2 J2) {c : Nat} (hc : c < 256) : C1 (D + 1) 160 [.ref 11, .int (nI c)] I1 J1 (.int (tf (t = 1 ∧ v = c))) I1 J1 := by
  obtain ⟨-, -, -, -, -, -, -, -, -, c5, -, -, -, -, -, -, hS⟩ := h
  have t3 := tkS_t hS
  refine mj_mk (e160 _ ?_)
  rw [c5]
  refine if_i (fun e => ?_) (fun e => mzF fun q => e (by rw [q.1]; rfl))
  have e := (nI_eq (b := 1) (by omega) (by decide)).mp e
  rcases hS with ⟨q, -⟩ | ⟨q1, q2, q3, q4, q5, q6, q7, -⟩ | ⟨q, -⟩ | ⟨q, -⟩
  · omega
  · rw [q7]
    exact if_eq (by omega) (by omega) (fun z => mzT ⟨e, z⟩) (fun z => mzF fun q => z q.2)
  · omega
  · omega
theorem sg_r (h : tkR n x p a t v l o I1 I2 J2) {c : Nat} (hc : c < 256) : C2 (D + 1) 28 [.ref 0, .int (nI c)] I2 J2 (.int (tf (t = 1 ∧ v = c))) I2 J2 := by
  obtain ⟨-, -, -, -, -, -, -, -, -, -, r3, -, -, -, -, -, hS⟩ := h
  have t3 := tkS_t hS
  refine mj_mk (e28 _ ?_)
  rw [r3]
  have tk : tkr t < 2 ^ 31 := by unfold tkr; split <;> omega
  refine if_i (fun e => ?_) (fun e => mzF fun q => e (by rw [q.1]; rfl))
  have e := (nI_eq (b := 3) tk (by decide)).mp e
  have e : t = 1 := by unfold tkr at e; split at e <;> omega
  rcases hS with ⟨q, -⟩ | ⟨q1, q2, q3, q4, q5, q6, q7, q8, -⟩ | ⟨q, -⟩ | ⟨q, -⟩
  · omega
  · rw [q8]
    exact if_eq (by omega) (by omega) (fun z => mzT ⟨e, z⟩) (fun z => mzF fun q => z q.2)
  · omega
  · omega
theorem sg_d (h : I1 11 5 = nI 4) {c : Int32} : C1 (D + 1) 160 [.ref 11, .int c] I1 J1 (.int (tf False)) I1 J1 := by
  refine mj_mk (e160 _ ?_)
  rw [h, if_neg (by decide)]
  exact mzF id
theorem wd_cmp (hl : lxl l) (ho : lxo l o) {w : Nat} (hw : w < 17) : lg_cmp (lN (nmR l)) (owK.getD w 0) = 0 ↔ o = w := by
  obtain ⟨w1, w2, w3⟩ := owL_ok w hw
  rw [owK_at w hw, cmp0, lxo_at ho hw]
  have b1 := nmR_le6 hl.2.2 hl.2.1
  have b2 := nmR_le6 w3 w2
  exact ⟨fun z => (nmR_inj hl.2.2 w3 (lN_inj (by omega) (by omega) z)).symm, fun z => by rw [z]⟩
theorem wd_r (h : tkR n x p a t v l o I1 I2 J2) {w : Nat} (hw : w < 17) : C2 (D + 1) 18 [.ref 0, .long (owK.getD w 0)] I2 J2 (.int (tf (o = w))) I2 J2 := by
  obtain ⟨-, -, -, -, -, -, -, -, -, -, r3, -, -, -, -, -, hS⟩ := h
  have t3 := tkS_t hS
  refine mj_mk (e18 _ ?_)
  rw [r3]
  have tk : tkr t < 2 ^ 31 := by unfold tkr; split <;> omega
  rcases hS with ⟨rfl, -, -, q⟩ | ⟨rfl, -, -, -, -, -, -, -, q⟩ | ⟨rfl, -, -, -, -, -, -, q⟩ | ⟨rfl, -, -, -, q1, -, q2, q3⟩
  · rw [if_neg (by decide)]
    exact mzF fun z => by omega
  · rw [if_neg (by decide)]
    exact mzF fun z => by omega
  · rw [if_neg (by decide)]
    exact mzF fun z => by omega
  · rw [if_pos (by decide), q2]
    exact if_i (fun z => mzT ((wd_cmp q1 q3 hw).mp z)) (fun z => mzF fun y => z ((wd_cmp q1 q3 hw).mpr y))
theorem wd_own (h : tkR n x p a t v l o I1 I2 J2) (h3 : t = 3) : C2 (D + 1) 22 [.ref 0, .long (J2 0 7)] I2 J2 (.int (tf (o ≠ -1))) I2 J2 := by
  obtain ⟨-, -, -, -, -, -, -, -, -, -, -, -, -, -, -, -, hS⟩ := h
  rcases hS with ⟨q, -⟩ | ⟨q, -⟩ | ⟨q, -⟩ | ⟨-, -, -, -, q1, -, q2, q3⟩
  · omega
  · omega
  · omega
  rw [q2]
  refine mj_mk (e22 _ ?_)
  have yes : ∀ w, w < 17 → lg_cmp (lN (nmR l)) (owK.getD w 0) = 0 → o ≠ -1 := fun w hw z => by
    have := (wd_cmp q1 q3 hw).mp z
    omega
  have no : ∀ w, w < 17 → ¬ lg_cmp (lN (nmR l)) (owK.getD w 0) = 0 → ¬ o = w := fun w hw z y => z ((wd_cmp q1 q3 hw).mpr y)
  refine if_i (fun z => mzT (yes 0 (by decide) z)) (fun z0 => if_i (fun z => mzT (yes 6 (by decide) z)) (fun z6 => if_i (fun z => mzT (yes 7 (by decide) z)) (fun z7 => if_i (fun z => mzT (yes 1 (by decide) z)) (fun z1 => if_i (fun z => mzT (yes 2 (by decide) z)) (fun z2 => if_i (fun z => mzT (yes 3 (by decide) z)) (fun z3 => if_i (fun z => mzT (yes 4 (by decide) z)) (fun z4 => if_i (fun z => mzT (yes 5 (by decide) z)) (fun z5 => if_i (fun z => mzT (yes 8 (by decide) z)) (fun z8 => if_i (fun z => mzT (yes 9 (by decide) z)) (fun z9 => if_i (fun z => mzT (yes 10 (by decide) z)) (fun z10 => if_i (fun z => mzT (yes 11 (by decide) z)) (fun z11 => if_i (fun z => mzT (yes 12 (by decide) z)) (fun z12 => if_i (fun z => mzT (yes 13 (by decide) z)) (fun z13 => if_i (fun z => mzT (yes 14 (by decide) z)) (fun z14 => if_i (fun z => mzT (yes 15 (by decide) z)) (fun z15 => if_i (fun z => mzT (yes 16 (by decide) z)) (fun z16 => mzF fun y => ?_)))))))))))))))))
  rcases q3 with ⟨e, -⟩ | ⟨w, hw, e, -⟩
  · exact y e
  have m0 := no 0 (by decide) z0
  have m1 := no 1 (by decide) z1
  have m2 := no 2 (by decide) z2
  have m3 := no 3 (by decide) z3
  have m4 := no 4 (by decide) z4
  have m5 := no 5 (by decide) z5
  have m6 := no 6 (by decide) z6
  have m7 := no 7 (by decide) z7
  have m8 := no 8 (by decide) z8
  have m9 := no 9 (by decide) z9
  have m10 := no 10 (by decide) z10
  have m11 := no 11 (by decide) z11
  have m12 := no 12 (by decide) z12
  have m13 := no 13 (by decide) z13
  have m14 := no 14 (by decide) z14
  have m15 := no 15 (by decide) z15
  have m16 := no 16 (by decide) z16
  omega
/-- a word that may be a name -/
theorem nm_c (h : tkR n x p a t v l o I1 I2 J2) : C1 (D + 1) 148 [.ref 11] I1 J1 (.int (tf (t = 3 ∧ o = -1))) I1 J1 := by
  obtain ⟨-, -, -, -, -, -, -, -, -, c5, -, c7, -, -, -, -, hS⟩ := h
  have t3 := tkS_t hS
  refine mj_mk (e148 ?_)
  rw [c5, c7]
  have ho : -1 ≤ o ∧ o ≤ 16 := by
    rcases hS with ⟨-, -, -, q⟩ | ⟨-, -, -, -, -, -, -, -, q⟩ | ⟨-, -, -, -, -, -, -, q⟩ | ⟨-, -, -, -, -, -, -, q⟩
    · omega
    · omega
    · omega
    · rcases q with ⟨q, -⟩ | ⟨w, hw, q, -⟩ <;> omega
  refine if_i (fun e => ?_) (fun e => mzF fun q => e (by rw [q.1]; rfl))
  have e := (nI_eq (b := 3) (by omega) (by decide)).mp e
  refine if_i (fun z => mzT ⟨e, ?_⟩) (fun z => mzF fun q => z (by rw [q.2]; rfl))
  have z := congrArg Int32.toInt z
  rw [iI_toInt (by omega) (by omega)] at z
  exact z
theorem nm_d (h : I1 11 5 = nI 4) : C1 (D + 1) 148 [.ref 11] I1 J1 (.int (tf False)) I1 J1 := by
  refine mj_mk (e148 ?_)
  rw [h, if_neg (by decide)]
  exact mzF id
/-- the class tells a fault -/
theorem c_bl0 {k : Int32} (h : I1 11 10 = 0) : C1 (D + 1) 144 [.ref 11, .int k] I1 J1 .null (mj_up (mj_up (mj_up (mj_up I1 11 10 k) 11 11 (I1 11 8)) 11 5 4) 11 7 (-1)) J1 := by
  refine mj_mk (e144 _ ?_)
  rw [h, if_pos rfl]
  exact mj_on (s144_20 rfl)
theorem c_bl1 {k : Int32} (h : ¬ I1 11 10 = 0) : C1 (D + 1) 144 [.ref 11, .int k] I1 J1 .null (mj_up (mj_up I1 11 5 4) 11 7 (-1)) J1 := by
  refine mj_mk (e144 _ ?_)
  rw [if_neg h]
  exact mj_on (s144_20 rfl)
end Sa4
end
section
/-! a fault told on both sides; the class behind it -/
def lxh (I I' : Nat → Nat → Int32) : Prop := ∀ q j, (q ≠ 11 ∨ (j ≠ 5 ∧ j ≠ 7 ∧ j ≠ 10 ∧ j ≠ 11)) → I' q j = I q j
theorem lxh_tr {I I' I'' : Nat → Nat → Int32} (h : lxh I I') (h' : lxh I' I'') : lxh I I'' := fun q j z => by rw [h' q j z, h q j z]
section Sa5
variable {D D' n a p t v k : Nat} {x : Nat → Nat} {l : List Nat} {o : Int} {I1 I2 : Nat → Nat → Int32} {J1 J2 : Nat → Nat → Int64}
theorem bl_both (h : tkR n x p a t v l o I1 I2 J2) (hk : 1 ≤ k) (hk6 : k ≤ 6) : ∃ I1' I2', C1 (D + 1) 144 [.ref 11, .int (nI k)] I1 J1 .null I1' J1 ∧ C2 (D' + 1) 16 [.ref 0, .int (nI k), .int (I2 0 4)] I2 J2 .null I2' J2 ∧ lxh I1 I1' ∧ (∀ q j, (q ≠ 0 ∨ (j ≠ 8 ∧ j ≠ 9)) → I2' q j = I2 q j) ∧ tkD k p I1' I2' := by
  obtain ⟨h1, -, -, -, -, c8, r4, -, -, -, -, -, w0, r8, -, hpn, -⟩ := h
  have hn := h1.1
  refine ⟨_, _, c_bl0 w0.1, r_blame0 r8, fun q j z => ?_, fun q j z => ?_, hk, hk6, by omega, ?_, up_s, Or.inr ⟨?_, ?_⟩, ?_, ?_⟩
  · rw [up_n (by omega), up_n (by omega), up_n (by omega), up_n (by omega)]
  · rw [up_n (by omega), up_n (by omega)]
  · rw [up_n (by decide), up_s]; rfl
  · rw [up_n (by decide), up_n (by decide), up_n (by decide), up_s]
  · rw [up_n (by decide), up_n (by decide), up_s, c8]
  · rw [up_n (by decide), up_s]
  · rw [up_s, r4]
/-- told by the class too -/
def tkT (k p : Nat) (I : Nat → Nat → Int32) : Prop := I 11 10 = nI k ∧ I 11 11 = nI p
theorem dd_blame (h : tkD k p I1 I2) : ∃ I1' J1', C1 (D + 1) 144 [.ref 11, .int 1] I1 J1 .null I1' J1' ∧ J1' = J1 ∧ lxh I1 I1' ∧ tkD k p I1' I2 ∧ tkT k p I1' := by
  obtain ⟨h1, h2, h3, h4, h5, h6, h7, h8⟩ := h
  rcases h6 with ⟨w0, rfl, c8⟩ | ⟨w0, c11⟩
  · refine ⟨_, _, c_bl0 w0, rfl, fun q j z => ?_, ⟨h1, h2, h3, ?_, up_s, Or.inr ⟨?_, ?_⟩, h7, h8⟩, ?_, ?_⟩
    · rw [up_n (by omega), up_n (by omega), up_n (by omega), up_n (by omega)]
    · rw [up_n (by decide), up_s]; rfl
    · rw [up_n (by decide), up_n (by decide), up_n (by decide), up_s]; rfl
    · rw [up_n (by decide), up_n (by decide), up_s, c8]
    · rw [up_n (by decide), up_n (by decide), up_n (by decide), up_s]; rfl
    · rw [up_n (by decide), up_n (by decide), up_s, c8]
  · have hw : ¬ I1 11 10 = 0 := by rw [w0]; exact nI_ne0 (by omega) (by omega)
    refine ⟨_, _, c_bl1 hw, rfl, fun q j z => ?_, ⟨h1, h2, h3, ?_, up_s, Or.inr ⟨?_, ?_⟩, h7, h8⟩, ?_, ?_⟩
    · rw [up_n (by omega), up_n (by omega)]
    · rw [up_n (by decide), up_s]; rfl
    · rw [up_n (by decide), up_n (by decide)]; exact w0
    · rw [up_n (by decide), up_n (by decide)]; exact c11
    · rw [up_n (by decide), up_n (by decide)]; exact w0
    · rw [up_n (by decide), up_n (by decide)]; exact c11
theorem dd_take {c : Int32} (h : tkD k p I1 I2) : ∃ I1' J1', C1 (D + 2) 162 [.ref 11, .int c] I1 J1 .null I1' J1' ∧ J1' = J1 ∧ lxh I1 I1' ∧ tkD k p I1' I2 ∧ tkT k p I1' := by
  obtain ⟨Ia, Ja, ca, rfl, a1, a2, a3⟩ := dd_blame (D := D) (J1 := J1) h
  refine ⟨Ia, Ja, mj_mk (e162 _ ?_), rfl, a1, a2, a3⟩
  refine ⟨trivial, _, _, _, sg_d h.2.2.2.1, if_tf (fun z => z.elim) (fun _ => ?_)⟩
  exact ⟨trivial, _, _, ca, rfl⟩
theorem dd_open {c : Int32} (h : tkD k p I1 I2) : ∃ I1' J1', C1 (D + 2) 161 [.ref 11, .int c] I1 J1 (.int 0) I1' J1' ∧ J1' = J1 ∧ lxh I1 I1' ∧ tkD k p I1' I2 ∧ tkT k p I1' := by
  obtain ⟨Ia, Ja, ca, rfl, a1, a2, a3⟩ := dd_blame (D := D) (J1 := J1) h
  refine ⟨Ia, Ja, mj_mk (e161 _ ?_), rfl, a1, a2, a3⟩
  refine ⟨trivial, _, _, _, sg_d h.2.2.2.1, if_tf (fun z => z.elim) (fun _ => ?_)⟩
  exact ⟨trivial, _, _, ca, Or.inl rfl, rfl⟩
theorem dd_name {c : Int32} (h : tkD k p I1 I2) : ∃ I1' J1', C1 (D + 2) 147 [.ref 11, .int c] I1 J1 .null I1' J1' ∧ J1' = J1 ∧ lxh I1 I1' ∧ tkD k p I1' I2 ∧ tkT k p I1' := by
  obtain ⟨Ia, Ja, ca, rfl, a1, a2, a3⟩ := dd_blame (D := D) (J1 := J1) h
  refine ⟨Ia, Ja, mj_mk (e147 _ ?_), rfl, a1, a2, a3⟩
  refine ⟨trivial, _, _, _, nm_d h.2.2.2.1, if_tf (fun z => z.elim) (fun _ => ?_)⟩
  exact ⟨trivial, _, _, ca, rfl⟩
theorem dd_ask {c e : Int32} (h : tkD k p I1 I2) : ∃ I1' J1', C1 (D + 2) 153 [.ref 11, .int c, .int e] I1 J1 (.int (-1)) I1' J1' ∧ J1' = J1 ∧ lxh I1 I1' ∧ tkD k p I1' I2 ∧ tkT k p I1' := by
  obtain ⟨Ia, Ja, ca, rfl, a1, a2, a3⟩ := dd_blame (D := D) (J1 := J1) h
  refine ⟨Ia, Ja, mj_mk (e153 _ _ ?_), rfl, a1, a2, a3⟩
  refine ⟨trivial, _, _, _, nm_d h.2.2.2.1, if_tf (fun z => z.elim) (fun _ => ?_)⟩
  exact ⟨trivial, _, _, ca, rfl⟩
theorem dd_num (h : tkD k p I1 I2) : ∃ I1' J1', C1 (D + 2) 156 [.ref 11] I1 J1 (.int 0) I1' J1' ∧ J1' = J1 ∧ lxh I1 I1' ∧ tkD k p I1' I2 ∧ tkT k p I1' := by
  obtain ⟨Ia, Ja, ca, rfl, a1, a2, a3⟩ := dd_blame (D := D) (J1 := J1) h
  refine ⟨Ia, Ja, mj_mk (e156 ?_), rfl, a1, a2, a3⟩
  rw [h.2.2.2.1, if_neg (by decide)]
  exact ⟨trivial, _, _, ca, rfl⟩
theorem dd_cmp (h : tkD k p I1 I2) : ∃ I1' J1', C1 (D + 2) 168 [.ref 11] I1 J1 (.int (-1)) I1' J1' ∧ J1' = J1 ∧ lxh I1 I1' ∧ tkD k p I1' I2 ∧ tkT k p I1' := by
  obtain ⟨Ia, Ja, ca, rfl, a1, a2, a3⟩ := dd_blame (D := D) (J1 := J1) h
  refine ⟨Ia, Ja, mj_mk (e168 ?_), rfl, a1, a2, a3⟩
  refine ⟨trivial, _, _, _, sg_d h.2.2.2.1, if_tf (fun z => z.elim) (fun _ => ?_)⟩
  refine ⟨trivial, _, _, _, sg_d h.2.2.2.1, if_tf (fun z => z.elim) (fun _ => ?_)⟩
  refine ⟨trivial, _, _, _, sg_d h.2.2.2.1, if_tf (fun z => z.elim) (fun _ => ?_)⟩
  exact ⟨trivial, _, _, ca, rfl⟩
/-- the reference's sign that must stand there: fault or next -/
theorem take_both (h : tkR n x p a t v l o I1 I2 J2) {c : Nat} (hc : c < 256) : ∃ I1' J1' I2' J2', C1 (D + 4) 162 [.ref 11, .int (nI c)] I1 J1 .null I1' J1' ∧ C2 (D' + 3) 44 [.ref 0, .int (nI c)] I2 J2 .null I2' J2' ∧ J1' = J1 ∧ (∀ q j, (q ≠ 11 ∨ (j ≠ 4 ∧ j ≠ 5 ∧ j ≠ 6 ∧ j ≠ 7 ∧ j ≠ 8 ∧ j ≠ 10 ∧ j ≠ 11)) → I1' q j = I1 q j) ∧ lxg I2 I2' ∧ lxgJ J2 J2' ∧ ((t = 1 ∧ v = c ∧ ∃ p' a' t' v' l' o', tkR n x p' a' t' v' l' o' I1' I2' J2' ∧ p < p') ∨ ∃ k' p', tkD k' p' I1' I2') := by
  rcases Classical.em (t = 1 ∧ v = c) with e | e
  · obtain ⟨I1', J1', I2', J2', k1, k2, k3, k4, k5, k6, k7⟩ := adv_tk (D := D) (D' := D') (J1 := J1) h (by omega)
    refine ⟨I1', J1', I2', J2', mj_mk (e162 _ ?_), mj_mk (e44 _ ?_), k3, fun q j z => k4 q j (by omega), k5, k6, ?_⟩
    · exact ⟨trivial, _, _, _, sg_c h hc, if_tf (fun _ => ⟨trivial, _, _, k1, rfl⟩) (fun z => absurd e z)⟩
    · refine ⟨trivial, _, _, _, sg_r h hc, if_tf (fun _ => ?_) (fun z => absurd e z)⟩
      refine mj_on (s44_17 ?_)
      rw [if_pos h.2.2.2.2.2.2.2.2.2.2.2.2.2.1]
      exact ⟨trivial, _, _, k2, rfl⟩
    · rcases k7 with z | ⟨p', z⟩
      · exact Or.inl ⟨e.1, e.2, z⟩
      · exact Or.inr ⟨1, p', z⟩
  · obtain ⟨I1', I2', k1, k2, k3, k4, k5⟩ := bl_both (D := D + 2) (D' := D' + 1) (J1 := J1) (k := 1) h (by decide) (by decide)
    refine ⟨I1', J1, I2', J2, mj_mk (e162 _ ?_), mj_mk (e44 _ ?_), rfl, fun q j z => k3 q j (by omega), fun q j z => k4 q j (by omega), fun _ _ _ => rfl, Or.inr ⟨1, p, k5⟩⟩
    · exact ⟨trivial, _, _, _, sg_c h hc, if_tf (fun z => absurd z e) (fun _ => ⟨trivial, _, _, k1, rfl⟩)⟩
    · refine ⟨trivial, _, _, _, sg_r h hc, if_tf (fun z => absurd z e) (fun _ => ⟨trivial, _, _, k2, ?_⟩)⟩
      refine mj_on (s44_17 ?_)
      rw [k5.2.2.2.2.2.2.1, if_neg (by decide)]
end Sa5
end
section
/-! numbers and names, on both sides -/
def lxF (I I' : Nat → Nat → Int32) : Prop := ∀ q j, (q ≠ 11 ∨ (j ≠ 4 ∧ j ≠ 5 ∧ j ≠ 6 ∧ j ≠ 7 ∧ j ≠ 8 ∧ j ≠ 10 ∧ j ≠ 11)) → I' q j = I q j
section Sa6
variable {D D' n a p t v k : Nat} {x : Nat → Nat} {l : List Nat} {o : Int} {I I1 I2 : Nat → Nat → Int32} {J J1 J2 : Nat → Nat → Int64}
theorem num_both (h : tkR n x p a t v l o I1 I2 J2) : ∃ r1 r2 I1' J1' I2' J2', C1 (D + 4) 156 [.ref 11] I1 J1 (.int r1) I1' J1' ∧ C2 (D' + 3) 29 [.ref 0] I2 J2 (.int r2) I2' J2' ∧ J1' = J1 ∧ lxF I1 I1' ∧ lxg I2 I2' ∧ lxgJ J2 J2' ∧ ((t = 2 ∧ r1 = nI v ∧ r2 = nI v ∧ v ≤ 9999 ∧ ∃ p' a' t' v' l' o', tkR n x p' a' t' v' l' o' I1' I2' J2' ∧ p < p') ∨ ∃ k' p', tkD k' p' I1' I2') := by
  have r8 := h.2.2.2.2.2.2.2.2.2.2.2.2.2.1
  have c5 := h.2.2.2.2.2.2.2.2.2.1
  have r3 := h.2.2.2.2.2.2.2.2.2.2.1
  have hS := h.2.2.2.2.2.2.2.2.2.2.2.2.2.2.2.2
  have t3 := tkS_t hS
  have tk : tkr t < 2 ^ 31 := by unfold tkr; split <;> omega
  by_cases e : t = 2
  · obtain ⟨I1', J1', I2', J2', k1, k2, k3, k4, k5, k6, k7⟩ := adv_tk (D := D) (D' := D') (J1 := J1) h (by omega)
    have hv : v ≤ 9999 ∧ I1 11 6 = nI v ∧ I2 0 6 = nI v := by
      rcases hS with ⟨q, -⟩ | ⟨q, -⟩ | ⟨-, -, -, -, q1, q2, q3, -⟩ | ⟨q, -⟩
      · omega
      · omega
      · exact ⟨q1, q2, q3⟩
      · omega
    refine ⟨nI v, nI v, I1', J1', I2', J2', mj_mk (e156 ?_), mj_mk (e29 ?_), k3, fun q j z => k4 q j (by omega), k5, k6, ?_⟩
    · rw [c5, if_pos (show nI t = 2 by rw [e]; rfl)]
      refine ⟨trivial, _, _, k1, ?_⟩
      rw [hv.2.1]
    · rw [r8, if_pos (by decide), r3, if_pos (show nI (tkr t) = 2 by rw [e]; rfl)]
      refine mj_on (s29_26 ?_)
      rw [if_pos r8]
      refine ⟨trivial, _, _, k2, ?_⟩
      rw [hv.2.2]
    · rcases k7 with z | ⟨p', z⟩
      · exact Or.inl ⟨e, rfl, rfl, hv.1, z⟩
      · exact Or.inr ⟨1, p', z⟩
  · obtain ⟨I1', I2', k1, k2, k3, k4, k5⟩ := bl_both (D := D + 2) (D' := D' + 1) (J1 := J1) (k := 1) h (by decide) (by decide)
    refine ⟨0, I2' 0 6, I1', J1, I2', J2, mj_mk (e156 ?_), mj_mk (e29 ?_), rfl, fun q j z => k3 q j (by omega), fun q j z => k4 q j (by omega), fun _ _ _ => rfl, Or.inr ⟨1, p, k5⟩⟩
    · rw [c5, if_neg (show ¬ nI t = 2 from fun z => e ((nI_eq (b := 2) (by omega) (by decide)).mp z))]
      exact ⟨trivial, _, _, k1, rfl⟩
    · rw [r8, if_pos (by decide), r3, if_neg (show ¬ nI (tkr t) = 2 from fun z => by
        have z := (nI_eq (b := 2) tk (by decide)).mp z
        unfold tkr at z
        split at z <;> omega)]
      refine ⟨trivial, _, _, k2, ?_⟩
      refine mj_on (s29_26 ?_)
      rw [k5.2.2.2.2.2.2.1, if_neg (by decide)]
theorem nmC_le6 {l : List Nat} (h : ∀ a ∈ l, 1 ≤ a ∧ a ≤ 26) (h6 : l.length ≤ 6) : nmC l < 2 ^ 30 := by
  have h1 := nmC_lt h
  have h2 : 32 ^ l.length ≤ 32 ^ 6 := Nat.pow_le_pow_right (by decide) h6
  omega
theorem nmq_eq {y : Int32} {z : Int64} (h : nmq y z) (hl : lxl l) : y = nI (nmC l) ↔ z = lN (nmR l) := by
  obtain ⟨m, m1, m2, m3, rfl, rfl⟩ := h
  have b1 := nmC_le6 m3 m2
  have b2 := nmC_le6 hl.2.2 hl.2.1
  have b3 := nmR_le6 m3 m2
  have b4 := nmR_le6 hl.2.2 hl.2.1
  constructor
  · intro q
    have := nmC_inj m3 hl.2.2 ((nI_eq (by omega) (by omega)).mp q)
    rw [this]
  · intro q
    have := nmR_inj m3 hl.2.2 (lN_inj (by omega) (by omega) q)
    rw [this]
/-- the class looks a name up among the names of one kind -/
theorem c_find {i N y : Nat} (hi : i < 6) (h3 : i ≠ 3) (h5 : i ≠ 5) (hN : I 15 i = nI N) (hN2 : N ≤ 40) : ∃ r I' J', C1 (D + 1) 150 [.ref 14, .int (nI i), .int (nI y)] I J (.int r) I' J' ∧ ((r = -1 ∧ ∀ j, j < N → I 16 (40 * i + j) ≠ nI y) ∨ ∃ j, j < N ∧ r = nI j ∧ I 16 (40 * i + j) = nI y ∧ ∀ m, m < j → I 16 (40 * i + m) ≠ nI y) ∧ I' = I ∧ J' = J := by
  refine mj_cI (e150 _ _ ?_)
  obtain ⟨Q, hQ⟩ : ∃ Q, Q = qI mj_R1 (fun r I' J' => ((r = -1 ∧ ∀ j, j < N → I 16 (40 * i + j) ≠ nI y) ∨ ∃ j, j < N ∧ r = nI j ∧ I 16 (40 * i + j) = nI y ∧ ∀ m, m < j → I 16 (40 * i + m) ≠ nI y) ∧ I' = I ∧ J' = J) := ⟨_, rfl⟩
  rw [← hQ]
  rw [if_neg (show ¬ nI i = 3 from fun z => h3 ((nI_eq (b := 3) (by omega) (by decide)).mp z)), if_neg (show ¬ nI i = 5 from fun z => h5 ((nI_eq (b := 5) (by omega) (by decide)).mp z))]
  have lp := lp_up (n := N) (fun j => (∀ m, m < j → I 16 (40 * i + m) ≠ nI y) → E1 150 D Q 14 [(0, .ref 14), (1, .int (nI i)), (2, .int (nI y)), (3, .int (nI j))] I J) (fun j hj ih hm => ?_) 0 (Nat.zero_le _) (fun m hm => absurd hm (Nat.not_lt_zero m))
  · exact lp
  refine mj_on (s150_14 _ _ _ ?_)
  rw [nI_clamp (by omega), hN]
  refine ⟨vp_in_nI hi (by decide), if_le (by omega) (by omega) (fun c => ?_) (fun c => ?_)⟩
  · obtain rfl : j = N := by omega
    rw [hQ]
    exact ⟨_, _, _, rfl, Or.inl ⟨rfl, hm⟩, rfl, rfl⟩
  rw [show nI i * (40 : Int32) = nI (40 * i) from (pk_mul i 40).trans (by rw [Nat.mul_comm]), nI_add, nI_clamp (by omega), nI_1]
  refine ⟨vp_in_nI (by omega) (by decide), if_i (fun e => ?_) (fun e => ih c fun m hm2 => ?_)⟩
  · rw [hQ]
    exact ⟨_, _, _, rfl, Or.inr ⟨j, c, rfl, e, hm⟩, rfl, rfl⟩
  · by_cases z : m = j
    · rw [z]; exact e
    · exact hm m (by omega)
end Sa6
end
section
/-! the reference looks names up -/
section Sa7
variable {D N c : Nat} {y : Int64} {I : Nat → Nat → Int32} {J : Nat → Nat → Int64}
/-- the first of N names that is y -/
def fnd (N : Nat) (g : Nat → Int64) (y : Int64) (r : Int32) : Prop := (r = -1 ∧ ∀ j, j < N → g j ≠ y) ∨ ∃ j, j < N ∧ r = nI j ∧ g j = y ∧ ∀ m, m < j → g m ≠ y
theorem r_fnd24 (hc : c < 2) (hN : I 2 c = nI N) (hN2 : N ≤ 4) : ∃ r I' J', C2 (D + 1) 24 [.ref 0, .int (nI c), .long y] I J (.int r) I' J' ∧ fnd N (fun j => J 8 (4 * c + j)) y r ∧ I' = I ∧ J' = J := by
  refine mj_cI (e24 _ _ ?_)
  obtain ⟨Q, hQ⟩ : ∃ Q, Q = qI mj_R2 (fun r I' J' => fnd N (fun j => J 8 (4 * c + j)) y r ∧ I' = I ∧ J' = J) := ⟨_, rfl⟩
  rw [← hQ]
  have lp := lp_up (n := N) (fun j => (∀ m, m < j → J 8 (4 * c + m) ≠ y) → E2 24 D Q 3 [(0, .ref 0), (1, .int (nI c)), (2, .long y), (4, .int (nI j))] I J) (fun j hj ih hm => ?_) 0 (Nat.zero_le _) (fun m hm => absurd hm (Nat.not_lt_zero m))
  · exact lp
  refine mj_on (s24_3 _ _ _ ?_)
  rw [nI_clamp (by omega), hN]
  refine ⟨vp_in_nI hc (by decide), if_le (by omega) (by omega) (fun q => ?_) (fun q => ?_)⟩
  · obtain rfl : j = N := by omega
    rw [hQ]
    exact ⟨_, _, _, rfl, Or.inl ⟨rfl, hm⟩, rfl, rfl⟩
  rw [show (4 : Int32) = nI 4 from rfl, pk_mul, nI_add, nI_clamp (by omega), nI_1]
  refine ⟨vp_in_nI (by omega) (by decide), if_i (fun e => ?_) (fun e => ih q fun m hm2 => ?_)⟩
  · rw [hQ]
    exact ⟨_, _, _, rfl, Or.inr ⟨j, q, rfl, cmp0.mp e, hm⟩, rfl, rfl⟩
  · by_cases z : m = j
    · rw [z]; exact fun w => e (cmp0.mpr w)
    · exact hm m (by omega)
theorem r_fnd25 (hc : c < 2) (hN : I 4 c = nI N) (hN2 : N ≤ 10) : ∃ r I' J', C2 (D + 1) 25 [.ref 0, .int (nI c), .long y] I J (.int r) I' J' ∧ fnd N (fun j => J 13 (10 * c + j)) y r ∧ I' = I ∧ J' = J := by
  refine mj_cI (e25 _ _ ?_)
  obtain ⟨Q, hQ⟩ : ∃ Q, Q = qI mj_R2 (fun r I' J' => fnd N (fun j => J 13 (10 * c + j)) y r ∧ I' = I ∧ J' = J) := ⟨_, rfl⟩
  rw [← hQ]
  have lp := lp_up (n := N) (fun j => (∀ m, m < j → J 13 (10 * c + m) ≠ y) → E2 25 D Q 3 [(0, .ref 0), (1, .int (nI c)), (2, .long y), (4, .int (nI j))] I J) (fun j hj ih hm => ?_) 0 (Nat.zero_le _) (fun m hm => absurd hm (Nat.not_lt_zero m))
  · exact lp
  refine mj_on (s25_3 _ _ _ ?_)
  rw [nI_clamp (by omega), hN]
  refine ⟨vp_in_nI hc (by decide), if_le (by omega) (by omega) (fun q => ?_) (fun q => ?_)⟩
  · obtain rfl : j = N := by omega
    rw [hQ]
    exact ⟨_, _, _, rfl, Or.inl ⟨rfl, hm⟩, rfl, rfl⟩
  rw [show (10 : Int32) = nI 10 from rfl, pk_mul, nI_add, nI_clamp (by omega), nI_1]
  refine ⟨vp_in_nI (by omega) (by decide), if_i (fun e => ?_) (fun e => ih q fun m hm2 => ?_)⟩
  · rw [hQ]
    exact ⟨_, _, _, rfl, Or.inr ⟨j, q, rfl, cmp0.mp e, hm⟩, rfl, rfl⟩
  · by_cases z : m = j
    · rw [z]; exact fun w => e (cmp0.mpr w)
    · exact hm m (by omega)
theorem r_fnd26 (hc : c < 2) (hN : I 6 c = nI N) (hN2 : N ≤ 12) : ∃ r I' J', C2 (D + 1) 26 [.ref 0, .int (nI c), .long y] I J (.int r) I' J' ∧ fnd N (fun j => J 17 (12 * c + j)) y r ∧ I' = I ∧ J' = J := by
  refine mj_cI (e26 _ _ ?_)
  obtain ⟨Q, hQ⟩ : ∃ Q, Q = qI mj_R2 (fun r I' J' => fnd N (fun j => J 17 (12 * c + j)) y r ∧ I' = I ∧ J' = J) := ⟨_, rfl⟩
  rw [← hQ]
  have lp := lp_up (n := N) (fun j => (∀ m, m < j → J 17 (12 * c + m) ≠ y) → E2 26 D Q 3 [(0, .ref 0), (1, .int (nI c)), (2, .long y), (4, .int (nI j))] I J) (fun j hj ih hm => ?_) 0 (Nat.zero_le _) (fun m hm => absurd hm (Nat.not_lt_zero m))
  · exact lp
  refine mj_on (s26_3 _ _ _ ?_)
  rw [nI_clamp (by omega), hN]
  refine ⟨vp_in_nI hc (by decide), if_le (by omega) (by omega) (fun q => ?_) (fun q => ?_)⟩
  · obtain rfl : j = N := by omega
    rw [hQ]
    exact ⟨_, _, _, rfl, Or.inl ⟨rfl, hm⟩, rfl, rfl⟩
  rw [show (12 : Int32) = nI 12 from rfl, pk_mul, nI_add, nI_clamp (by omega), nI_1]
  refine ⟨vp_in_nI (by omega) (by decide), if_i (fun e => ?_) (fun e => ih q fun m hm2 => ?_)⟩
  · rw [hQ]
    exact ⟨_, _, _, rfl, Or.inr ⟨j, q, rfl, cmp0.mp e, hm⟩, rfl, rfl⟩
  · by_cases z : m = j
    · rw [z]; exact fun w => e (cmp0.mpr w)
    · exact hm m (by omega)
end Sa7
end
section
/-! tests: what rows of steps come to, piece by piece -/
def rnk (c : Nat) : Nat := if c = 15 then 1 else if c = 14 then 2 else if c = 16 then 3 else if c = 11 ∨ c = 12 ∨ c = 13 then 4 else if c = 5 ∨ c = 6 then 5 else 6
/-- operators held back, as they are laid down: the last one first -/
def pops (K : List Nat) : List (Nat × Nat) := K.reverse.map (fun c => (c, 0))
theorem pops_app {K k : List Nat} : pops (K ++ k) = pops k ++ pops K := by
  unfold pops
  rw [List.reverse_append, List.map_append]
theorem pops_one {c : Nat} : pops [c] = [(c, 0)] := rfl
theorem pops_nil : pops [] = [] := rfl
theorem pops_len {K : List Nat} : (pops K).length = K.length := by
  unfold pops
  rw [List.length_map, List.length_reverse]
/-- pieces that push one number, or one test, on both sides the same one -/
def fr2 (W H : Nat) (b : Bool) (h : Nat) (a1 a2 : List (Nat × Nat)) : Prop := (∀ M st, st.length + h ≤ M → tyc M W H a1 st = some (b :: st) ∧ tyc M W H a2 st = some (b :: st)) ∧ ∃ v : (Nat → Nat) → Nat → Int, ∀ hs m st, ev hs m a1 st = v hs m :: st ∧ ev hs m a2 st = v hs m :: st
section Sa8a
variable {W H : Nat}
theorem tyc_app {M : Nat} : ∀ {a b : List (Nat × Nat)} {st s' : List Bool}, tyc M W H a st = some s' → tyc M W H (a ++ b) st = tyc M W H b s'
  | [], b, st, s', h => by
    have h : some st = some s' := h
    injection h with h
    rw [h]; rfl
  | c :: r, b, st, s', h => by
    obtain ⟨s1, h1, h2, h3⟩ := tyc_cons h
    show (match tys1 W H c st with
      | some st' => if st'.length ≤ M then tyc M W H (r ++ b) st' else none
      | none => none) = _
    rw [h1]
    show (if s1.length ≤ M then tyc M W H (r ++ b) s1 else none) = _
    rw [if_pos h2, tyc_app h3]
theorem ev_app {hs : Nat → Nat} {m : Nat} {a b : List (Nat × Nat)} {st : List Int} : ev hs m (a ++ b) st = ev hs m b (ev hs m a st) := by
  unfold ev
  rw [List.foldl_append]
theorem tyc_one {M : Nat} {c : Nat × Nat} {st s' : List Bool} (h : tys1 W H c st = some s') (hl : s'.length ≤ M) : tyc M W H [c] st = some s' := by
  show (match tys1 W H c st with
    | some st' => if st'.length ≤ M then tyc M W H [] st' else none
    | none => none) = _
  rw [h]
  show (if s'.length ≤ M then tyc M W H [] s' else none) = _
  rw [if_pos hl]
  rfl
theorem tys1_num {op : Nat} {st : List Bool} (h5 : 5 ≤ op) (h13 : op ≤ 13) : tys1 W H (op, 0) (false :: false :: st) = some (decide (11 ≤ op) :: st) := by
  rcases (by omega : op = 5 ∨ op = 6 ∨ op = 7 ∨ op = 8 ∨ op = 9 ∨ op = 10 ∨ op = 11 ∨ op = 12 ∨ op = 13) with rfl | rfl | rfl | rfl | rfl | rfl | rfl | rfl | rfl <;> rfl
theorem tys1_log {op : Nat} {st : List Bool} (h : op = 14 ∨ op = 15) : tys1 W H (op, 0) (true :: true :: st) = some (true :: st) := by
  rcases h with rfl | rfl <;> rfl
theorem tys1_not {st : List Bool} : tys1 W H (16, 0) (true :: st) = some (true :: st) := rfl
theorem ev1_two {hs : Nat → Nat} {m op : Nat} {a c : Int} {st : List Int} (h5 : 5 ≤ op) (h16 : op ≠ 16) : ev1 hs m (c :: a :: st) (op, 0) = twov op a c :: st := by
  show (if op ≤ 4 then leafv hs m op 0 :: c :: a :: st else if op = 16 then (1 - c) :: a :: st else twov op a c :: st) = _
  rw [if_neg (by omega), if_neg h16]
theorem fr2_leaf {c v : Nat} (h1 : c ≤ 4) (hc : (c = 0 → v ≤ 9999) ∧ (c = 2 → v < W) ∧ (c = 4 → v < H) ∧ (c = 1 ∨ c = 3 → v = 0)) : fr2 W H (decide (3 ≤ c)) 1 [(c, v)] [(c, v)] := by
  have e : ∀ st, tys1 W H (c, v) st = some (decide (3 ≤ c) :: st) := fun st => by
    show (if c ≤ 4 then (if (c = 0 → v ≤ 9999) ∧ (c = 2 → v < W) ∧ (c = 4 → v < H) ∧ (c = 1 ∨ c = 3 → v = 0) then some (decide (3 ≤ c) :: st) else none) else _) = _
    rw [if_pos h1, if_pos hc]
  have e2 : ∀ (hs : Nat → Nat) (m : Nat) (st : List Int), ev hs m [(c, v)] st = leafv hs m c v :: st := fun hs m st => by
    show (if c ≤ 4 then leafv hs m c v :: st else _) = _
    rw [if_pos h1]
  exact ⟨fun M st hl => ⟨tyc_one (e st) hl, tyc_one (e st) hl⟩, fun hs m => leafv hs m c v, fun hs m st => ⟨e2 hs m st, e2 hs m st⟩⟩
theorem fr2_up {b : Bool} {h h' : Nat} {a1 a2 : List (Nat × Nat)} (q : fr2 W H b h a1 a2) (hh : h ≤ h') : fr2 W H b h' a1 a2 := ⟨fun M st hl => q.1 M st (by omega), q.2⟩
theorem fr2_two {b b' : Bool} {op h h' h3 : Nat} {a1 a2 c1 c2 : List (Nat × Nat)} (h5 : 5 ≤ op) (h16 : op ≠ 16) (ht : ∀ st, tys1 W H (op, 0) (b :: b :: st) = some (b' :: st)) (qa : fr2 W H b h a1 a2) (qc : fr2 W H b h' c1 c2) (h1 : h ≤ h3) (h2 : h' + 1 ≤ h3) : fr2 W H b' h3 (a1 ++ (c1 ++ [(op, 0)])) (a2 ++ (c2 ++ [(op, 0)])) := by
  obtain ⟨ta, va, ea⟩ := qa
  obtain ⟨tc, vc, ec⟩ := qc
  refine ⟨fun M st hl => ?_, fun hs m => twov op (va hs m) (vc hs m), fun hs m st => ?_⟩
  · have l1 : (b :: st).length + h' ≤ M := by show st.length + 1 + h' ≤ M; omega
    have l2 : (b' :: st).length ≤ M := by show st.length + 1 ≤ M; omega
    have l0 : st.length + h ≤ M := by omega
    exact ⟨by rw [tyc_app (ta M st l0).1, tyc_app (tc M _ l1).1, tyc_one (ht st) l2], by rw [tyc_app (ta M st l0).2, tyc_app (tc M _ l1).2, tyc_one (ht st) l2]⟩
  · exact ⟨by rw [ev_app, ev_app, (ea hs m st).1, (ec hs m _).1]; exact ev1_two h5 h16, by rw [ev_app, ev_app, (ea hs m st).2, (ec hs m _).2]; exact ev1_two h5 h16⟩
theorem fr2_num {op h h' h3 : Nat} {a1 a2 c1 c2 : List (Nat × Nat)} (h5 : 5 ≤ op) (h10 : op ≤ 10) (qa : fr2 W H false h a1 a2) (qc : fr2 W H false h' c1 c2) (h1 : h ≤ h3) (h2 : h' + 1 ≤ h3) : fr2 W H false h3 (a1 ++ (c1 ++ [(op, 0)])) (a2 ++ (c2 ++ [(op, 0)])) :=
  fr2_two h5 (by omega) (fun st => by rw [tys1_num h5 (by omega), decide_eq_false (by omega)]) qa qc h1 h2
theorem fr2_cmp {op h h' h3 : Nat} {a1 a2 c1 c2 : List (Nat × Nat)} (h11 : 11 ≤ op) (h13 : op ≤ 13) (qa : fr2 W H false h a1 a2) (qc : fr2 W H false h' c1 c2) (h1 : h ≤ h3) (h2 : h' + 1 ≤ h3) : fr2 W H true h3 (a1 ++ (c1 ++ [(op, 0)])) (a2 ++ (c2 ++ [(op, 0)])) :=
  fr2_two (by omega) (by omega) (fun st => by rw [tys1_num (by omega) h13, decide_eq_true h11]) qa qc h1 h2
theorem fr2_log {op h h' h3 : Nat} {a1 a2 c1 c2 : List (Nat × Nat)} (ho : op = 14 ∨ op = 15) (qa : fr2 W H true h a1 a2) (qc : fr2 W H true h' c1 c2) (h1 : h ≤ h3) (h2 : h' + 1 ≤ h3) : fr2 W H true h3 (a1 ++ (c1 ++ [(op, 0)])) (a2 ++ (c2 ++ [(op, 0)])) :=
  fr2_two (by omega) (by omega) (fun st => tys1_log ho) qa qc h1 h2
theorem nots_ty {M : Nat} {st : List Bool} (hl : st.length + 1 ≤ M) : ∀ j, tyc M W H (List.replicate j (16, 0)) (true :: st) = some (true :: st)
  | 0 => rfl
  | j + 1 => by
    rw [List.replicate_succ, ← List.singleton_append, tyc_app (tyc_one tys1_not hl), nots_ty hl j]
theorem nots_ev {hs : Nat → Nat} {m : Nat} : ∀ (j : Nat) (y : Int) (st : List Int), ev hs m (List.replicate j (16, 0)) (y :: st) = (if j % 2 = 1 then 1 - y else y) :: st
  | 0, _, _ => rfl
  | j + 1, y, st => by
    rw [List.replicate_succ, ← List.singleton_append, ev_app]
    show ev hs m (List.replicate j (16, 0)) ((1 - y) :: st) = _
    rw [nots_ev j]
    by_cases h : j % 2 = 1
    · rw [if_pos h, if_neg (by omega)]
      congr 1
      omega
    · rw [if_neg h, if_pos (by omega)]
theorem fr2_not {h : Nat} {a1 a2 : List (Nat × Nat)} (q : fr2 W H true h a1 a2) (h0 : 1 ≤ h) (j : Nat) : fr2 W H true h (a1 ++ List.replicate (j % 2) (16, 0)) (a2 ++ List.replicate j (16, 0)) := by
  obtain ⟨t, v, e⟩ := q
  refine ⟨fun M st hl => ⟨by rw [tyc_app (t M st hl).1, nots_ty (by omega)], by rw [tyc_app (t M st hl).2, nots_ty (by omega)]⟩, fun hs m => if j % 2 = 1 then 1 - v hs m else v hs m, fun hs m st => ⟨?_, ?_⟩⟩
  · rw [ev_app, (e hs m st).1, nots_ev, Nat.mod_mod]
  · rw [ev_app, (e hs m st).2, nots_ev]
theorem pops_not (j : Nat) : pops (List.replicate j 16) = List.replicate j (16, 0) := by
  unfold pops
  rw [List.reverse_replicate, List.map_replicate]
theorem fr2_sgB {h : Nat} {a1 a2 : List (Nat × Nat)} (q : fr2 W H true h a1 a2) (hh : h ≤ 64) : sgB 64 950 W H a1 a2 := by
  obtain ⟨t, v, e⟩ := q
  exact ⟨(t 64 [] (by show 0 + h ≤ 64; omega)).1, (t 950 [] (by show 0 + h ≤ 950; omega)).2, fun hs m => by rw [(e hs m []).1, (e hs m []).2]⟩
end Sa8a
/-! codes laid down, one more -/
theorem cdC_app {I I' : Nat → Nat → Int32} {c p : Nat} {a : List (Nat × Nat)} {y : Nat × Nat} (h : cdC I c p a) (he : ∀ j, j < p + a.length → I' c j = I c j) (hy : I' c (p + a.length) = nI (opc y.1 * 16384 + y.2)) : cdC I' c p (a ++ [y]) := fun k z hz => by
  by_cases hk : k < a.length
  · rw [List.getElem?_append_left hk] at hz
    rw [he _ (by omega)]
    exact h k z hz
  · rw [List.getElem?_append_right (by omega)] at hz
    by_cases e : k = a.length
    · subst e
      rw [Nat.sub_self] at hz
      have hz : y = z := Option.some.inj hz
      rw [← hz]; exact hy
    · rw [List.getElem?_eq_none (by show 1 ≤ k - a.length; omega)] at hz
      cases hz
theorem cdR_app {I I' : Nat → Nat → Int32} {p : Nat} {a : List (Nat × Nat)} {y : Nat × Nat} (h : cdR I p a) (he : ∀ j, j < p + a.length → I' 21 j = I 21 j ∧ I' 22 j = I 22 j) (hy : I' 21 (p + a.length) = nI y.1 ∧ I' 22 (p + a.length) = nI y.2) : cdR I' p (a ++ [y]) := fun k z hz => by
  by_cases hk : k < a.length
  · rw [List.getElem?_append_left hk] at hz
    rw [(he _ (by omega)).1, (he _ (by omega)).2]
    exact h k z hz
  · rw [List.getElem?_append_right (by omega)] at hz
    by_cases e : k = a.length
    · subst e
      rw [Nat.sub_self] at hz
      have hz : y = z := Option.some.inj hz
      rw [← hz]; exact hy
    · rw [List.getElem?_eq_none (by show 1 ≤ k - a.length; omega)] at hz
      cases hz
theorem ops_app {f g : Nat → Int32} {b c : Nat} {K : List Nat} (h : ∀ i y, K[i]? = some y → f (b + i) = nI y) (he : ∀ j, j < b + K.length → g j = f j) (hy : g (b + K.length) = nI c) : ∀ i y, (K ++ [c])[i]? = some y → g (b + i) = nI y := fun k z hz => by
  by_cases hk : k < K.length
  · rw [List.getElem?_append_left hk] at hz
    rw [he _ (by omega)]
    exact h k z hz
  · rw [List.getElem?_append_right (by omega)] at hz
    by_cases e : k = K.length
    · subst e
      rw [Nat.sub_self] at hz
      have hz : c = z := Option.some.inj hz
      rw [← hz]; exact hy
    · rw [List.getElem?_eq_none (by show 1 ≤ k - K.length; omega)] at hz
      cases hz
end
section
/-! reading a test: the two states -/
def stc (d W H : Nat) (B1 B2 : (Nat → Nat → Int32)) (BJ : (Nat → Nat → Int64)) : Prop := d < 2 ∧ W ≤ 4 ∧ H ≤ 12 ∧ B1 15 0 = nI W ∧ B1 15 4 = nI H ∧ B2 2 d = nI W ∧ B2 6 d = nI H ∧ B2 0 35 = nI d ∧ (∀ k, k < W → nmq (B1 16 k) (BJ 8 (4 * d + k))) ∧ (∀ k, k < H → nmq (B1 16 (160 + k)) (BJ 17 (12 * d + k)))
def tsl (j : Nat) : Prop := j ≠ 3 ∧ j ≠ 4 ∧ j ≠ 5 ∧ j ≠ 6 ∧ j ≠ 8 ∧ j ≠ 9 ∧ j ≠ 34 ∧ j ≠ 41 ∧ j ≠ 42 ∧ j ≠ 44 ∧ j ≠ 45
/-- what of the class, of the reference, stays while a test is read -/
def tsC (s0 : Nat) (B I : (Nat → Nat → Int32)) : Prop := ∀ q j, (q ≠ 11 ∨ j < 4) → (q ≠ 14 ∨ j ≠ 9) → (q ≠ 22 ∨ j < s0) → I q j = B q j
def tsR (d f0 : Nat) (B I : (Nat → Nat → Int32)) : Prop := ∀ q j, (q ≠ 0 ∨ tsl j) → ((q ≠ 21 ∧ q ≠ 22) ∨ j < 900 * d + f0 ∨ 900 * d + 900 ≤ j) → (q < 23 ∨ 28 < q) → I q j = B q j
/-- the steps that have been laid down; the reference's open brackets and held back operators -/
def tsA (d s0 f0 op M : Nat) (A1 A2 : (List (Nat × Nat))) (I1 I2 : (Nat → Nat → Int32)) : Prop := I1 14 9 = nI (s0 + A1.length) ∧ cdC I1 22 s0 A1 ∧ I2 0 34 = nI (f0 + A2.length) ∧ cdR I2 (900 * d + f0) A2 ∧ op ≤ 8 ∧ I2 0 42 = nI op ∧ I2 0 44 = nI M
/-- the reference's frame on top -/
def tsF (op kd ph bs : Nat) (bg : Int32) (K : List Nat) (L I2 : (Nat → Nat → Int32)) : Prop := I2 0 41 = nI (op + 1) ∧ I2 23 op = nI kd ∧ I2 24 op = nI ph ∧ I2 25 op = bg ∧ I2 27 op = nI bs ∧ (∀ i y, K[i]? = some y → I2 28 (bs + i) = nI y) ∧ (∀ q, 23 ≤ q → q ≤ 27 → ∀ i, i < op → I2 q i = L q i) ∧ I2 26 op = L 26 op ∧ (∀ i, i < bs → I2 28 i = L 28 i) ∧ kd ≤ 5 ∧ ph ≤ 2 ∧ (bg = 0 ∨ bg = 1) ∧ ∀ c ∈ K, c < 17
def TS (n : Nat) (x : Nat → Nat) (d s0 f0 : Nat) (B1 B2 : (Nat → Nat → Int32)) (BJ : (Nat → Nat → Int64)) (op kd ph bs : Nat) (bg : Int32) (K : List Nat) (L : (Nat → Nat → Int32)) (A1 A2 : (List (Nat × Nat))) (p a t v : Nat) (l : List Nat) (o : Int) (I1 I2 : (Nat → Nat → Int32)) (J2 : (Nat → Nat → Int64)) : Prop :=
  tkR n x p a t v l o I1 I2 J2 ∧ tsC s0 B1 I1 ∧ tsR d f0 B2 I2 ∧ lxgJ BJ J2 ∧ tsA d s0 f0 op (bs + K.length) A1 A2 I1 I2 ∧ tsF op kd ph bs bg K L I2
/-- a fault is found -/
def DD (d s0 f0 : Nat) (B1 B2 : (Nat → Nat → Int32)) (BJ : (Nat → Nat → Int64)) (I1 I2 : (Nat → Nat → Int32)) (J2 : (Nat → Nat → Int64)) : Prop := (∃ k p, tkD k p I1 I2) ∧ tsC s0 B1 I1 ∧ tsR d f0 B2 I2 ∧ lxgJ BJ J2 ∧ ∃ c, s0 ≤ c ∧ c ≤ 900 ∧ I1 14 9 = nI c
section Sa8b
variable {n d s0 f0 W H : Nat} {x : Nat → Nat} {B1 B2 : Nat → Nat → Int32} {BJ : Nat → Nat → Int64}
variable {D D' E op kd ph bs p a t v u : Nat} {l : List Nat} {o : Int} {bg : Int32} {K : List Nat} {A1 A2 : List (Nat × Nat)} {L I1 I2 : Nat → Nat → Int32} {J1 J2 : Nat → Nat → Int64}
theorem tkR_cg {I1' I2' : (Nat → Nat → Int32)} {J2' : (Nat → Nat → Int64)} (h : tkR n x p a t v l o I1 I2 J2) (e1 : ∀ q j, (q = 12 ∨ q = 13 ∨ (q = 11 ∧ j ≠ 9)) → I1' q j = I1 q j) (e2 : ∀ q j, (q = 1 ∨ (q = 0 ∧ j < 10)) → I2' q j = I2 q j) (e3 : J2' 0 7 = J2 0 7) : tkR n x p a t v l o I1' I2' J2' := by
  obtain ⟨h1, h2, h3, h4, h5, h6, h7, h8, h9, h10, h11, h12, h13, h14, h15, h16, h17⟩ := h
  refine ⟨⟨h1.1, fun j hj => by rw [e1 13 j (by omega)]; exact h1.2 j hj⟩, ⟨h2.1, fun j hj => by rw [e2 1 j (by omega)]; exact h2.2 j hj⟩, fun z hz => by rw [e1 12 z (by omega)]; exact h3 z hz, by rw [e1 11 2 (by omega)]; exact h4, by rw [e2 0 2 (by omega)]; exact h5, by rw [e1 11 8 (by omega)]; exact h6, by rw [e2 0 4 (by omega)]; exact h7, by rw [e1 11 4 (by omega)]; exact h8, by rw [e2 0 5 (by omega)]; exact h9, by rw [e1 11 5 (by omega)]; exact h10, by rw [e2 0 3 (by omega)]; exact h11, by rw [e1 11 7 (by omega)]; exact h12, ⟨by rw [e1 11 10 (by omega)]; exact h13.1, by rw [e1 11 11 (by omega)]; exact h13.2⟩, by rw [e2 0 8 (by omega)]; exact h14, by rw [e2 0 9 (by omega)]; exact h15, h16, ?_⟩
  unfold tkS at h17 ⊢
  rw [e1 11 6 (by omega), e2 0 6 (by omega), e3]
  exact h17
theorem tsA_cg {M : Nat} {I1' I2' : (Nat → Nat → Int32)} (h : tsA d s0 f0 op M A1 A2 I1 I2) (e1 : I1' 14 9 = I1 14 9) (e2 : ∀ j, I1' 22 j = I1 22 j) (e3 : I2' 0 34 = I2 0 34) (e4 : ∀ j, I2' 21 j = I2 21 j ∧ I2' 22 j = I2 22 j) (e5 : I2' 0 42 = I2 0 42) (e6 : I2' 0 44 = I2 0 44) : tsA d s0 f0 op M A1 A2 I1' I2' := by
  obtain ⟨h1, h2, h3, h4, h5, h6, h7⟩ := h
  exact ⟨by rw [e1]; exact h1, fun k y z => by rw [e2]; exact h2 k y z, by rw [e3]; exact h3, fun k y z => by rw [(e4 _).1, (e4 _).2]; exact h4 k y z, h5, by rw [e5]; exact h6, by rw [e6]; exact h7⟩
theorem tsF_cg {I2' : (Nat → Nat → Int32)} (h : tsF op kd ph bs bg K L I2) (e1 : I2' 0 41 = I2 0 41) (e2 : ∀ q j, 23 ≤ q → q ≤ 28 → I2' q j = I2 q j) : tsF op kd ph bs bg K L I2' := by
  obtain ⟨h1, h2, h3, h4, h5, h6, h7, h8, h9, h10⟩ := h
  exact ⟨by rw [e1]; exact h1, by rw [e2 _ _ (by omega) (by omega)]; exact h2, by rw [e2 _ _ (by omega) (by omega)]; exact h3, by rw [e2 _ _ (by omega) (by omega)]; exact h4, by rw [e2 _ _ (by omega) (by omega)]; exact h5, fun i y z => by rw [e2 _ _ (by omega) (by omega)]; exact h6 i y z, fun q q1 q2 i hi => by rw [e2 _ _ (by omega) (by omega)]; exact h7 q q1 q2 i hi, by rw [e2 _ _ (by omega) (by omega)]; exact h8, fun i hi => by rw [e2 _ _ (by omega) (by omega)]; exact h9 i hi, h10⟩
theorem TS_d (h : TS n x d s0 f0 B1 B2 BJ op kd ph bs bg K L A1 A2 p a t v l o I1 I2 J2) (hS : stc d W H B1 B2 BJ) : I2 0 35 = nI d := by
  rw [h.2.2.1 0 35 (Or.inr (by unfold tsl; omega)) (by omega) (by omega)]
  exact hS.2.2.2.2.2.2.2.1
theorem TS_45 {r : Int32} (h : TS n x d s0 f0 B1 B2 BJ op kd ph bs bg K L A1 A2 p a t v l o I1 I2 J2) : TS n x d s0 f0 B1 B2 BJ op kd ph bs bg K L A1 A2 p a t v l o I1 (mj_up I2 0 45 r) J2 := by
  obtain ⟨h1, h2, h3, h4, h5, h6⟩ := h
  refine ⟨tkR_cg h1 (fun _ _ _ => rfl) (fun q j z => up_n (by omega)) rfl, h2, fun q j z1 z2 z3 => ?_, h4, tsA_cg h5 rfl (fun _ => rfl) (up_n (by omega)) (fun j => ⟨up_n (by omega), up_n (by omega)⟩) (up_n (by omega)) (up_n (by omega)), tsF_cg h6 (up_n (by omega)) (fun q j z1 z2 => up_n (by omega))⟩
  rw [up_n (by unfold tsl at z1; omega)]
  exact h3 q j z1 z2 z3
theorem DD_45 {r : Int32} (h : DD d s0 f0 B1 B2 BJ I1 I2 J2) : DD d s0 f0 B1 B2 BJ I1 (mj_up I2 0 45 r) J2 := by
  obtain ⟨⟨k, p, b1, b2, b3, b4, b5, b6, b7, b8⟩, h2, h3, h4, h5⟩ := h
  refine ⟨⟨k, p, b1, b2, b3, b4, b5, b6, ?_, ?_⟩, h2, fun q j z1 z2 z3 => ?_, h4, h5⟩
  · rw [up_n (by omega)]; exact b7
  · rw [up_n (by omega)]; exact b8
  · rw [up_n (by unfold tsl at z1; omega)]
    exact h3 q j z1 z2 z3
/-- the class lays one step down -/
theorem c_add {c y s : Nat} (h9 : I1 14 9 = nI s) (hs : s < 900) (hy : y ≤ 9999) : C1 (D + 2) 163 [.ref 14, .int (nI (opc c)), .int (nI y)] I1 J1 .null (mj_up (mj_up I1 22 s (nI (opc c * 16384 + y))) 14 9 (nI (s + 1))) J1 := by
  have e : (if (0 : Int32) < nI y then nI y else 0) = nI y := by
    by_cases z : y = 0
    · rw [z, if_neg (by decide)]; rfl
    · rw [if_pos (show (0 : Int32) < nI y from (nI_ltI (a := 0) (by decide) (by omega)).mpr (by omega))]
  refine mj_mk (e163 _ _ ?_)
  rw [h9, show (900 : Int32) = nI 900 from rfl]
  refine if_le (by decide) (by omega) (fun q => absurd q (by omega)) (fun _ => ?_)
  refine ⟨trivial, _, _, _, c_max, vp_in_nI hs (by decide), ?_⟩
  rw [nI_clamp (by omega), h9, nI_1, e, show (16384 : Int32) = nI 16384 from rfl, pk_mul, nI_add]
theorem c_addD {y z : Int32} {s : Nat} (h9 : I1 14 9 = nI s) (hs : s ≤ 900) : ∃ I1', C1 (D + 2) 163 [.ref 14, .int y, .int z] I1 J1 .null I1' J1 ∧ (∀ q j, (q ≠ 14 ∨ j ≠ 9) → (q ≠ 22 ∨ j < s) → I1' q j = I1 q j) ∧ ∃ c, s ≤ c ∧ c ≤ 900 ∧ I1' 14 9 = nI c := by
  by_cases e : s = 900
  · refine ⟨I1, mj_mk (e163 _ _ ?_), fun _ _ _ _ => rfl, s, Nat.le_refl _, hs, h9⟩
    rw [h9, show (900 : Int32) = nI 900 from rfl]
    exact if_le (by decide) (by omega) (fun _ => rfl) (fun q => absurd q (by omega))
  · refine ⟨mj_up (mj_up I1 22 s (y * 16384 + (if (0 : Int32) < z then z else 0))) 14 9 (nI (s + 1)), mj_mk (e163 _ _ ?_), fun q j z1 z2 => by rw [up_n (by omega), up_n (by omega)], s + 1, by omega, by omega, up_s⟩
    rw [h9, show (900 : Int32) = nI 900 from rfl, nI_clamp (by omega)]
    refine if_le (by decide) (by omega) (fun q => absurd q (by omega)) (fun _ => ?_)
    refine ⟨trivial, _, _, _, c_max, vp_in_nI (by omega) (by decide), ?_⟩
    rw [h9, nI_1]
theorem ts_addC {c y : Nat} (h : TS n x d s0 f0 B1 B2 BJ op kd ph bs bg K L A1 A2 p a t v l o I1 I2 J2) (hs : s0 + A1.length < 900) (hy : y ≤ 9999) : ∃ I1', C1 (D + 2) 163 [.ref 14, .int (nI (opc c)), .int (nI y)] I1 J1 .null I1' J1 ∧ TS n x d s0 f0 B1 B2 BJ op kd ph bs bg K L (A1 ++ [(c, y)]) A2 p a t v l o I1' I2 J2 ∧ I1' 11 9 = I1 11 9 := by
  obtain ⟨h1, h2, h3, h4, ⟨a1, a2, a3, a4, a5, a6, a7⟩, h6⟩ := h
  refine ⟨_, c_add a1 hs hy, ⟨tkR_cg h1 (fun q j z => by rw [up_n (by omega), up_n (by omega)]) (fun _ _ _ => rfl) rfl, fun q j z1 z2 z3 => by rw [up_n (by omega), up_n (by omega)]; exact h2 q j z1 z2 z3, h3, h4, ⟨?_, ?_, a3, a4, a5, a6, a7⟩, h6⟩, by rw [up_n (by omega), up_n (by omega)]⟩
  · rw [up_s, List.length_append]; rfl
  · refine cdC_app a2 (fun j hj => by rw [up_n (by omega), up_n (by omega)]) ?_
    rw [up_n (by omega), up_s]
/-- the reference lays one code down, holds one operator back -/
theorem r_add {y z : Int32} {s : Nat} (h35 : I2 0 35 = nI d) (h34 : I2 0 34 = nI s) (hd : d < 2) (hs : s < 900) : C2 (D + 1) 39 [.ref 0, .int y, .int z] I2 J2 .null (mj_up (mj_up (mj_up I2 21 (900 * d + s) y) 22 (900 * d + s) z) 0 34 (nI (s + 1))) J2 := by
  refine mj_mk (e39 _ _ ?_)
  rw [h35, h34, show (900 : Int32) = nI 900 from rfl, pk_mul, nI_add, nI_clamp (by omega), nI_1]
  exact ⟨vp_in_nI (by omega) (by decide), vp_in_nI (by omega) (by decide), rfl⟩
theorem ts_addR {c y : Nat} (hS : stc d W H B1 B2 BJ) (h : TS n x d s0 f0 B1 B2 BJ op kd ph bs bg K L A1 A2 p a t v l o I1 I2 J2) (hs : f0 + A2.length < 900) : ∃ I2', C2 (D + 1) 39 [.ref 0, .int (nI c), .int (nI y)] I2 J2 .null I2' J2 ∧ TS n x d s0 f0 B1 B2 BJ op kd ph bs bg K L A1 (A2 ++ [(c, y)]) p a t v l o I1 I2' J2 ∧ I2' 0 45 = I2 0 45 := by
  have h35 := TS_d h hS
  have hd := hS.1
  obtain ⟨h1, h2, h3, h4, ⟨a1, a2, a3, a4, a5, a6, a7⟩, h6⟩ := h
  refine ⟨_, r_add h35 a3 hd hs, ⟨tkR_cg h1 (fun _ _ _ => rfl) (fun q j z => by rw [up_n (by omega), up_n (by omega), up_n (by omega)]) rfl, h2, fun q j z1 z2 z3 => ?_, h4, ⟨a1, a2, ?_, ?_, a5, ?_, ?_⟩, tsF_cg h6 (by rw [up_n (by omega), up_n (by omega), up_n (by omega)]) (fun q j z1 z2 => by rw [up_n (by omega), up_n (by omega), up_n (by omega)])⟩, by rw [up_n (by omega), up_n (by omega), up_n (by omega)]⟩
  · rw [up_n (by unfold tsl at z1; omega), up_n (by omega), up_n (by omega)]
    exact h3 q j z1 z2 z3
  · rw [up_s, List.length_append]; rfl
  · refine cdR_app a4 (fun j hj => ⟨by rw [up_n (by omega), up_n (by omega), up_n (by omega)], by rw [up_n (by omega), up_n (by omega), up_n (by omega)]⟩) ⟨?_, ?_⟩
    · rw [up_n (by omega), up_n (by omega), ← Nat.add_assoc, up_s]
    · rw [up_n (by omega), ← Nat.add_assoc, up_s]
  · rw [up_n (by omega), up_n (by omega), up_n (by omega)]; exact a6
  · rw [up_n (by omega), up_n (by omega), up_n (by omega)]; exact a7
theorem ts_hold {c : Nat} (h : TS n x d s0 f0 B1 B2 BJ op kd ph bs bg K L A1 A2 p a t v l o I1 I2 J2) (hM : bs + K.length < 500) (hc : c < 17) : ∃ I2', C2 (D + 1) 37 [.ref 0, .int (nI c)] I2 J2 .null I2' J2 ∧ TS n x d s0 f0 B1 B2 BJ op kd ph bs bg (K ++ [c]) L A1 A2 p a t v l o I1 I2' J2 ∧ I2' 0 45 = I2 0 45 := by
  obtain ⟨h1, h2, h3, h4, ⟨a1, a2, a3, a4, a5, a6, a7⟩, ⟨f1, f2, f3, f4, f5, f6, f7, f8, f9, f10, f11, f12, f13⟩⟩ := h
  refine ⟨mj_up (mj_up I2 28 (bs + K.length) (nI c)) 0 44 (nI (bs + K.length + 1)), mj_mk (e37 _ ?_), ⟨tkR_cg h1 (fun _ _ _ => rfl) (fun q j z => by rw [up_n (by omega), up_n (by omega)]) rfl, h2, fun q j z1 z2 z3 => ?_, h4, ⟨a1, a2, ?_, fun k y z => ?_, a5, ?_, ?_⟩, ⟨?_, ?_, ?_, ?_, ?_, ?_, fun q q1 q2 i hi => ?_, ?_, fun i hi => ?_, f10, f11, f12, fun e he => ?_⟩⟩, ?_⟩
  · rw [a7, nI_clamp (by omega), nI_1]
    exact ⟨vp_in_nI hM (by decide), rfl⟩
  · rw [up_n (by unfold tsl at z1; omega), up_n (by omega)]
    exact h3 q j z1 z2 z3
  · rw [up_n (by omega), up_n (by omega)]; exact a3
  · rw [up_n (by omega), up_n (by omega), up_n (by omega), up_n (by omega)]; exact a4 k y z
  · rw [up_n (by omega), up_n (by omega)]; exact a6
  · rw [up_s, List.length_append]; rfl
  · rw [up_n (by omega), up_n (by omega)]; exact f1
  · rw [up_n (by omega), up_n (by omega)]; exact f2
  · rw [up_n (by omega), up_n (by omega)]; exact f3
  · rw [up_n (by omega), up_n (by omega)]; exact f4
  · rw [up_n (by omega), up_n (by omega)]; exact f5
  · refine ops_app f6 (fun j hj => ?_) ?_
    · rw [up_n (by omega), up_n (by omega)]
    · rw [up_n (by omega), up_s]
  · rw [up_n (by omega), up_n (by omega)]; exact f7 q q1 q2 i hi
  · rw [up_n (by omega), up_n (by omega)]; exact f8
  · rw [up_n (by omega), up_n (by omega)]; exact f9 i hi
  · rcases List.mem_append.mp he with z | z
    · exact f13 e z
    · rw [List.mem_singleton.mp z]; exact hc
  · rw [up_n (by omega), up_n (by omega)]
theorem r_rank {c : Nat} (hc : c < 17) : C2 (D + 1) 43 [.int (nI c)] I2 J2 (.int (nI (rnk c))) I2 J2 := by
  refine mj_mk (e43 _ ?_)
  have eq : ∀ {k : Nat} {y : Int32}, y = nI k → k < 17 → nI c = y → c = k := fun e1 e2 e3 => (nI_eq (by omega) (by omega)).mp (e3.trans e1)
  refine if_i (fun e => ?_) (fun n15 => if_i (fun e => ?_) (fun n14 => if_i (fun e => ?_) (fun n16 => if_i (fun e => ?_) (fun n11 => if_i (fun e => ?_) (fun n12 => if_i (fun e => ?_) (fun n13 => if_i (fun e => ?_) (fun n5 => if_i (fun e => ?_) (fun n6 => ?_))))))))
  · obtain rfl := eq (k := 15) rfl (by decide) e; rfl
  · obtain rfl := eq (k := 14) rfl (by decide) e; rfl
  · obtain rfl := eq (k := 16) rfl (by decide) e; rfl
  · obtain rfl := eq (k := 11) rfl (by decide) e; rfl
  · obtain rfl := eq (k := 12) rfl (by decide) e; rfl
  · obtain rfl := eq (k := 13) rfl (by decide) e; rfl
  · obtain rfl := eq (k := 5) rfl (by decide) e; rfl
  · obtain rfl := eq (k := 6) rfl (by decide) e; rfl
  · have ne : ∀ {k : Nat} {y : Int32}, y = nI k → ¬ nI c = y → c ≠ k := fun e1 e2 e3 => e2 (by rw [e3, e1])
    have m15 := ne (k := 15) rfl n15
    have m14 := ne (k := 14) rfl n14
    have m16 := ne (k := 16) rfl n16
    have m11 := ne (k := 11) rfl n11
    have m12 := ne (k := 12) rfl n12
    have m13 := ne (k := 13) rfl n13
    have m5 := ne (k := 5) rfl n5
    have m6 := ne (k := 6) rfl n6
    have e : rnk c = 6 := by
      unfold rnk
      rw [if_neg m15, if_neg m14, if_neg m16, if_neg (by omega), if_neg (by omega)]
    rw [e]
    rfl
/-- joins: what is held back and binds at least as much is laid down -/
theorem ts_join0 {r : Nat} (hS : stc d W H B1 B2 BJ) (hr : r < 10) (hK : ∀ c, K.getLast? = some c → rnk c < r) : ∀ (m : Nat) (kk : List Nat) (A2 : (List (Nat × Nat))) (I2 : (Nat → Nat → Int32)), kk.length = m → TS n x d s0 f0 B1 B2 BJ op kd ph bs bg (K ++ kk) L A1 A2 p a t v l o I1 I2 J2 → (∀ c ∈ kk, r ≤ rnk c) → f0 + A2.length + kk.length ≤ 900 → bs + K.length + kk.length < 500 → ∀ Q : mj_R → Prop, (∀ I2', TS n x d s0 f0 B1 B2 BJ op kd ph bs bg K L A1 (A2 ++ pops kk) p a t v l o I1 I2' J2 → I2' 0 45 = I2 0 45 → Q (.null, (I2', J2, mj_R2))) → E2 42 (D + 1) Q 0 [(0, .ref 0), (1, .int (nI r))] I2 J2
  | 0, kk, A2, I2, hk, h, hkk, hb, hM, Q, hQ => by
    obtain rfl : kk = [] := List.length_eq_zero_iff.mp hk
    rw [List.append_nil] at h
    have hq0 := hQ I2 (by rw [pops_nil, List.append_nil]; exact h) rfl
    have h8 := h.2.2.2.2.1.2.2.2.2.1
    obtain ⟨-, -, -, -, ⟨-, -, -, -, -, -, a7⟩, ⟨f1, -, -, -, f5, f6, -, -, -, -, -, -, f13⟩⟩ := h
    refine mj_on (s42_0 _ ?_)
    rw [f1, nI_pred, nI_clamp (by omega), a7, f5]
    refine ⟨vp_in_nI (by omega) (by decide), if_le (by omega) (by omega) (fun _ => hq0) (fun z => ?_)⟩
    rcases List.eq_nil_or_concat K with rfl | ⟨K0, c, rfl⟩
    · exact absurd z (by show ¬ bs < bs + 0; omega)
    · rw [List.concat_eq_append] at *
      have hc : c < 17 := f13 c (List.mem_append_right _ List.mem_cons_self)
      have e1 : (K0 ++ [c]).length = K0.length + 1 := by rw [List.length_append]; rfl
      have e2 : I2 28 (bs + K0.length) = nI c := f6 K0.length c (by rw [List.getElem?_append_right (Nat.le_refl _), Nat.sub_self]; rfl)
      have e3 : rnk c < r := hK c (by rw [List.getLast?_append]; rfl)
      have hM2 : bs + (K0.length + 1) < 500 := by rw [e1] at hM; omega
      rw [e1, ← Nat.add_assoc, nI_pred, nI_clamp (by omega), e2]
      refine ⟨vp_in_nI (by omega) (by decide), trivial, _, _, _, r_rank hc, ?_⟩
      have e4 : rnk c < 10 := by omega
      exact if_lt (by omega) (by omega) (fun _ => hq0) (fun w => absurd w (by omega))
  | m + 1, kk, A2, I2, hk, h, hkk, hb, hM, Q, hQ => by
    rcases List.eq_nil_or_concat kk with rfl | ⟨k0, c, rfl⟩
    · cases hk
    rw [List.concat_eq_append] at *
    have e1 : (k0 ++ [c]).length = k0.length + 1 := by rw [List.length_append]; rfl
    rw [e1] at hk hb hM
    have h35 := TS_d h hS
    have hd := hS.1
    rw [← List.append_assoc] at h
    obtain ⟨h1, h2, h3, h4, ⟨a1, a2, a3, a4, a5, a6, a7⟩, ⟨f1, f2, f3, f4, f5, f6, f7, f8, f9, f10, f11, f12, f13⟩⟩ := h
    have e0 : (K ++ k0 ++ [c]).length = (K ++ k0).length + 1 := by rw [List.length_append]; rfl
    have e00 : (K ++ k0).length = K.length + k0.length := List.length_append
    rw [e0, e00, ← Nat.add_assoc] at a7
    have hc : c < 17 := f13 c (List.mem_append_right _ List.mem_cons_self)
    have e2 : I2 28 (bs + (K.length + k0.length)) = nI c := by
      rw [← e00]
      exact f6 (K ++ k0).length c (by rw [List.getElem?_append_right (Nat.le_refl _), Nat.sub_self]; rfl)
    have hrc : r ≤ rnk c := hkk c (List.mem_append_right _ List.mem_cons_self)
    have r10 : rnk c < 10 := by unfold rnk; split <;> (try split) <;> (try split) <;> (try split) <;> (try split) <;> omega
    refine mj_on (s42_0 _ ?_)
    rw [f1, nI_pred, nI_clamp (by omega), a7, f5]
    refine ⟨vp_in_nI (by omega) (by decide), if_le (by omega) (by omega) (fun z => absurd z (by omega)) (fun _ => ?_)⟩
    rw [nI_pred, nI_clamp (by omega), e2]
    refine ⟨vp_in_nI (by omega) (by decide), trivial, _, _, _, r_rank hc, ?_⟩
    refine if_lt (by omega) (by omega) (fun w => absurd w (by omega)) (fun _ => ?_)
    rw [a7, nI_pred, nI_clamp (by omega), e2]
    refine ⟨vp_in_nI (by omega) (by decide), ?_⟩
    have t1 : TS n x d s0 f0 B1 B2 BJ op kd ph bs bg (K ++ k0) L A1 A2 p a t v l o I1 (mj_up I2 0 44 (nI (bs + (K.length + k0.length)))) J2 := by
      refine ⟨tkR_cg h1 (fun _ _ _ => rfl) (fun q j z => by rw [up_n (by omega)]) rfl, h2, fun q j z1 z2 z3 => ?_, h4, ⟨a1, a2, ?_, fun k y z => ?_, a5, ?_, ?_⟩, ⟨?_, ?_, ?_, ?_, ?_, fun i y z => ?_, fun q q1 q2 i hi => ?_, ?_, fun i hi => ?_, f10, f11, f12, fun e he => ?_⟩⟩
      · rw [up_n (by unfold tsl at z1; omega)]
        exact h3 q j z1 z2 z3
      · rw [up_n (by omega)]; exact a3
      · rw [up_n (by omega), up_n (by omega)]; exact a4 k y z
      · rw [up_n (by omega)]; exact a6
      · rw [up_s, e00]
      · rw [up_n (by omega)]; exact f1
      · rw [up_n (by omega)]; exact f2
      · rw [up_n (by omega)]; exact f3
      · rw [up_n (by omega)]; exact f4
      · rw [up_n (by omega)]; exact f5
      · rw [up_n (by omega)]
        exact f6 i y (by rw [List.getElem?_append_left (List.getElem?_eq_some_iff.mp z).1]; exact z)
      · rw [up_n (by omega)]; exact f7 q q1 q2 i hi
      · rw [up_n (by omega)]; exact f8
      · rw [up_n (by omega)]; exact f9 i hi
      · exact f13 e (List.mem_append_left _ he)
    obtain ⟨I2', k1, k2, k3⟩ := ts_addR (D := D) (c := c) (y := 0) hS t1 (by omega)
    refine ⟨trivial, _, _, k1, ?_⟩
    refine ts_join0 hS hr hK m k0 (A2 ++ [(c, 0)]) I2' (by omega) k2 (fun e he => hkk e (List.mem_append_left _ he)) ?_ (by omega) Q (fun I3 q1 q2 => ?_)
    · rw [List.length_append]
      show f0 + (A2.length + 1) + k0.length ≤ 900
      omega
    · refine hQ I3 ?_ ?_
      · rw [pops_app, pops_one]
        rw [List.append_assoc] at q1
        exact q1
      · rw [q2, k3, up_n (by omega)]
theorem ts_join {r : Nat} {kk : List Nat} (hS : stc d W H B1 B2 BJ) (hr : r < 10) (hK : ∀ c ∈ K, rnk c < r) (h : TS n x d s0 f0 B1 B2 BJ op kd ph bs bg (K ++ kk) L A1 A2 p a t v l o I1 I2 J2) (hk : ∀ c ∈ kk, r ≤ rnk c) (hb : f0 + A2.length + kk.length ≤ 900) (hM : bs + K.length + kk.length < 500) : ∃ I2', C2 (D + 2) 42 [.ref 0, .int (nI r)] I2 J2 .null I2' J2 ∧ TS n x d s0 f0 B1 B2 BJ op kd ph bs bg K L A1 (A2 ++ pops kk) p a t v l o I1 I2' J2 ∧ I2' 0 45 = I2 0 45 := by
  obtain ⟨I', J', hc, h1, rfl, h3⟩ := mj_cN (S := mj_S2) (CD := mj_CD) (D := D + 1) (z := 42) (as := [.ref 0, .int (nI r)]) (h := (I2, J2, mj_R2)) (R := mj_R2) (P := fun I' J' => TS n x d s0 f0 B1 B2 BJ op kd ph bs bg K L A1 (A2 ++ pops kk) p a t v l o I1 I' J2 ∧ J' = J2 ∧ I' 0 45 = I2 0 45) (e42 _ (ts_join0 hS hr (fun c q => hK c (List.mem_of_getLast? q)) kk.length kk A2 I2 rfl h hk hb hM _ (fun I3 q1 q2 => ⟨_, _, rfl, q1, rfl, q2⟩)))
  exact ⟨I', hc, h1, h3⟩
end Sa8b
end
section
/-! reading a test: next on both sides; the class behind a fault; the reference's loop -/
section Sa8c
variable {n d s0 f0 W H : Nat} {x : Nat → Nat} {B1 B2 : Nat → Nat → Int32} {BJ : Nat → Nat → Int64}
variable {D D' E op kd ph bs p a t v u : Nat} {l : List Nat} {o : Int} {bg : Int32} {K : List Nat} {A1 A2 : List (Nat × Nat)} {L I1 I2 : Nat → Nat → Int32} {J1 J2 : Nat → Nat → Int64}
theorem adv_ta (h : tkR n x p a t v l o I1 I2 J2) (h0 : t ≠ 0) : ∃ I1' I2' J2', C1 (D + 3) 139 [.ref 11] I1 J1 .null I1' J1 ∧ C2 (D' + 2) 13 [.ref 0] I2 J2 .null I2' J2' ∧ lxf I1 I1' ∧ lxg I2 I2' ∧ lxgJ J2 J2' ∧ ((∃ p' a' t' v' l' o', tkR n x p' a' t' v' l' o' I1' I2' J2' ∧ p < p' ∧ (t = 3 → p + l.length ≤ p')) ∨ ∃ p', tkD 1 p' I1' I2') := by
  have hA := tkR_A h h0
  obtain ⟨h1, h2, hO, c2, r2, c8, r4, c4, r5, c5, r3, c7, w0, r8, r9, hpn, hS⟩ := h
  have key : t ≤ 4 ∧ a ≤ n ∧ p < a ∧ (t = 3 → p + l.length ≤ a) := by
    rcases hS with ⟨q, -⟩ | ⟨q1, q2, q3, -⟩ | ⟨q1, q2, q3, -⟩ | ⟨q1, q2, q3, -, ⟨q5, -⟩, -⟩
    · exact absurd q h0
    · exact ⟨by omega, by omega, by omega, fun q => by omega⟩
    · exact ⟨by omega, by omega, by omega, fun q => by omega⟩
    · exact ⟨by omega, by omega, by omega, fun _ => q2⟩
  obtain ⟨I1', J1', I2', J2', k1, k2, rfl, k4, k5, k6, k7⟩ := adv_both (D := D) (D' := D') (J1 := J1) (J2 := J2) h1 h2 hO c2 r2 c4 r5 c5 key.1 w0 r8 r9 key.2.1 hA
  refine ⟨I1', I2', J2', k1, k2, k4, k5, k6, k7.imp (fun ⟨p', a', t', v', l', o', q1, q2⟩ => ⟨p', a', t', v', l', o', q1, by omega, fun q => ?_⟩) id⟩
  have := key.2.2.2 q
  omega
theorem tk_o (h : tkR n x p a t v l o I1 I2 J2) (ht : t ≠ 3) : o = -1 := by
  obtain ⟨-, -, -, -, -, -, -, -, -, -, -, -, -, -, -, -, hS⟩ := h
  rcases hS with ⟨q1, -, -, q⟩ | ⟨q1, -, -, -, -, -, -, -, q⟩ | ⟨q1, -, -, -, -, -, -, q⟩ | ⟨q1, -⟩
  · exact q
  · exact q
  · exact q
  · exact absurd q1 ht
theorem tk_n (h : tkR n x p a t v l o I1 I2 J2) : p ≤ n ∧ n ≤ 900 ∧ (t ≠ 0 → p < n) ∧ (t = 2 → v ≤ 9999) ∧ t ≤ 3 := by
  have h3 := tkS_t h.2.2.2.2.2.2.2.2.2.2.2.2.2.2.2.2
  have hn := h.1.1
  obtain ⟨-, -, -, -, -, -, -, -, -, -, -, -, -, -, -, hp, hS⟩ := h
  refine ⟨hp, hn, fun h0 => ?_, fun h2 => ?_, h3⟩
  · rcases hS with ⟨q, -⟩ | ⟨q1, q2, q3, -⟩ | ⟨q1, q2, q3, -⟩ | ⟨q1, q2, q3, -, ⟨q5, -⟩, -⟩
    · exact absurd q h0
    · omega
    · omega
    · omega
  · rcases hS with ⟨q, -⟩ | ⟨q, -⟩ | ⟨q1, -, -, -, q, -⟩ | ⟨q, -⟩
    · omega
    · omega
    · exact q
    · omega
/-- the word of the language that stands there is as long as it is -/
theorem tk_w (h : tkR n x p a t v l o I1 I2 J2) {w : Nat} (hw : w < 17) (ho : o = w) : t = 3 ∧ l = owL.getD w [] := by
  have h3 : t = 3 := Classical.byContradiction fun q => by have := tk_o h q; omega
  refine ⟨h3, ?_⟩
  obtain ⟨-, -, -, -, -, -, -, -, -, -, -, -, -, -, -, -, hS⟩ := h
  rcases hS with ⟨q, -⟩ | ⟨q, -⟩ | ⟨q, -⟩ | ⟨-, -, -, -, -, -, -, q⟩
  · omega
  · omega
  · omega
  · exact ((lxo_at q hw).mp ho).symm
theorem ts_adv (h : TS n x d s0 f0 B1 B2 BJ op kd ph bs bg K L A1 A2 p a t v l o I1 I2 J2) (h0 : t ≠ 0) (hs : s0 + A1.length ≤ 900) : ∃ I1' I2' J2', C1 (D + 3) 139 [.ref 11] I1 J1 .null I1' J1 ∧ C2 (D' + 2) 13 [.ref 0] I2 J2 .null I2' J2' ∧ I2' 0 45 = I2 0 45 ∧ I1' 11 9 = I1 11 9 ∧ ((∃ p' a' t' v' l' o', TS n x d s0 f0 B1 B2 BJ op kd ph bs bg K L A1 A2 p' a' t' v' l' o' I1' I2' J2' ∧ p < p' ∧ (t = 3 → p + l.length ≤ p')) ∨ (DD d s0 f0 B1 B2 BJ I1' I2' J2' ∧ I2' 0 8 = nI 1)) := by
  obtain ⟨h1, h2, h3, h4, h5, h6⟩ := h
  obtain ⟨I1', I2', J2', k1, k2, k4, k5, k6, k7⟩ := adv_ta (D := D) (D' := D') (J1 := J1) h1 h0
  refine ⟨I1', I2', J2', k1, k2, k5 0 45 (by omega), k4 11 9 (by omega), ?_⟩
  have t2 : tsC s0 B1 I1' := fun q j z1 z2 z3 => by rw [k4 q j (by omega)]; exact h2 q j z1 z2 z3
  have t3 : tsR d f0 B2 I2' := fun q j z1 z2 z3 => by rw [k5 q j (by unfold tsl at z1; omega)]; exact h3 q j z1 z2 z3
  have t4 : lxgJ BJ J2' := fun q j z => by rw [k6 q j z]; exact h4 q j z
  rcases k7 with ⟨p', a', t', v', l', o', q1, q2, q3⟩ | ⟨p', q1⟩
  · exact Or.inl ⟨p', a', t', v', l', o', ⟨q1, t2, t3, t4, tsA_cg h5 (k4 14 9 (by omega)) (fun j => k4 22 j (by omega)) (k5 0 34 (by omega)) (fun j => ⟨k5 21 j (by omega), k5 22 j (by omega)⟩) (k5 0 42 (by omega)) (k5 0 44 (by omega)), tsF_cg h6 (k5 0 41 (by omega)) (fun q j z1 z2 => k5 q j (by omega))⟩, q2, q3⟩
  · exact Or.inr ⟨⟨⟨1, p', q1⟩, t2, t3, t4, _, Nat.le_add_right _ _, hs, by rw [k4 14 9 (by omega)]; exact h5.1⟩, q1.2.2.2.2.2.2.1⟩
/-- a fault on both sides at the token at hand -/
theorem ts_bl {k : Nat} (h : TS n x d s0 f0 B1 B2 BJ op kd ph bs bg K L A1 A2 p a t v l o I1 I2 J2) (hk : 1 ≤ k) (hk6 : k ≤ 6) (hs : s0 + A1.length ≤ 900) : ∃ I1' I2', C1 (D + 1) 144 [.ref 11, .int (nI k)] I1 J1 .null I1' J1 ∧ C2 (D' + 1) 16 [.ref 0, .int (nI k), .int (I2 0 4)] I2 J2 .null I2' J2 ∧ DD d s0 f0 B1 B2 BJ I1' I2' J2 ∧ I2' 0 8 = nI k ∧ I2' 0 45 = I2 0 45 ∧ I1' 11 9 = I1 11 9 ∧ ∀ q j, (q ≠ 0 ∨ (j ≠ 8 ∧ j ≠ 9)) → I2' q j = I2 q j := by
  obtain ⟨h1, h2, h3, h4, h5, h6⟩ := h
  obtain ⟨I1', I2', k1, k2, k3, k4, k5⟩ := bl_both (D := D) (D' := D') (J1 := J1) (J2 := J2) h1 hk hk6
  refine ⟨I1', I2', k1, k2, ⟨⟨k, p, k5⟩, fun q j z1 z2 z3 => ?_, fun q j z1 z2 z3 => ?_, h4, _, Nat.le_add_right _ _, hs, ?_⟩, k5.2.2.2.2.2.2.1, k4 0 45 (by omega), k3 11 9 (by omega), k4⟩
  · rw [k3 q j (by omega)]; exact h2 q j z1 z2 z3
  · rw [k4 q j (by unfold tsl at z1; omega)]; exact h3 q j z1 z2 z3
  · rw [k3 14 9 (by omega)]; exact h5.1
theorem r_blD {y z : Int32} {k : Nat} (h8 : I2 0 8 = nI k) (hk : 1 ≤ k) (hk6 : k ≤ 6) : C2 (D + 1) 16 [.ref 0, .int y, .int z] I2 J2 .null I2 J2 := r_blame1 (by
  rw [h8]
  intro q
  have q : nI k ≤ nI 0 := q
  have := (nI_leI (by omega) (by decide)).mp q
  omega)
theorem DD_k (h : DD d s0 f0 B1 B2 BJ I1 I2 J2) : ∃ k, 1 ≤ k ∧ k ≤ 6 ∧ I2 0 8 = nI k := by
  obtain ⟨⟨k, p, q⟩, -⟩ := h
  exact ⟨k, q.1, q.2.1, q.2.2.2.2.2.2.1⟩
theorem DD_8 (h : DD d s0 f0 B1 B2 BJ I1 I2 J2) : ¬ I2 0 8 = 0 ∧ ¬ I2 0 8 ≤ 0 := by
  obtain ⟨k, h1, h2, h3⟩ := DD_k h
  rw [h3]
  refine ⟨nI_ne0 (by omega) (by omega), fun q => ?_⟩
  have q : nI k ≤ nI 0 := q
  have := (nI_leI (by omega) (by decide)).mp q
  omega
-- the class behind a fault
theorem DD_lxh {I1' : (Nat → Nat → Int32)} (h : DD d s0 f0 B1 B2 BJ I1 I2 J2) (hh : lxh I1 I1') (hd : ∃ k p, tkD k p I1' I2) : DD d s0 f0 B1 B2 BJ I1' I2 J2 := by
  obtain ⟨-, h2, h3, h4, c, h5, h6, h7⟩ := h
  exact ⟨hd, fun q j z1 z2 z3 => by rw [hh q j (by omega)]; exact h2 q j z1 z2 z3, h3, h4, c, h5, h6, by rw [hh 14 9 (by omega)]; exact h7⟩
theorem d_tok (h : DD d s0 f0 B1 B2 BJ I1 I2 J2) : I1 11 5 = nI 4 ∧ I1 11 7 = -1 := by
  obtain ⟨⟨k, p, q⟩, -⟩ := h
  exact ⟨q.2.2.2.1, q.2.2.2.2.1⟩
theorem d_add {y z : Int32} (h : DD d s0 f0 B1 B2 BJ I1 I2 J2) : ∃ I1', C1 (D + 2) 163 [.ref 14, .int y, .int z] I1 J1 .null I1' J1 ∧ DD d s0 f0 B1 B2 BJ I1' I2 J2 := by
  obtain ⟨⟨k, p, b1, b2, b3, b4, b5, b6, b7, b8⟩, h2, h3, h4, c, h5, h6, h7⟩ := h
  obtain ⟨I1', k1, k2, e, e1, e2, e3⟩ := c_addD (D := D) (J1 := J1) (y := y) (z := z) h7 h6
  refine ⟨I1', k1, ⟨k, p, b1, b2, b3, ?_, ?_, ?_, b7, b8⟩, fun q j z1 z2 z3 => ?_, h3, h4, e, by omega, e2, e3⟩
  · rw [k2 11 5 (by omega) (by omega)]; exact b4
  · rw [k2 11 7 (by omega) (by omega)]; exact b5
  · rw [k2 11 10 (by omega) (by omega), k2 11 8 (by omega) (by omega), k2 11 11 (by omega) (by omega)]; exact b6
  · rw [k2 q j z2 (by omega)]; exact h2 q j z1 z2 z3
theorem d_bl (h : DD d s0 f0 B1 B2 BJ I1 I2 J2) : ∃ I1', C1 (D + 1) 144 [.ref 11, .int 1] I1 J1 .null I1' J1 ∧ DD d s0 f0 B1 B2 BJ I1' I2 J2 := by
  obtain ⟨⟨k, p, q⟩, -⟩ := id h
  obtain ⟨I1', J1', k1, rfl, k2, k3, -⟩ := dd_blame (D := D) (J1 := J1) q
  exact ⟨I1', k1, DD_lxh h k2 ⟨k, p, k3⟩⟩
theorem d_take {c : Int32} (h : DD d s0 f0 B1 B2 BJ I1 I2 J2) : ∃ I1', C1 (D + 2) 162 [.ref 11, .int c] I1 J1 .null I1' J1 ∧ DD d s0 f0 B1 B2 BJ I1' I2 J2 := by
  obtain ⟨⟨k, p, q⟩, -⟩ := id h
  obtain ⟨I1', J1', k1, rfl, k2, k3, -⟩ := dd_take (D := D) (J1 := J1) (c := c) q
  exact ⟨I1', k1, DD_lxh h k2 ⟨k, p, k3⟩⟩
theorem d_open {c : Int32} (h : DD d s0 f0 B1 B2 BJ I1 I2 J2) : ∃ I1', C1 (D + 2) 161 [.ref 11, .int c] I1 J1 (.int 0) I1' J1 ∧ DD d s0 f0 B1 B2 BJ I1' I2 J2 := by
  obtain ⟨⟨k, p, q⟩, -⟩ := id h
  obtain ⟨I1', J1', k1, rfl, k2, k3, -⟩ := dd_open (D := D) (J1 := J1) (c := c) q
  exact ⟨I1', k1, DD_lxh h k2 ⟨k, p, k3⟩⟩
theorem d_ask {c e : Int32} (h : DD d s0 f0 B1 B2 BJ I1 I2 J2) : ∃ I1', C1 (D + 2) 153 [.ref 11, .int c, .int e] I1 J1 (.int (-1)) I1' J1 ∧ DD d s0 f0 B1 B2 BJ I1' I2 J2 := by
  obtain ⟨⟨k, p, q⟩, -⟩ := id h
  obtain ⟨I1', J1', k1, rfl, k2, k3, -⟩ := dd_ask (D := D) (J1 := J1) (c := c) (e := e) q
  exact ⟨I1', k1, DD_lxh h k2 ⟨k, p, k3⟩⟩
theorem d_cmp (h : DD d s0 f0 B1 B2 BJ I1 I2 J2) : ∃ I1', C1 (D + 2) 168 [.ref 11] I1 J1 (.int (-1)) I1' J1 ∧ DD d s0 f0 B1 B2 BJ I1' I2 J2 := by
  obtain ⟨⟨k, p, q⟩, -⟩ := id h
  obtain ⟨I1', J1', k1, rfl, k2, k3, -⟩ := dd_cmp (D := D) (J1 := J1) q
  exact ⟨I1', k1, DD_lxh h k2 ⟨k, p, k3⟩⟩
theorem DD_119 {y : Int32} (h : DD d s0 f0 B1 B2 BJ I1 I2 J2) : DD d s0 f0 B1 B2 BJ (mj_up I1 11 9 y) I2 J2 := by
  obtain ⟨⟨k, p, b1, b2, b3, b4, b5, b6, b7, b8⟩, h2, h3, h4, c, h5, h6, h7⟩ := h
  refine ⟨⟨k, p, b1, b2, b3, ?_, ?_, ?_, b7, b8⟩, fun q j z1 z2 z3 => ?_, h3, h4, c, h5, h6, ?_⟩
  · rw [up_n (by omega)]; exact b4
  · rw [up_n (by omega)]; exact b5
  · rw [up_n (by omega), up_n (by omega), up_n (by omega)]; exact b6
  · rw [up_n (by omega)]; exact h2 q j z1 z2 z3
  · rw [up_n (by omega)]; exact h7
theorem d_part (h : DD d s0 f0 B1 B2 BJ I1 I2 J2) : ∃ I1', C1 (D + 3) 166 [.ref 11] I1 J1 .null I1' J1 ∧ DD d s0 f0 B1 B2 BJ I1' I2 J2 := by
  obtain ⟨e1, e2⟩ := d_tok h
  obtain ⟨Ia, ca, ha⟩ := d_open (D := D) (J1 := J1) (c := 40) h
  refine ⟨Ia, mj_mk (e166 ?_), ha⟩
  rw [e1, e2, if_neg (by decide), if_neg (by decide), if_neg (by decide), if_neg (by decide), if_neg (by decide)]
  refine ⟨trivial, _, _, _, ca, ?_⟩
  rw [if_pos rfl]
theorem d_prod (h : DD d s0 f0 B1 B2 BJ I1 I2 J2) : ∃ I1', C1 (D + 4) 165 [.ref 11] I1 J1 .null I1' J1 ∧ DD d s0 f0 B1 B2 BJ I1' I2 J2 := by
  obtain ⟨Ia, ca, ha⟩ := d_part (D := D) (J1 := J1) h
  refine ⟨Ia, mj_mk (e165 ?_), ha⟩
  refine ⟨trivial, _, _, ca, ?_⟩
  refine mj_on (s165_6 _ ?_)
  rw [if_neg (by decide)]
  refine ⟨trivial, _, _, _, sg_d (d_tok ha).1, if_tf (fun z => z.elim) (fun _ => ?_)⟩
  refine ⟨trivial, _, _, _, sg_d (d_tok ha).1, if_tf (fun z => z.elim) (fun _ => rfl)⟩
theorem d_sum (h : DD d s0 f0 B1 B2 BJ I1 I2 J2) : ∃ I1', C1 (D + 5) 164 [.ref 11] I1 J1 .null I1' J1 ∧ DD d s0 f0 B1 B2 BJ I1' I2 J2 := by
  obtain ⟨Ia, ca, ha⟩ := d_prod (D := D) (J1 := J1) h
  refine ⟨Ia, mj_mk (e164 ?_), ha⟩
  refine ⟨trivial, _, _, ca, ?_⟩
  refine mj_on (s164_6 _ ?_)
  rw [if_neg (by decide)]
  refine ⟨trivial, _, _, _, sg_d (d_tok ha).1, if_tf (fun z => z.elim) (fun _ => ?_)⟩
  refine ⟨trivial, _, _, _, sg_d (d_tok ha).1, if_tf (fun z => z.elim) (fun _ => rfl)⟩
/-- the end of a fact -/
theorem d_fact160 {Q : mj_R → Prop} {y : Int32} (h : DD d s0 f0 B1 B2 BJ I1 I2 J2) (hQ : ∀ I1', DD d s0 f0 B1 B2 BJ I1' I2 J2 → Q (.null, (I1', J1, mj_R1))) : E1 159 (D + 2) Q 160 [(0, .ref 11), (1, .int y)] I1 J1 := by
  refine mj_on (s159_160 _ ?_)
  refine if_i (fun _ => hQ I1 h) (fun _ => ?_)
  obtain ⟨Ia, ca, ha⟩ := d_add (D := D) (J1 := J1) (y := 10) (z := 0) h
  exact ⟨trivial, _, _, ca, hQ Ia ha⟩
theorem d_fact4 {Q : mj_R → Prop} {y z : Int32} (h : DD d s0 f0 B1 B2 BJ I1 I2 J2) (hQ : ∀ I1', DD d s0 f0 B1 B2 BJ I1' I2 J2 → Q (.null, (I1', J1, mj_R1))) : E1 159 (D + 5) Q 4 [(0, .ref 11), (1, .int y), (2, .int z)] I1 J1 := by
  have e40 : E1 159 (D + 5) Q 40 [(0, .ref 11), (1, .int y)] I1 J1 := by
    obtain ⟨e1, e2⟩ := d_tok h
    refine mj_on (s159_40 _ ?_)
    refine ⟨trivial, _, _, _, sg_d e1, if_tf (fun z => z.elim) (fun _ => ?_)⟩
    rw [e2, if_neg (by decide), if_neg (by decide)]
    obtain ⟨Ia, ca, ha⟩ := d_sum (D := D) (J1 := J1) h
    obtain ⟨Ib, cb, hb⟩ := d_cmp (D := D + 3) (J1 := J1) ha
    obtain ⟨Ic, cc, hc⟩ := d_sum (D := D) (J1 := J1) hb
    obtain ⟨Id, cd, hd⟩ := d_add (D := D + 3) (J1 := J1) (y := -1) (z := 0) hc
    exact ⟨trivial, _, _, ca, trivial, _, _, _, cb, trivial, _, _, cc, trivial, _, _, cd, d_fact160 (D := D + 3) hd hQ⟩
  refine mj_on (s159_4 _ _ ?_)
  rw [(d_tok h).2]
  exact if_i (fun _ => e40) (fun _ => by rw [if_neg (by decide)]; exact e40)
theorem d_fact (h : DD d s0 f0 B1 B2 BJ I1 I2 J2) : ∃ I1', C1 (D + 6) 159 [.ref 11] I1 J1 .null I1' J1 ∧ DD d s0 f0 B1 B2 BJ I1' I2 J2 := by
  obtain ⟨I', J', hc, h1, rfl⟩ := mj_cN (S := mj_S1) (CD := mj_CD) (D := D + 5) (z := 159) (as := [.ref 11]) (h := (I1, J1, mj_R1)) (R := mj_R1) (P := fun I' J' => DD d s0 f0 B1 B2 BJ I' I2 J2 ∧ J' = J1) (e159 (d_fact4 h (fun I3 q => ⟨_, _, rfl, q, rfl⟩)))
  exact ⟨I', hc, h1⟩
theorem d_both (h : DD d s0 f0 B1 B2 BJ I1 I2 J2) : ∃ I1', C1 (D + 7) 158 [.ref 11] I1 J1 .null I1' J1 ∧ DD d s0 f0 B1 B2 BJ I1' I2 J2 := by
  obtain ⟨Ia, ca, ha⟩ := d_fact (D := D) (J1 := J1) h
  refine ⟨Ia, mj_mk (e158 ?_), ha⟩
  refine ⟨trivial, _, _, ca, ?_⟩
  refine mj_on (s158_6 _ ?_)
  rw [if_neg (by decide), (d_tok ha).2, if_neg (by decide)]
theorem d_test (h : DD d s0 f0 B1 B2 BJ I1 I2 J2) : ∃ I1', C1 (D + 8) 157 [.ref 11] I1 J1 .null I1' J1 ∧ DD d s0 f0 B1 B2 BJ I1' I2 J2 := by
  obtain ⟨Ia, ca, ha⟩ := d_both (D := D) (J1 := J1) h
  refine ⟨Ia, mj_mk (e157 ?_), ha⟩
  refine ⟨trivial, _, _, ca, ?_⟩
  refine mj_on (s157_6 _ ?_)
  rw [if_neg (by decide), (d_tok ha).2, if_neg (by decide)]
-- the reference's loop
def gA (E : Nat) (I2 : (Nat → Nat → Int32)) (J2 : (Nat → Nat → Int64)) (I2' : (Nat → Nat → Int32)) (J2' : (Nat → Nat → Int64)) : Prop := ∀ Q : mj_R → Prop, E2 33 (E + 5) Q 35 [(0, .ref 0), (1, .int 1)] I2' J2' → E2 33 (E + 5) Q 35 [(0, .ref 0), (1, .int 1)] I2 J2
def gD (E : Nat) (I2 : (Nat → Nat → Int32)) (J2 : (Nat → Nat → Int64)) (I2' : (Nat → Nat → Int32)) (J2' : (Nat → Nat → Int64)) : Prop := ∀ Q : mj_R → Prop, Q (.null, (I2', J2', mj_R2)) → E2 33 (E + 5) Q 35 [(0, .ref 0), (1, .int 1)] I2 J2
theorem g_end {Q : mj_R → Prop} {I : (Nat → Nat → Int32)} {J : (Nat → Nat → Int64)} (h : Q (.null, (I, J, mj_R2))) : E2 33 (E + 5) Q 35 [(0, .ref 0), (1, .int 0)] I J := by
  refine mj_on (s33_35 _ ?_)
  rw [if_pos rfl]
  exact h
theorem g_part {r : Int32} {I' : (Nat → Nat → Int32)} {J' : (Nat → Nat → Int64)} (h45 : I2 0 45 = 0) (hc : C2 (E + 5) 35 [.ref 0] I2 J2 (.int r) I' J') (hr : r = 0 ∨ r = 1) (h8 : I' 0 8 = 0) : gA E I2 J2 (mj_up I' 0 45 r) J' := fun Q h => by
  refine mj_on (s33_35 _ ?_)
  rw [if_neg (by decide), if_pos h45]
  refine ⟨trivial, _, _, _, hc, hr, ?_⟩
  refine mj_on (s33_62 _ ?_)
  rw [if_neg (by decide), if_pos (by rw [up_n (by decide)]; exact h8)]
  exact h
theorem g_partD {r : Int32} {I' : (Nat → Nat → Int32)} {J' : (Nat → Nat → Int64)} (h45 : I2 0 45 = 0) (hc : C2 (E + 5) 35 [.ref 0] I2 J2 (.int r) I' J') (hr : r = 0 ∨ r = 1) (h8 : ¬ I' 0 8 = 0) : gD E I2 J2 (mj_up I' 0 45 r) J' := fun Q h => by
  refine mj_on (s33_35 _ ?_)
  rw [if_neg (by decide), if_pos h45]
  refine ⟨trivial, _, _, _, hc, hr, ?_⟩
  refine mj_on (s33_62 _ ?_)
  rw [if_neg (by decide), if_neg (by rw [up_n (by decide)]; exact h8)]
  exact g_end h
theorem g_go {I' : (Nat → Nat → Int32)} {J' : (Nat → Nat → Int64)} (h45 : I2 0 45 = 1) (hc : C2 (E + 5) 41 [.ref 0] I2 J2 (.int 1) I' J') (h8 : I' 0 8 = 0) : gA E I2 J2 I' J' := fun Q h => by
  refine mj_on (s33_35 _ ?_)
  rw [if_neg (by decide), h45, if_neg (by decide)]
  refine ⟨trivial, _, _, _, hc, ?_⟩
  refine mj_on (s33_62 _ ?_)
  rw [if_neg (by decide), if_pos h8]
  exact h
theorem g_goD {r : Int32} {I' : (Nat → Nat → Int32)} {J' : (Nat → Nat → Int64)} (h45 : I2 0 45 = 1) (hc : C2 (E + 5) 41 [.ref 0] I2 J2 (.int r) I' J') (h8 : ¬ I' 0 8 = 0 ∨ r = 0) : gD E I2 J2 I' J' := fun Q h => by
  refine mj_on (s33_35 _ ?_)
  rw [if_neg (by decide), h45, if_neg (by decide)]
  refine ⟨trivial, _, _, _, hc, ?_⟩
  refine mj_on (s33_62 _ ?_)
  refine if_i (fun _ => g_end h) (fun z => ?_)
  rw [if_neg (h8.resolve_right z)]
  exact g_end h
theorem gA_tr {Ia Ib : (Nat → Nat → Int32)} {Ja Jb : (Nat → Nat → Int64)} (h : gA E I2 J2 Ia Ja) (h' : gA E Ia Ja Ib Jb) : gA E I2 J2 Ib Jb := fun Q q => h Q (h' Q q)
theorem gA_D {Ia Ib : (Nat → Nat → Int32)} {Ja Jb : (Nat → Nat → Int64)} (h : gA E I2 J2 Ia Ja) (h' : gD E Ia Ja Ib Jb) : gD E I2 J2 Ib Jb := fun Q q => h Q (h' Q q)
theorem gA_rf : gA E I2 J2 I2 J2 := fun _ q => q
end Sa8c
end
section
/-! reading a test: names, brackets -/
def spcl (t v : Nat) (o : Int) : Prop := (t = 1 ∧ v = 91) ∨ o = 10 ∨ o = 11 ∨ o = 12
def fst1 (kd : Nat) (bg : Int32) : Prop := (kd = 1 ∨ kd = 5) ∧ bg = 1
section Sa8d
variable {n d s0 f0 W H : Nat} {x : Nat → Nat} {B1 B2 : Nat → Nat → Int32} {BJ : Nat → Nat → Int64}
variable {D D' E op kd ph bs p a t v u : Nat} {l : List Nat} {o : Int} {bg : Int32} {K : List Nat} {A1 A2 : List (Nat × Nat)} {L I1 I2 : Nat → Nat → Int32} {J1 J2 : Nat → Nat → Int64}
theorem find_eq {N : Nat} {f : Nat → Int32} {g : Nat → Int64} {r1 r2 : Int32} (hl : lxl l) (hN : N ≤ 900) (hq : ∀ j, j < N → nmq (f j) (g j)) (h1 : (r1 = -1 ∧ ∀ j, j < N → f j ≠ nI (nmC l)) ∨ ∃ j, j < N ∧ r1 = nI j ∧ f j = nI (nmC l) ∧ ∀ m, m < j → f m ≠ nI (nmC l)) (h2 : fnd N g (lN (nmR l)) r2) : r1 = r2 := by
  have q : ∀ j, j < N → (f j = nI (nmC l) ↔ g j = lN (nmR l)) := fun j hj => nmq_eq (hq j hj) hl
  rcases h1 with ⟨rfl, a⟩ | ⟨j, j1, rfl, j2, j3⟩
  · rcases h2 with ⟨rfl, -⟩ | ⟨i, i1, -, i2, -⟩
    · rfl
    · exact absurd ((q i i1).mpr i2) (a i i1)
  · rcases h2 with ⟨-, b⟩ | ⟨i, i1, rfl, i2, i3⟩
    · exact absurd ((q j j1).mp j2) (b j j1)
    · have : j = i := by
        rcases Nat.lt_trichotomy j i with z | z | z
        · exact absurd ((q j j1).mp j2) (i3 j z)
        · exact z
        · exact absurd ((q i i1).mpr i2) (j3 i z)
      rw [this]
theorem own_eq (h : tkR n x p a t v l o I1 I2 J2) {w : Nat} {y : Int32} (hw : w < 17) (hy : y = nI w) : I1 11 7 = y ↔ o = w := by
  obtain ⟨-, -, -, -, -, -, -, -, -, -, -, c7, -, -, -, -, hS⟩ := h
  have ho : -1 ≤ o ∧ o ≤ 16 := by
    rcases hS with ⟨-, -, -, q⟩ | ⟨-, -, -, -, -, -, -, -, q⟩ | ⟨-, -, -, -, -, -, -, q⟩ | ⟨-, -, -, -, -, -, -, q⟩
    · omega
    · omega
    · omega
    · rcases q with ⟨q, -⟩ | ⟨w, hw, q, -⟩ <;> omega
  rw [c7, hy]
  constructor
  · intro z
    have z := congrArg Int32.toInt z
    rw [iI_toInt (by omega) (by omega), nI_toInt (by omega)] at z
    exact z
  · intro z
    rw [z]; rfl
theorem tok_eq (h : tkR n x p a t v l o I1 I2 J2) {k : Nat} {y : Int32} (hk : k < 5) (hy : y = nI k) : I1 11 5 = y ↔ t = k := by
  have h3 := (tk_n h).2.2.2.2
  rw [h.2.2.2.2.2.2.2.2.2.1, hy]
  exact nI_eq (by omega) (by omega)
theorem rtk_eq (h : tkR n x p a t v l o I1 I2 J2) {k : Nat} {y : Int32} (hk : k < 4) (h1 : 1 ≤ k) (hy : y = nI (4 - k)) : I2 0 3 = y ↔ t = k := by
  have h3 := (tk_n h).2.2.2.2
  have tk : tkr t < 2 ^ 31 := by unfold tkr; split <;> omega
  rw [h.2.2.2.2.2.2.2.2.2.2.1, hy, nI_eq tk (by omega)]
  unfold tkr
  split <;> omega
theorem TS_bg {y : Int32} (h : TS n x d s0 f0 B1 B2 BJ op kd ph bs bg K L A1 A2 p a t v l o I1 I2 J2) (hy : y = 0 ∨ y = 1) : TS n x d s0 f0 B1 B2 BJ op kd ph bs y K L A1 A2 p a t v l o I1 (mj_up I2 25 op y) J2 := by
  obtain ⟨h1, h2, h3, h4, h5, ⟨f1, f2, f3, f4, f5, f6, f7, f8, f9, f10, f11, f12, f13⟩⟩ := h
  refine ⟨tkR_cg h1 (fun _ _ _ => rfl) (fun q j z => up_n (by omega)) rfl, h2, fun q j z1 z2 z3 => by rw [up_n (by omega)]; exact h3 q j z1 z2 z3, h4, tsA_cg h5 rfl (fun _ => rfl) (up_n (by omega)) (fun j => ⟨up_n (by omega), up_n (by omega)⟩) (up_n (by omega)) (up_n (by omega)), ⟨?_, ?_, ?_, up_s, ?_, fun i z zz => ?_, fun q q1 q2 i hi => ?_, ?_, fun i hi => ?_, f10, f11, hy, f13⟩⟩
  · rw [up_n (by omega)]; exact f1
  · rw [up_n (by omega)]; exact f2
  · rw [up_n (by omega)]; exact f3
  · rw [up_n (by omega)]; exact f5
  · rw [up_n (by omega)]; exact f6 i z zz
  · rw [up_n (by omega)]; exact f7 q q1 q2 i hi
  · rw [up_n (by omega)]; exact f8
  · rw [up_n (by omega)]; exact f9 i hi
theorem TS_ph {y : Nat} (h : TS n x d s0 f0 B1 B2 BJ op kd ph bs bg K L A1 A2 p a t v l o I1 I2 J2) (hy : y ≤ 2) : TS n x d s0 f0 B1 B2 BJ op kd y bs bg K L A1 A2 p a t v l o I1 (mj_up I2 24 op (nI y)) J2 := by
  obtain ⟨h1, h2, h3, h4, h5, ⟨f1, f2, f3, f4, f5, f6, f7, f8, f9, f10, f11, f12, f13⟩⟩ := h
  refine ⟨tkR_cg h1 (fun _ _ _ => rfl) (fun q j z => up_n (by omega)) rfl, h2, fun q j z1 z2 z3 => by rw [up_n (by omega)]; exact h3 q j z1 z2 z3, h4, tsA_cg h5 rfl (fun _ => rfl) (up_n (by omega)) (fun j => ⟨up_n (by omega), up_n (by omega)⟩) (up_n (by omega)) (up_n (by omega)), ⟨?_, ?_, up_s, ?_, ?_, fun i z zz => ?_, fun q q1 q2 i hi => ?_, ?_, fun i hi => ?_, f10, hy, f12, f13⟩⟩
  · rw [up_n (by omega)]; exact f1
  · rw [up_n (by omega)]; exact f2
  · rw [up_n (by omega)]; exact f4
  · rw [up_n (by omega)]; exact f5
  · rw [up_n (by omega)]; exact f6 i z zz
  · rw [up_n (by omega)]; exact f7 q q1 q2 i hi
  · rw [up_n (by omega)]; exact f8
  · rw [up_n (by omega)]; exact f9 i hi
/-- the kind of the frame on top changes -/
theorem TS_kd {y : Nat} (h : TS n x d s0 f0 B1 B2 BJ op kd ph bs bg K L A1 A2 p a t v l o I1 I2 J2) (hy : y ≤ 5) : TS n x d s0 f0 B1 B2 BJ op y ph bs bg K L A1 A2 p a t v l o I1 (mj_up I2 23 op (nI y)) J2 := by
  obtain ⟨h1, h2, h3, h4, h5, ⟨f1, f2, f3, f4, f5, f6, f7, f8, f9, f10, f11, f12, f13⟩⟩ := h
  refine ⟨tkR_cg h1 (fun _ _ _ => rfl) (fun q j z => up_n (by omega)) rfl, h2, fun q j z1 z2 z3 => by rw [up_n (by omega)]; exact h3 q j z1 z2 z3, h4, tsA_cg h5 rfl (fun _ => rfl) (up_n (by omega)) (fun j => ⟨up_n (by omega), up_n (by omega)⟩) (up_n (by omega)) (up_n (by omega)), ⟨?_, up_s, ?_, ?_, ?_, fun i z zz => ?_, fun q q1 q2 i hi => ?_, ?_, fun i hi => ?_, hy, f11, f12, f13⟩⟩
  · rw [up_n (by omega)]; exact f1
  · rw [up_n (by omega)]; exact f3
  · rw [up_n (by omega)]; exact f4
  · rw [up_n (by omega)]; exact f5
  · rw [up_n (by omega)]; exact f6 i z zz
  · rw [up_n (by omega)]; exact f7 q q1 q2 i hi
  · rw [up_n (by omega)]; exact f8
  · rw [up_n (by omega)]; exact f9 i hi
theorem DD_2x {q0 j0 : Nat} {y : Int32} (h : DD d s0 f0 B1 B2 BJ I1 I2 J2) (hq : 23 ≤ q0 ∧ q0 ≤ 28 ∨ q0 = 0 ∧ (j0 = 41 ∨ j0 = 42 ∨ j0 = 44)) : DD d s0 f0 B1 B2 BJ I1 (mj_up I2 q0 j0 y) J2 := by
  obtain ⟨⟨k, p, b1, b2, b3, b4, b5, b6, b7, b8⟩, h2, h3, h4, h5⟩ := h
  refine ⟨⟨k, p, b1, b2, b3, b4, b5, b6, ?_, ?_⟩, h2, fun q j z1 z2 z3 => ?_, h4, h5⟩
  · rw [up_n (by omega)]; exact b7
  · rw [up_n (by omega)]; exact b8
  · rw [up_n (by unfold tsl at z1; omega)]
    exact h3 q j z1 z2 z3
theorem r_isTest {k : Nat} (hk : k ≤ 5) : C2 (D + 1) 36 [.int (nI k)] I2 J2 (.int (tf (k = 1 ∨ k = 5))) I2 J2 := by
  refine mj_mk (e36 _ ?_)
  rw [show (1 : Int32) = nI 1 from rfl, show (5 : Int32) = nI 5 from rfl]
  exact if_eq (by omega) (by decide) (fun e => mzT (Or.inl e)) (fun e => if_eq (by omega) (by decide) (fun e2 => mzT (Or.inr e2)) (fun e2 => mzF (by omega)))
/-- any sign, any state -/
theorem sg_any {y : Int32} : ∃ r, C2 (D + 1) 28 [.ref 0, .int y] I2 J2 (.int r) I2 J2 := by
  by_cases h1 : I2 0 3 = 3
  · by_cases h2 : I2 0 6 = y
    · exact ⟨1, mj_mk (e28 _ (by rw [if_pos h1, if_pos h2]; exact ⟨Or.inr rfl, rfl⟩))⟩
    · exact ⟨0, mj_mk (e28 _ (by rw [if_pos h1, if_neg h2]; exact ⟨Or.inl rfl, rfl⟩))⟩
  · exact ⟨0, mj_mk (e28 _ (by rw [if_neg h1]; exact ⟨Or.inl rfl, rfl⟩))⟩
/-- a name is looked up, and laid down as a step of its kind -/
theorem ts_named {c i : Nat} (hS : stc d W H B1 B2 BJ) (hc : c = 2 ∧ i = 0 ∨ c = 4 ∧ i = 4) (h : TS n x d s0 f0 B1 B2 BJ op kd ph bs bg K L A1 A2 p a t v l o I1 I2 J2) (h0 : t ≠ 0) (q1 : s0 + A1.length ≤ p) (q2 : f0 + A2.length ≤ p) : ∃ Ia r Ib I1' I2' J2', C1 (D + 5) 139 [.ref 11] I1 J1 .null Ia J1 ∧ C1 (D + 5) 153 [.ref 11, .int (nI i), .int (-1)] Ia J1 (.int r) Ib J1 ∧ C1 (D + 5) 163 [.ref 14, .int (nI (opc c)), .int r] Ib J1 .null I1' J1 ∧ C2 (E + 4) 40 [.ref 0, .int (nI c)] I2 J2 .null I2' J2' ∧ ((∃ k p' a' t' v' l' o', TS n x d s0 f0 B1 B2 BJ op kd ph bs bg K L (A1 ++ [(c, k)]) (A2 ++ [(c, k)]) p' a' t' v' l' o' I1' I2' J2' ∧ p < p' ∧ s0 + A1.length + 1 ≤ p' ∧ I2' 0 45 = I2 0 45 ∧ I1' 11 9 = I1 11 9 ∧ (c = 2 → k < W) ∧ (c = 4 → k < H)) ∨ DD d s0 f0 B1 B2 BJ I1' I2' J2') := by
  have hn := tk_n h.1
  obtain ⟨Ia, Ra, Sa, k1, k2, k3, k4, k5⟩ := ts_adv (D := D + 2) (D' := E + 1) (J1 := J1) h h0 (by omega)
  rcases k5 with ⟨p1, a1, t1, v1, l1, o1, ha, hp, -⟩ | ⟨hd, h8⟩
  · have hn1 := tk_n ha.1
    have h8 := ha.1.2.2.2.2.2.2.2.2.2.2.2.2.2.1
    have c6 : ∀ {T : Prop}, t1 = 3 → (lxl l1 → Ia 11 6 = nI (nmC l1) → Sa 0 7 = lN (nmR l1) → T) → T := fun e hh => by
      rcases ha.1.2.2.2.2.2.2.2.2.2.2.2.2.2.2.2.2 with ⟨q, -⟩ | ⟨q, -⟩ | ⟨q, -⟩ | ⟨-, -, -, -, w1, w2, w3, -⟩
      · omega
      · omega
      · omega
      · exact hh w1 w2 w3
    by_cases nm : t1 = 3 ∧ o1 = -1
    · -- a name
      refine c6 nm.1 fun w1 w2 w3 => ?_
      have hd := TS_d ha hS
      obtain ⟨s1, s2, s3, s4, s5, s6, s7, s8, s9, s10⟩ := hS
      have b15 : ∀ j, Ia 15 j = B1 15 j := fun j => ha.2.1 15 j (by omega) (by omega) (by omega)
      have b16 : ∀ j, Ia 16 j = B1 16 j := fun j => ha.2.1 16 j (by omega) (by omega) (by omega)
      have r2 : Ra 2 d = B2 2 d := ha.2.2.1 2 d (by omega) (by omega) (by omega)
      have r6 : Ra 6 d = B2 6 d := ha.2.2.1 6 d (by omega) (by omega) (by omega)
      have j8 : ∀ j, Sa 8 j = BJ 8 j := fun j => ha.2.2.2.1 8 j (by omega)
      have j17 : ∀ j, Sa 17 j = BJ 17 j := fun j => ha.2.2.2.1 17 j (by omega)
      -- both find the same
      have fb : ∃ r, C1 (D + 4) 150 [.ref 14, .int (nI i), .int (nI (nmC l1))] Ia J1 (.int r) Ia J1 ∧ (c = 2 → C2 (E + 3) 24 [.ref 0, .int (nI d), .long (lN (nmR l1))] Ra Sa (.int r) Ra Sa) ∧ (c = 4 → C2 (E + 3) 26 [.ref 0, .int (nI d), .long (lN (nmR l1))] Ra Sa (.int r) Ra Sa) ∧ (r = -1 ∨ ∃ k, r = nI k ∧ k < 40 ∧ (c = 2 → k < W) ∧ (c = 4 → k < H)) := by
        rcases hc with ⟨rfl, rfl⟩ | ⟨rfl, rfl⟩
        · obtain ⟨r, Ic, Jc, f1, f2, rfl, rfl⟩ := c_find (D := D + 3) (I := Ia) (J := J1) (i := 0) (y := nmC l1) (by decide) (by decide) (by decide) (by rw [b15]; exact s4) (by omega)
          obtain ⟨rr, Id, Jd, g1, g2, rfl, rfl⟩ := r_fnd24 (D := E + 2) (I := Ra) (J := Sa) (y := lN (nmR l1)) s1 (by rw [r2]; exact s6) s2
          have e : r = rr := find_eq (f := fun j => Ic 16 (40 * 0 + j)) w1 (by omega) (fun j hj => by
            show nmq (Ic 16 (40 * 0 + j)) (Jd 8 (4 * d + j))
            rw [show 40 * 0 + j = j by omega, b16, j8]
            exact s9 j hj) f2 g2
          subst e
          refine ⟨r, f1, fun _ => g1, fun z => by omega, ?_⟩
          rcases f2 with ⟨z, -⟩ | ⟨k, z1, z2, -⟩
          · exact Or.inl z
          · exact Or.inr ⟨k, z2, by omega, fun _ => z1, fun z => by omega⟩
        · obtain ⟨r, Ic, Jc, f1, f2, rfl, rfl⟩ := c_find (D := D + 3) (I := Ia) (J := J1) (i := 4) (y := nmC l1) (by decide) (by decide) (by decide) (by rw [b15]; exact s5) (by omega)
          obtain ⟨rr, Id, Jd, g1, g2, rfl, rfl⟩ := r_fnd26 (D := E + 2) (I := Ra) (J := Sa) (y := lN (nmR l1)) s1 (by rw [r6]; exact s7) s3
          have e : r = rr := find_eq (f := fun j => Ic 16 (40 * 4 + j)) w1 (by omega) (fun j hj => by
            show nmq (Ic 16 (40 * 4 + j)) (Jd 17 (12 * d + j))
            rw [show 40 * 4 + j = 160 + j by omega, b16, j17]
            exact s10 j hj) f2 g2
          subst e
          refine ⟨r, f1, fun z => by omega, fun _ => g1, ?_⟩
          rcases f2 with ⟨z, -⟩ | ⟨k, z1, z2, -⟩
          · exact Or.inl z
          · exact Or.inr ⟨k, z2, by omega, fun z => by omega, fun _ => z1⟩
      obtain ⟨r, f1, f2, f3, f4⟩ := fb
      have hS : stc d W H B1 B2 BJ := ⟨s1, s2, s3, s4, s5, s6, s7, s8, s9, s10⟩
      -- the reference up to the look up
      have r40 : ∀ {I' : (Nat → Nat → Int32)} {J' : (Nat → Nat → Int64)}, E2 40 (E + 3) (fun y => y = (.null, (I', J', mj_R2))) 83 [(0, .ref 0), (1, .int (nI c)), (2, .int r)] Ra Sa → C2 (E + 4) 40 [.ref 0, .int (nI c)] I2 J2 .null I' J' := fun {I' J'} hh => by
        refine mj_mk (e40 _ ?_)
        refine ⟨trivial, _, _, k2, ?_⟩
        rw [if_pos h8, if_pos ((rtk_eq (y := 1) ha.1 (k := 3) (by decide) (by decide) rfl).mpr nm.1)]
        refine ⟨trivial, _, _, _, wd_own ha.1 nm.1, if_tf (fun z => absurd nm.2 z) (fun _ => ?_)⟩
        refine mj_on (s40_39 _ ?_)
        rw [if_pos (by rw [h8]; decide), hd, w3]
        rcases hc with ⟨rfl, rfl⟩ | ⟨rfl, rfl⟩
        · rw [if_pos (by rfl)]
          exact ⟨trivial, _, _, _, f2 rfl, hh⟩
        · rw [if_neg (by decide)]
          exact ⟨trivial, _, _, _, f3 rfl, hh⟩
      rcases f4 with rfl | ⟨k, rfl, kb, kW, kH⟩
      · -- unknown
        obtain ⟨Ib, Rb, m1, m2, m3, m4, m5, m6, m7⟩ := ts_bl (D := D + 3) (D' := E + 2) (J1 := J1) (k := 3) ha (by decide) (by decide) (by omega)
        obtain ⟨Ic, n1, n2⟩ := d_add (D := D + 3) (J1 := J1) (y := nI (opc c)) (z := -1) m3
        refine ⟨Ia, -1, Ib, Ic, Rb, Sa, k1, mj_mk (e153 _ _ ?_), n1, r40 ?_, Or.inr n2⟩
        · refine ⟨trivial, _, _, _, nm_c ha.1, if_tf (fun _ => ?_) (fun z => absurd nm z)⟩
          rw [w2]
          refine ⟨trivial, _, _, _, f1, ?_⟩
          rw [if_pos rfl]
          exact ⟨trivial, _, _, m1, rfl⟩
        · refine mj_on (s40_83 _ _ ?_)
          rw [if_pos h8, if_pos rfl]
          refine ⟨trivial, _, _, m2, ?_⟩
          refine mj_on (s40_104 _ _ ?_)
          rw [if_neg (DD_8 m3).2]
      · -- known
        obtain ⟨Rb, m1, m2, m3⟩ := ts_addR (D := E + 2) (c := c) (y := k) hS ha (by omega)
        obtain ⟨Ib, Rc, Sc, n1, n2, n3, n4, n5⟩ := ts_adv (D := D + 1) (D' := E + 1) (J1 := J1) m2 (by omega) (by omega)
        have kne : ¬ nI k = -1 := by
          intro z
          have z := congrArg Int32.toInt z
          rw [nI_toInt (by omega)] at z
          have : (-1 : Int32).toInt = -1 := by decide
          omega
        have c153 : C1 (D + 5) 153 [.ref 11, .int (nI i), .int (-1)] Ia J1 (.int (nI k)) Ib J1 := by
          refine mj_mk (e153 _ _ ?_)
          refine ⟨trivial, _, _, _, nm_c ha.1, if_tf (fun _ => ?_) (fun z => absurd nm z)⟩
          rw [w2]
          refine ⟨trivial, _, _, _, f1, ?_⟩
          rw [if_neg kne, if_neg kne]
          exact ⟨trivial, _, _, n1, rfl⟩
        have r104 : C2 (E + 4) 40 [.ref 0, .int (nI c)] I2 J2 .null Rc Sc := r40 (by
          refine mj_on (s40_83 _ _ ?_)
          rw [if_pos h8, if_neg kne]
          refine mj_on (s40_104 _ _ ?_)
          rw [if_pos (by rw [h8]; decide)]
          exact ⟨trivial, _, _, m1, trivial, _, _, n2, rfl⟩)
        rcases n5 with ⟨p2, a2, t2, v2, l2, o2, hb, hp2, -⟩ | ⟨hb, -⟩
        · have hn2 := tk_n hb.1
          obtain ⟨Ic, g1, g2, g3⟩ := ts_addC (D := D + 3) (J1 := J1) (c := c) (y := k) hb (by omega) (by omega)
          exact ⟨Ia, _, Ib, Ic, Rc, Sc, k1, c153, g1, r104, Or.inl ⟨k, p2, a2, t2, v2, l2, o2, g2, by omega, by omega, by rw [n3, m3, k3], by rw [g3, n4, k4], kW, kH⟩⟩
        · obtain ⟨Ic, g1, g2⟩ := d_add (D := D + 3) (J1 := J1) (y := nI (opc c)) (z := nI k) hb
          exact ⟨Ia, _, Ib, Ic, Rc, Sc, k1, c153, g1, r104, Or.inr g2⟩
    · -- no name
      obtain ⟨Ib, Rb, m1, m2, m3, m4, m5, m6, m7⟩ := ts_bl (D := D + 3) (D' := E + 2) (J1 := J1) (k := 1) ha (by decide) (by decide) (by omega)
      obtain ⟨Ic, n1, n2⟩ := d_add (D := D + 3) (J1 := J1) (y := nI (opc c)) (z := -1) m3
      have fin : E2 40 (E + 3) (fun y => y = (.null, (Rb, Sa, mj_R2))) 39 [(0, .ref 0), (1, .int (nI c))] Rb Sa := by
        refine mj_on (s40_39 _ ?_)
        rw [if_neg (DD_8 m3).2]
        refine mj_on (s40_83 _ _ ?_)
        rw [if_neg (DD_8 m3).1]
        refine mj_on (s40_104 _ _ ?_)
        rw [if_neg (DD_8 m3).2]
      refine ⟨Ia, -1, Ib, Ic, Rb, Sa, k1, mj_mk (e153 _ _ ?_), n1, mj_mk (e40 _ ?_), Or.inr n2⟩
      · refine ⟨trivial, _, _, _, nm_c ha.1, if_tf (fun z => absurd z nm) (fun _ => ⟨trivial, _, _, m1, rfl⟩)⟩
      · refine ⟨trivial, _, _, k2, ?_⟩
        rw [if_pos h8]
        by_cases e : t1 = 3
        · rw [if_pos ((rtk_eq (y := 1) ha.1 (k := 3) (by decide) (by decide) rfl).mpr e)]
          refine ⟨trivial, _, _, _, wd_own ha.1 e, if_tf (fun _ => ?_) (fun z => absurd ⟨e, Classical.byContradiction z⟩ nm)⟩
          exact ⟨trivial, _, _, m2, fin⟩
        · rw [if_neg (fun z => e ((rtk_eq (y := 1) ha.1 (k := 3) (by decide) (by decide) rfl).mp z))]
          exact ⟨trivial, _, _, m2, fin⟩
  · obtain ⟨Ib, m1, m2⟩ := d_ask (D := D + 3) (J1 := J1) (c := nI i) (e := -1) hd
    obtain ⟨Ic, n1, n2⟩ := d_add (D := D + 3) (J1 := J1) (y := nI (opc c)) (z := -1) m2
    refine ⟨Ia, -1, Ib, Ic, Ra, Sa, k1, m1, n1, mj_mk (e40 _ ?_), Or.inr n2⟩
    refine ⟨trivial, _, _, k2, ?_⟩
    rw [if_neg (DD_8 hd).1]
    refine mj_on (s40_39 _ ?_)
    rw [if_neg (DD_8 hd).2]
    refine mj_on (s40_83 _ _ ?_)
    rw [if_neg (DD_8 hd).1]
    refine mj_on (s40_104 _ _ ?_)
    rw [if_neg (DD_8 hd).2]
/-- a bracket that opens, on both sides -/
theorem r_push {f M k : Nat} (h41 : I2 0 41 = nI f) (h44 : I2 0 44 = nI M) (hf : f < 20) : C2 (D + 1) 34 [.ref 0, .int (nI k)] I2 J2 .null (mj_up (mj_up (mj_up (mj_up (mj_up I2 23 f (nI k)) 24 f 0) 25 f 1) 27 f (nI M)) 0 41 (nI (f + 1))) J2 := by
  refine mj_mk (e34 _ ?_)
  have vp : vp_in (nI f) 20 := vp_in_nI hf (by decide)
  rw [h41, nI_clamp (by omega), h44]
  refine ⟨vp, vp, vp, vp, ?_⟩
  refine mj_on (s34_43 ?_)
  rw [up_n (by omega), up_n (by omega), up_n (by omega), up_n (by omega), h41, nI_1]
  rfl
theorem ts_open {c k : Nat} (hk : k ≤ 5) (hc : c < 256) (h : TS n x d s0 f0 B1 B2 BJ op kd ph bs bg K L A1 A2 p a t v l o I1 I2 J2) (h1 : t = 1) (hv : v = c) (h9 : I1 11 9 = nI op) (q1 : s0 + A1.length ≤ p) (hM : bs + K.length < 500) : ∃ r I1' I2' J2', C1 (D + 4) 161 [.ref 11, .int (nI c)] I1 J1 (.int r) I1' J1 ∧ C2 (E + 4) 38 [.ref 0, .int (nI k)] I2 J2 .null I2' J2' ∧ ((r = 0 ∧ DD d s0 f0 B1 B2 BJ I1' I2' J2') ∨ (r = 1 ∧ DD d s0 f0 B1 B2 BJ I1' I2' J2') ∨ (r = 1 ∧ op < 8 ∧ I2' 0 45 = I2 0 45 ∧ I1' 11 9 = nI (op + 1) ∧ (∀ q, 23 ≤ q → q ≤ 27 → ∀ i, i < op + 1 → I2' q i = I2 q i) ∧ (∀ i, I2' 28 i = I2 28 i) ∧ ∃ p' a' t' v' l' o', TS n x d s0 f0 B1 B2 BJ (op + 1) k 0 (bs + K.length) 1 [] I2' A1 A2 p' a' t' v' l' o' I1' I2' J2' ∧ p < p')) := by
  have hn := tk_n h.1
  have h8 := h.1.2.2.2.2.2.2.2.2.2.2.2.2.2.1
  have h42 := h.2.2.2.2.1.2.2.2.2.2.1
  have hop := h.2.2.2.2.1.2.2.2.2.1
  by_cases e8 : op = 8
  · obtain ⟨Ib, Rb, m1, m2, m3, m4, m5, m6, m7⟩ := ts_bl (D := D + 2) (D' := E + 2) (J1 := J1) (k := 5) h (by decide) (by decide) (by omega)
    refine ⟨0, Ib, Rb, J2, mj_mk (e161 _ ?_), mj_mk (e38 _ ?_), Or.inl ⟨rfl, m3⟩⟩
    · refine ⟨trivial, _, _, _, sg_c h.1 hc, if_tf (fun _ => ?_) (fun z => absurd ⟨h1, hv⟩ z)⟩
      rw [h9, show (8 : Int32) = nI 8 from rfl]
      exact if_lt (by omega) (by decide) (fun z => absurd z (by omega)) (fun _ => ⟨trivial, _, _, m1, Or.inl rfl, rfl⟩)
    · rw [h42, if_pos (show nI op = 8 by rw [e8]; rfl)]
      refine ⟨trivial, _, _, m2, ?_⟩
      refine mj_on (s38_18 _ ?_)
      rw [if_neg (DD_8 m3).2]
  · -- what both do to their heaps first
    have hop8 : op < 8 := by omega
    obtain ⟨h1', h2, h3, h4, ⟨a1, a2, a3, a4, a5, a6, a7⟩, hF⟩ := id h
    -- next, from where neither has counted
    have hI : ∃ I1', C1 (D + 3) 139 [.ref 11] (mj_up I1 11 9 (nI (op + 1))) J1 .null I1' J1 ∧ ∃ Ra Sa, C2 (E + 3) 13 [.ref 0] (mj_up I2 0 42 (nI (op + 1))) J2 .null Ra Sa ∧ lxf (mj_up I1 11 9 (nI (op + 1))) I1' ∧ lxg (mj_up I2 0 42 (nI (op + 1))) Ra ∧ lxgJ J2 Sa ∧ ((∃ p' a' t' v' l' o', tkR n x p' a' t' v' l' o' I1' Ra Sa ∧ p < p' ∧ (t = 3 → p + l.length ≤ p')) ∨ ∃ p', tkD 1 p' I1' Ra) := by
      obtain ⟨x1, x2, x3, x4, x5, x6, x7, x8, x9⟩ := adv_ta (D := D) (D' := E + 1) (J1 := J1) (I1 := mj_up I1 11 9 (nI (op + 1))) (I2 := mj_up I2 0 42 (nI (op + 1))) (tkR_cg h1' (fun q j z => up_n (by omega)) (fun q j z => up_n (by omega)) rfl) (by omega)
      exact ⟨x1, x4, x2, x3, x5, x6, x7, x8, x9⟩
    obtain ⟨Ia, k1, Ra, Sa, k2, k4, k5, k6, k7⟩ := hI
    have fc : ∀ q j, (q ≠ 11 ∨ (j ≠ 4 ∧ j ≠ 5 ∧ j ≠ 6 ∧ j ≠ 7 ∧ j ≠ 8 ∧ j ≠ 9)) → Ia q j = I1 q j := fun q j z => by rw [k4 q j (by omega), up_n (by omega)]
    have fr : ∀ q j, (q ≠ 0 ∨ (j ≠ 3 ∧ j ≠ 4 ∧ j ≠ 5 ∧ j ≠ 6 ∧ j ≠ 8 ∧ j ≠ 9 ∧ j ≠ 42)) → Ra q j = I2 q j := fun q j z => by rw [k5 q j (by omega), up_n (by omega)]
    have a9 : Ia 11 9 = nI (op + 1) := by rw [k4 11 9 (by omega), up_s]
    have r42 : Ra 0 42 = nI (op + 1) := by rw [k5 0 42 (by omega), up_s]
    have r41 : Ra 0 41 = nI (op + 1) := by rw [fr 0 41 (by omega)]; exact hF.1
    have r44 : Ra 0 44 = nI (bs + K.length) := by rw [fr 0 44 (by omega)]; exact a7
    obtain ⟨Rb, hRb⟩ : ∃ Rb, Rb = mj_up (mj_up (mj_up (mj_up (mj_up Ra 23 (op + 1) (nI k)) 24 (op + 1) 0) 25 (op + 1) 1) 27 (op + 1) (nI (bs + K.length))) 0 41 (nI (op + 1 + 1)) := ⟨_, rfl⟩
    have c161 : C1 (D + 4) 161 [.ref 11, .int (nI c)] I1 J1 (.int 1) Ia J1 := by
      refine mj_mk (e161 _ ?_)
      refine ⟨trivial, _, _, _, sg_c h.1 hc, if_tf (fun _ => ?_) (fun z => absurd ⟨h1, hv⟩ z)⟩
      rw [h9, show (8 : Int32) = nI 8 from rfl, nI_1]
      exact if_lt (by omega) (by decide) (fun _ => ⟨trivial, _, _, k1, Or.inr rfl, rfl⟩) (fun z => absurd z (by omega))
    have r38 : C2 (E + 4) 38 [.ref 0, .int (nI k)] I2 J2 .null Rb Sa := by
      refine mj_mk (e38 _ ?_)
      rw [h42, if_neg (show ¬ nI op = 8 from fun z => e8 ((nI_eq (b := 8) (by omega) (by decide)).mp z))]
      refine mj_on (s38_18 _ ?_)
      rw [if_pos (by rw [h8]; decide), h42, nI_1]
      refine ⟨trivial, _, _, k2, trivial, _, _, r_push r41 r44 (by omega), ?_⟩
      rw [hRb]
    have fb : ∀ q j, (q < 23 ∨ 27 < q ∨ q = 26 ∨ j ≠ op + 1) → (q ≠ 0 ∨ j ≠ 41) → Rb q j = Ra q j := fun q j z1 z2 => by rw [hRb, up_n (by omega), up_n (by omega), up_n (by omega), up_n (by omega), up_n (by omega)]
    have t2 : tsC s0 B1 Ia := fun q j z1 z2 z3 => by rw [fc q j (by omega)]; exact h2 q j z1 z2 z3
    have t3 : tsR d f0 B2 Rb := fun q j z1 z2 z3 => by rw [fb q j (by omega) (by unfold tsl at z1; omega), fr q j (by unfold tsl at z1; omega)]; exact h3 q j z1 z2 z3
    have t4 : lxgJ BJ Sa := fun q j z => by rw [k6 q j z]; exact h4 q j z
    rcases k7 with ⟨p', a', t', v', l', o', w1, w2, -⟩ | ⟨p', w1⟩
    · refine ⟨1, Ia, Rb, Sa, c161, r38, Or.inr (Or.inr ⟨rfl, hop8, ?_, a9, fun q z1 z2 i hi => ?_, fun i => ?_, p', a', t', v', l', o', ⟨tkR_cg w1 (fun _ _ _ => rfl) (fun q j z => fb q j (by omega) (by omega)) rfl, t2, t3, t4, ⟨?_, fun k y z => ?_, ?_, fun k y z => ?_, by omega, ?_, ?_⟩, ⟨?_, ?_, ?_, ?_, ?_, fun i y z => ?_, fun _ _ _ _ _ => rfl, rfl, fun _ _ => rfl, hk, by decide, Or.inr rfl, fun c hc => ?_⟩⟩, w2⟩)⟩
      · rw [fb 0 45 (by omega) (by omega), fr 0 45 (by omega)]
      · rw [fb q i (by omega) (by omega), fr q i (by omega)]
      · rw [fb 28 i (by omega) (by omega), fr 28 i (by omega)]
      · rw [fc 14 9 (by omega)]; exact a1
      · rw [fc 22 _ (by omega)]; exact a2 k y z
      · rw [fb 0 34 (by omega) (by omega), fr 0 34 (by omega)]; exact a3
      · rw [fb 21 _ (by omega) (by omega), fr 21 _ (by omega), fb 22 _ (by omega) (by omega), fr 22 _ (by omega)]; exact a4 k y z
      · rw [fb 0 42 (by omega) (by omega)]; exact r42
      · rw [fb 0 44 (by omega) (by omega)]; exact r44
      · rw [hRb, up_s]
      · rw [hRb, up_n (by omega), up_n (by omega), up_n (by omega), up_n (by omega), up_s]
      · rw [hRb, up_n (by omega), up_n (by omega), up_n (by omega), up_s]; rfl
      · rw [hRb, up_n (by omega), up_n (by omega), up_s]
      · rw [hRb, up_n (by omega), up_s]
      · cases z
      · cases hc
    · have hd : DD d s0 f0 B1 B2 BJ Ia Ra Sa := ⟨⟨1, p', w1⟩, t2, fun q j z1 z2 z3 => by rw [fr q j (by unfold tsl at z1; omega)]; exact h3 q j z1 z2 z3, t4, _, Nat.le_add_right s0 A1.length, by omega, by rw [fc 14 9 (by omega)]; exact a1⟩
      refine ⟨1, Ia, Rb, Sa, c161, r38, Or.inr (Or.inl ⟨rfl, ?_⟩)⟩
      rw [hRb]
      exact DD_2x (DD_2x (DD_2x (DD_2x (DD_2x hd (by omega)) (by omega)) (by omega)) (by omega)) (by omega)
/-- the frame on top goes, the one below comes to light -/
theorem TS_pop {k f : Nat} {b : Int32} {L' I0 : (Nat → Nat → Int32)} (h : TS n x d s0 f0 B1 B2 BJ (op + 1) k f (bs + K.length) b [] L' A1 A2 p a t v l o I1 I2 J2) (hF : tsF op kd ph bs bg K L I0) (e1 : ∀ q, 23 ≤ q → q ≤ 27 → ∀ i, i < op + 1 → L' q i = I0 q i) (e2 : ∀ i, i < bs + K.length → L' 28 i = I0 28 i) : TS n x d s0 f0 B1 B2 BJ op kd ph bs bg K L A1 A2 p a t v l o I1 (mj_up (mj_up I2 0 41 (nI (op + 1))) 0 42 (nI op)) J2 := by
  obtain ⟨h1, h2, h3, h4, ⟨a1, a2, a3, a4, a5, a6, a7⟩, ⟨f1, f2, f3, f4, f5, f6, f7, f8, f9, f10, f11, f12, f13⟩⟩ := h
  obtain ⟨g1, g2, g3, g4, g5, g6, g7, g8, g9, g10⟩ := hF
  refine ⟨tkR_cg h1 (fun _ _ _ => rfl) (fun q j z => by rw [up_n (by omega), up_n (by omega)]) rfl, h2, fun q j z1 z2 z3 => ?_, h4, ⟨a1, a2, ?_, fun k y z => ?_, by omega, up_s, ?_⟩, ⟨?_, ?_, ?_, ?_, ?_, fun i y z => ?_, fun q q1 q2 i hi => ?_, ?_, fun i hi => ?_, g10⟩⟩
  · rw [up_n (by unfold tsl at z1; omega), up_n (by unfold tsl at z1; omega)]
    exact h3 q j z1 z2 z3
  · rw [up_n (by omega), up_n (by omega)]; exact a3
  · rw [up_n (by omega), up_n (by omega), up_n (by omega), up_n (by omega)]; exact a4 k y z
  · rw [up_n (by omega), up_n (by omega)]; exact a7
  · rw [up_n (by omega), up_s]
  · rw [up_n (by omega), up_n (by omega), f7 23 (by omega) (by omega) op (by omega), e1 23 (by omega) (by omega) op (by omega)]; exact g2
  · rw [up_n (by omega), up_n (by omega), f7 24 (by omega) (by omega) op (by omega), e1 24 (by omega) (by omega) op (by omega)]; exact g3
  · rw [up_n (by omega), up_n (by omega), f7 25 (by omega) (by omega) op (by omega), e1 25 (by omega) (by omega) op (by omega)]; exact g4
  · rw [up_n (by omega), up_n (by omega), f7 27 (by omega) (by omega) op (by omega), e1 27 (by omega) (by omega) op (by omega)]; exact g5
  · have hi : i < K.length := (List.getElem?_eq_some_iff.mp z).1
    rw [up_n (by omega), up_n (by omega), f9 _ (by omega), e2 _ (by omega)]; exact g6 i y z
  · rw [up_n (by omega), up_n (by omega), f7 q q1 q2 i (by omega), e1 q q1 q2 i (by omega)]; exact g7 q q1 q2 i hi
  · rw [up_n (by omega), up_n (by omega), f7 26 (by omega) (by omega) op (by omega), e1 26 (by omega) (by omega) op (by omega)]; exact g8
  · rw [up_n (by omega), up_n (by omega), f9 _ (by omega), e2 _ (by omega)]; exact g9 i hi
end Sa8d
end
