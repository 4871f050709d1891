/-! who, knot, grid -/
-- pasted: lN to 2^62 under >> and >>>
/-! ===== lN to 2^62 under >> and >>> ===== -/
theorem pf_lI {a : Nat} (h : a < 2 ^ 63) : (lN a).toInt = (a : Int) := lg_ofNat_toInt h
theorem pf_shr {a d : Nat} {D : Int64} (hD : (D.toBitVec.smod 64).toNat = d) (h : a < 2 ^ 62) : lN a >>> D = lN (a / 2 ^ d) := by
  have hd : a / 2 ^ d ≤ a := Nat.div_le_self _ _
  apply Int64.toInt_inj.mp
  have e : (lN a >>> D).toInt = (lN a).toInt >>> d := by
    rw [← hD]
    exact BitVec.toInt_sshiftRight ..
  rw [e, Int.shiftRight_eq_div_pow, pf_lI (by omega), pf_lI (by omega)]
  rfl
theorem pf_ushr {a d : Nat} {D : UInt64} (hD : D.toNat % 64 = d) (h : a < 2 ^ 62) : ((lN a).toUInt64 >>> D).toInt64 = lN (a / 2 ^ d) := by
  have hd : a / 2 ^ d ≤ a := Nat.div_le_self _ _
  have e : (lN a).toUInt64 >>> D = UInt64.ofNat (a / 2 ^ d) := UInt64.toNat_inj.mp (by
    rw [UInt64.toNat_shiftRight, hD, Nat.shiftRight_eq_div_pow, UInt64.toNat_ofNat']
    show (UInt64.ofNat a).toNat / 2 ^ d = _
    rw [UInt64.toNat_ofNat', Nat.mod_eq_of_lt (by omega), Nat.mod_eq_of_lt (by omega)])
  rw [e]
  rfl
theorem pf_andw (x : Int64) : ∃ m, m < 2 ^ 32 ∧ x &&& 4294967295 = lN m := ⟨x.toBitVec.toNat % 2 ^ 32, Nat.mod_lt _ (by decide), Int64.toBitVec_inj.mp (BitVec.eq_of_toNat_eq (by
  show (x.toBitVec &&& 4294967295#64).toNat = (BitVec.ofNat 64 (x.toBitVec.toNat % 2 ^ 32)).toNat
  rw [BitVec.toNat_and, show (4294967295#64).toNat = 2 ^ 32 - 1 from by decide, Nat.and_two_pow_sub_one_eq_mod, BitVec.toNat_ofNat]
  omega))⟩

section S57
variable {D b W Rn Kn Tn Hn Un g : Nat} {I I1 I2 : Nat → Nat → Int32} {J J1 J2 : Nat → Nat → Int64}
/-- both sides answer, each for itself -/
def AQ (z1 z2 : Nat) (as : List Value) (I1 : Nat → Nat → Int32) (J1 : Nat → Nat → Int64) (I2 : Nat → Nat → Int32) (J2 : Nat → Nat → Int64) (P : (Nat → Nat → Int32) → (Nat → Nat → Int64) → (Nat → Nat → Int32) → (Nat → Nat → Int64) → Prop) : Prop :=
  ∃ (r r2 : Int32) (f1 : Nat → Nat → Int32) (h1 : Nat → Nat → Int64) (f2 : Nat → Nat → Int32) (h2 : Nat → Nat → Int64), mj_Cl mj_S1 mj_CD 900 z1 (.ref 0 :: as) (I1, J1, mj_R1) (.int r, (f1, h1, mj_R1)) ∧ mj_Cl mj_S2 mj_CD 900 z2 (.ref 0 :: as) (I2, J2, mj_R2) (.int r2, (f2, h2, mj_R2)) ∧ P f1 h1 f2 h2
theorem AQ.same {z1 z2 : Nat} {as : List Value} {P : (Nat → Nat → Int32) → (Nat → Nat → Int64) → (Nat → Nat → Int32) → (Nat → Nat → Int64) → Prop} (h1 : ∃ r, mj_Cl mj_S1 mj_CD 900 z1 (.ref 0 :: as) (I1, J1, mj_R1) (.int r, (I1, J1, mj_R1))) (h2 : ∃ r, mj_Cl mj_S2 mj_CD 900 z2 (.ref 0 :: as) (I2, J2, mj_R2) (.int r, (I2, J2, mj_R2))) (hP : P I1 J1 I2 J2) : AQ z1 z2 as I1 J1 I2 J2 P := by
  obtain ⟨r, h1⟩ := h1
  obtain ⟨r2, h2⟩ := h2
  exact ⟨r, r2, I1, J1, I2, J2, h1, h2, hP⟩
theorem al_who {x : Int32} (h : Rl b W Rn Kn Tn Hn Un g I1 J1 I2 J2) : AQ 232 86 [.int x] I1 J1 I2 J2 (Rl b W Rn Kn Tn Hn Un g) := by
  obtain ⟨m, hm, f1, f2, f3, f4⟩ := h.fr
  rcases Classical.em (∃ j, j < m ∧ x = nI j) with p | p
  · obtain ⟨k, hk, rfl⟩ := p
    have hv : vp_in (nI k) 100 := vp_in_nI (by omega) (by decide)
    refine AQ.same ?_ ⟨I2 38 k, mj_mk (D := 899) (e86 _ ?_)⟩ h
    · by_cases e : I1 38 0 = 1
      · refine ⟨(J1 40 k &&& 15).toInt32, mj_mk (D := 899) (e232 _ ?_)⟩
        refine ⟨trivial, _, _, _, c_fthere f1 hm, if_tf (fun _ => ?_) (fun f => absurd ⟨k, hk, rfl⟩ f)⟩
        rw [if_pos e, nI_clamp (by omega)]
        exact ⟨hv, trivial, _, _, _, mj_mk (e233 _ rfl), rfl⟩
      · refine ⟨(J1 40 k).toInt32, mj_mk (D := 899) (e232 _ ?_)⟩
        refine ⟨trivial, _, _, _, c_fthere f1 hm, if_tf (fun _ => ?_) (fun f => absurd ⟨k, hk, rfl⟩ f)⟩
        rw [if_neg e, nI_clamp (by omega)]
        exact ⟨hv, rfl⟩
    · refine ⟨trivial, _, _, _, f2 898 J2 I2 _ rfl, if_tf (fun _ => ?_) (fun f => absurd ⟨k, hk, rfl⟩ f)⟩
      rw [nI_clamp (by omega)]
      exact ⟨hv, rfl⟩
  · refine AQ.same ⟨-1, mj_mk (D := 899) (e232 _ ?_)⟩ ⟨-1, mj_mk (D := 899) (e86 _ ?_)⟩ h
    · exact ⟨trivial, _, _, _, c_fthere f1 hm, if_tf (fun f => absurd f p) (fun _ => rfl)⟩
    · exact ⟨trivial, _, _, _, f2 898 J2 I2 _ rfl, if_tf (fun f => absurd f p) (fun _ => rfl)⟩
theorem al_knot {x y : Int32} (h : Rl b W Rn Kn Tn Hn Un g I1 J1 I2 J2) : AQ 234 87 [.int x, .int y] I1 J1 I2 J2 (Rl b W Rn Kn Tn Hn Un g) := by
  obtain ⟨m, hm, f1, f2, f3, f4⟩ := h.fr
  rcases Classical.em (∃ j, j < m ∧ x = nI j) with p | p
  · obtain ⟨k, hk, rfl⟩ := p
    have hv : vp_in (nI k) 100 := vp_in_nI (by omega) (by decide)
    refine AQ.same ?_ ?_ h
    · by_cases e : I1 38 0 = 1
      · by_cases c : y < 0
        · refine ⟨-1, mj_mk (D := 899) (e234 _ _ ?_)⟩
          refine ⟨trivial, _, _, _, c_fthere f1 hm, if_tf (fun _ => ?_) (fun f => absurd ⟨k, hk, rfl⟩ f)⟩
          rw [if_pos e, if_pos c]
        by_cases d : (J1 40 k &&& 15).toInt32 ≤ y
        · refine ⟨-1, mj_mk (D := 899) (e234 _ _ ?_)⟩
          refine ⟨trivial, _, _, _, c_fthere f1 hm, if_tf (fun _ => ?_) (fun f => absurd ⟨k, hk, rfl⟩ f)⟩
          rw [if_pos e, if_neg c, nI_clamp (by omega)]
          refine ⟨hv, trivial, _, _, _, mj_mk (e233 _ rfl), ?_⟩
          rw [if_pos d]
        · refine ⟨((J1 40 k >>> (((4 : Int32) * ((10 : Int32) - y)).toInt64 &&& 63)).toInt32 &&& (15 : Int32)), mj_mk (D := 899) (e234 _ _ ?_)⟩
          refine ⟨trivial, _, _, _, c_fthere f1 hm, if_tf (fun _ => ?_) (fun f => absurd ⟨k, hk, rfl⟩ f)⟩
          rw [if_pos e, if_neg c, nI_clamp (by omega)]
          refine ⟨hv, trivial, _, _, _, mj_mk (e233 _ rfl), ?_⟩
          rw [if_neg d]
          exact ⟨hv, trivial, _, _, _, mj_mk (e235 _ _ rfl), rfl⟩
      · refine ⟨-1, mj_mk (D := 899) (e234 _ _ ?_)⟩
        refine ⟨trivial, _, _, _, c_fthere f1 hm, if_tf (fun _ => ?_) (fun f => absurd ⟨k, hk, rfl⟩ f)⟩
        rw [if_neg e]
    · by_cases e : I2 0 59 = 1
      · rcases h.2.2.2.2.2.1 with ⟨q1, q2, q3⟩ | ⟨kd, n, h1, h2, h3, h4, h5, h6, h7, h8, h9⟩
        · rw [q2] at f1
          have := (nI_eq (by decide) (by omega)).mp f1
          omega
        obtain rfl : n = m := by
          rw [h4] at f1
          exact (nI_eq (by omega) (by omega)).mp f1
        have k1 : kd = 1 := by
          rw [h6] at e
          exact (nI_eq (b := 1) (by omega) (by decide)).mp e
        obtain ⟨l, hl, l5⟩ := h9 k1 k hk
        by_cases c : y < 0
        · refine ⟨-1, mj_mk (D := 899) (e87 _ _ ?_)⟩
          refine ⟨trivial, _, _, _, f2 898 J2 I2 _ rfl, if_tf (fun _ => ?_) (fun f => absurd ⟨k, hk, rfl⟩ f)⟩
          rw [if_pos e, if_pos c]
        by_cases d : nI l ≤ y
        · refine ⟨-1, mj_mk (D := 899) (e87 _ _ ?_)⟩
          refine ⟨trivial, _, _, _, f2 898 J2 I2 _ rfl, if_tf (fun _ => ?_) (fun f => absurd ⟨k, hk, rfl⟩ f)⟩
          rw [if_pos e, if_neg c, nI_clamp (by omega), l5, if_pos d]
          exact ⟨hv, rfl⟩
        · obtain ⟨i, hi, rfl⟩ : ∃ i, i < l ∧ y = nI i := by
            rcases pk_ix y (n := l) (by omega) with q | q | q
            · exact absurd q c
            · exact absurd q d
            · exact q
          refine ⟨I2 39 (10 * k + i), mj_mk (D := 899) (e87 _ _ ?_)⟩
          refine ⟨trivial, _, _, _, f2 898 J2 I2 _ rfl, if_tf (fun _ => ?_) (fun f => absurd ⟨k, hk, rfl⟩ f)⟩
          rw [if_pos e, if_neg c, nI_clamp (by omega), l5, if_neg d, show (10 : Int32) * nI k + nI i = nI (10 * k + i) by rw [show (10 : Int32) = nI 10 from rfl, pk_mul, nI_add], nI_clamp (by omega)]
          exact ⟨hv, vp_in_nI (by omega) (by decide), rfl⟩
      · refine ⟨-1, mj_mk (D := 899) (e87 _ _ ?_)⟩
        refine ⟨trivial, _, _, _, f2 898 J2 I2 _ rfl, if_tf (fun _ => ?_) (fun f => absurd ⟨k, hk, rfl⟩ f)⟩
        rw [if_neg e]
  · refine AQ.same ⟨-1, mj_mk (D := 899) (e234 _ _ ?_)⟩ ⟨-1, mj_mk (D := 899) (e87 _ _ ?_)⟩ h
    · exact ⟨trivial, _, _, _, c_fthere f1 hm, if_tf (fun f => absurd f p) (fun _ => rfl)⟩
    · exact ⟨trivial, _, _, _, f2 898 J2 I2 _ rfl, if_tf (fun f => absurd f p) (fun _ => rfl)⟩
end S57
