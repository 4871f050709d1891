/-! who, knot, grid -/
-- pasted: lN to 2^62 under >> and >>>
/-! ===== lN to 2^62 under >> and >>> ===== -/
theorem pf_lI {a : Nat} (h : a < 2 ^ 63) : (lN a).toInt = (a : Int) := lg_ofNat_toInt h
theorem pf_shr {a d : Nat} {D : Int64} (hD : (D.toBitVec.smod 64).toNat = d) (h : a < 2 ^ 62) : lN a >>> D = lN (a / 2 ^ d) := by
  have hd : a / 2 ^ d ≤ a := Nat.div_le_self _ _
  apply Int64.toInt_inj.mp
  have e : (lN a >>> D).toInt = (lN a).toInt >>> d := by
    rw [← hD]
    exact BitVec.toInt_sshiftRight ..
  rw [e, Int.shiftRight_eq_div_pow, pf_lI (by omega), pf_lI (by omega)]
  rfl
theorem pf_ushr {a d : Nat} {D : UInt64} (hD : D.toNat % 64 = d) (h : a < 2 ^ 62) : ((lN a).toUInt64 >>> D).toInt64 = lN (a / 2 ^ d) := by
  have hd : a / 2 ^ d ≤ a := Nat.div_le_self _ _
  have e : (lN a).toUInt64 >>> D = UInt64.ofNat (a / 2 ^ d) := UInt64.toNat_inj.mp (by
    rw [UInt64.toNat_shiftRight, hD, Nat.shiftRight_eq_div_pow, UInt64.toNat_ofNat']
    show (UInt64.ofNat a).toNat / 2 ^ d = _
    rw [UInt64.toNat_ofNat', Nat.mod_eq_of_lt (by omega), Nat.mod_eq_of_lt (by omega)])
  rw [e]
  rfl
theorem pf_andw (x : Int64) : ∃ m, m < 2 ^ 32 ∧ x &&& 4294967295 = lN m := ⟨x.toBitVec.toNat % 2 ^ 32, Nat.mod_lt _ (by decide), Int64.toBitVec_inj.mp (BitVec.eq_of_toNat_eq (by
  show (x.toBitVec &&& 4294967295#64).toNat = (BitVec.ofNat 64 (x.toBitVec.toNat % 2 ^ 32)).toNat
  rw [BitVec.toNat_and, show (4294967295#64).toNat = 2 ^ 32 - 1 from by decide, Nat.and_two_pow_sub_one_eq_mod, BitVec.toNat_ofNat]
  omega))⟩

theorem wayN_s : ∀ {l : List Nat} {s : Nat}, l.length ≤ s → wayN l s % 16 = 0
  | [], _, _ => rfl
  | x :: r, s, h => by
    rw [List.length_cons] at h
    have ih : wayN r (s - 1) % 16 = 0 := by
      cases r with
      | nil => rfl
      | cons y t => exact wayN_s (by omega)
    show (x * 2 ^ (4 * s) + wayN r (s - 1)) % 16 = 0
    obtain ⟨k, hk⟩ : ∃ k, s = k + 1 := ⟨s - 1, by omega⟩
    rw [hk, show 4 * (k + 1) = 4 * k + 4 by omega, Nat.pow_add, ← Nat.mul_assoc]
    rw [hk] at ih
    omega
theorem wayN_lt : ∀ {l : List Nat} {s : Nat}, l.length ≤ s → (∀ x ∈ l, x < 16) → wayN l s < 2 ^ (4 * s + 4)
  | [], s, _, _ => Nat.two_pow_pos _
  | x :: r, s, h, hx => by
    rw [List.length_cons] at h
    have h1 := hx x List.mem_cons_self
    obtain ⟨k, hk⟩ : ∃ k, s = k + 1 := ⟨s - 1, by omega⟩
    have ih : wayN r (s - 1) < 2 ^ (4 * (s - 1) + 4) := by
      exact wayN_lt (by omega) fun y hy => hx y (List.mem_cons_of_mem _ hy)
    show x * 2 ^ (4 * s) + wayN r (s - 1) < _
    have e1 : 4 * (s - 1) + 4 = 4 * s := by omega
    rw [e1] at ih
    have e2 : 2 ^ (4 * s + 4) = 16 * 2 ^ (4 * s) := by rw [Nat.pow_add, Nat.mul_comm]
    rw [e2]
    have : x * 2 ^ (4 * s) ≤ 15 * 2 ^ (4 * s) := Nat.mul_le_mul_right _ (by omega)
    omega
theorem wayN_at : ∀ {l : List Nat} {s i t : Nat}, l.length ≤ s → (∀ x ∈ l, x < 16) → i < l.length → t < 16 → (wayN l s + t) / 2 ^ (4 * (s - i)) % 16 = l.getD i 0
  | [], _, _, _, _, _, h, _ => absurd h (Nat.not_lt_zero _)
  | x :: r, s, 0, t, h, hx, _, ht => by
    rw [List.length_cons] at h
    have h1 := hx x List.mem_cons_self
    have hl := wayN_lt (l := r) (s := s - 1) (by omega) fun y hy => hx y (List.mem_cons_of_mem _ hy)
    have e1 : 4 * (s - 1) + 4 = 4 * s := by omega
    rw [e1] at hl
    have hm : wayN r (s - 1) % 16 = 0 := by
      cases r with
      | nil => rfl
      | cons y q =>
        refine wayN_s ?_
        rw [List.length_cons] at h ⊢
        omega
    have hm2 : 2 ^ (4 * s) % 16 = 0 := by
      obtain ⟨k, hk⟩ : ∃ k, s = k + 1 := ⟨s - 1, by omega⟩
      rw [hk, show 4 * (k + 1) = 4 * k + 4 by omega, Nat.pow_add]
      omega
    show (x * 2 ^ (4 * s) + wayN r (s - 1) + t) / 2 ^ (4 * (s - 0)) % 16 = x
    rw [Nat.sub_zero, Nat.add_assoc, Nat.mul_comm, Nat.mul_add_div (Nat.two_pow_pos _), Nat.div_eq_of_lt (by omega), Nat.add_zero, Nat.mod_eq_of_lt h1]
  | x :: r, s, i + 1, t, h, hx, hi, ht => by
    rw [List.length_cons] at h hi
    have ih := wayN_at (l := r) (s := s - 1) (i := i) (t := t) (by omega) (fun y hy => hx y (List.mem_cons_of_mem _ hy)) (by omega) ht
    show (x * 2 ^ (4 * s) + wayN r (s - 1) + t) / 2 ^ (4 * (s - (i + 1))) % 16 = r.getD i 0
    rw [← ih]
    have e0 : s - 1 - i = s - (i + 1) := by omega
    rw [e0]
    have e1 : 4 * s = 4 * (s - (i + 1)) + (4 * i + 4) := by omega
    rw [Nat.add_assoc]
    have e2 : x * 2 ^ (4 * s) = 2 ^ (4 * (s - (i + 1))) * (16 * (x * 2 ^ (4 * i))) := by
      rw [e1, Nat.pow_add, Nat.pow_add]
      have : (2 : Nat) ^ 4 = 16 := rfl
      rw [this]
      generalize 2 ^ (4 * (s - (i + 1))) = A
      generalize 2 ^ (4 * i) = B
      rw [Nat.mul_left_comm, ← Nat.mul_assoc x, Nat.mul_comm (x * B)]
    rw [e2, Nat.mul_add_div (Nat.two_pow_pos _), Nat.add_comm, Nat.add_mul_mod_self_left]
section S57
variable {D b W Rn Kn Tn Hn Un g : Nat} {I I1 I2 : Nat → Nat → Int32} {J J1 J2 : Nat → Nat → Int64}
theorem way_len {l : List Nat} (h1 : l.length ≤ 10) : (lN (wayN l 10 + l.length) &&& (15 : Int64)).toInt32 = nI l.length := by
  have h16 := wayN_s (l := l) (s := 10) h1
  obtain ⟨q, hq⟩ : ∃ q, wayN l 10 = 16 * q := ⟨wayN l 10 / 16, by omega⟩
  rw [hq, wb_mod, show (15 : Int64) = lN (2 ^ 4 - 1) from rfl, wb_mask (Nat.mod_lt _ (by decide)) (by decide), lN_i]
  congr 1
  omega
theorem way_at {l : List Nat} {i : Nat} (h1 : l.length ≤ 10) (hx : ∀ x ∈ l, x < 10) (hi : i < l.length) : (lN (wayN l 10 + l.length) >>> (((4 : Int32) * ((10 : Int32) - nI i)).toInt64 &&& 63)).toInt32 &&& (15 : Int32) = nI (l.getD i 0) := by
  have hl := wayN_lt (l := l) (s := 10) h1 fun x h => by have := hx x h; omega
  have e1 : (4 : Int32) * ((10 : Int32) - nI i) = nI (4 * (10 - i)) := by
    rw [show (10 : Int32) = nI 10 from rfl, pk_sub (by omega), show (4 : Int32) = nI 4 from rfl, pk_mul]
  have e2 : (((nI (4 * (10 - i))).toInt64 &&& 63).toBitVec.smod 64).toNat = 4 * (10 - i) := by
    rw [sh_sb _ (by omega), BitVec.toNat_ofNat, Nat.mod_eq_of_lt (by omega)]
  rw [e1, pf_shr e2 (by omega), lN_i, show (15 : Int32) = nI 15 from rfl, nx_and, show (15 : Nat) = 2 ^ 4 - 1 from rfl, Nat.and_two_pow_sub_one_eq_mod]
  congr 1
  exact wayN_at h1 (fun x h => by have := hx x h; omega) hi (by omega)
theorem al_who {x : Int32} (h : Rl b W Rn Kn Tn Hn Un g I1 J1 I2 J2) : AI 232 86 [.int x] I1 J1 I2 J2 (Rl b W Rn Kn Tn Hn Un g) := by
  obtain ⟨m, hm, f1, f2, f3, f4⟩ := h.fr
  rcases Classical.em (∃ j, j < m ∧ x = nI j) with p | p
  · obtain ⟨k, hk, rfl⟩ := p
    obtain ⟨f5, f6⟩ := f4 (by omega)
    have hv : vp_in (nI k) 100 := vp_in_nI (by omega) (by decide)
    rcases h.2.2.2.2.2.1 with ⟨q1, q2, q3⟩ | ⟨kd, n, h1, h2, h3, h4, h5, h6, h7, h8, h9⟩
    · rw [q2] at f1
      have := (nI_eq (by decide) (by omega)).mp f1
      omega
    obtain rfl : n = m := by
      rw [h4] at f1
      exact (nI_eq (by omega) (by omega)).mp f1
    have h10 := h9 k hk
    have rf : C2 900 86 [.ref 0, .int (nI k)] I2 J2 (.int (I2 38 k)) I2 J2 := by
      refine mj_mk (D := 899) (e86 _ ?_)
      refine ⟨trivial, _, _, _, f2 898 J2 I2 _ rfl, if_tf (fun _ => ?_) (fun f => absurd ⟨k, hk, rfl⟩ f)⟩
      rw [nI_clamp (by omega)]
      exact ⟨hv, rfl⟩
    refine AI.same (I2 38 k) (mj_mk (D := 899) (e232 _ ?_)) rf h
    refine ⟨trivial, _, _, _, c_fthere f1 hm, if_tf (fun _ => ?_) (fun f => absurd ⟨k, hk, rfl⟩ f)⟩
    rw [h3, nI_clamp (by omega)]
    refine if_eq (b := 1) (by omega) (by decide) (fun e => ?_) (fun e => ?_)
    · rw [if_pos e] at h10
      obtain ⟨l, l1, l2, l3, l4, l5, l6⟩ := h10
      refine ⟨hv, trivial, _, _, _, mj_mk (e233 _ rfl), ?_⟩
      rw [l4, way_len l2, l5]
    · rw [if_neg e] at h10
      obtain ⟨x, x1, x2, x3⟩ := h10
      refine ⟨hv, ?_⟩
      rw [x2, x3, lN_i]
  · refine AI.same (-1) (mj_mk (D := 899) (e232 _ ?_)) (mj_mk (D := 899) (e86 _ ?_)) h
    · exact ⟨trivial, _, _, _, c_fthere f1 hm, if_tf (fun f => absurd f p) (fun _ => rfl)⟩
    · exact ⟨trivial, _, _, _, f2 898 J2 I2 _ rfl, if_tf (fun f => absurd f p) (fun _ => rfl)⟩
theorem al_knot {x y : Int32} (h : Rl b W Rn Kn Tn Hn Un g I1 J1 I2 J2) : AI 234 87 [.int x, .int y] I1 J1 I2 J2 (Rl b W Rn Kn Tn Hn Un g) := by
  obtain ⟨m, hm, f1, f2, f3, f4⟩ := h.fr
  rcases Classical.em (∃ j, j < m ∧ x = nI j) with p | p
  · obtain ⟨k, hk, rfl⟩ := p
    obtain ⟨f5, f6⟩ := f4 (by omega)
    have hv : vp_in (nI k) 100 := vp_in_nI (by omega) (by decide)
    rcases h.2.2.2.2.2.1 with ⟨q1, q2, q3⟩ | ⟨kd, n, h1, h2, h3, h4, h5, h6, h7, h8, h9⟩
    · rw [q2] at f1
      have := (nI_eq (by decide) (by omega)).mp f1
      omega
    obtain rfl : n = m := by
      rw [h4] at f1
      exact (nI_eq (by omega) (by omega)).mp f1
    have h10 := h9 k hk
    by_cases e : kd = 1
    · rw [if_pos e] at h10
      obtain ⟨l, l1, l2, l3, l4, l5, l6⟩ := h10
      obtain ⟨v, hv1, hv2⟩ : ∃ v : Int32, (∀ i, i < l.length → y = nI i → v = nI (l.getD i 0)) ∧ ((∀ i, i < l.length → y ≠ nI i) → v = -1) := by
        rcases Classical.em (∃ i, i < l.length ∧ y = nI i) with ⟨i, hi, rfl⟩ | q
        · refine ⟨nI (l.getD i 0), fun j hj ej => ?_, fun q => absurd rfl (q i hi)⟩
          rw [(nI_eq (by omega) (by omega)).mp ej]
        · exact ⟨-1, fun i hi e => absurd ⟨i, hi, e⟩ q, fun _ => rfl⟩
      refine AI.same v (mj_mk (D := 899) (e234 _ _ ?_)) (mj_mk (D := 899) (e87 _ _ ?_)) h
      · refine ⟨trivial, _, _, _, c_fthere f1 hm, if_tf (fun _ => ?_) (fun f => absurd ⟨k, hk, rfl⟩ f)⟩
        rw [h3, nI_clamp (by omega)]
        refine if_eq (b := 1) (by omega) (by decide) (fun _ => ?_) (fun e2 => absurd e e2)
        have hlo : ∀ {A B : Prop}, ((∀ i, i < l.length → y ≠ nI i) → A) → (∀ i, i < l.length → y = nI i → B) → ((if y < 0 then A else (if nI l.length ≤ y then A else B))) := fun h1 h2 => if_rg (by omega) h2 h1
        refine if_i (fun c => ?_) (fun c => ⟨hv, trivial, _, _, _, mj_mk (e233 _ rfl), ?_⟩)
        · rw [hv2 fun i hi ei => by rw [ei] at c; exact nI_pos (by omega) c]
        · rw [l4, way_len l2]
          refine if_i (fun d => ?_) (fun d => ⟨hv, trivial, _, _, _, mj_mk (e235 _ _ rfl), ?_⟩)
          · rw [hv2 fun i hi ei => by rw [ei] at d; exact nI_ge hi (by omega) d]
          · rcases pk_ix y (n := l.length) (by omega) with q | q | ⟨i, hi, ei⟩
            · exact absurd q c
            · exact absurd q d
            · rw [hv1 i hi ei, ei, way_at l2 l3 hi]
      · refine ⟨trivial, _, _, _, f2 898 J2 I2 _ rfl, if_tf (fun _ => ?_) (fun f => absurd ⟨k, hk, rfl⟩ f)⟩
        rw [h6, nI_clamp (by omega)]
        refine if_eq (b := 1) (by omega) (by decide) (fun _ => ?_) (fun e2 => absurd e e2)
        refine if_i (fun c => ?_) (fun c => ⟨hv, ?_⟩)
        · rw [hv2 fun i hi ei => by rw [ei] at c; exact nI_pos (by omega) c]
        · rw [l5]
          refine if_i (fun d => ?_) (fun d => ?_)
          · rw [hv2 fun i hi ei => by rw [ei] at d; exact nI_ge hi (by omega) d]
          · rcases pk_ix y (n := l.length) (by omega) with q | q | ⟨i, hi, ei⟩
            · exact absurd q c
            · exact absurd q d
            · rw [hv1 i hi ei, ei, show (10 : Int32) * nI k + nI i = nI (10 * k + i) by rw [show (10 : Int32) = nI 10 from rfl, pk_mul, nI_add], nI_clamp (by omega), l6 i (l.getD i 0) (by rw [List.getD_eq_getElem?_getD, List.getElem?_eq_getElem hi]; rfl)]
              exact ⟨vp_in_nI (by omega) (by decide), rfl⟩
    · refine AI.same (-1) (mj_mk (D := 899) (e234 _ _ ?_)) (mj_mk (D := 899) (e87 _ _ ?_)) h
      · refine ⟨trivial, _, _, _, c_fthere f1 hm, if_tf (fun _ => ?_) (fun f => absurd ⟨k, hk, rfl⟩ f)⟩
        rw [h3]
        exact if_eq (b := 1) (by omega) (by decide) (fun e2 => absurd e2 e) (fun _ => rfl)
      · refine ⟨trivial, _, _, _, f2 898 J2 I2 _ rfl, if_tf (fun _ => ?_) (fun f => absurd ⟨k, hk, rfl⟩ f)⟩
        rw [h6]
        exact if_eq (b := 1) (by omega) (by decide) (fun e2 => absurd e2 e) (fun _ => rfl)
  · refine AI.same (-1) (mj_mk (D := 899) (e234 _ _ ?_)) (mj_mk (D := 899) (e87 _ _ ?_)) h
    · exact ⟨trivial, _, _, _, c_fthere f1 hm, if_tf (fun f => absurd f p) (fun _ => rfl)⟩
    · exact ⟨trivial, _, _, _, f2 898 J2 I2 _ rfl, if_tf (fun f => absurd f p) (fun _ => rfl)⟩
end S57
