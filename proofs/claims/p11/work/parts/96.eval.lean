/-! what a test comes to: kinds and bounds of what stands on the stack -/
section S96
variable {W H m : Nat} {hs : Nat → Nat}
def vok1 (t : Bool) (v : Int) : Prop := (t = true → v = 0 ∨ v = 1) ∧ -1000000000 ≤ v ∧ v ≤ 1000000000
def vok : List Bool → List Int → Prop
  | [], [] => True
  | t :: ts, v :: vs => vok1 t v ∧ vok ts vs
  | _, _ => False
theorem vok_len : ∀ {ts : List Bool} {vs : List Int}, vok ts vs → ts.length = vs.length
  | [], [], _ => rfl
  | _ :: ts, _ :: vs, h => by simp [vok_len h.2]
  | [], _ :: _, h => h.elim
  | _ :: _, [], h => h.elim
theorem vok_t {v : Int} {t : Bool} (h : v = 0 ∨ v = 1) : vok1 t v := ⟨fun _ => h, by omega, by omega⟩
theorem vok_f {v : Int} (h1 : -1000000000 ≤ v) (h2 : v ≤ 1000000000) : vok1 false v := ⟨fun q => (by cases q), h1, h2⟩
theorem bnd_ok (x : Int) : -1000000000 ≤ bnd x ∧ bnd x ≤ 1000000000 := by
  unfold bnd
  split
  · omega
  · split <;> omega
theorem tdiv_rng {a c : Int} (h1 : -1000000000 ≤ a) (h2 : a ≤ 1000000000) : -1000000000 ≤ a.tdiv c ∧ a.tdiv c ≤ 1000000000 := by
  have := Int.natAbs_tdiv_le_natAbs a c
  omega
/-- the greatest whole number not above, by the machine's division -/
theorem fd_t {a c : Int} (hc : c ≠ 0) : Int.fdiv a c = if a.tdiv c * c = a ∨ ((a < 0) ↔ (c < 0)) then a.tdiv c else a.tdiv c - 1 := by
  rw [Int.fdiv_eq_tdiv]
  have hd : c ∣ a ↔ a.tdiv c * c = a := ⟨fun h => Int.tdiv_mul_cancel h, fun h => ⟨a.tdiv c, by rw [Int.mul_comm, h]⟩⟩
  by_cases e : c ∣ a
  · rw [if_pos e, if_pos (Or.inl (hd.mp e)), Int.sub_zero]
  · have e2 : ¬ a.tdiv c * c = a := fun q => e (hd.mpr q)
    rw [if_neg e]
    by_cases ha : 0 ≤ a
    · rw [if_pos ha]
      by_cases hb : 0 ≤ c
      · rw [if_pos hb, if_pos (Or.inr ⟨fun q => absurd q (by omega), fun q => absurd q (by omega)⟩), Int.sub_zero]
      · rw [if_neg hb, if_neg (fun q => q.elim e2 fun q => by have := q.mpr (by omega); omega)]
    · rw [if_neg ha]
      by_cases hb : 0 ≤ c
      · rw [if_pos hb, if_neg (fun q => q.elim e2 fun q => by have := q.mp (by omega); omega), Int.sign_eq_one_of_pos (by omega)]
      · rw [if_neg hb, if_pos (Or.inr ⟨fun _ => by omega, fun _ => by omega⟩), Int.sign_eq_neg_one_of_neg (by omega)]
        omega
theorem fd_rng {a c : Int} (hc : c ≠ 0) (h1 : -1000000000 ≤ a) (h2 : a ≤ 1000000000) : -1000000000 ≤ Int.fdiv a c ∧ Int.fdiv a c ≤ 1000000000 := by
  have ht := tdiv_rng (c := c) h1 h2
  rw [fd_t hc]
  by_cases e : a.tdiv c * c = a ∨ ((a < 0) ↔ (c < 0))
  · rw [if_pos e]; exact ht
  · rw [if_neg e]
    refine ⟨?_, by omega⟩
    refine Classical.byContradiction fun q => ?_
    have hq : a.tdiv c = -1000000000 := by omega
    have hab := Int.natAbs_tdiv_le_natAbs a c
    have ha : a = -1000000000 ∨ a = 1000000000 := by omega
    have hmul : (a.tdiv c * c).natAbs ≤ a.natAbs := by
      rw [Int.natAbs_mul, Int.natAbs_tdiv]
      exact Nat.div_mul_le_self _ _
    rw [hq] at hmul
    have hc1 : c = 1 ∨ c = -1 := by omega
    rcases hc1 with rfl | rfl
    · exact e (Or.inl (by rw [Int.tdiv_one, Int.mul_one]))
    · refine e (Or.inl ?_)
      rw [hq]
      rw [Int.tdiv_neg, Int.tdiv_one] at hq
      omega
theorem twov_ok {op : Nat} {a c : Int} {t : Bool} (h1 : 5 ≤ op) (ha : vok1 t a) (hc : vok1 t c) : vok1 (decide (11 ≤ op)) (twov op a c) := by
  have b1 := bnd_ok (a + c)
  have b2 := bnd_ok (a - c)
  have b3 := bnd_ok (a * c)
  obtain ⟨-, a1, a2⟩ := ha
  obtain ⟨-, c1, c2⟩ := hc
  match op, h1 with
  | 5, _ => exact vok_f b1.1 b1.2
  | 6, _ => exact vok_f b2.1 b2.2
  | 7, _ => exact vok_f b3.1 b3.2
  | 8, _ =>
    show vok1 false (if c = 0 then 0 else Int.fdiv a c)
    split
    · exact vok_f (by omega) (by omega)
    · rename_i h
      have := fd_rng h a1 a2
      exact vok_f this.1 this.2
  | 9, _ =>
    show vok1 false (if a < c then a else c)
    split
    · exact vok_f a1 a2
    · exact vok_f c1 c2
  | 10, _ =>
    show vok1 false (if a < c then c else a)
    split
    · exact vok_f c1 c2
    · exact vok_f a1 a2
  | 11, _ =>
    show vok1 true (if a < c then 1 else 0)
    split <;> exact vok_t (by omega)
  | 12, _ =>
    show vok1 true (if c < a then 1 else 0)
    split <;> exact vok_t (by omega)
  | 13, _ =>
    show vok1 true (if a = c then 1 else 0)
    split <;> exact vok_t (by omega)
  | 14, _ =>
    show vok1 true (if a ≠ 0 ∧ c ≠ 0 then 1 else 0)
    split <;> exact vok_t (by omega)
  | n + 15, _ =>
    rw [decide_eq_true (by omega)]
    show vok1 true (if a ≠ 0 ∨ c ≠ 0 then 1 else 0)
    split <;> exact vok_t (by omega)
theorem tbit_01 (m k : Nat) : tbit m k = 0 ∨ tbit m k = 1 := by unfold tbit; omega
theorem leafv_ok {op v : Nat} (hh : ∀ w, w < W → hs w ≤ 200000) (h1 : op ≤ 4) (hc : (op = 0 → v ≤ 9999) ∧ (op = 2 → v < W) ∧ (op = 4 → v < H) ∧ (op = 1 ∨ op = 3 → v = 0)) : vok1 (decide (3 ≤ op)) (leafv hs m op v) := by
  obtain ⟨q1, q2, q3, q4⟩ := hc
  match op, h1 with
  | 0, _ => exact vok_f (by show -1000000000 ≤ (v : Int); omega) (by show (v : Int) ≤ 1000000000; have := q1 rfl; omega)
  | 1, _ =>
    have := pcn_le 12 m
    exact vok_f (by show -1000000000 ≤ (pcn 12 m : Int); omega) (by show (pcn 12 m : Int) ≤ 1000000000; omega)
  | 2, _ =>
    have := hh v (q2 rfl)
    exact vok_f (by show -1000000000 ≤ (hs v : Int); omega) (by show (hs v : Int) ≤ 1000000000; omega)
  | 3, _ => exact vok_t (Or.inr rfl)
  | 4, _ =>
    refine vok_t ?_
    show ((tbit m v : Nat) : Int) = 0 ∨ ((tbit m v : Nat) : Int) = 1
    rcases tbit_01 m v with e | e <;> rw [e] <;> simp
/-- what a step does, by its kind -/
theorem tys1_inv {c : Nat × Nat} {st st' : List Bool} (h : tys1 W H c st = some st') :
    (c.1 ≤ 4 ∧ ((c.1 = 0 → c.2 ≤ 9999) ∧ (c.1 = 2 → c.2 < W) ∧ (c.1 = 4 → c.2 < H) ∧ (c.1 = 1 ∨ c.1 = 3 → c.2 = 0)) ∧ st' = decide (3 ≤ c.1) :: st) ∨
    (c.1 = 16 ∧ c.2 = 0 ∧ ∃ r, st = true :: r ∧ st' = true :: r) ∨
    (5 ≤ c.1 ∧ c.1 ≤ 15 ∧ c.2 = 0 ∧ ∃ r, st = decide (14 ≤ c.1) :: decide (14 ≤ c.1) :: r ∧ st' = decide (11 ≤ c.1) :: r) := by
  unfold tys1 at h
  split at h
  · rename_i h1
    split at h
    · rename_i h2
      cases h
      exact Or.inl ⟨h1, h2, rfl⟩
    · cases h
  · rename_i h1
    split at h
    · cases h
    · rename_i h2
      have h2 : c.2 = 0 := by simpa using h2
      split at h
      · rename_i h3
        split at h
        · cases h
          exact Or.inr (Or.inl ⟨h3, h2, _, rfl, rfl⟩)
        · cases h
      · rename_i h3
        split at h
        · rename_i h4
          split at h
          · cases h
            refine Or.inr (Or.inr ⟨by omega, by omega, h2, _, ?_, rfl⟩)
            rw [decide_eq_false (by omega)]
          · cases h
        · rename_i h4
          split at h
          · rename_i h5
            split at h
            · rename_i r6
              cases h
              refine Or.inr (Or.inr ⟨by omega, by omega, h2, r6, ?_, ?_⟩)
              · rw [decide_eq_true (by omega)]
              · rw [decide_eq_true (by omega)]
            · cases h
          · cases h
theorem tys1_ok {c : Nat × Nat} {st st' : List Bool} {vs : List Int} (hh : ∀ w, w < W → hs w ≤ 200000) (h : tys1 W H c st = some st') (hv : vok st vs) : vok st' (ev1 hs m vs c) := by
  rcases tys1_inv h with ⟨h1, h2, rfl⟩ | ⟨h1, h2, r, rfl, rfl⟩ | ⟨h1, h2, h3, r, rfl, rfl⟩
  · unfold ev1
    rw [if_pos h1]
    exact ⟨leafv_ok hh h1 h2, hv⟩
  · unfold ev1
    rw [if_neg (by omega), if_pos h1]
    match vs, hv with
    | v :: vs, hv =>
      refine ⟨vok_t ?_, hv.2⟩
      have := hv.1.1 rfl
      omega
  · unfold ev1
    rw [if_neg (by omega), if_neg (by omega)]
    match vs, hv with
    | y :: x :: vs, hv => exact ⟨twov_ok h1 hv.2.1 hv.1, hv.2.2⟩
    | [_], hv => exact hv.2.elim
theorem tyc_cons {M : Nat} {c : Nat × Nat} {r : List (Nat × Nat)} {st s2 : List Bool} (h : tyc M W H (c :: r) st = some s2) : ∃ st', tys1 W H c st = some st' ∧ st'.length ≤ M ∧ tyc M W H r st' = some s2 := by
  unfold tyc at h
  split at h
  · rename_i st' e
    split at h
    · rename_i h2
      exact ⟨st', e, h2, h⟩
    · cases h
  · cases h
theorem ev_cons {c : Nat × Nat} {r : List (Nat × Nat)} {st : List Int} : ev hs m (c :: r) st = ev hs m r (ev1 hs m st c) := rfl
theorem tyc_ok {M : Nat} (hh : ∀ w, w < W → hs w ≤ 200000) : ∀ {a : List (Nat × Nat)} {st s2 : List Bool} {vs : List Int}, tyc M W H a st = some s2 → vok st vs → vok s2 (ev hs m a vs)
  | [], st, s2, vs, h, hv => by
    unfold tyc at h
    cases h
    exact hv
  | c :: r, st, s2, vs, h, hv => by
    obtain ⟨st', h1, h2, h3⟩ := tyc_cons h
    rw [ev_cons]
    exact tyc_ok hh h3 (tys1_ok hh h1 hv)
theorem vok_one {vs : List Int} (h : vok [true] vs) : ∃ v, vs = [v] ∧ (v = 0 ∨ v = 1) := by
  match vs, h with
  | [v], h => exact ⟨v, rfl, h.1.1 rfl⟩
  | [], h => exact h.elim
  | _ :: _ :: _, h => exact h.2.elim
end S96
