/-! the heap sort -/
theorem imP_ext {f g : Nat → Nat} {n N : Nat} (h : imP f g n) (e : ∀ i, n ≤ i → f i = g i) (hn : n ≤ N) : imP f g N := fun x => by
  constructor
  · rintro ⟨i, hi, q⟩
    by_cases c : i < n
    · obtain ⟨k, hk, z⟩ := (h x).mp ⟨i, c, q⟩
      exact ⟨k, by omega, z⟩
    · exact ⟨i, hi, by rw [← e i (by omega)]; exact q⟩
  · rintro ⟨i, hi, q⟩
    by_cases c : i < n
    · obtain ⟨k, hk, z⟩ := (h x).mpr ⟨i, c, q⟩
      exact ⟨k, by omega, z⟩
    · exact ⟨i, hi, by rw [e i (by omega)]; exact q⟩
theorem hp_top {W : Nat} {P : Nat → Nat → Int32} {K : Nat → Nat} {f : Nat → Nat} {n : Nat} (h : hpP W P K f 0 n) : ∀ k, k < n → ¬ ah W P K (f 0) (f k) := by
  intro k
  induction k using Nat.strongRecOn with
  | _ k ih =>
    intro hk
    by_cases e : k = 0
    · rw [e]; exact fun q => ah_as q q
    · have hc : chd ((k - 1) / 2) k := by unfold chd; omega
      exact ah_nt (ih ((k - 1) / 2) (by omega) (by omega)) (h _ k (Nat.zero_le _) hc hk)
section S81
variable {D W N : Nat} {P : Nat → Nat → Int32} {K : Nat → Nat} {I : Nat → Nat → Int32} {J : Nat → Nat → Int64}
def srt (W : Nat) (P : Nat → Nat → Int32) (K : Nat → Nat) (N : Nat) (f : Nat → Nat) : Prop := (∀ i j, i < j → j < N → ¬ ah W P K (f j) (f i)) ∧ ∀ x, x < N → ∃ i, i < N ∧ f i = x
theorem c_plSort (h : plP W N P K I J) (ho : odP N (fun i => i) I) : ∃ I' f, C1 (D + 3) 214 [.ref 29] I J .null I' J ∧ (∀ q, q ≠ 32 → I' q = I q) ∧ odP N f I' ∧ srt W P K N f := by
  have hN := h.2.2.1
  have h1 := h.1
  suffices hs : ∃ I' J', C1 (D + 3) 214 [.ref 29] I J .null I' J' ∧ (J' = J ∧ (∀ q, q ≠ 32 → I' q = I q) ∧ ∃ f, odP N f I' ∧ srt W P K N f) by
    obtain ⟨I', J', q1, rfl, q3, f, q4⟩ := hs
    exact ⟨I', f, q1, q3, q4⟩
  refine mj_cN (e214 ?_)
  obtain ⟨Q, hQ⟩ : ∃ Q, Q = qN mj_R1 (fun I' J' => J' = J ∧ (∀ q, q ≠ 32 → I' q = I q) ∧ ∃ f, odP N f I' ∧ srt W P K N f) := ⟨_, rfl⟩
  rw [← hQ]
  refine ⟨by decide, ?_⟩
  rw [h1, show (2 : Int32) = nI 2 from rfl, nI_div (by omega) (by decide)]
  -- the second part
  have two : ∀ e I' f, e ≤ N → (N = 0 ∨ 1 ≤ e) → (∀ q, q ≠ 32 → I' q = I q) → odP N f I' → imP f (fun i => i) N → hpP W P K f 0 e → (∀ i j, i < e → e ≤ j → j < N → ¬ ah W P K (f j) (f i)) → (∀ i j, e ≤ i → i < j → j < N → ¬ ah W P K (f j) (f i)) → E1 214 (D + 2) Q 35 [(0, .ref 29), (1, .int (nI e - 1))] I' J := by
    intro e
    induction e with
    | zero =>
      intro I' f a1 a2 a3 a4 a5 a6 a7 a8
      refine mj_on (s214_35 _ ?_)
      rw [if_pos (by decide), hQ]
      refine ⟨_, _, rfl, rfl, a3, f, a4, fun i j i1 i2 => by omega, fun x hx => by omega⟩
    | succ e ih =>
      intro I' f a1 a2 a3 a4 a5 a6 a7 a8
      refine mj_on (s214_35 _ ?_)
      rw [n1_sub]
      refine if_le (b := 0) (by omega) (by decide) (fun c => ?_) (fun c => ?_)
      · rw [hQ]
        refine ⟨_, _, rfl, rfl, a3, f, a4, fun i j i1 i2 => ?_, fun x hx => (a5 x).mpr ⟨x, hx, rfl⟩⟩
        by_cases z : i < e + 1
        · exact a7 i j z (by omega) i2
        · exact a8 i j (by omega) i1 i2
      · obtain ⟨I1, hc1, u1, u2⟩ := c_plSwap (D := D + 1) (J := J) (a := 0) (c := e) hN a4 (by omega) (by omega)
        have hpl1 : plP W N P K I1 J := plP_up (plP_up h a3) u1
        have s0 : ∀ i, i ≠ 0 → i ≠ e → swp f 0 e i = f i := fun i i1 i2 => by unfold swp; rw [if_neg i2, if_neg i1]
        have se : swp f 0 e e = f 0 := by unfold swp; rw [if_pos rfl]
        obtain ⟨I2, J2, f2, hc2, rfl, v1, v2, v3, v4, v5⟩ := c_sink (D := D) (i0 := 0) (n := e) hpl1 u2 (by omega) c (fun i k k1 k2 k3 => by
          rw [s0 i (by omega) (by unfold chd at k2; omega), s0 k (by unfold chd at k2; omega) (by omega)]
          exact a6 i k (Nat.zero_le _) k2 (by omega))
        refine ⟨trivial, _, _, hc1, trivial, _, _, hc2, ?_⟩
        rw [nI_m1]
        have im : imP f2 f (e + 1) := imP_tr (imP_ext v4 v5 (by omega)) (imP_swp (by omega) (by omega))
        have top := hp_top a6
        have inI : ∀ i, i < e → ∃ k, k < e + 1 ∧ f2 i = f k := fun i hi => by
          obtain ⟨k, k1, k2⟩ := (im (f2 i)).mp ⟨i, by omega, rfl⟩
          exact ⟨k, k1, k2.symm⟩
        have f2e : f2 e = f 0 := by rw [v5 e (Nat.le_refl _), se]
        have f2o : ∀ j, e < j → f2 j = f j := fun j hj => by rw [v5 j (by omega), s0 j (by omega) (by omega)]
        refine ih I2 f2 (by omega) (Or.inr (by omega)) (fun q hq => by rw [v1 q hq, u1 q hq]; exact a3 q hq) v2 (imP_tr (imP_ext im (fun i hi => f2o i (by omega)) a1) a5) v3 (fun i j i1 i2 i3 => ?_) (fun i j i1 i2 i3 => ?_)
        · obtain ⟨k, k1, k2⟩ := inI i i1
          rw [k2]
          by_cases z : j = e
          · rw [z, f2e]; exact top k k1
          · rw [f2o j (by omega)]; exact a7 k j k1 (by omega) i3
        · by_cases z : i = e
          · rw [z, f2e, f2o j (by omega)]
            exact a7 0 j (by omega) (by omega) i3
          · rw [f2o i (by omega), f2o j (by omega)]
            exact a8 i j (by omega) i2 i3
  -- the first part
  have one : ∀ k I' f, k ≤ N / 2 → (∀ q, q ≠ 32 → I' q = I q) → odP N f I' → imP f (fun i => i) N → hpP W P K f k N → E1 214 (D + 2) Q 9 [(0, .ref 29), (1, .int (nI k - 1))] I' J := by
    intro k
    induction k with
    | zero =>
      intro I' f a1 a2 a3 a4 a5
      refine mj_on (s214_9 _ ?_)
      rw [if_pos (by decide), a2 29 (by decide), h1]
      exact two N I' f (Nat.le_refl _) (by omega) a2 a3 a4 a5 (fun i j _ h2 h3 => by omega) (fun i j h1 h2 h3 => by omega)
    | succ k ih =>
      intro I' f a1 a2 a3 a4 a5
      refine mj_on (s214_9 _ ?_)
      rw [n1_sub, if_neg (nI_pos (by omega)), a2 29 (by decide), h1]
      obtain ⟨I2, J2, f2, hc2, rfl, v1, v2, v3, v4, v5⟩ := c_sink (D := D) (i0 := k) (n := N) (plP_up h a2) a3 (Nat.le_refl _) (by omega) a5
      refine ⟨trivial, _, _, hc2, ?_⟩
      rw [nI_m1]
      exact ih I2 f2 (by omega) (fun q hq => by rw [v1 q hq]; exact a2 q hq) v2 (imP_tr v4 a4) v3
  exact one (N / 2) I (fun i => i) (Nat.le_refl _) (fun _ _ => rfl) ho (fun _ => Iff.rfl) (fun i c i1 i2 i3 => by unfold chd at i2; omega)
end S81
