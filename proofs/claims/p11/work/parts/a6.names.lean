/-! numbers and names, on both sides -/
def lxF (I I' : Nat → Nat → Int32) : Prop := ∀ q j, (q ≠ 11 ∨ (j ≠ 4 ∧ j ≠ 5 ∧ j ≠ 6 ∧ j ≠ 7 ∧ j ≠ 8 ∧ j ≠ 10 ∧ j ≠ 11)) → I' q j = I q j
section Sa6
variable {D D' n a p t v k : Nat} {x : Nat → Nat} {l : List Nat} {o : Int} {I I1 I2 : Nat → Nat → Int32} {J J1 J2 : Nat → Nat → Int64}
theorem num_both (h : tkR n x p a t v l o I1 I2 J2) : ∃ r1 r2 I1' J1' I2' J2', C1 (D + 4) 156 [.ref 11] I1 J1 (.int r1) I1' J1' ∧ C2 (D' + 3) 29 [.ref 0] I2 J2 (.int r2) I2' J2' ∧ J1' = J1 ∧ lxF I1 I1' ∧ lxg I2 I2' ∧ lxgJ J2 J2' ∧ ((t = 2 ∧ r1 = nI v ∧ r2 = nI v ∧ v ≤ 9999 ∧ ∃ p' a' t' v' l' o', tkR n x p' a' t' v' l' o' I1' I2' J2' ∧ p < p') ∨ ∃ k' p', tkD k' p' I1' I2') := by
  have r8 := h.2.2.2.2.2.2.2.2.2.2.2.2.2.1
  have c5 := h.2.2.2.2.2.2.2.2.2.1
  have r3 := h.2.2.2.2.2.2.2.2.2.2.1
  have hS := h.2.2.2.2.2.2.2.2.2.2.2.2.2.2.2.2
  have t3 := tkS_t hS
  have tk : tkr t < 2 ^ 31 := by unfold tkr; split <;> omega
  by_cases e : t = 2
  · obtain ⟨I1', J1', I2', J2', k1, k2, k3, k4, k5, k6, k7⟩ := adv_tk (D := D) (D' := D') (J1 := J1) h (by omega)
    have hv : v ≤ 9999 ∧ I1 11 6 = nI v ∧ I2 0 6 = nI v := by
      rcases hS with ⟨q, -⟩ | ⟨q, -⟩ | ⟨-, -, -, -, q1, q2, q3, -⟩ | ⟨q, -⟩
      · omega
      · omega
      · exact ⟨q1, q2, q3⟩
      · omega
    refine ⟨nI v, nI v, I1', J1', I2', J2', mj_mk (e156 ?_), mj_mk (e29 ?_), k3, fun q j z => k4 q j (by omega), k5, k6, ?_⟩
    · rw [c5, if_pos (show nI t = 2 by rw [e]; rfl)]
      refine ⟨trivial, _, _, k1, ?_⟩
      rw [hv.2.1]
    · rw [r8, if_pos (by decide), r3, if_pos (show nI (tkr t) = 2 by rw [e]; rfl)]
      refine mj_on (s29_26 ?_)
      rw [if_pos r8]
      refine ⟨trivial, _, _, k2, ?_⟩
      rw [hv.2.2]
    · rcases k7 with z | ⟨p', z⟩
      · exact Or.inl ⟨e, rfl, rfl, hv.1, z⟩
      · exact Or.inr ⟨1, p', z⟩
  · obtain ⟨I1', I2', k1, k2, k3, k4, k5⟩ := bl_both (D := D + 2) (D' := D' + 1) (J1 := J1) (k := 1) h (by decide) (by decide)
    refine ⟨0, I2' 0 6, I1', J1, I2', J2, mj_mk (e156 ?_), mj_mk (e29 ?_), rfl, fun q j z => k3 q j (by omega), fun q j z => k4 q j (by omega), fun _ _ _ => rfl, Or.inr ⟨1, p, k5⟩⟩
    · rw [c5, if_neg (show ¬ nI t = 2 from fun z => e ((nI_eq (b := 2) (by omega) (by decide)).mp z))]
      exact ⟨trivial, _, _, k1, rfl⟩
    · rw [r8, if_pos (by decide), r3, if_neg (show ¬ nI (tkr t) = 2 from fun z => by
        have z := (nI_eq (b := 2) tk (by decide)).mp z
        unfold tkr at z
        split at z <;> omega)]
      refine ⟨trivial, _, _, k2, ?_⟩
      refine mj_on (s29_26 ?_)
      rw [k5.2.2.2.2.2.2.1, if_neg (by decide)]
theorem nmC_le6 {l : List Nat} (h : ∀ a ∈ l, 1 ≤ a ∧ a ≤ 26) (h6 : l.length ≤ 6) : nmC l < 2 ^ 30 := by
  have h1 := nmC_lt h
  have h2 : 32 ^ l.length ≤ 32 ^ 6 := Nat.pow_le_pow_right (by decide) h6
  omega
theorem nmq_eq {y : Int32} {z : Int64} (h : nmq y z) (hl : lxl l) : y = nI (nmC l) ↔ z = lN (nmR l) := by
  obtain ⟨m, m1, m2, m3, rfl, rfl⟩ := h
  have b1 := nmC_le6 m3 m2
  have b2 := nmC_le6 hl.2.2 hl.2.1
  have b3 := nmR_le6 m3 m2
  have b4 := nmR_le6 hl.2.2 hl.2.1
  constructor
  · intro q
    have := nmC_inj m3 hl.2.2 ((nI_eq (by omega) (by omega)).mp q)
    rw [this]
  · intro q
    have := nmR_inj m3 hl.2.2 (lN_inj (by omega) (by omega) q)
    rw [this]
/-- the class looks a name up among the names of one kind -/
theorem c_find {i N y : Nat} (hi : i < 6) (h3 : i ≠ 3) (h5 : i ≠ 5) (hN : I 15 i = nI N) (hN2 : N ≤ 40) : ∃ r I' J', C1 (D + 1) 150 [.ref 14, .int (nI i), .int (nI y)] I J (.int r) I' J' ∧ ((r = -1 ∧ ∀ j, j < N → I 16 (40 * i + j) ≠ nI y) ∨ ∃ j, j < N ∧ r = nI j ∧ I 16 (40 * i + j) = nI y ∧ ∀ m, m < j → I 16 (40 * i + m) ≠ nI y) ∧ I' = I ∧ J' = J := by
  refine mj_cI (e150 _ _ ?_)
  obtain ⟨Q, hQ⟩ : ∃ Q, Q = qI mj_R1 (fun r I' J' => ((r = -1 ∧ ∀ j, j < N → I 16 (40 * i + j) ≠ nI y) ∨ ∃ j, j < N ∧ r = nI j ∧ I 16 (40 * i + j) = nI y ∧ ∀ m, m < j → I 16 (40 * i + m) ≠ nI y) ∧ I' = I ∧ J' = J) := ⟨_, rfl⟩
  rw [← hQ]
  rw [if_neg (show ¬ nI i = 3 from fun z => h3 ((nI_eq (b := 3) (by omega) (by decide)).mp z)), if_neg (show ¬ nI i = 5 from fun z => h5 ((nI_eq (b := 5) (by omega) (by decide)).mp z))]
  have lp := lp_up (n := N) (fun j => (∀ m, m < j → I 16 (40 * i + m) ≠ nI y) → E1 150 D Q 14 [(0, .ref 14), (1, .int (nI i)), (2, .int (nI y)), (3, .int (nI j))] I J) (fun j hj ih hm => ?_) 0 (Nat.zero_le _) (fun m hm => absurd hm (Nat.not_lt_zero m))
  · exact lp
  refine mj_on (s150_14 _ _ _ ?_)
  rw [nI_clamp (by omega), hN]
  refine ⟨vp_in_nI hi (by decide), if_le (by omega) (by omega) (fun c => ?_) (fun c => ?_)⟩
  · obtain rfl : j = N := by omega
    rw [hQ]
    exact ⟨_, _, _, rfl, Or.inl ⟨rfl, hm⟩, rfl, rfl⟩
  rw [show nI i * (40 : Int32) = nI (40 * i) from (pk_mul i 40).trans (by rw [Nat.mul_comm]), nI_add, nI_clamp (by omega), nI_1]
  refine ⟨vp_in_nI (by omega) (by decide), if_i (fun e => ?_) (fun e => ih c fun m hm2 => ?_)⟩
  · rw [hQ]
    exact ⟨_, _, _, rfl, Or.inr ⟨j, c, rfl, e, hm⟩, rfl, rfl⟩
  · by_cases z : m = j
    · rw [z]; exact e
    · exact hm m (by omega)
end Sa6
