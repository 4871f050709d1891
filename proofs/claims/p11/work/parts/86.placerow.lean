/-! the reference shows one of its kept rows -/
section S86
variable {D b W Rn : Nat} {I : Nat → Nat → Int32} {J : Nat → Nat → Int64}
def plR (W k p : Nat) (I I' : Nat → Nat → Int32) : Prop := (∀ q, q ≠ 37 → q ≠ 38 → q ≠ 39 → I' q = I q) ∧ (∀ w, w < W → I' 37 (4 * k + w) = I 29 (4 * p + w)) ∧ (∀ j, j < 4 * k → I' 37 j = I 37 j) ∧ I' 38 k = I 30 p ∧ (∀ j, j ≠ k → I' 38 j = I 38 j) ∧ (∀ j, j < 10 → I' 39 (10 * k + j) = I 31 (10 * p + j)) ∧ ∀ j, j < 10 * k → I' 39 j = I 39 j
theorem r_placeRow {k p : Nat} {x1 : Int32} {Q : mj_R → Prop} (hB : rB I b W Rn) (hk : k < 100) (hp : p < 8192) (next : ∀ I', plR W k p I I' → E2 70 D Q 240 [(0, .ref 0), (1, .int x1), (4, .int (nI (k + 1)))] I' J) : E2 70 D Q 336 [(0, .ref 0), (1, .int x1), (4, .int (nI k)), (5, .int (nI p)), (6, .int 0)] I J := by
  obtain ⟨b1, b2, b3, b4, b5, b6⟩ := id hB
  refine lp_up (n := W) (fun w => ∀ I', (∀ q, q ≠ 37 → I' q = I q) → (∀ u, u < w → I' 37 (4 * k + u) = I 29 (4 * p + u)) → (∀ j, j < 4 * k → I' 37 j = I 37 j) → E2 70 D Q 336 [(0, .ref 0), (1, .int x1), (4, .int (nI k)), (5, .int (nI p)), (6, .int (nI w))] I' J) (fun w hw ih I' k1 k2 k3 => ?_) 0 (Nat.zero_le _) I (fun _ _ => rfl) (fun u hu => absurd hu (Nat.not_lt_zero u)) (fun _ _ => rfl)
  refine mj_on (s70_336 _ _ _ _ ?_)
  rw [k1 0 (by decide), k1 2 (by decide), b1, nI_clamp (n := b) (by omega), b3, ix4', ix4', nI_1, nI_clamp (n := 4 * k + w) (by omega), nI_clamp (n := 4 * p + w) (by omega), nI_clamp (n := k) (by omega), nI_clamp (n := p) (by omega)]
  refine ⟨vp_in_nI b2 (by decide), if_le (by omega) (by omega) (fun c => ⟨vp_in_nI (by omega) (by decide), vp_in_nI (by omega) (by decide), ?_⟩) (fun c => ⟨vp_in_nI (by omega) (by decide), vp_in_nI (by omega) (by decide), ?_⟩)⟩
  · obtain rfl : w = W := by omega
    refine lp_up (n := 10) (fun j => ∀ I'', (∀ q, q ≠ 37 → q ≠ 38 → q ≠ 39 → I'' q = I q) → I'' 37 = I' 37 → I'' 38 k = I 30 p → (∀ j, j ≠ k → I'' 38 j = I 38 j) → (∀ u, u < j → I'' 39 (10 * k + u) = I 31 (10 * p + u)) → (∀ u, u < 10 * k → I'' 39 u = I 39 u) → E2 70 D Q 397 [(0, .ref 0), (1, .int x1), (4, .int (nI k)), (5, .int (nI p)), (6, .int (nI j))] I'' J) (fun j hj ih2 I'' m1 m2 m3 m4 m5 m6 => ?_) 0 (Nat.zero_le _) _ (fun q q1 q2 q3 => by rw [up_c q2]; exact k1 q q1) (by rw [up_c (by decide)]) (by rw [up_s, k1 30 (by decide)]) (fun j hj => by rw [up_j hj, k1 38 (by decide)]) (fun u hu => absurd hu (Nat.not_lt_zero u)) (fun u hu => by rw [up_c (by decide), k1 39 (by decide)])
    refine mj_on (s70_397 _ _ _ _ ?_)
    rw [show (10 : Int32) = nI 10 from rfl, pk_mul, pk_mul, nI_add, nI_add, nI_1, nI_1, nI_clamp (by omega), nI_clamp (by omega)]
    refine if_le (by omega) (by omega) (fun c2 => next I'' ⟨m1, fun u hu => by rw [m2]; exact k2 u hu, fun u hu => by rw [m2]; exact k3 u hu, m3, m4, fun u hu => m5 u (by omega), m6⟩) (fun c2 => ⟨vp_in_nI (by omega) (by decide), vp_in_nI (by omega) (by decide), ?_⟩)
    refine ih2 c2 _ (fun q q1 q2 q3 => by rw [up_c q3]; exact m1 q q1 q2 q3) (by rw [up_c (by decide)]; exact m2) (by rw [up_c (by decide)]; exact m3) (fun u hu => by rw [up_c (by decide)]; exact m4 u hu) (fun u hu => ?_) (fun u hu => by rw [up_j (by omega)]; exact m6 u hu)
    by_cases z : u = j
    · rw [z, up_s, m1 31 (by decide) (by decide) (by decide)]
    · rw [up_j (by omega)]; exact m5 u (by omega)
  · refine ih c _ (fun q hq => by rw [up_c hq]; exact k1 q hq) (fun u hu => ?_) (fun u hu => by rw [up_j (by omega)]; exact k3 u hu)
    by_cases z : u = w
    · rw [z, up_s, k1 29 (by decide)]
    · rw [up_j (by omega)]; exact k2 u (by omega)
end S86
