/-! how many bits are set -/
def pcn : Nat → Nat → Nat
  | 0, _ => 0
  | k + 1, m => m % 2 + pcn k (m / 2)
theorem pcn_0 : ∀ k, pcn k 0 = 0
  | 0 => rfl
  | k + 1 => by
    show 0 % 2 + pcn k (0 / 2) = 0
    rw [Nat.zero_mod, Nat.zero_div, pcn_0 k]
theorem pcn_add : ∀ (j k m : Nat), pcn (j + k) m = pcn j (m % 2 ^ j) + pcn k (m / 2 ^ j)
  | 0, k, m => by
    rw [Nat.zero_add, Nat.pow_zero, Nat.div_one]
    show pcn k m = 0 + pcn k m
    omega
  | j + 1, k, m => by
    have ih := pcn_add j k (m / 2)
    rw [Nat.add_right_comm]
    show m % 2 + pcn (j + k) (m / 2) = ((m % 2 ^ (j + 1)) % 2 + pcn j (m % 2 ^ (j + 1) / 2)) + pcn k (m / 2 ^ (j + 1))
    rw [ih]
    have e1 : m % 2 ^ (j + 1) % 2 = m % 2 := by
      rw [Nat.pow_succ, Nat.mod_mul_left_mod]
    have e2 : m % 2 ^ (j + 1) / 2 = m / 2 % 2 ^ j := by
      rw [Nat.pow_succ, Nat.mul_comm, Nat.mod_mul_right_div_self]
    have e3 : m / 2 ^ (j + 1) = m / 2 / 2 ^ j := by
      rw [Nat.pow_succ, Nat.mul_comm, Nat.div_div_eq_div_mul]
    rw [e1, e2, e3]
    omega
-- one byte
theorem pb_1 : ∀ c, c < 256 → (c / 2) &&& 85 ≤ c ∧ c - ((c / 2) &&& 85) < 256 ∧ ((c / 2 + 128) &&& 85) = ((c / 2) &&& 85) := by decide +kernel
def pb_a (c : Nat) : Nat := c - ((c / 2) &&& 85)
def pb_b (c : Nat) : Nat := (pb_a c &&& 51) + ((pb_a c / 4) &&& 51)
def pb_c (c : Nat) : Nat := (pb_b c + pb_b c / 16) &&& 15
theorem pb_2a : ∀ c, c < 256 → pb_a c < 256 ∧ pb_b c < 256 ∧ pb_c c = pcn 8 c ∧ pb_c c ≤ 8 ∧ pb_b c % 16 ≤ 4 ∧ pb_b c / 16 ≤ 4 := by decide +kernel
theorem pb_2b : ∀ y, y < 64 → ∀ x, x < 4 → ((y + 64 * x) &&& 51) = (y &&& 51) := by decide +kernel
theorem pb_2 : ∀ c, c < 256 → pb_a c < 256 ∧ pb_b c < 256 ∧ (∀ x, x < 4 → ((pb_a c / 4 + 64 * x) &&& 51) = ((pb_a c / 4) &&& 51)) ∧ (∀ x, x < 16 → pb_b c + pb_b c / 16 + 16 * x < 512) ∧ pb_c c = pcn 8 c ∧ pb_c c ≤ 8 ∧ pb_b c % 16 ≤ 4 ∧ pb_b c / 16 ≤ 4 := fun c hc => by
  obtain ⟨g1, g2, g3, g4, g5, g6⟩ := pb_2a c hc
  exact ⟨g1, g2, fun x hx => pb_2b _ (by omega) x hx, fun x hx => by omega, g3, g4, g5, g6⟩
theorem pb_3 : ∀ u, u ≤ 4 → ∀ v, v ≤ 4 → ∀ x, x ≤ 4 → ((u + 16 * v + v + 16 * x) &&& 15) = ((u + 16 * v + v) &&& 15) ∧ u + 16 * v + v + 16 * x < 256 := by decide +kernel
theorem pb_land {a b c d : Nat} (ha : a < 256) (hc : c < 256) : (a + 256 * b) &&& (c + 256 * d) = (a &&& c) + 256 * (b &&& d) := by
  apply Nat.eq_of_testBit_eq
  intro i
  have h8 : (a &&& c) < 2 ^ 8 := Nat.lt_of_le_of_lt Nat.and_le_left ha
  rw [Nat.testBit_and, Nat.add_comm a, Nat.add_comm c, Nat.add_comm (a &&& c), show (256 : Nat) = 2 ^ 8 from rfl, Nat.testBit_two_pow_mul_add b ha, Nat.testBit_two_pow_mul_add d hc, Nat.testBit_two_pow_mul_add (b &&& d) h8]
  by_cases h : i < 8
  · simp only [h, if_true, Nat.testBit_and]
  · simp only [h, if_false, Nat.testBit_and]
-- k bytes
def pm (x : Nat) : Nat → Nat
  | 0 => 0
  | k + 1 => x + 256 * pm x k
def p1 (k m : Nat) : Nat := m - ((m / 2) &&& pm 85 k)
def p2 (k m : Nat) : Nat := (p1 k m &&& pm 51 k) + ((p1 k m / 4) &&& pm 51 k)
def p3 (k m : Nat) : Nat := (p2 k m + p2 k m / 16) &&& pm 15 k
/-- the bytes' counts, by bytes -/
def pcb : Nat → Nat → Nat
  | 0, _ => 0
  | k + 1, m => pcn 8 (m % 256) + 256 * pcb k (m / 256)
theorem pl_h (c d : Nat) : (c + 256 * d) / 2 = (c / 2 + 128 * (d % 2)) + 256 * (d / 2) := by omega
theorem pl_hb (c d : Nat) (h : c < 256) : c / 2 + 128 * (d % 2) < 256 := by omega
theorem pl_q (a p : Nat) : (a + 256 * p) / 4 = (a / 4 + 64 * (p % 4)) + 256 * (p / 4) := by omega
theorem pl_qb (a p : Nat) (h : a < 256) : a / 4 + 64 * (p % 4) < 256 := by omega
theorem pl_s (c d u v : Nat) (h1 : u ≤ c) (h2 : v ≤ d) : (c + 256 * d) - (u + 256 * v) = (c - u) + 256 * (d - v) := by omega
theorem pl_a (a b c d : Nat) : (a + 256 * b) + (c + 256 * d) = (a + c) + 256 * (b + d) := by omega
theorem pl_x (b q : Nat) : b + 256 * q + (b + 256 * q) / 16 = (b % 16 + 16 * (b / 16) + b / 16 + 16 * (q % 16)) + 256 * (q + q / 16) := by omega
theorem pl_m (c d : Nat) (h : c < 256) : (c + 256 * d) % 256 = c := by omega
theorem pl_d (c d : Nat) (h : c < 256) : (c + 256 * d) / 256 = d := by omega
theorem pl_l (a b N : Nat) (h1 : a < 256) (h2 : b < N) : a + 256 * b < N * 256 := by omega
theorem pl_le {c d u v : Nat} (h1 : u ≤ c) (h2 : v ≤ d) : u + 256 * v ≤ c + 256 * d := by omega
theorem pl_16 (b q : Nat) (h : b % 16 ≤ 4) : (b + 256 * q) % 16 ≤ 4 := by omega
theorem pl_v (n lo hi x : Nat) (hn : lo < n) (e : x = lo + n * hi) : x / n = hi := by
  rw [e, Nat.add_mul_div_left _ _ (Nat.lt_of_le_of_lt (Nat.zero_le _) hn), Nat.div_eq_of_lt hn, Nat.zero_add]
theorem p_le : ∀ (k m : Nat), m < 256 ^ k → ((m / 2) &&& pm 85 k) ≤ m ∧ p1 k m < 256 ^ k ∧ p2 k m < 256 ^ k ∧ (p2 k m % 16 ≤ 4) ∧ p3 k m = pcb k m ∧ (∀ c d, m = c + 256 * d → c < 256 → k = k)
  | 0, m, h => by
    have : m = 0 := by simpa using h
    subst this
    refine ⟨Nat.le_refl _, by decide, by decide, by decide, by decide, fun _ _ _ _ => rfl⟩
  | k + 1, m, h => by
    obtain ⟨c, d, rfl, hc⟩ : ∃ c d, m = c + 256 * d ∧ c < 256 := ⟨m % 256, m / 256, by omega, by omega⟩
    have hd : d < 256 ^ k := by rw [Nat.pow_succ] at h; omega
    obtain ⟨i1, i2, i3, i4, i5, -⟩ := p_le k d hd
    obtain ⟨b1, b2, b3⟩ := pb_1 c hc
    obtain ⟨c1, c2, c3, c4, c5, c6, c7, c8⟩ := pb_2 c hc
    have e1 : ((c + 256 * d) / 2) &&& pm 85 (k + 1) = ((c / 2) &&& 85) + 256 * ((d / 2) &&& pm 85 k) := by
      rw [pl_h]
      show _ &&& (85 + 256 * pm 85 k) = _
      rw [pb_land (pl_hb c d hc) (by decide)]
      rcases Nat.mod_two_eq_zero_or_one d with z | z
      · rw [z]; rfl
      · rw [z, Nat.mul_one, b3]
    have e2 : p1 (k + 1) (c + 256 * d) = pb_a c + 256 * p1 k d := by
      unfold p1 pb_a
      rw [e1]
      exact pl_s _ _ _ _ b1 i1
    have e3 : p2 (k + 1) (c + 256 * d) = pb_b c + 256 * p2 k d := by
      unfold p2 pb_b
      rw [e2]
      rw [pl_q]
      show (_ &&& (51 + 256 * pm 51 k)) + (_ &&& (51 + 256 * pm 51 k)) = _
      rw [pb_land c1 (by decide), pb_land (pl_qb _ _ c1) (by decide), c3 _ (Nat.mod_lt _ (by decide))]
      exact pl_a _ _ _ _
    have e4 : p3 (k + 1) (c + 256 * d) = pb_c c + 256 * p3 k d := by
      unfold p3 pb_c
      rw [e3]
      have z := pb_3 (pb_b c % 16) c7 (pb_b c / 16) c8 (p2 k d % 16) i4
      rw [pl_x]
      show _ &&& (15 + 256 * pm 15 k) = _
      rw [pb_land z.2 (by decide), z.1]
      have : pb_b c % 16 + 16 * (pb_b c / 16) = pb_b c := Nat.mod_add_div _ _
      rw [this]
    refine ⟨?_, ?_, ?_, ?_, ?_, fun _ _ _ _ => rfl⟩
    · rw [e1]; exact pl_le b1 i1
    · rw [e2, Nat.pow_succ]; exact pl_l _ _ _ c1 i2
    · rw [e3, Nat.pow_succ]; exact pl_l _ _ _ c2 i3
    · rw [e3]; exact pl_16 _ _ c7
    · rw [e4, i5, c5]
      show _ = pcn 8 ((c + 256 * d) % 256) + 256 * pcb k ((c + 256 * d) / 256)
      rw [pl_m c d hc, pl_d c d hc]
theorem pcb_pcn : ∀ (k m : Nat), ∃ l : List Nat, l.length = k ∧ (∀ x ∈ l, x ≤ 8) ∧ pcb k m = l.foldr (fun x y => x + 256 * y) 0 ∧ pcn (8 * k) m = l.foldr (fun x y => x + y) 0
  | 0, m => ⟨[], rfl, (fun x h => absurd h List.not_mem_nil), rfl, rfl⟩
  | k + 1, m => by
    obtain ⟨l, h1, h2, h3, h4⟩ := pcb_pcn k (m / 256)
    refine ⟨pcn 8 (m % 256) :: l, by rw [List.length_cons, h1], ?_, ?_, ?_⟩
    · intro x hx
      rcases List.mem_cons.mp hx with rfl | hx
      · have := (pb_2 (m % 256) (Nat.mod_lt _ (by decide)))
        rw [← this.2.2.2.2.1]
        exact this.2.2.2.2.2.1
      · exact h2 x hx
    · show _ = _ + 256 * _
      rw [← h3]
      rfl
    · show _ = _ + _
      rw [← h4, show 8 * (k + 1) = 8 + 8 * k by omega, pcn_add]
theorem pc_x1 (b0 b1 b2 b3 b4 b5 b6 b7 : Nat) (q0 : b0 ≤ 8) : (b0 + b1) + 256 * (b1 + b2) + 65536 * (b2 + b3) + 16777216 * (b3 + b4) + 4294967296 * (b4 + b5) + 1099511627776 * (b5 + b6) + 281474976710656 * (b6 + b7) + 72057594037927936 * b7 = b0 + 256 * (b1 + 256 * (b2 + 256 * (b3 + 256 * (b4 + 256 * (b5 + 256 * (b6 + 256 * (b7 + 256 * 0))))))) + (b0 + 256 * (b1 + 256 * (b2 + 256 * (b3 + 256 * (b4 + 256 * (b5 + 256 * (b6 + 256 * (b7 + 256 * 0)))))))) / 256 := by
  rw [pl_v 256 b0 (b1 + 256 * (b2 + 256 * (b3 + 256 * (b4 + 256 * (b5 + 256 * (b6 + 256 * (b7 + 256 * 0))))))) _ (Nat.lt_of_le_of_lt q0 (by decide)) rfl]
  omega
theorem pc_x2 (b0 b1 b2 b3 b4 b5 b6 b7 : Nat) (q0 : b0 ≤ 8) (q1 : b1 ≤ 8) (q2 : b2 ≤ 8) : (b0 + b1 + b2 + b3) + 256 * (b1 + b2 + b3 + b4) + 65536 * (b2 + b3 + b4 + b5) + 16777216 * (b3 + b4 + b5 + b6) + 4294967296 * (b4 + b5 + b6 + b7) + 1099511627776 * (b5 + b6 + b7) + 281474976710656 * (b6 + b7) + 72057594037927936 * b7 = (b0 + b1) + 256 * (b1 + b2) + 65536 * (b2 + b3) + 16777216 * (b3 + b4) + 4294967296 * (b4 + b5) + 1099511627776 * (b5 + b6) + 281474976710656 * (b6 + b7) + 72057594037927936 * b7 + ((b0 + b1) + 256 * (b1 + b2) + 65536 * (b2 + b3) + 16777216 * (b3 + b4) + 4294967296 * (b4 + b5) + 1099511627776 * (b5 + b6) + 281474976710656 * (b6 + b7) + 72057594037927936 * b7) / 65536 := by
  have h : ((b0 + b1) + 256 * (b1 + b2) + 65536 * (b2 + b3) + 16777216 * (b3 + b4) + 4294967296 * (b4 + b5) + 1099511627776 * (b5 + b6) + 281474976710656 * (b6 + b7) + 72057594037927936 * b7) / 65536 = (b2 + b3) + 256 * (b3 + b4) + 65536 * (b4 + b5) + 16777216 * (b5 + b6) + 4294967296 * (b6 + b7) + 1099511627776 * b7 := pl_v 65536 ((b0 + b1) + 256 * (b1 + b2)) ((b2 + b3) + 256 * (b3 + b4) + 65536 * (b4 + b5) + 16777216 * (b5 + b6) + 4294967296 * (b6 + b7) + 1099511627776 * b7) _ (by omega) (by omega)
  rw [h]
  clear h q0 q1 q2
  omega
theorem pc_x3 (b0 b1 b2 b3 b4 b5 b6 b7 : Nat) (q0 : b0 ≤ 8) (q1 : b1 ≤ 8) (q2 : b2 ≤ 8) (q3 : b3 ≤ 8) (q4 : b4 ≤ 8) (q5 : b5 ≤ 8) (q6 : b6 ≤ 8) (q7 : b7 ≤ 8) : ((b0 + b1 + b2 + b3) + 256 * (b1 + b2 + b3 + b4) + 65536 * (b2 + b3 + b4 + b5) + 16777216 * (b3 + b4 + b5 + b6) + 4294967296 * (b4 + b5 + b6 + b7) + 1099511627776 * (b5 + b6 + b7) + 281474976710656 * (b6 + b7) + 72057594037927936 * b7) / 4294967296 = (b4 + b5 + b6 + b7) + 256 * ((b5 + b6 + b7) + 256 * (b6 + b7) + 65536 * b7) := pl_v 4294967296 ((b0 + b1 + b2 + b3) + 256 * (b1 + b2 + b3 + b4) + 65536 * (b2 + b3 + b4 + b5) + 16777216 * (b3 + b4 + b5 + b6)) ((b4 + b5 + b6 + b7) + 256 * ((b5 + b6 + b7) + 256 * (b6 + b7) + 65536 * b7)) _ (by omega) (by clear q0 q1 q2 q3 q4 q5 q6 q7; omega)
theorem pc_x4 (b0 b1 b2 b3 b4 b5 b6 b7 : Nat) (q0 : b0 ≤ 8) (q1 : b1 ≤ 8) (q2 : b2 ≤ 8) (q3 : b3 ≤ 8) (q4 : b4 ≤ 8) (q5 : b5 ≤ 8) (q6 : b6 ≤ 8) (q7 : b7 ≤ 8) : b0 + 256 * (b1 + 256 * (b2 + 256 * (b3 + 256 * (b4 + 256 * (b5 + 256 * (b6 + 256 * (b7 + 256 * 0))))))) < 2 ^ 60 := by omega
theorem pc_x5 (b0 b1 b2 b3 b4 b5 b6 b7 : Nat) (q0 : b0 ≤ 8) (q1 : b1 ≤ 8) (q2 : b2 ≤ 8) (q3 : b3 ≤ 8) (q4 : b4 ≤ 8) (q5 : b5 ≤ 8) (q6 : b6 ≤ 8) (q7 : b7 ≤ 8) : (b0 + b1) + 256 * (b1 + b2) + 65536 * (b2 + b3) + 16777216 * (b3 + b4) + 4294967296 * (b4 + b5) + 1099511627776 * (b5 + b6) + 281474976710656 * (b6 + b7) + 72057594037927936 * b7 < 2 ^ 61 := by omega
theorem pc_x6 (b0 b1 b2 b3 b4 b5 b6 b7 : Nat) (q0 : b0 ≤ 8) (q1 : b1 ≤ 8) (q2 : b2 ≤ 8) (q3 : b3 ≤ 8) (q4 : b4 ≤ 8) (q5 : b5 ≤ 8) (q6 : b6 ≤ 8) (q7 : b7 ≤ 8) : (b0 + b1 + b2 + b3) + 256 * (b1 + b2 + b3 + b4) + 65536 * (b2 + b3 + b4 + b5) + 16777216 * (b3 + b4 + b5 + b6) + 4294967296 * (b4 + b5 + b6 + b7) + 1099511627776 * (b5 + b6 + b7) + 281474976710656 * (b6 + b7) + 72057594037927936 * b7 < 2 ^ 62 := by omega
theorem pc_x7 (b0 b1 b2 b3 b4 b5 b6 b7 : Nat) (q0 : b0 ≤ 8) (q1 : b1 ≤ 8) (q2 : b2 ≤ 8) (q3 : b3 ≤ 8) (q4 : b4 ≤ 8) (q5 : b5 ≤ 8) (q6 : b6 ≤ 8) (q7 : b7 ≤ 8) : (b0 + b1 + b2 + b3) + 256 * (b1 + b2 + b3 + b4) + 65536 * (b2 + b3 + b4 + b5) + 16777216 * (b3 + b4 + b5 + b6) + 4294967296 * (b4 + b5 + b6 + b7) + 1099511627776 * (b5 + b6 + b7) + 281474976710656 * (b6 + b7) + 72057594037927936 * b7 + ((b4 + b5 + b6 + b7) + 256 * ((b5 + b6 + b7) + 256 * (b6 + b7) + 65536 * b7)) < 2 ^ 63 := by omega
theorem pc_x8 (b0 b1 b2 b3 b4 b5 b6 b7 : Nat) (q0 : b0 ≤ 8) (q1 : b1 ≤ 8) (q2 : b2 ≤ 8) (q3 : b3 ≤ 8) (q4 : b4 ≤ 8) (q5 : b5 ≤ 8) (q6 : b6 ≤ 8) (q7 : b7 ≤ 8) : b0 + (b1 + (b2 + (b3 + (b4 + (b5 + (b6 + (b7 + 0))))))) < 128 := by omega
theorem pc_x9 (b0 b1 b2 b3 b4 b5 b6 b7 : Nat) : (b0 + b1 + b2 + b3) + 256 * (b1 + b2 + b3 + b4) + 65536 * (b2 + b3 + b4 + b5) + 16777216 * (b3 + b4 + b5 + b6) + 4294967296 * (b4 + b5 + b6 + b7) + 1099511627776 * (b5 + b6 + b7) + 281474976710656 * (b6 + b7) + 72057594037927936 * b7 + ((b4 + b5 + b6 + b7) + 256 * ((b5 + b6 + b7) + 256 * (b6 + b7) + 65536 * b7)) = (b0 + (b1 + (b2 + (b3 + (b4 + (b5 + (b6 + (b7 + 0)))))))) + 128 * (2 * ((b1 + b2 + b3 + b4) + 256 * (b2 + b3 + b4 + b5) + 65536 * (b3 + b4 + b5 + b6) + 16777216 * (b4 + b5 + b6 + b7) + 4294967296 * (b5 + b6 + b7) + 1099511627776 * (b6 + b7) + 281474976710656 * b7 + ((b5 + b6 + b7) + 256 * (b6 + b7) + 65536 * b7))) := by omega
theorem pc_64 {m : Nat} (h : m < 256 ^ 8) : ∃ a4 a5 : Nat, p3 8 m < 2 ^ 60 ∧ a4 = p3 8 m + p3 8 m / 256 ∧ a4 < 2 ^ 61 ∧ a5 = a4 + a4 / 65536 ∧ a5 < 2 ^ 62 ∧ a5 + a5 / 4294967296 < 2 ^ 63 ∧ (a5 + a5 / 4294967296) % 128 = pcn 64 m := by
  have h5 := (p_le 8 m h).2.2.2.2.1
  obtain ⟨l, h1, h2, h3, h4⟩ := pcb_pcn 8 m
  match l, h1, h2, h3, h4 with
  | [b0, b1, b2, b3, b4, b5, b6, b7], _, h2, h3, h4 =>
    simp only [List.mem_cons, List.not_mem_nil, or_false, forall_eq_or_imp, forall_eq] at h2
    simp only [List.foldr_cons, List.foldr_nil] at h3 h4
    obtain ⟨q0, q1, q2, q3, q4, q5, q6, q7⟩ := h2
    rw [h5, h3]
    have h4 : pcn 64 m = _ := h4
    rw [h4]
    refine ⟨(b0 + b1) + 256 * (b1 + b2) + 65536 * (b2 + b3) + 16777216 * (b3 + b4) + 4294967296 * (b4 + b5) + 1099511627776 * (b5 + b6) + 281474976710656 * (b6 + b7) + 72057594037927936 * b7, (b0 + b1 + b2 + b3) + 256 * (b1 + b2 + b3 + b4) + 65536 * (b2 + b3 + b4 + b5) + 16777216 * (b3 + b4 + b5 + b6) + 4294967296 * (b4 + b5 + b6 + b7) + 1099511627776 * (b5 + b6 + b7) + 281474976710656 * (b6 + b7) + 72057594037927936 * b7, pc_x4 b0 b1 b2 b3 b4 b5 b6 b7 q0 q1 q2 q3 q4 q5 q6 q7, pc_x1 b0 b1 b2 b3 b4 b5 b6 b7 q0, pc_x5 b0 b1 b2 b3 b4 b5 b6 b7 q0 q1 q2 q3 q4 q5 q6 q7, pc_x2 b0 b1 b2 b3 b4 b5 b6 b7 q0 q1 q2, pc_x6 b0 b1 b2 b3 b4 b5 b6 b7 q0 q1 q2 q3 q4 q5 q6 q7, ?_, ?_⟩
    · rw [pc_x3 b0 b1 b2 b3 b4 b5 b6 b7 q0 q1 q2 q3 q4 q5 q6 q7]; exact pc_x7 b0 b1 b2 b3 b4 b5 b6 b7 q0 q1 q2 q3 q4 q5 q6 q7
    · rw [pc_x3 b0 b1 b2 b3 b4 b5 b6 b7 q0 q1 q2 q3 q4 q5 q6 q7, pc_x9 b0 b1 b2 b3 b4 b5 b6 b7, Nat.add_mul_mod_self_left, Nat.mod_eq_of_lt (pc_x8 b0 b1 b2 b3 b4 b5 b6 b7 q0 q1 q2 q3 q4 q5 q6 q7)]
theorem pc_32 {m : Nat} (h : m < 256 ^ 4) : ∃ a4 : Nat, p3 4 m < 2 ^ 28 ∧ a4 = p3 4 m + p3 4 m / 256 ∧ a4 < 2 ^ 29 ∧ a4 + a4 / 65536 < 2 ^ 30 ∧ (a4 + a4 / 65536) % 64 = pcn 32 m := by
  have h5 := (p_le 4 m h).2.2.2.2.1
  obtain ⟨l, h1, h2, h3, h4⟩ := pcb_pcn 4 m
  match l, h1, h2, h3, h4 with
  | [b0, b1, b2, b3], _, h2, h3, h4 =>
    simp only [List.mem_cons, List.not_mem_nil, or_false, forall_eq_or_imp, forall_eq] at h2
    simp only [List.foldr_cons, List.foldr_nil] at h3 h4
    obtain ⟨q0, q1, q2, q3⟩ := h2
    rw [h5, h3]
    have h4 : pcn 32 m = _ := h4
    rw [h4]
    have e4 : ((b0 + b1) + 256 * (b1 + b2) + 65536 * (b2 + b3) + 16777216 * b3) / 65536 = (b2 + b3) + 256 * b3 := by omega
    refine ⟨(b0 + b1) + 256 * (b1 + b2) + 65536 * (b2 + b3) + 16777216 * b3, by omega, by omega, by omega, ?_, ?_⟩
    · rw [e4]; omega
    · rw [e4]
      have : (b0 + b1) + 256 * (b1 + b2) + 65536 * (b2 + b3) + 16777216 * b3 + ((b2 + b3) + 256 * b3) = (b0 + (b1 + (b2 + (b3 + 0)))) + 64 * (4 * ((b1 + b2) + 256 * (b2 + b3) + 65536 * b3 + b3)) := by omega
      rw [this, Nat.add_mul_mod_self_left, Nat.mod_eq_of_lt (by omega)]
