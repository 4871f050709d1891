section
/-! weighings: the list of them, in the order of rows, and as a search through numbers finds them -/
/-- all rows of W numbers with the sum s, lesser ones first -/
def wl : Nat → Nat → List (List Nat)
  | 0, _ => []
  | 1, s => [[s]]
  | k + 2, s => (List.range (s + 1)).flatMap (fun a => (wl (k + 1) (s - a)).map (fun r => a :: r))
/-- the digits of x, the last place first -/
def wdig (B : Nat) : Nat → Nat → List Nat
  | 0, _ => []
  | k + 1, x => wdig B k (x / B) ++ [x % B]
def wval (g W x : Nat) : Option (List Nat) := if (wdig (g + 1) (W - 1) x).sum ≤ g then some (wdig (g + 1) (W - 1) x ++ [g - (wdig (g + 1) (W - 1) x).sum]) else none
def wnum (g : Nat) : Nat → Nat
  | 0 => 0
  | k + 1 => (g + 1) ^ k
def wck (g W : Nat) : Bool := decide ((List.range (wnum g W)).filterMap (wval g W) = wl W g) && decide ((wl W g).length ≤ 455) && (wl W g).all (fun r => decide (r.length = W))
theorem wv4 (g x : Nat) : wval g 4 x = if (x / (g + 1) / (g + 1) % (g + 1) + (x / (g + 1) % (g + 1) + (x % (g + 1) + 0))) ≤ g then some [x / (g + 1) / (g + 1) % (g + 1), x / (g + 1) % (g + 1), x % (g + 1), g - (x / (g + 1) / (g + 1) % (g + 1) + (x / (g + 1) % (g + 1) + (x % (g + 1) + 0)))] else none := rfl
/-- the same for four numbers, by the recursor: the kernel goes through it at once -/
noncomputable def wfm (g : Nat) (l : List Nat) : List (List Nat) := List.rec (motive := fun _ => List (List Nat)) [] (fun x _ ih => bif Nat.ble (x / (g + 1) / (g + 1) % (g + 1) + (x / (g + 1) % (g + 1) + (x % (g + 1) + 0))) g then [x / (g + 1) / (g + 1) % (g + 1), x / (g + 1) % (g + 1), x % (g + 1), g - (x / (g + 1) / (g + 1) % (g + 1) + (x / (g + 1) % (g + 1) + (x % (g + 1) + 0)))] :: ih else ih) l
theorem wfm_eq (g : Nat) : ∀ l : List Nat, l.filterMap (wval g 4) = wfm g l
  | [] => rfl
  | x :: l => by
    have ih := wfm_eq g l
    show List.filterMap (wval g 4) (x :: l) = bif Nat.ble (x / (g + 1) / (g + 1) % (g + 1) + (x / (g + 1) % (g + 1) + (x % (g + 1) + 0))) g then [x / (g + 1) / (g + 1) % (g + 1), x / (g + 1) % (g + 1), x % (g + 1), g - (x / (g + 1) / (g + 1) % (g + 1) + (x / (g + 1) % (g + 1) + (x % (g + 1) + 0)))] :: wfm g l else wfm g l
    cases e : Nat.ble (x / (g + 1) / (g + 1) % (g + 1) + (x / (g + 1) % (g + 1) + (x % (g + 1) + 0))) g with
    | true => exact (List.filterMap_cons_some (by rw [wv4, if_pos (Nat.le_of_ble_eq_true e)])).trans (congrArg (List.cons _) ih)
    | false => exact (List.filterMap_cons_none (by rw [wv4, if_neg (fun h => by rw [Nat.ble_eq_true_of_le h] at e; cases e)])).trans ih
theorem wck4 : ∀ g, g < 13 → wfm g (List.range (wnum g 4)) = wl 4 g ∧ (wl 4 g).length ≤ 455 ∧ (wl 4 g).all (fun r => decide (r.length = 4)) = true := by decide +kernel
theorem wck3 : ∀ g, g < 13 → ∀ W, W < 4 → wck g W = true := by decide +kernel
theorem wck_key : ∀ p q r : Bool, p = true → q = true → r = true → (p && q && r) = true := by
  intro p q r h1 h2 h3
  subst h1; subst h2; subst h3; rfl
theorem wck_all : ∀ g, g < 13 → ∀ W, W < 5 → wck g W = true := by
  intro g hg W hW
  by_cases h : W < 4
  · exact wck3 g hg W h
  · obtain rfl : W = 4 := by omega
    obtain ⟨a, b, c⟩ := wck4 g hg
    unfold wck
    exact wck_key _ _ _ (decide_eq_true ((wfm_eq g _).trans a)) (decide_eq_true b) c
end
section
/-! how many bits are set -/
def pcn : Nat → Nat → Nat
  | 0, _ => 0
  | k + 1, m => m % 2 + pcn k (m / 2)
theorem pcn_0 : ∀ k, pcn k 0 = 0
  | 0 => rfl
  | k + 1 => by
    show 0 % 2 + pcn k (0 / 2) = 0
    rw [Nat.zero_mod, Nat.zero_div, pcn_0 k]
theorem pcn_add : ∀ (j k m : Nat), pcn (j + k) m = pcn j (m % 2 ^ j) + pcn k (m / 2 ^ j)
  | 0, k, m => by
    rw [Nat.zero_add, Nat.pow_zero, Nat.div_one]
    show pcn k m = 0 + pcn k m
    omega
  | j + 1, k, m => by
    have ih := pcn_add j k (m / 2)
    rw [Nat.add_right_comm]
    show m % 2 + pcn (j + k) (m / 2) = ((m % 2 ^ (j + 1)) % 2 + pcn j (m % 2 ^ (j + 1) / 2)) + pcn k (m / 2 ^ (j + 1))
    rw [ih]
    have e1 : m % 2 ^ (j + 1) % 2 = m % 2 := by
      rw [Nat.pow_succ, Nat.mod_mul_left_mod]
    have e2 : m % 2 ^ (j + 1) / 2 = m / 2 % 2 ^ j := by
      rw [Nat.pow_succ, Nat.mul_comm, Nat.mod_mul_right_div_self]
    have e3 : m / 2 ^ (j + 1) = m / 2 / 2 ^ j := by
      rw [Nat.pow_succ, Nat.mul_comm, Nat.div_div_eq_div_mul]
    rw [e1, e2, e3]
    omega
-- one byte
theorem pb_1 : ∀ c, c < 256 → (c / 2) &&& 85 ≤ c ∧ c - ((c / 2) &&& 85) < 256 ∧ ((c / 2 + 128) &&& 85) = ((c / 2) &&& 85) := by decide +kernel
def pb_a (c : Nat) : Nat := c - ((c / 2) &&& 85)
def pb_b (c : Nat) : Nat := (pb_a c &&& 51) + ((pb_a c / 4) &&& 51)
def pb_c (c : Nat) : Nat := (pb_b c + pb_b c / 16) &&& 15
theorem pb_2a : ∀ c, c < 256 → pb_a c < 256 ∧ pb_b c < 256 ∧ pb_c c = pcn 8 c ∧ pb_c c ≤ 8 ∧ pb_b c % 16 ≤ 4 ∧ pb_b c / 16 ≤ 4 := by decide +kernel
theorem pb_2b : ∀ y, y < 64 → ∀ x, x < 4 → ((y + 64 * x) &&& 51) = (y &&& 51) := by decide +kernel
theorem pb_2 : ∀ c, c < 256 → pb_a c < 256 ∧ pb_b c < 256 ∧ (∀ x, x < 4 → ((pb_a c / 4 + 64 * x) &&& 51) = ((pb_a c / 4) &&& 51)) ∧ (∀ x, x < 16 → pb_b c + pb_b c / 16 + 16 * x < 512) ∧ pb_c c = pcn 8 c ∧ pb_c c ≤ 8 ∧ pb_b c % 16 ≤ 4 ∧ pb_b c / 16 ≤ 4 := fun c hc => by
  obtain ⟨g1, g2, g3, g4, g5, g6⟩ := pb_2a c hc
  exact ⟨g1, g2, fun x hx => pb_2b _ (by omega) x hx, fun x hx => by omega, g3, g4, g5, g6⟩
theorem pb_3 : ∀ u, u ≤ 4 → ∀ v, v ≤ 4 → ∀ x, x ≤ 4 → ((u + 16 * v + v + 16 * x) &&& 15) = ((u + 16 * v + v) &&& 15) ∧ u + 16 * v + v + 16 * x < 256 := by decide +kernel
theorem pb_land {a b c d : Nat} (ha : a < 256) (hc : c < 256) : (a + 256 * b) &&& (c + 256 * d) = (a &&& c) + 256 * (b &&& d) := by
  apply Nat.eq_of_testBit_eq
  intro i
  have h8 : (a &&& c) < 2 ^ 8 := Nat.lt_of_le_of_lt Nat.and_le_left ha
  rw [Nat.testBit_and, Nat.add_comm a, Nat.add_comm c, Nat.add_comm (a &&& c), show (256 : Nat) = 2 ^ 8 from rfl, Nat.testBit_two_pow_mul_add b ha, Nat.testBit_two_pow_mul_add d hc, Nat.testBit_two_pow_mul_add (b &&& d) h8]
  by_cases h : i < 8
  · simp only [h, if_true, Nat.testBit_and]
  · simp only [h, if_false, Nat.testBit_and]
-- k bytes
def pm (x : Nat) : Nat → Nat
  | 0 => 0
  | k + 1 => x + 256 * pm x k
def p1 (k m : Nat) : Nat := m - ((m / 2) &&& pm 85 k)
def p2 (k m : Nat) : Nat := (p1 k m &&& pm 51 k) + ((p1 k m / 4) &&& pm 51 k)
def p3 (k m : Nat) : Nat := (p2 k m + p2 k m / 16) &&& pm 15 k
/-- the bytes' counts, by bytes -/
def pcb : Nat → Nat → Nat
  | 0, _ => 0
  | k + 1, m => pcn 8 (m % 256) + 256 * pcb k (m / 256)
theorem pl_h (c d : Nat) : (c + 256 * d) / 2 = (c / 2 + 128 * (d % 2)) + 256 * (d / 2) := by omega
theorem pl_hb (c d : Nat) (h : c < 256) : c / 2 + 128 * (d % 2) < 256 := by omega
theorem pl_q (a p : Nat) : (a + 256 * p) / 4 = (a / 4 + 64 * (p % 4)) + 256 * (p / 4) := by omega
theorem pl_qb (a p : Nat) (h : a < 256) : a / 4 + 64 * (p % 4) < 256 := by omega
theorem pl_s (c d u v : Nat) (h1 : u ≤ c) (h2 : v ≤ d) : (c + 256 * d) - (u + 256 * v) = (c - u) + 256 * (d - v) := by omega
theorem pl_a (a b c d : Nat) : (a + 256 * b) + (c + 256 * d) = (a + c) + 256 * (b + d) := by omega
theorem pl_x (b q : Nat) : b + 256 * q + (b + 256 * q) / 16 = (b % 16 + 16 * (b / 16) + b / 16 + 16 * (q % 16)) + 256 * (q + q / 16) := by omega
theorem pl_m (c d : Nat) (h : c < 256) : (c + 256 * d) % 256 = c := by omega
theorem pl_d (c d : Nat) (h : c < 256) : (c + 256 * d) / 256 = d := by omega
theorem pl_l (a b N : Nat) (h1 : a < 256) (h2 : b < N) : a + 256 * b < N * 256 := by omega
theorem pl_le {c d u v : Nat} (h1 : u ≤ c) (h2 : v ≤ d) : u + 256 * v ≤ c + 256 * d := by omega
theorem pl_16 (b q : Nat) (h : b % 16 ≤ 4) : (b + 256 * q) % 16 ≤ 4 := by omega
theorem pl_v (n lo hi x : Nat) (hn : lo < n) (e : x = lo + n * hi) : x / n = hi := by
  rw [e, Nat.add_mul_div_left _ _ (Nat.lt_of_le_of_lt (Nat.zero_le _) hn), Nat.div_eq_of_lt hn, Nat.zero_add]
theorem p_le : ∀ (k m : Nat), m < 256 ^ k → ((m / 2) &&& pm 85 k) ≤ m ∧ p1 k m < 256 ^ k ∧ p2 k m < 256 ^ k ∧ (p2 k m % 16 ≤ 4) ∧ p3 k m = pcb k m ∧ (∀ c d, m = c + 256 * d → c < 256 → k = k)
  | 0, m, h => by
    have : m = 0 := by simpa using h
    subst this
    refine ⟨Nat.le_refl _, by decide, by decide, by decide, by decide, fun _ _ _ _ => rfl⟩
  | k + 1, m, h => by
    obtain ⟨c, d, rfl, hc⟩ : ∃ c d, m = c + 256 * d ∧ c < 256 := ⟨m % 256, m / 256, by omega, by omega⟩
    have hd : d < 256 ^ k := by rw [Nat.pow_succ] at h; omega
    obtain ⟨i1, i2, i3, i4, i5, -⟩ := p_le k d hd
    obtain ⟨b1, b2, b3⟩ := pb_1 c hc
    obtain ⟨c1, c2, c3, c4, c5, c6, c7, c8⟩ := pb_2 c hc
    have e1 : ((c + 256 * d) / 2) &&& pm 85 (k + 1) = ((c / 2) &&& 85) + 256 * ((d / 2) &&& pm 85 k) := by
      rw [pl_h]
      show _ &&& (85 + 256 * pm 85 k) = _
      rw [pb_land (pl_hb c d hc) (by decide)]
      rcases Nat.mod_two_eq_zero_or_one d with z | z
      · rw [z]; rfl
      · rw [z, Nat.mul_one, b3]
    have e2 : p1 (k + 1) (c + 256 * d) = pb_a c + 256 * p1 k d := by
      unfold p1 pb_a
      rw [e1]
      exact pl_s _ _ _ _ b1 i1
    have e3 : p2 (k + 1) (c + 256 * d) = pb_b c + 256 * p2 k d := by
      unfold p2 pb_b
      rw [e2]
      rw [pl_q]
      show (_ &&& (51 + 256 * pm 51 k)) + (_ &&& (51 + 256 * pm 51 k)) = _
      rw [pb_land c1 (by decide), pb_land (pl_qb _ _ c1) (by decide), c3 _ (Nat.mod_lt _ (by decide))]
      exact pl_a _ _ _ _
    have e4 : p3 (k + 1) (c + 256 * d) = pb_c c + 256 * p3 k d := by
      unfold p3 pb_c
      rw [e3]
      have z := pb_3 (pb_b c % 16) c7 (pb_b c / 16) c8 (p2 k d % 16) i4
      rw [pl_x]
      show _ &&& (15 + 256 * pm 15 k) = _
      rw [pb_land z.2 (by decide), z.1]
      have : pb_b c % 16 + 16 * (pb_b c / 16) = pb_b c := Nat.mod_add_div _ _
      rw [this]
    refine ⟨?_, ?_, ?_, ?_, ?_, fun _ _ _ _ => rfl⟩
    · rw [e1]; exact pl_le b1 i1
    · rw [e2, Nat.pow_succ]; exact pl_l _ _ _ c1 i2
    · rw [e3, Nat.pow_succ]; exact pl_l _ _ _ c2 i3
    · rw [e3]; exact pl_16 _ _ c7
    · rw [e4, i5, c5]
      show _ = pcn 8 ((c + 256 * d) % 256) + 256 * pcb k ((c + 256 * d) / 256)
      rw [pl_m c d hc, pl_d c d hc]
theorem pcb_pcn : ∀ (k m : Nat), ∃ l : List Nat, l.length = k ∧ (∀ x ∈ l, x ≤ 8) ∧ pcb k m = l.foldr (fun x y => x + 256 * y) 0 ∧ pcn (8 * k) m = l.foldr (fun x y => x + y) 0
  | 0, m => ⟨[], rfl, (fun x h => absurd h List.not_mem_nil), rfl, rfl⟩
  | k + 1, m => by
    obtain ⟨l, h1, h2, h3, h4⟩ := pcb_pcn k (m / 256)
    refine ⟨pcn 8 (m % 256) :: l, by rw [List.length_cons, h1], ?_, ?_, ?_⟩
    · intro x hx
      rcases List.mem_cons.mp hx with rfl | hx
      · have := (pb_2 (m % 256) (Nat.mod_lt _ (by decide)))
        rw [← this.2.2.2.2.1]
        exact this.2.2.2.2.2.1
      · exact h2 x hx
    · show _ = _ + 256 * _
      rw [← h3]
      rfl
    · show _ = _ + _
      rw [← h4, show 8 * (k + 1) = 8 + 8 * k by omega, pcn_add]
theorem pc_x1 (b0 b1 b2 b3 b4 b5 b6 b7 : Nat) (q0 : b0 ≤ 8) : (b0 + b1) + 256 * (b1 + b2) + 65536 * (b2 + b3) + 16777216 * (b3 + b4) + 4294967296 * (b4 + b5) + 1099511627776 * (b5 + b6) + 281474976710656 * (b6 + b7) + 72057594037927936 * b7 = b0 + 256 * (b1 + 256 * (b2 + 256 * (b3 + 256 * (b4 + 256 * (b5 + 256 * (b6 + 256 * (b7 + 256 * 0))))))) + (b0 + 256 * (b1 + 256 * (b2 + 256 * (b3 + 256 * (b4 + 256 * (b5 + 256 * (b6 + 256 * (b7 + 256 * 0)))))))) / 256 := by
  rw [pl_v 256 b0 (b1 + 256 * (b2 + 256 * (b3 + 256 * (b4 + 256 * (b5 + 256 * (b6 + 256 * (b7 + 256 * 0))))))) _ (Nat.lt_of_le_of_lt q0 (by decide)) rfl]
  omega
theorem pc_x2 (b0 b1 b2 b3 b4 b5 b6 b7 : Nat) (q0 : b0 ≤ 8) (q1 : b1 ≤ 8) (q2 : b2 ≤ 8) : (b0 + b1 + b2 + b3) + 256 * (b1 + b2 + b3 + b4) + 65536 * (b2 + b3 + b4 + b5) + 16777216 * (b3 + b4 + b5 + b6) + 4294967296 * (b4 + b5 + b6 + b7) + 1099511627776 * (b5 + b6 + b7) + 281474976710656 * (b6 + b7) + 72057594037927936 * b7 = (b0 + b1) + 256 * (b1 + b2) + 65536 * (b2 + b3) + 16777216 * (b3 + b4) + 4294967296 * (b4 + b5) + 1099511627776 * (b5 + b6) + 281474976710656 * (b6 + b7) + 72057594037927936 * b7 + ((b0 + b1) + 256 * (b1 + b2) + 65536 * (b2 + b3) + 16777216 * (b3 + b4) + 4294967296 * (b4 + b5) + 1099511627776 * (b5 + b6) + 281474976710656 * (b6 + b7) + 72057594037927936 * b7) / 65536 := by
  have h : ((b0 + b1) + 256 * (b1 + b2) + 65536 * (b2 + b3) + 16777216 * (b3 + b4) + 4294967296 * (b4 + b5) + 1099511627776 * (b5 + b6) + 281474976710656 * (b6 + b7) + 72057594037927936 * b7) / 65536 = (b2 + b3) + 256 * (b3 + b4) + 65536 * (b4 + b5) + 16777216 * (b5 + b6) + 4294967296 * (b6 + b7) + 1099511627776 * b7 := pl_v 65536 ((b0 + b1) + 256 * (b1 + b2)) ((b2 + b3) + 256 * (b3 + b4) + 65536 * (b4 + b5) + 16777216 * (b5 + b6) + 4294967296 * (b6 + b7) + 1099511627776 * b7) _ (by omega) (by omega)
  rw [h]
  clear h q0 q1 q2
  omega
theorem pc_x3 (b0 b1 b2 b3 b4 b5 b6 b7 : Nat) (q0 : b0 ≤ 8) (q1 : b1 ≤ 8) (q2 : b2 ≤ 8) (q3 : b3 ≤ 8) (q4 : b4 ≤ 8) (q5 : b5 ≤ 8) (q6 : b6 ≤ 8) (q7 : b7 ≤ 8) : ((b0 + b1 + b2 + b3) + 256 * (b1 + b2 + b3 + b4) + 65536 * (b2 + b3 + b4 + b5) + 16777216 * (b3 + b4 + b5 + b6) + 4294967296 * (b4 + b5 + b6 + b7) + 1099511627776 * (b5 + b6 + b7) + 281474976710656 * (b6 + b7) + 72057594037927936 * b7) / 4294967296 = (b4 + b5 + b6 + b7) + 256 * ((b5 + b6 + b7) + 256 * (b6 + b7) + 65536 * b7) := pl_v 4294967296 ((b0 + b1 + b2 + b3) + 256 * (b1 + b2 + b3 + b4) + 65536 * (b2 + b3 + b4 + b5) + 16777216 * (b3 + b4 + b5 + b6)) ((b4 + b5 + b6 + b7) + 256 * ((b5 + b6 + b7) + 256 * (b6 + b7) + 65536 * b7)) _ (by omega) (by clear q0 q1 q2 q3 q4 q5 q6 q7; omega)
theorem pc_x4 (b0 b1 b2 b3 b4 b5 b6 b7 : Nat) (q0 : b0 ≤ 8) (q1 : b1 ≤ 8) (q2 : b2 ≤ 8) (q3 : b3 ≤ 8) (q4 : b4 ≤ 8) (q5 : b5 ≤ 8) (q6 : b6 ≤ 8) (q7 : b7 ≤ 8) : b0 + 256 * (b1 + 256 * (b2 + 256 * (b3 + 256 * (b4 + 256 * (b5 + 256 * (b6 + 256 * (b7 + 256 * 0))))))) < 2 ^ 60 := by omega
theorem pc_x5 (b0 b1 b2 b3 b4 b5 b6 b7 : Nat) (q0 : b0 ≤ 8) (q1 : b1 ≤ 8) (q2 : b2 ≤ 8) (q3 : b3 ≤ 8) (q4 : b4 ≤ 8) (q5 : b5 ≤ 8) (q6 : b6 ≤ 8) (q7 : b7 ≤ 8) : (b0 + b1) + 256 * (b1 + b2) + 65536 * (b2 + b3) + 16777216 * (b3 + b4) + 4294967296 * (b4 + b5) + 1099511627776 * (b5 + b6) + 281474976710656 * (b6 + b7) + 72057594037927936 * b7 < 2 ^ 61 := by omega
theorem pc_x6 (b0 b1 b2 b3 b4 b5 b6 b7 : Nat) (q0 : b0 ≤ 8) (q1 : b1 ≤ 8) (q2 : b2 ≤ 8) (q3 : b3 ≤ 8) (q4 : b4 ≤ 8) (q5 : b5 ≤ 8) (q6 : b6 ≤ 8) (q7 : b7 ≤ 8) : (b0 + b1 + b2 + b3) + 256 * (b1 + b2 + b3 + b4) + 65536 * (b2 + b3 + b4 + b5) + 16777216 * (b3 + b4 + b5 + b6) + 4294967296 * (b4 + b5 + b6 + b7) + 1099511627776 * (b5 + b6 + b7) + 281474976710656 * (b6 + b7) + 72057594037927936 * b7 < 2 ^ 62 := by omega
theorem pc_x7 (b0 b1 b2 b3 b4 b5 b6 b7 : Nat) (q0 : b0 ≤ 8) (q1 : b1 ≤ 8) (q2 : b2 ≤ 8) (q3 : b3 ≤ 8) (q4 : b4 ≤ 8) (q5 : b5 ≤ 8) (q6 : b6 ≤ 8) (q7 : b7 ≤ 8) : (b0 + b1 + b2 + b3) + 256 * (b1 + b2 + b3 + b4) + 65536 * (b2 + b3 + b4 + b5) + 16777216 * (b3 + b4 + b5 + b6) + 4294967296 * (b4 + b5 + b6 + b7) + 1099511627776 * (b5 + b6 + b7) + 281474976710656 * (b6 + b7) + 72057594037927936 * b7 + ((b4 + b5 + b6 + b7) + 256 * ((b5 + b6 + b7) + 256 * (b6 + b7) + 65536 * b7)) < 2 ^ 63 := by omega
theorem pc_x8 (b0 b1 b2 b3 b4 b5 b6 b7 : Nat) (q0 : b0 ≤ 8) (q1 : b1 ≤ 8) (q2 : b2 ≤ 8) (q3 : b3 ≤ 8) (q4 : b4 ≤ 8) (q5 : b5 ≤ 8) (q6 : b6 ≤ 8) (q7 : b7 ≤ 8) : b0 + (b1 + (b2 + (b3 + (b4 + (b5 + (b6 + (b7 + 0))))))) < 128 := by omega
theorem pc_x9 (b0 b1 b2 b3 b4 b5 b6 b7 : Nat) : (b0 + b1 + b2 + b3) + 256 * (b1 + b2 + b3 + b4) + 65536 * (b2 + b3 + b4 + b5) + 16777216 * (b3 + b4 + b5 + b6) + 4294967296 * (b4 + b5 + b6 + b7) + 1099511627776 * (b5 + b6 + b7) + 281474976710656 * (b6 + b7) + 72057594037927936 * b7 + ((b4 + b5 + b6 + b7) + 256 * ((b5 + b6 + b7) + 256 * (b6 + b7) + 65536 * b7)) = (b0 + (b1 + (b2 + (b3 + (b4 + (b5 + (b6 + (b7 + 0)))))))) + 128 * (2 * ((b1 + b2 + b3 + b4) + 256 * (b2 + b3 + b4 + b5) + 65536 * (b3 + b4 + b5 + b6) + 16777216 * (b4 + b5 + b6 + b7) + 4294967296 * (b5 + b6 + b7) + 1099511627776 * (b6 + b7) + 281474976710656 * b7 + ((b5 + b6 + b7) + 256 * (b6 + b7) + 65536 * b7))) := by omega
theorem pc_64 {m : Nat} (h : m < 256 ^ 8) : ∃ a4 a5 : Nat, p3 8 m < 2 ^ 60 ∧ a4 = p3 8 m + p3 8 m / 256 ∧ a4 < 2 ^ 61 ∧ a5 = a4 + a4 / 65536 ∧ a5 < 2 ^ 62 ∧ a5 + a5 / 4294967296 < 2 ^ 63 ∧ (a5 + a5 / 4294967296) % 128 = pcn 64 m := by
  have h5 := (p_le 8 m h).2.2.2.2.1
  obtain ⟨l, h1, h2, h3, h4⟩ := pcb_pcn 8 m
  match l, h1, h2, h3, h4 with
  | [b0, b1, b2, b3, b4, b5, b6, b7], _, h2, h3, h4 =>
    simp only [List.mem_cons, List.not_mem_nil, or_false, forall_eq_or_imp, forall_eq] at h2
    simp only [List.foldr_cons, List.foldr_nil] at h3 h4
    obtain ⟨q0, q1, q2, q3, q4, q5, q6, q7⟩ := h2
    rw [h5, h3]
    have h4 : pcn 64 m = _ := h4
    rw [h4]
    refine ⟨(b0 + b1) + 256 * (b1 + b2) + 65536 * (b2 + b3) + 16777216 * (b3 + b4) + 4294967296 * (b4 + b5) + 1099511627776 * (b5 + b6) + 281474976710656 * (b6 + b7) + 72057594037927936 * b7, (b0 + b1 + b2 + b3) + 256 * (b1 + b2 + b3 + b4) + 65536 * (b2 + b3 + b4 + b5) + 16777216 * (b3 + b4 + b5 + b6) + 4294967296 * (b4 + b5 + b6 + b7) + 1099511627776 * (b5 + b6 + b7) + 281474976710656 * (b6 + b7) + 72057594037927936 * b7, pc_x4 b0 b1 b2 b3 b4 b5 b6 b7 q0 q1 q2 q3 q4 q5 q6 q7, pc_x1 b0 b1 b2 b3 b4 b5 b6 b7 q0, pc_x5 b0 b1 b2 b3 b4 b5 b6 b7 q0 q1 q2 q3 q4 q5 q6 q7, pc_x2 b0 b1 b2 b3 b4 b5 b6 b7 q0 q1 q2, pc_x6 b0 b1 b2 b3 b4 b5 b6 b7 q0 q1 q2 q3 q4 q5 q6 q7, ?_, ?_⟩
    · rw [pc_x3 b0 b1 b2 b3 b4 b5 b6 b7 q0 q1 q2 q3 q4 q5 q6 q7]; exact pc_x7 b0 b1 b2 b3 b4 b5 b6 b7 q0 q1 q2 q3 q4 q5 q6 q7
    · rw [pc_x3 b0 b1 b2 b3 b4 b5 b6 b7 q0 q1 q2 q3 q4 q5 q6 q7, pc_x9 b0 b1 b2 b3 b4 b5 b6 b7, Nat.add_mul_mod_self_left, Nat.mod_eq_of_lt (pc_x8 b0 b1 b2 b3 b4 b5 b6 b7 q0 q1 q2 q3 q4 q5 q6 q7)]
theorem pc_32 {m : Nat} (h : m < 256 ^ 4) : ∃ a4 : Nat, p3 4 m < 2 ^ 28 ∧ a4 = p3 4 m + p3 4 m / 256 ∧ a4 < 2 ^ 29 ∧ a4 + a4 / 65536 < 2 ^ 30 ∧ (a4 + a4 / 65536) % 64 = pcn 32 m := by
  have h5 := (p_le 4 m h).2.2.2.2.1
  obtain ⟨l, h1, h2, h3, h4⟩ := pcb_pcn 4 m
  match l, h1, h2, h3, h4 with
  | [b0, b1, b2, b3], _, h2, h3, h4 =>
    simp only [List.mem_cons, List.not_mem_nil, or_false, forall_eq_or_imp, forall_eq] at h2
    simp only [List.foldr_cons, List.foldr_nil] at h3 h4
    obtain ⟨q0, q1, q2, q3⟩ := h2
    rw [h5, h3]
    have h4 : pcn 32 m = _ := h4
    rw [h4]
    have e4 : ((b0 + b1) + 256 * (b1 + b2) + 65536 * (b2 + b3) + 16777216 * b3) / 65536 = (b2 + b3) + 256 * b3 := by omega
    refine ⟨(b0 + b1) + 256 * (b1 + b2) + 65536 * (b2 + b3) + 16777216 * b3, by omega, by omega, by omega, ?_, ?_⟩
    · rw [e4]; omega
    · rw [e4]
      have : (b0 + b1) + 256 * (b1 + b2) + 65536 * (b2 + b3) + 16777216 * b3 + ((b2 + b3) + 256 * b3) = (b0 + (b1 + (b2 + (b3 + 0)))) + 64 * (4 * ((b1 + b2) + 256 * (b2 + b3) + 65536 * b3 + b3)) := by omega
      rw [this, Nat.add_mul_mod_self_left, Nat.mod_eq_of_lt (by omega)]
end
section
/-! words for what methods answer -/
noncomputable def tf (P : Prop) : Int32 := @ite _ P (Classical.propDecidable P) 1 0
theorem tf_t {P : Prop} (h : P) : tf P = 1 := @if_pos P (Classical.propDecidable P) h _ _ _
theorem tf_f {P : Prop} (h : ¬ P) : tf P = 0 := @if_neg P (Classical.propDecidable P) h _ _ _
theorem tf_iff {P Q : Prop} (h : P ↔ Q) : tf P = tf Q := by rw [propext h]
theorem tf_01 (P : Prop) : tf P = 0 ∨ tf P = 1 := by
  rcases Classical.em P with h | h
  · exact Or.inr (tf_t h)
  · exact Or.inl (tf_f h)
theorem tf_0 {P : Prop} : tf P = 0 ↔ ¬ P := by
  rcases Classical.em P with h | h
  · rw [tf_t h]; exact ⟨fun q => absurd q (by decide), fun q => absurd h q⟩
  · rw [tf_f h]; exact ⟨fun _ => h, fun _ => rfl⟩
theorem tf_1 {P : Prop} : tf P = 1 ↔ P := by
  rcases Classical.em P with h | h
  · rw [tf_t h]; exact ⟨fun _ => h, fun _ => rfl⟩
  · rw [tf_f h]; exact ⟨fun q => absurd q (by decide), fun q => absurd q h⟩
theorem mqi {a b : Int32} {h : mj_H} (e : a = b) : (Value.int a, h) = (Value.int b, h) := by rw [e]
theorem mqT {P : Prop} {h : mj_H} (p : P) : (Value.int 1, h) = (Value.int (tf P), h) := by rw [tf_t p]
theorem mqF {P : Prop} {h : mj_H} (p : ¬ P) : (Value.int 0, h) = (Value.int (tf P), h) := by rw [tf_f p]
theorem mzT {P : Prop} {h : mj_H} (p : P) : ((1 : Int32) = 0 ∨ (1 : Int32) = 1) ∧ (Value.int 1, h) = (Value.int (tf P), h) := ⟨Or.inr rfl, mqT p⟩
theorem mzF {P : Prop} {h : mj_H} (p : ¬ P) : ((0 : Int32) = 0 ∨ (0 : Int32) = 1) ∧ (Value.int 0, h) = (Value.int (tf P), h) := ⟨Or.inl rfl, mqF p⟩
theorem if_i {c A B : Prop} [Decidable c] (h1 : c → A) (h2 : ¬ c → B) : if c then A else B := by
  by_cases h : c
  · rw [if_pos h]; exact h1 h
  · rw [if_neg h]; exact h2 h
theorem if_tf {P A B : Prop} (h1 : P → B) (h2 : ¬ P → A) : if tf P = 0 then A else B := if_i (fun c => h2 (tf_0.mp c)) (fun c => h1 (Classical.byContradiction fun q => c (tf_f q)))
theorem if_le {a b : Nat} {A B : Prop} (ha : a < 2 ^ 31) (hb : b < 2 ^ 31) (h1 : a ≤ b → A) (h2 : b < a → B) : if nI a ≤ nI b then A else B :=
  if_i (fun c => h1 ((nI_leI ha hb).mp c)) (fun c => h2 (Nat.lt_of_not_le fun q => c ((nI_leI ha hb).mpr q)))
theorem if_lt {a b : Nat} {A B : Prop} (ha : a < 2 ^ 31) (hb : b < 2 ^ 31) (h1 : a < b → A) (h2 : b ≤ a → B) : if nI a < nI b then A else B :=
  if_i (fun c => h1 ((nI_ltI ha hb).mp c)) (fun c => h2 (Nat.le_of_not_lt fun q => c ((nI_ltI ha hb).mpr q)))
theorem if_eq {a b : Nat} {A B : Prop} (ha : a < 2 ^ 31) (hb : b < 2 ^ 31) (h1 : a = b → A) (h2 : a ≠ b → B) : if nI a = nI b then A else B :=
  if_i (fun c => h1 ((nI_eq ha hb).mp c)) (fun c => h2 fun q => c ((nI_eq ha hb).mpr q))
/-- an int against the range 0 .. n - 1 -/
theorem if_rg {x : Int32} {n : Nat} {A B : Prop} (hn : n < 2 ^ 31) (h1 : ∀ j, j < n → x = nI j → B) (h2 : (∀ j, j < n → x ≠ nI j) → A) : if x < 0 then A else (if nI n ≤ x then A else B) := by
  refine if_i (fun c => h2 fun j hj e => ?_) (fun c => if_i (fun d => h2 fun j hj e => ?_) (fun d => ?_))
  · rw [e] at c; exact nI_pos (by omega) c
  · rw [e] at d; exact nI_ge hj (by omega) d
  · rcases pk_ix x hn with h | h | ⟨j, hj, e⟩
    · exact absurd h c
    · exact absurd h d
    · exact h1 j hj e
theorem nI_2 : (2 : Int32) = nI 2 := rfl
theorem ix4 (a b : Nat) : nI a * (4 : Int32) + nI b = nI (4 * a + b) := by
  rw [show (4 : Int32) = nI 4 from rfl, pk_mul, nI_add, Nat.mul_comm]
theorem ix4' (a b : Nat) : (4 : Int32) * nI a + nI b = nI (4 * a + b) := by
  rw [show (4 : Int32) = nI 4 from rfl, pk_mul, nI_add]
theorem ix4m (a : Nat) : nI a * (4 : Int32) = nI (4 * a) := by
  rw [show (4 : Int32) = nI 4 from rfl, pk_mul, Nat.mul_comm]
theorem ix40 (a b : Nat) : (40 : Int32) * nI a + nI b = nI (40 * a + b) := by
  rw [show (40 : Int32) = nI 40 from rfl, pk_mul, nI_add]
theorem n1_sub {n : Nat} : nI (n + 1) - 1 = nI n := nI_pred n
/-- sets of small numbers as bits -/
noncomputable def bs : Nat → (Nat → Prop) → Int64
  | 0, _ => 0
  | n + 1, p => bs n p ||| (@ite _ (p n) (Classical.propDecidable (p n)) ((1 : Int64) <<< ((nI n).toInt64 &&& 63)) 0)
theorem bs_t {n : Nat} {p : Nat → Prop} (h : p n) : bs (n + 1) p = bs n p ||| ((1 : Int64) <<< ((nI n).toInt64 &&& 63)) := congrArg _ (@if_pos (p n) (Classical.propDecidable _) h _ _ _)
theorem bs_f {n : Nat} {p : Nat → Prop} (h : ¬ p n) : bs (n + 1) p = bs n p ||| (0 : Int64) := congrArg _ (@if_neg (p n) (Classical.propDecidable _) h _ _ _)
theorem bs_f0 {n : Nat} {p : Nat → Prop} (h : ¬ p n) : bs (n + 1) p = bs n p := by
  rw [bs_f h]
  simp
theorem bs_iff {p q : Nat → Prop} : ∀ {n : Nat}, (∀ i, i < n → (p i ↔ q i)) → bs n p = bs n q
  | 0, _ => rfl
  | n + 1, h => by
    rcases Classical.em (p n) with c | c
    · rw [bs_t c, bs_t ((h n (Nat.lt_succ_self n)).mp c), bs_iff fun i hi => h i (Nat.lt_succ_of_lt hi)]
    · rw [bs_f c, bs_f (fun d => c ((h n (Nat.lt_succ_self n)).mpr d)), bs_iff fun i hi => h i (Nat.lt_succ_of_lt hi)]
theorem sh_1 : ∀ n, n < 64 → ((1 : Int64) <<< ((nI n).toInt64 &&& 63)).toBitVec = BitVec.twoPow 64 n := by decide +kernel
theorem sh_ub : ∀ n, n < 64 → (((nI n).toInt64.toUInt64 &&& Int64.toUInt64 63).toNat % 64) = n := by decide +kernel
theorem bs_bit {p : Nat → Prop} : ∀ {n : Nat}, n ≤ 64 → ∀ i, (bs n p).toBitVec.getLsbD i = true ↔ i < n ∧ p i
  | 0, _, i => by
    show (0 : Int64).toBitVec.getLsbD i = true ↔ _
    simp
  | n + 1, hn, i => by
    have ih := bs_bit (p := p) (n := n) (by omega) i
    rcases Classical.em (p n) with c | c
    · rw [bs_t c, Int64.toBitVec_or, sh_1 n (by omega), BitVec.getLsbD_or, Bool.or_eq_true, ih, BitVec.getLsbD_twoPow]
      simp only [Bool.and_eq_true, decide_eq_true_eq]
      constructor
      · rintro (⟨h1, h2⟩ | ⟨h1, h2⟩)
        · exact ⟨by omega, h2⟩
        · exact ⟨by omega, h2 ▸ c⟩
      · rintro ⟨h1, h2⟩
        by_cases e : i = n
        · exact Or.inr ⟨by omega, e.symm⟩
        · exact Or.inl ⟨by omega, h2⟩
    · rw [bs_f0 c, ih]
      constructor
      · rintro ⟨h1, h2⟩
        exact ⟨by omega, h2⟩
      · rintro ⟨h1, h2⟩
        refine ⟨?_, h2⟩
        by_cases e : i = n
        · exact absurd (e ▸ h2) c
        · omega
theorem i64_ext {x y : Int64} (h : ∀ i, i < 64 → (x.toBitVec.getLsbD i = true ↔ y.toBitVec.getLsbD i = true)) : x = y := by
  apply Int64.toBitVec_inj.mp
  apply BitVec.eq_of_getLsbD_eq
  intro i hi
  have := h i hi
  cases hx : x.toBitVec.getLsbD i <;> cases hy : y.toBitVec.getLsbD i <;> simp_all
theorem cmp0 {x y : Int64} : lg_cmp x y = 0 ↔ x = y := by
  unfold lg_cmp
  by_cases h : x > y
  · rw [if_pos h]
    refine ⟨fun q => absurd q (by decide), fun q => ?_⟩
    rw [q] at h
    exact absurd h (Int64.lt_irrefl)
  · rw [if_neg h]
    by_cases e : x = y
    · simp [e]
    · rw [if_neg e]
      exact ⟨fun q => absurd q (by decide), fun q => absurd q e⟩
/-! wishes of a method's answer -/
def qN (R : Nat → Nat → Nat) (P : (Nat → Nat → Int32) → (Nat → Nat → Int64) → Prop) : mj_R → Prop := fun x => ∃ I J, x = (.null, (I, J, R)) ∧ P I J
def qI (R : Nat → Nat → Nat) (P : Int32 → (Nat → Nat → Int32) → (Nat → Nat → Int64) → Prop) : mj_R → Prop := fun x => ∃ r I J, x = (.int r, (I, J, R)) ∧ P r I J
def qL (R : Nat → Nat → Nat) (P : Int64 → (Nat → Nat → Int32) → (Nat → Nat → Int64) → Prop) : mj_R → Prop := fun x => ∃ r I J, x = (.long r, (I, J, R)) ∧ P r I J
theorem mj_cN {S : mj_S} {CD : Nat → mj_C} {D z : Nat} {as : List Value} {h : mj_H} {R : Nat → Nat → Nat} {P : (Nat → Nat → Int32) → (Nat → Nat → Int64) → Prop}
    (hm : mj_if (Nat.ble (mj_sz as) (CD z).2.2) (mj_sg S (CD z) (mj_Cl S CD D) (qN R P) (mj_Ev S (CD z) (mj_Cl S CD D) (qN R P)) 100 0 (mj_a0 0 as) [] h)) : ∃ I J, mj_Cl S CD (D + 1) z as h (.null, (I, J, R)) ∧ P I J := by
  obtain ⟨r, ⟨I, J, rfl, hP⟩, hr⟩ := mj_call hm
  exact ⟨I, J, hr, hP⟩
theorem mj_cI {S : mj_S} {CD : Nat → mj_C} {D z : Nat} {as : List Value} {h : mj_H} {R : Nat → Nat → Nat} {P : Int32 → (Nat → Nat → Int32) → (Nat → Nat → Int64) → Prop}
    (hm : mj_if (Nat.ble (mj_sz as) (CD z).2.2) (mj_sg S (CD z) (mj_Cl S CD D) (qI R P) (mj_Ev S (CD z) (mj_Cl S CD D) (qI R P)) 100 0 (mj_a0 0 as) [] h)) : ∃ r I J, mj_Cl S CD (D + 1) z as h (.int r, (I, J, R)) ∧ P r I J := by
  obtain ⟨r, ⟨x, I, J, rfl, hP⟩, hr⟩ := mj_call hm
  exact ⟨x, I, J, hr, hP⟩
theorem mj_cL {S : mj_S} {CD : Nat → mj_C} {D z : Nat} {as : List Value} {h : mj_H} {R : Nat → Nat → Nat} {P : Int64 → (Nat → Nat → Int32) → (Nat → Nat → Int64) → Prop}
    (hm : mj_if (Nat.ble (mj_sz as) (CD z).2.2) (mj_sg S (CD z) (mj_Cl S CD D) (qL R P) (mj_Ev S (CD z) (mj_Cl S CD D) (qL R P)) 100 0 (mj_a0 0 as) [] h)) : ∃ r I J, mj_Cl S CD (D + 1) z as h (.long r, (I, J, R)) ∧ P r I J := by
  obtain ⟨r, ⟨x, I, J, rfl, hP⟩, hr⟩ := mj_call hm
  exact ⟨x, I, J, hr, hP⟩
/-! stores read back -/
section UP
variable {α : Type} {f : Nat → Nat → α} {q k j i : Nat} {v : α}
theorem up_s : mj_up f q j v q j = v := by simp [mj_up]
theorem up_c (h : k ≠ q) : mj_up f q j v k = f k := by
  funext i
  simp [mj_up, h]
theorem up_j (h : i ≠ j) : mj_up f q j v q i = f q i := by simp [mj_up, h]
theorem up_n (h : k ≠ q ∨ i ≠ j) : mj_up f q j v k i = f k i := by
  rcases h with h | h
  · rw [up_c h]
  · simp [mj_up, h]
end UP
/-- counting -/
noncomputable def ct : Nat → (Nat → Prop) → Nat
  | 0, _ => 0
  | n + 1, p => ct n p + @ite _ (p n) (Classical.propDecidable (p n)) 1 0
theorem ct_t {n : Nat} {p : Nat → Prop} (h : p n) : ct (n + 1) p = ct n p + 1 := congrArg _ (@if_pos (p n) (Classical.propDecidable _) h _ _ _)
theorem ct_f {n : Nat} {p : Nat → Prop} (h : ¬ p n) : ct (n + 1) p = ct n p := congrArg _ (@if_neg (p n) (Classical.propDecidable _) h _ _ _)
theorem ct_iff {p q : Nat → Prop} : ∀ {n : Nat}, (∀ i, i < n → (p i ↔ q i)) → ct n p = ct n q
  | 0, _ => rfl
  | n + 1, h => by
    rcases Classical.em (p n) with c | c
    · rw [ct_t c, ct_t ((h n (Nat.lt_succ_self n)).mp c), ct_iff fun i hi => h i (Nat.lt_succ_of_lt hi)]
    · rw [ct_f c, ct_f (fun d => c ((h n (Nat.lt_succ_self n)).mpr d)), ct_iff fun i hi => h i (Nat.lt_succ_of_lt hi)]
theorem ct_le {p : Nat → Prop} : ∀ {n : Nat}, ct n p ≤ n
  | 0 => Nat.le_refl 0
  | n + 1 => by
    have ih := ct_le (p := p) (n := n)
    rcases Classical.em (p n) with c | c
    · rw [ct_t c]; omega
    · rw [ct_f c]; omega
/-- small numbers, signed -/
def iI (x : Int) : Int32 := Int32.ofInt x
theorem iI_nI (n : Nat) : iI n = nI n := rfl
theorem iI_toInt {x : Int} (h1 : -2147483648 ≤ x) (h2 : x < 2147483648) : (iI x).toInt = x := Int32.toInt_ofInt_of_le (by omega) (by omega)
theorem iI_of (x : Int32) : x = iI x.toInt := (Int32.ofInt_toInt x).symm
/-! at a halt of method z of the class, of the reference -/
abbrev E1 (z D : Nat) (Q : mj_R → Prop) (pc : Nat) (l : mj_L) (I : Nat → Nat → Int32) (J : Nat → Nat → Int64) : Prop := mj_Ev mj_S1 (mj_CD z) (mj_Cl mj_S1 mj_CD D) Q pc l [] (I, J, mj_R1)
abbrev E2 (z D : Nat) (Q : mj_R → Prop) (pc : Nat) (l : mj_L) (I : Nat → Nat → Int32) (J : Nat → Nat → Int64) : Prop := mj_Ev mj_S2 (mj_CD z) (mj_Cl mj_S2 mj_CD D) Q pc l [] (I, J, mj_R2)
abbrev C1 (D z : Nat) (as : List Value) (I : Nat → Nat → Int32) (J : Nat → Nat → Int64) (v : Value) (I' : Nat → Nat → Int32) (J' : Nat → Nat → Int64) : Prop := mj_Cl mj_S1 mj_CD D z as (I, J, mj_R1) (v, (I', J', mj_R1))
abbrev C2 (D z : Nat) (as : List Value) (I : Nat → Nat → Int32) (J : Nat → Nat → Int64) (v : Value) (I' : Nat → Nat → Int32) (J' : Nat → Nat → Int64) : Prop := mj_Cl mj_S2 mj_CD D z as (I, J, mj_R2) (v, (I', J', mj_R2))
end
section
/-! class: rows as they are judged -/
def nm (W : Nat) (f g : Nat → Int32) : Prop := ∀ w, w < W → f w ≤ g w
def bt (W : Nat) (f g : Nat → Int32) : Prop := nm W f g ∧ ¬ nm W g f
def lbit (x : Int64) (i : Nat) : Prop := x.toBitVec.getLsbD i = true
/-- those that nobody else outdoes -/
def ub (n : Nat) (as : Nat → Prop) (ou : Nat → Nat → Prop) (r : Nat) : Prop := ¬ as r ∧ ∀ o, o < n → o ≠ r → ¬ as o → ¬ ou o r
theorem c_isIn {D i : Nat} {x : Int64} {I : Nat → Nat → Int32} {J : Nat → Nat → Int64} (hi : i < 64) : mj_Cl mj_S1 mj_CD (D + 1) 178 [.long x, .int (nI i)] (I, J, mj_R1) (.int (tf (lbit x i)), (I, J, mj_R1)) := by
  refine mj_mk (e178 _ _ ?_)
  have hb : ((x.toUInt64 >>> ((nI i).toInt64.toUInt64 &&& Int64.toUInt64 63)).toInt64 &&& (1 : Int64)) = 0 ↔ ¬ lbit x i := by
    unfold lbit
    have e : (x.toUInt64 >>> ((nI i).toInt64.toUInt64 &&& Int64.toUInt64 63)).toInt64.toBitVec = x.toBitVec >>> i := by
      apply BitVec.eq_of_toNat_eq
      show (x.toUInt64 >>> ((nI i).toInt64.toUInt64 &&& Int64.toUInt64 63)).toNat = _
      rw [UInt64.toNat_shiftRight, sh_ub i hi, BitVec.toNat_ushiftRight]
      rfl
    rw [← Int64.toBitVec_inj, Int64.toBitVec_and, e]
    show x.toBitVec >>> i &&& 1#64 = 0#64 ↔ _
    rw [BitVec.and_one_eq_setWidth_ofBool_getLsbD, BitVec.getLsbD_ushiftRight, Nat.add_zero]
    cases x.toBitVec.getLsbD i <;> decide
  refine if_i (fun c => mzF (hb.mp (cmp0.mp c))) (fun c => mzT (Classical.byContradiction fun q => c (cmp0.mpr (hb.mpr q))))
theorem c_judged {D n : Nat} {x : Int32} {I : Nat → Nat → Int32} {J : Nat → Nat → Int64} (hn : I 24 0 = nI n) (h40 : n ≤ 40) :
    mj_Cl mj_S1 mj_CD (D + 2) 177 [.ref 24, .int x] (I, J, mj_R1) (.int (tf (∃ j, j < n ∧ x = nI j ∧ ¬ lbit (J 24 5) j)), (I, J, mj_R1)) := by
  refine mj_mk (e177 _ ?_)
  rw [hn]
  refine if_rg (by omega) (fun j hj e => ?_) (fun h => mzF fun ⟨j, hj, e, _⟩ => h j hj e)
  subst e
  refine ⟨trivial, _, _, _, c_isIn (by omega), ?_⟩
  refine if_tf (fun c => mzF fun ⟨k, hk, e, q⟩ => ?_) (fun c => mzT ⟨j, hj, rfl, c⟩)
  rw [(nI_eq (by omega) (by omega)).mp e] at c
  exact q c
theorem c_jud {n r : Nat} {p : Nat → Prop} (hr : r < n) (hn : n ≤ 40 := by omega) : (∃ j, j < n ∧ nI r = nI j ∧ ¬ p j) ↔ ¬ p r :=
  ⟨fun ⟨j, hj, e, q⟩ => by rw [(nI_eq (by omega) (by omega)).mp e]; exact q, fun q => ⟨r, hr, rfl, q⟩⟩
theorem c_nm_a {D a b W : Nat} {I : Nat → Nat → Int32} {J : Nat → Nat → Int64} (ha : a + W ≤ 400) (hb : b + W ≤ 26244) (hW : W ≤ 4) :
    mj_Cl mj_S1 mj_CD (D + 1) 180 [.ref 45, .int (nI a), .ref 30, .int (nI b), .int (nI W)] (I, J, mj_R1) (.int (tf (nm W (fun w => I 45 (a + w)) (fun w => I 30 (b + w)))), (I, J, mj_R1)) := by
  refine mj_mk (e180_a _ _ _ ?_)
  have key : ∀ k i, W = i + k → (∀ w, w < i → I 45 (a + w) ≤ I 30 (b + w)) → mj_Ev mj_S1 (mj_CD 180) (mj_Cl mj_S1 mj_CD D) (fun x => x = (.int (tf (nm W (fun w => I 45 (a + w)) (fun w => I 30 (b + w)))), (I, J, mj_R1))) 3 [(0, .ref 45), (1, .int (nI a)), (2, .ref 30), (3, .int (nI b)), (4, .int (nI W)), (5, .int (nI i))] [] (I, J, mj_R1) := by
    intro k
    induction k with
    | zero =>
      intro i hi h
      refine mj_on (s180_3_a _ _ _ _ ?_)
      refine if_le (by omega) (by omega) (fun _ => mzT fun w hw => h w (by omega)) (fun c => absurd c (by omega))
    | succ k ih =>
      intro i hi h
      refine mj_on (s180_3_a _ _ _ _ ?_)
      refine if_le (by omega) (by omega) (fun c => absurd c (by omega)) (fun _ => ?_)
      rw [nI_add, nI_add, nI_clamp (by omega), nI_clamp (by omega), nI_1]
      refine ⟨vp_in_nI (by omega) (by decide), vp_in_nI (by omega) (by decide), if_i (fun c => ?_) (fun c => ?_)⟩
      · refine ih (i + 1) (by omega) fun w hw => ?_
        by_cases e : w = i
        · rw [e]; exact c
        · exact h w (by omega)
      · exact mzF fun q => c (q i (by omega))
  exact key W 0 (by omega) (fun w hw => absurd hw (Nat.not_lt_zero w))
theorem c_nm_b {D a b W : Nat} {I : Nat → Nat → Int32} {J : Nat → Nat → Int64} (ha : a + W ≤ 400) (hb : b + W ≤ 26244) (hW : W ≤ 4) :
    mj_Cl mj_S1 mj_CD (D + 1) 180 [.ref 42, .int (nI a), .ref 30, .int (nI b), .int (nI W)] (I, J, mj_R1) (.int (tf (nm W (fun w => I 42 (a + w)) (fun w => I 30 (b + w)))), (I, J, mj_R1)) := by
  refine mj_mk (e180_b _ _ _ ?_)
  have key : ∀ k i, W = i + k → (∀ w, w < i → I 42 (a + w) ≤ I 30 (b + w)) → mj_Ev mj_S1 (mj_CD 180) (mj_Cl mj_S1 mj_CD D) (fun x => x = (.int (tf (nm W (fun w => I 42 (a + w)) (fun w => I 30 (b + w)))), (I, J, mj_R1))) 3 [(0, .ref 42), (1, .int (nI a)), (2, .ref 30), (3, .int (nI b)), (4, .int (nI W)), (5, .int (nI i))] [] (I, J, mj_R1) := by
    intro k
    induction k with
    | zero =>
      intro i hi h
      refine mj_on (s180_3_b _ _ _ _ ?_)
      refine if_le (by omega) (by omega) (fun _ => mzT fun w hw => h w (by omega)) (fun c => absurd c (by omega))
    | succ k ih =>
      intro i hi h
      refine mj_on (s180_3_b _ _ _ _ ?_)
      refine if_le (by omega) (by omega) (fun c => absurd c (by omega)) (fun _ => ?_)
      rw [nI_add, nI_add, nI_clamp (by omega), nI_clamp (by omega), nI_1]
      refine ⟨vp_in_nI (by omega) (by decide), vp_in_nI (by omega) (by decide), if_i (fun c => ?_) (fun c => ?_)⟩
      · refine ih (i + 1) (by omega) fun w hw => ?_
        by_cases e : w = i
        · rw [e]; exact c
        · exact h w (by omega)
      · exact mzF fun q => c (q i (by omega))
  exact key W 0 (by omega) (fun w hw => absurd hw (Nat.not_lt_zero w))
theorem c_nm_c {D a b W : Nat} {I : Nat → Nat → Int32} {J : Nat → Nat → Int64} (ha : a + W ≤ 160) (hb : b + W ≤ 160) (hW : W ≤ 4) :
    mj_Cl mj_S1 mj_CD (D + 1) 180 [.ref 27, .int (nI a), .ref 26, .int (nI b), .int (nI W)] (I, J, mj_R1) (.int (tf (nm W (fun w => I 27 (a + w)) (fun w => I 26 (b + w)))), (I, J, mj_R1)) := by
  refine mj_mk (e180_d _ _ _ ?_)
  have key : ∀ k i, W = i + k → (∀ w, w < i → I 27 (a + w) ≤ I 26 (b + w)) → mj_Ev mj_S1 (mj_CD 180) (mj_Cl mj_S1 mj_CD D) (fun x => x = (.int (tf (nm W (fun w => I 27 (a + w)) (fun w => I 26 (b + w)))), (I, J, mj_R1))) 3 [(0, .ref 27), (1, .int (nI a)), (2, .ref 26), (3, .int (nI b)), (4, .int (nI W)), (5, .int (nI i))] [] (I, J, mj_R1) := by
    intro k
    induction k with
    | zero =>
      intro i hi h
      refine mj_on (s180_3_d _ _ _ _ ?_)
      refine if_le (by omega) (by omega) (fun _ => mzT fun w hw => h w (by omega)) (fun c => absurd c (by omega))
    | succ k ih =>
      intro i hi h
      refine mj_on (s180_3_d _ _ _ _ ?_)
      refine if_le (by omega) (by omega) (fun c => absurd c (by omega)) (fun _ => ?_)
      rw [nI_add, nI_add, nI_clamp (by omega), nI_clamp (by omega), nI_1]
      refine ⟨vp_in_nI (by omega) (by decide), vp_in_nI (by omega) (by decide), if_i (fun c => ?_) (fun c => ?_)⟩
      · refine ih (i + 1) (by omega) fun w hw => ?_
        by_cases e : w = i
        · rw [e]; exact c
        · exact h w (by omega)
      · exact mzF fun q => c (q i (by omega))
  exact key W 0 (by omega) (fun w hw => absurd hw (Nat.not_lt_zero w))
theorem c_nm_d {D a b W : Nat} {I : Nat → Nat → Int32} {J : Nat → Nat → Int64} (ha : a + W ≤ 160) (hb : b + W ≤ 160) (hW : W ≤ 4) :
    mj_Cl mj_S1 mj_CD (D + 1) 180 [.ref 26, .int (nI a), .ref 27, .int (nI b), .int (nI W)] (I, J, mj_R1) (.int (tf (nm W (fun w => I 26 (a + w)) (fun w => I 27 (b + w)))), (I, J, mj_R1)) := by
  refine mj_mk (e180_c _ _ _ ?_)
  have key : ∀ k i, W = i + k → (∀ w, w < i → I 26 (a + w) ≤ I 27 (b + w)) → mj_Ev mj_S1 (mj_CD 180) (mj_Cl mj_S1 mj_CD D) (fun x => x = (.int (tf (nm W (fun w => I 26 (a + w)) (fun w => I 27 (b + w)))), (I, J, mj_R1))) 3 [(0, .ref 26), (1, .int (nI a)), (2, .ref 27), (3, .int (nI b)), (4, .int (nI W)), (5, .int (nI i))] [] (I, J, mj_R1) := by
    intro k
    induction k with
    | zero =>
      intro i hi h
      refine mj_on (s180_3_c _ _ _ _ ?_)
      refine if_le (by omega) (by omega) (fun _ => mzT fun w hw => h w (by omega)) (fun c => absurd c (by omega))
    | succ k ih =>
      intro i hi h
      refine mj_on (s180_3_c _ _ _ _ ?_)
      refine if_le (by omega) (by omega) (fun c => absurd c (by omega)) (fun _ => ?_)
      rw [nI_add, nI_add, nI_clamp (by omega), nI_clamp (by omega), nI_1]
      refine ⟨vp_in_nI (by omega) (by decide), vp_in_nI (by omega) (by decide), if_i (fun c => ?_) (fun c => ?_)⟩
      · refine ih (i + 1) (by omega) fun w hw => ?_
        by_cases e : w = i
        · rw [e]; exact c
        · exact h w (by omega)
      · exact mzF fun q => c (q i (by omega))
  exact key W 0 (by omega) (fun w hw => absurd hw (Nat.not_lt_zero w))
theorem c_nm_e {D a b W : Nat} {I : Nat → Nat → Int32} {J : Nat → Nat → Int64} (ha : a + W ≤ 160) (hb : b + W ≤ 160) (hW : W ≤ 4) :
    mj_Cl mj_S1 mj_CD (D + 1) 180 [.ref 25, .int (nI a), .ref 25, .int (nI b), .int (nI W)] (I, J, mj_R1) (.int (tf (nm W (fun w => I 25 (a + w)) (fun w => I 25 (b + w)))), (I, J, mj_R1)) := by
  refine mj_mk (e180_e _ _ _ ?_)
  have key : ∀ k i, W = i + k → (∀ w, w < i → I 25 (a + w) ≤ I 25 (b + w)) → mj_Ev mj_S1 (mj_CD 180) (mj_Cl mj_S1 mj_CD D) (fun x => x = (.int (tf (nm W (fun w => I 25 (a + w)) (fun w => I 25 (b + w)))), (I, J, mj_R1))) 3 [(0, .ref 25), (1, .int (nI a)), (2, .ref 25), (3, .int (nI b)), (4, .int (nI W)), (5, .int (nI i))] [] (I, J, mj_R1) := by
    intro k
    induction k with
    | zero =>
      intro i hi h
      refine mj_on (s180_3_e _ _ _ _ ?_)
      refine if_le (by omega) (by omega) (fun _ => mzT fun w hw => h w (by omega)) (fun c => absurd c (by omega))
    | succ k ih =>
      intro i hi h
      refine mj_on (s180_3_e _ _ _ _ ?_)
      refine if_le (by omega) (by omega) (fun c => absurd c (by omega)) (fun _ => ?_)
      rw [nI_add, nI_add, nI_clamp (by omega), nI_clamp (by omega), nI_1]
      refine ⟨vp_in_nI (by omega) (by decide), vp_in_nI (by omega) (by decide), if_i (fun c => ?_) (fun c => ?_)⟩
      · refine ih (i + 1) (by omega) fun w hw => ?_
        by_cases e : w = i
        · rw [e]; exact c
        · exact h w (by omega)
      · exact mzF fun q => c (q i (by omega))
  exact key W 0 (by omega) (fun w hw => absurd hw (Nat.not_lt_zero w))
theorem c_out_a {D a b W : Nat} {I : Nat → Nat → Int32} {J : Nat → Nat → Int64} (hw : I 24 1 = nI W) (hW : W ≤ 4) (ha : a < 40) (hb : b < 40) :
    mj_Cl mj_S1 mj_CD (D + 2) 179 [.ref 24, .int (nI a), .ref 26, .int (nI b), .ref 27] (I, J, mj_R1) (.int (tf (bt W (fun w => I 26 (4 * a + w)) (fun w => I 27 (4 * b + w)))), (I, J, mj_R1)) := by
  refine mj_mk (e179_a _ _ ?_)
  rw [ix4m, ix4m, hw]
  refine ⟨trivial, _, _, _, c_nm_d (by omega) (by omega) hW, ?_⟩
  refine if_tf (fun c => ?_) (fun c => mzF fun q => c q.1)
  rw [hw]
  refine ⟨trivial, _, _, _, c_nm_c (by omega) (by omega) hW, ?_⟩
  exact if_tf (fun d => mzF fun q => q.2 d) (fun d => mzT ⟨c, d⟩)
theorem c_out_b {D a b W : Nat} {I : Nat → Nat → Int32} {J : Nat → Nat → Int64} (hw : I 24 1 = nI W) (hW : W ≤ 4) (ha : a < 40) (hb : b < 40) :
    mj_Cl mj_S1 mj_CD (D + 2) 179 [.ref 24, .int (nI a), .ref 27, .int (nI b), .ref 26] (I, J, mj_R1) (.int (tf (bt W (fun w => I 27 (4 * a + w)) (fun w => I 26 (4 * b + w)))), (I, J, mj_R1)) := by
  refine mj_mk (e179_b _ _ ?_)
  rw [ix4m, ix4m, hw]
  refine ⟨trivial, _, _, _, c_nm_c (by omega) (by omega) hW, ?_⟩
  refine if_tf (fun c => ?_) (fun c => mzF fun q => c q.1)
  rw [hw]
  refine ⟨trivial, _, _, _, c_nm_d (by omega) (by omega) hW, ?_⟩
  exact if_tf (fun d => mzF fun q => q.2 d) (fun d => mzT ⟨c, d⟩)
theorem c_out_c {D a b W : Nat} {I : Nat → Nat → Int32} {J : Nat → Nat → Int64} (hw : I 24 1 = nI W) (hW : W ≤ 4) (ha : a < 40) (hb : b < 40) :
    mj_Cl mj_S1 mj_CD (D + 2) 179 [.ref 24, .int (nI a), .ref 25, .int (nI b), .ref 25] (I, J, mj_R1) (.int (tf (bt W (fun w => I 25 (4 * a + w)) (fun w => I 25 (4 * b + w)))), (I, J, mj_R1)) := by
  refine mj_mk (e179_c _ _ ?_)
  rw [ix4m, ix4m, hw]
  refine ⟨trivial, _, _, _, c_nm_e (by omega) (by omega) hW, ?_⟩
  refine if_tf (fun c => ?_) (fun c => mzF fun q => c q.1)
  rw [hw]
  refine ⟨trivial, _, _, _, c_nm_e (by omega) (by omega) hW, ?_⟩
  exact if_tf (fun d => mzF fun q => q.2 d) (fun d => mzT ⟨c, d⟩)
theorem c_unb_a {D W Rn : Nat} {I : Nat → Nat → Int32} {J : Nat → Nat → Int64} (hw : I 24 1 = nI W) (hW : W ≤ 4) (hr : I 24 0 = nI Rn) (hR : Rn ≤ 40) :
    mj_Cl mj_S1 mj_CD (D + 3) 176 [.ref 24, .ref 27, .ref 26] (I, J, mj_R1) (.long (bs Rn (ub Rn (lbit (J 24 5)) (fun o r => bt W (fun w => I 27 (4 * o + w)) (fun w => I 26 (4 * r + w))))), (I, J, mj_R1)) := by
  refine mj_mk (e176_a ?_)
  have inner : ∀ (B : Int64) (r : Nat), r < Rn → (∀ Q : mj_R → Prop, ∀ k o, Rn = o + k → ∀ P : Prop, (P ↔ ¬ lbit (J 24 5) r ∧ ∀ u, u < o → u ≠ r → ¬ lbit (J 24 5) u → ¬ bt W (fun w => I 27 (4 * u + w)) (fun w => I 26 (4 * r + w))) →
      (∀ P' : Prop, (P' ↔ (ub Rn (lbit (J 24 5)) (fun o r => bt W (fun w => I 27 (4 * o + w)) (fun w => I 26 (4 * r + w)))) r) → mj_Ev mj_S1 (mj_CD 176) (mj_Cl mj_S1 mj_CD (D + 2)) Q 81 [(0, .ref 24), (1, .ref 27), (2, .ref 26), (3, .long B), (5, .int (nI r)), (6, .int (tf P'))] [] (I, J, mj_R1)) →
      mj_Ev mj_S1 (mj_CD 176) (mj_Cl mj_S1 mj_CD (D + 2)) Q 25 [(0, .ref 24), (1, .ref 27), (2, .ref 26), (3, .long B), (5, .int (nI r)), (6, .int (tf P)), (7, .int (nI o))] [] (I, J, mj_R1)) := by
    intro B r hrr Q k
    induction k with
    | zero =>
      intro o ho P hP K
      refine mj_on (s176_25_a _ _ _ _ ?_)
      rw [hr]
      refine if_le (by omega) (by omega) (fun _ => ?_) (fun c => absurd c (by omega))
      refine K P ?_
      rw [hP]
      exact ⟨fun q => ⟨q.1, fun u hu e ha => q.2 u (by omega) e ha⟩, fun q => ⟨q.1, fun u hu e ha => q.2 u (by omega) e ha⟩⟩
    | succ k ih =>
      intro o ho P hP K
      refine mj_on (s176_25_a _ _ _ _ ?_)
      rw [hr]
      refine if_le (by omega) (by omega) (fun c => absurd c (by omega)) (fun _ => ?_)
      refine if_tf (fun c => ?_) (fun c => ?_)
      · rw [nI_1]
        have c2 := hP.mp c
        refine if_eq (by omega) (by omega) (fun e => ?_) (fun e => ?_)
        · rw [← tf_t trivial]
          refine ih (o + 1) (by omega) True ⟨fun _ => ⟨c2.1, fun u hu hne ha => c2.2 u (by omega) hne ha⟩, fun _ => trivial⟩ K
        · refine ⟨trivial, _, _, _, c_judged (n := Rn) hr hR, ?_⟩
          refine if_tf (fun d => ?_) (fun d => ?_)
          · refine ⟨trivial, _, _, _, c_out_b hw hW (by omega) (by omega), ?_⟩
            refine if_tf (fun f => ?_) (fun f => ?_)
            · rw [← tf_f (P := False) id]
              refine ih (o + 1) (by omega) False ⟨fun q => q.elim, fun q => q.2 o (by omega) e ((c_jud (by omega)).mp d) f⟩ K
            · rw [← tf_t trivial]
              refine ih (o + 1) (by omega) True ⟨fun _ => ⟨c2.1, fun u hu hne ha => ?_⟩, fun _ => trivial⟩ K
              by_cases e2 : u = o
              · rw [e2]; exact f
              · exact c2.2 u (by omega) hne ha
          · rw [← tf_t trivial]
            refine ih (o + 1) (by omega) True ⟨fun _ => ⟨c2.1, fun u hu hne ha => ?_⟩, fun _ => trivial⟩ K
            by_cases e2 : u = o
            · rw [e2] at ha; exact absurd ((c_jud (by omega)).mpr ha) d
            · exact c2.2 u (by omega) hne ha
      · refine K P ?_
        constructor
        · intro q
          exact absurd q c
        · intro q
          exact absurd (hP.mpr ⟨q.1, fun u hu e ha => q.2 u (by omega) e ha⟩) c
  have outer : ∀ k r, Rn = r + k → mj_Ev mj_S1 (mj_CD 176) (mj_Cl mj_S1 mj_CD (D + 2)) (fun x => x = (.long (bs Rn (ub Rn (lbit (J 24 5)) (fun o r => bt W (fun w => I 27 (4 * o + w)) (fun w => I 26 (4 * r + w))))), (I, J, mj_R1))) 5 [(0, .ref 24), (1, .ref 27), (2, .ref 26), (3, .long (bs r (ub Rn (lbit (J 24 5)) (fun o r => bt W (fun w => I 27 (4 * o + w)) (fun w => I 26 (4 * r + w)))))), (5, .int (nI r))] [] (I, J, mj_R1) := by
    intro k
    induction k with
    | zero =>
      intro r h
      refine mj_on (s176_5_a _ _ ?_)
      rw [hr]
      refine if_le (by omega) (by omega) (fun _ => ?_) (fun c => absurd c (by omega))
      rw [h]
      rfl
    | succ k ih =>
      intro r h
      refine mj_on (s176_5_a _ _ ?_)
      rw [hr]
      refine if_le (by omega) (by omega) (fun c => absurd c (by omega)) (fun _ => ?_)
      refine ⟨trivial, _, _, _, c_judged (n := Rn) hr hR, ?_⟩
      refine inner _ r (by omega) _ Rn 0 (by omega) _ ?_ ?_
      · rw [c_jud (by omega)]
        exact ⟨fun q => ⟨q, fun u hu => absurd hu (Nat.not_lt_zero u)⟩, fun q => q.1⟩
      · intro P' hP'
        refine mj_on (s176_81_a _ _ _ ?_)
        rw [nI_1]
        refine if_tf (fun c => ?_) (fun c => ?_)
        · rw [← bs_t (hP'.mp c)]
          exact ih (r + 1) (by omega)
        · rw [← bs_f0 (n := r) (fun q => c (hP'.mpr q))]
          exact ih (r + 1) (by omega)
  exact outer Rn 0 (by omega)
theorem c_unb_b {D W Rn : Nat} {I : Nat → Nat → Int32} {J : Nat → Nat → Int64} (hw : I 24 1 = nI W) (hW : W ≤ 4) (hr : I 24 0 = nI Rn) (hR : Rn ≤ 40) :
    mj_Cl mj_S1 mj_CD (D + 3) 176 [.ref 24, .ref 26, .ref 27] (I, J, mj_R1) (.long (bs Rn (ub Rn (lbit (J 24 5)) (fun o r => bt W (fun w => I 26 (4 * o + w)) (fun w => I 27 (4 * r + w))))), (I, J, mj_R1)) := by
  refine mj_mk (e176_b ?_)
  have inner : ∀ (B : Int64) (r : Nat), r < Rn → (∀ Q : mj_R → Prop, ∀ k o, Rn = o + k → ∀ P : Prop, (P ↔ ¬ lbit (J 24 5) r ∧ ∀ u, u < o → u ≠ r → ¬ lbit (J 24 5) u → ¬ bt W (fun w => I 26 (4 * u + w)) (fun w => I 27 (4 * r + w))) →
      (∀ P' : Prop, (P' ↔ (ub Rn (lbit (J 24 5)) (fun o r => bt W (fun w => I 26 (4 * o + w)) (fun w => I 27 (4 * r + w)))) r) → mj_Ev mj_S1 (mj_CD 176) (mj_Cl mj_S1 mj_CD (D + 2)) Q 81 [(0, .ref 24), (1, .ref 26), (2, .ref 27), (3, .long B), (5, .int (nI r)), (6, .int (tf P'))] [] (I, J, mj_R1)) →
      mj_Ev mj_S1 (mj_CD 176) (mj_Cl mj_S1 mj_CD (D + 2)) Q 25 [(0, .ref 24), (1, .ref 26), (2, .ref 27), (3, .long B), (5, .int (nI r)), (6, .int (tf P)), (7, .int (nI o))] [] (I, J, mj_R1)) := by
    intro B r hrr Q k
    induction k with
    | zero =>
      intro o ho P hP K
      refine mj_on (s176_25_b _ _ _ _ ?_)
      rw [hr]
      refine if_le (by omega) (by omega) (fun _ => ?_) (fun c => absurd c (by omega))
      refine K P ?_
      rw [hP]
      exact ⟨fun q => ⟨q.1, fun u hu e ha => q.2 u (by omega) e ha⟩, fun q => ⟨q.1, fun u hu e ha => q.2 u (by omega) e ha⟩⟩
    | succ k ih =>
      intro o ho P hP K
      refine mj_on (s176_25_b _ _ _ _ ?_)
      rw [hr]
      refine if_le (by omega) (by omega) (fun c => absurd c (by omega)) (fun _ => ?_)
      refine if_tf (fun c => ?_) (fun c => ?_)
      · rw [nI_1]
        have c2 := hP.mp c
        refine if_eq (by omega) (by omega) (fun e => ?_) (fun e => ?_)
        · rw [← tf_t trivial]
          refine ih (o + 1) (by omega) True ⟨fun _ => ⟨c2.1, fun u hu hne ha => c2.2 u (by omega) hne ha⟩, fun _ => trivial⟩ K
        · refine ⟨trivial, _, _, _, c_judged (n := Rn) hr hR, ?_⟩
          refine if_tf (fun d => ?_) (fun d => ?_)
          · refine ⟨trivial, _, _, _, c_out_a hw hW (by omega) (by omega), ?_⟩
            refine if_tf (fun f => ?_) (fun f => ?_)
            · rw [← tf_f (P := False) id]
              refine ih (o + 1) (by omega) False ⟨fun q => q.elim, fun q => q.2 o (by omega) e ((c_jud (by omega)).mp d) f⟩ K
            · rw [← tf_t trivial]
              refine ih (o + 1) (by omega) True ⟨fun _ => ⟨c2.1, fun u hu hne ha => ?_⟩, fun _ => trivial⟩ K
              by_cases e2 : u = o
              · rw [e2]; exact f
              · exact c2.2 u (by omega) hne ha
          · rw [← tf_t trivial]
            refine ih (o + 1) (by omega) True ⟨fun _ => ⟨c2.1, fun u hu hne ha => ?_⟩, fun _ => trivial⟩ K
            by_cases e2 : u = o
            · rw [e2] at ha; exact absurd ((c_jud (by omega)).mpr ha) d
            · exact c2.2 u (by omega) hne ha
      · refine K P ?_
        constructor
        · intro q
          exact absurd q c
        · intro q
          exact absurd (hP.mpr ⟨q.1, fun u hu e ha => q.2 u (by omega) e ha⟩) c
  have outer : ∀ k r, Rn = r + k → mj_Ev mj_S1 (mj_CD 176) (mj_Cl mj_S1 mj_CD (D + 2)) (fun x => x = (.long (bs Rn (ub Rn (lbit (J 24 5)) (fun o r => bt W (fun w => I 26 (4 * o + w)) (fun w => I 27 (4 * r + w))))), (I, J, mj_R1))) 5 [(0, .ref 24), (1, .ref 26), (2, .ref 27), (3, .long (bs r (ub Rn (lbit (J 24 5)) (fun o r => bt W (fun w => I 26 (4 * o + w)) (fun w => I 27 (4 * r + w)))))), (5, .int (nI r))] [] (I, J, mj_R1) := by
    intro k
    induction k with
    | zero =>
      intro r h
      refine mj_on (s176_5_b _ _ ?_)
      rw [hr]
      refine if_le (by omega) (by omega) (fun _ => ?_) (fun c => absurd c (by omega))
      rw [h]
      rfl
    | succ k ih =>
      intro r h
      refine mj_on (s176_5_b _ _ ?_)
      rw [hr]
      refine if_le (by omega) (by omega) (fun c => absurd c (by omega)) (fun _ => ?_)
      refine ⟨trivial, _, _, _, c_judged (n := Rn) hr hR, ?_⟩
      refine inner _ r (by omega) _ Rn 0 (by omega) _ ?_ ?_
      · rw [c_jud (by omega)]
        exact ⟨fun q => ⟨q, fun u hu => absurd hu (Nat.not_lt_zero u)⟩, fun q => q.1⟩
      · intro P' hP'
        refine mj_on (s176_81_b _ _ _ ?_)
        rw [nI_1]
        refine if_tf (fun c => ?_) (fun c => ?_)
        · rw [← bs_t (hP'.mp c)]
          exact ih (r + 1) (by omega)
        · rw [← bs_f0 (n := r) (fun q => c (hP'.mpr q))]
          exact ih (r + 1) (by omega)
  exact outer Rn 0 (by omega)
theorem c_unb_c {D W Rn : Nat} {I : Nat → Nat → Int32} {J : Nat → Nat → Int64} (hw : I 24 1 = nI W) (hW : W ≤ 4) (hr : I 24 0 = nI Rn) (hR : Rn ≤ 40) :
    mj_Cl mj_S1 mj_CD (D + 3) 176 [.ref 24, .ref 25, .ref 25] (I, J, mj_R1) (.long (bs Rn (ub Rn (lbit (J 24 5)) (fun o r => bt W (fun w => I 25 (4 * o + w)) (fun w => I 25 (4 * r + w))))), (I, J, mj_R1)) := by
  refine mj_mk (e176_c ?_)
  have inner : ∀ (B : Int64) (r : Nat), r < Rn → (∀ Q : mj_R → Prop, ∀ k o, Rn = o + k → ∀ P : Prop, (P ↔ ¬ lbit (J 24 5) r ∧ ∀ u, u < o → u ≠ r → ¬ lbit (J 24 5) u → ¬ bt W (fun w => I 25 (4 * u + w)) (fun w => I 25 (4 * r + w))) →
      (∀ P' : Prop, (P' ↔ (ub Rn (lbit (J 24 5)) (fun o r => bt W (fun w => I 25 (4 * o + w)) (fun w => I 25 (4 * r + w)))) r) → mj_Ev mj_S1 (mj_CD 176) (mj_Cl mj_S1 mj_CD (D + 2)) Q 81 [(0, .ref 24), (1, .ref 25), (2, .ref 25), (3, .long B), (5, .int (nI r)), (6, .int (tf P'))] [] (I, J, mj_R1)) →
      mj_Ev mj_S1 (mj_CD 176) (mj_Cl mj_S1 mj_CD (D + 2)) Q 25 [(0, .ref 24), (1, .ref 25), (2, .ref 25), (3, .long B), (5, .int (nI r)), (6, .int (tf P)), (7, .int (nI o))] [] (I, J, mj_R1)) := by
    intro B r hrr Q k
    induction k with
    | zero =>
      intro o ho P hP K
      refine mj_on (s176_25_c _ _ _ _ ?_)
      rw [hr]
      refine if_le (by omega) (by omega) (fun _ => ?_) (fun c => absurd c (by omega))
      refine K P ?_
      rw [hP]
      exact ⟨fun q => ⟨q.1, fun u hu e ha => q.2 u (by omega) e ha⟩, fun q => ⟨q.1, fun u hu e ha => q.2 u (by omega) e ha⟩⟩
    | succ k ih =>
      intro o ho P hP K
      refine mj_on (s176_25_c _ _ _ _ ?_)
      rw [hr]
      refine if_le (by omega) (by omega) (fun c => absurd c (by omega)) (fun _ => ?_)
      refine if_tf (fun c => ?_) (fun c => ?_)
      · rw [nI_1]
        have c2 := hP.mp c
        refine if_eq (by omega) (by omega) (fun e => ?_) (fun e => ?_)
        · rw [← tf_t trivial]
          refine ih (o + 1) (by omega) True ⟨fun _ => ⟨c2.1, fun u hu hne ha => c2.2 u (by omega) hne ha⟩, fun _ => trivial⟩ K
        · refine ⟨trivial, _, _, _, c_judged (n := Rn) hr hR, ?_⟩
          refine if_tf (fun d => ?_) (fun d => ?_)
          · refine ⟨trivial, _, _, _, c_out_c hw hW (by omega) (by omega), ?_⟩
            refine if_tf (fun f => ?_) (fun f => ?_)
            · rw [← tf_f (P := False) id]
              refine ih (o + 1) (by omega) False ⟨fun q => q.elim, fun q => q.2 o (by omega) e ((c_jud (by omega)).mp d) f⟩ K
            · rw [← tf_t trivial]
              refine ih (o + 1) (by omega) True ⟨fun _ => ⟨c2.1, fun u hu hne ha => ?_⟩, fun _ => trivial⟩ K
              by_cases e2 : u = o
              · rw [e2]; exact f
              · exact c2.2 u (by omega) hne ha
          · rw [← tf_t trivial]
            refine ih (o + 1) (by omega) True ⟨fun _ => ⟨c2.1, fun u hu hne ha => ?_⟩, fun _ => trivial⟩ K
            by_cases e2 : u = o
            · rw [e2] at ha; exact absurd ((c_jud (by omega)).mpr ha) d
            · exact c2.2 u (by omega) hne ha
      · refine K P ?_
        constructor
        · intro q
          exact absurd q c
        · intro q
          exact absurd (hP.mpr ⟨q.1, fun u hu e ha => q.2 u (by omega) e ha⟩) c
  have outer : ∀ k r, Rn = r + k → mj_Ev mj_S1 (mj_CD 176) (mj_Cl mj_S1 mj_CD (D + 2)) (fun x => x = (.long (bs Rn (ub Rn (lbit (J 24 5)) (fun o r => bt W (fun w => I 25 (4 * o + w)) (fun w => I 25 (4 * r + w))))), (I, J, mj_R1))) 5 [(0, .ref 24), (1, .ref 25), (2, .ref 25), (3, .long (bs r (ub Rn (lbit (J 24 5)) (fun o r => bt W (fun w => I 25 (4 * o + w)) (fun w => I 25 (4 * r + w)))))), (5, .int (nI r))] [] (I, J, mj_R1) := by
    intro k
    induction k with
    | zero =>
      intro r h
      refine mj_on (s176_5_c _ _ ?_)
      rw [hr]
      refine if_le (by omega) (by omega) (fun _ => ?_) (fun c => absurd c (by omega))
      rw [h]
      rfl
    | succ k ih =>
      intro r h
      refine mj_on (s176_5_c _ _ ?_)
      rw [hr]
      refine if_le (by omega) (by omega) (fun c => absurd c (by omega)) (fun _ => ?_)
      refine ⟨trivial, _, _, _, c_judged (n := Rn) hr hR, ?_⟩
      refine inner _ r (by omega) _ Rn 0 (by omega) _ ?_ ?_
      · rw [c_jud (by omega)]
        exact ⟨fun q => ⟨q, fun u hu => absurd hu (Nat.not_lt_zero u)⟩, fun q => q.1⟩
      · intro P' hP'
        refine mj_on (s176_81_c _ _ _ ?_)
        rw [nI_1]
        refine if_tf (fun c => ?_) (fun c => ?_)
        · rw [← bs_t (hP'.mp c)]
          exact ih (r + 1) (by omega)
        · rw [← bs_f0 (n := r) (fun q => c (hP'.mpr q))]
          exact ih (r + 1) (by omega)
  exact outer Rn 0 (by omega)
end
section
/-! reference: rows -/
theorem lp_up {n : Nat} (M : Nat → Prop) (h : ∀ i, i ≤ n → (i < n → M (i + 1)) → M i) : ∀ i, i ≤ n → M i := by
  have key : ∀ k i, i + k = n → M i := by
    intro k
    induction k with
    | zero => exact fun i hi => h i (by omega) (fun c => absurd c (by omega))
    | succ k ih => exact fun i hi => h i (by omega) (fun _ => ih (i + 1) (by omega))
  exact fun i hi => key (n - i) i (by omega)
def lo (m x : Int32) : Int32 := if m = 0 then x else -x
def rB (I : Nat → Nat → Int32) (b W Rn : Nat) : Prop := I 0 12 = nI b ∧ b < 2 ∧ I 2 b = nI W ∧ W ≤ 4 ∧ I 3 b = nI Rn ∧ Rn ≤ 40
def rL (I : Nat → Nat → Int32) (b r w : Nat) : Int32 := lo (I 9 (4 * b + w)) (I 11 (4 * (40 * b + r) + w))
def rA (I : Nat → Nat → Int32) (b W r : Nat) : Prop := ∃ w, w < W ∧ I 11 (4 * (40 * b + r) + w) = -1
section R62
variable {D b W Rn : Nat} {I : Nat → Nat → Int32} {J : Nat → Nat → Int64}
/-- x is a number from l to h, both ints -/
theorem r_is {x l h : Int32} : mj_Cl mj_S2 mj_CD (D + 1) 49 [.int x, .int l, .int h] (I, J, mj_R2) (.int (tf (¬ x < l ∧ ¬ h < x)), (I, J, mj_R2)) := by
  refine mj_mk (e49 _ _ _ ?_)
  exact if_i (fun c => mzF fun q => q.1 c) (fun c => if_i (fun d => mzF fun q => q.2 d) (fun d => mzT ⟨c, d⟩))
theorem r_rg {x : Int32} {n : Nat} (hn : n < 2 ^ 30) : (¬ x < 0 ∧ ¬ nI n - 1 < x) ↔ ∃ j, j < n ∧ x = nI j := by
  have e1 : (nI n - 1).toInt = (n : Int) - 1 := pk_sub_toInt (b := 1) (by omega) (by omega)
  constructor
  · rintro ⟨h1, h2⟩
    rcases pk_ix x (n := n) (by omega) with h | h | ⟨j, hj, e⟩
    · exact absurd h h1
    · refine absurd ?_ h2
      rw [Int32.lt_iff_toInt_lt, e1]
      rw [Int32.le_iff_toInt_le, nI_toInt (by omega)] at h
      omega
    · exact ⟨j, hj, e⟩
  · rintro ⟨j, hj, rfl⟩
    refine ⟨nI_pos (by omega), fun h => ?_⟩
    rw [Int32.lt_iff_toInt_lt, e1, nI_toInt (by omega)] at h
    omega
theorem r_isWish {x : Int32} (h : rB I b W Rn) : mj_Cl mj_S2 mj_CD (D + 2) 48 [.ref 0, .int x] (I, J, mj_R2) (.int (tf (∃ j, j < W ∧ x = nI j)), (I, J, mj_R2)) := by
  obtain ⟨h1, h2, h3, h4, h5, h6⟩ := h
  refine mj_mk (e48 _ ?_)
  rw [h1, nI_clamp (by omega), h3]
  refine ⟨vp_in_nI h2 (by decide), trivial, _, _, _, r_is, tf_01 _, ?_⟩
  exact mqi (tf_iff (r_rg (by omega)))
theorem r_isRow {x : Int32} (h : rB I b W Rn) : mj_Cl mj_S2 mj_CD (D + 2) 51 [.ref 0, .int x] (I, J, mj_R2) (.int (tf (∃ j, j < Rn ∧ x = nI j)), (I, J, mj_R2)) := by
  obtain ⟨h1, h2, h3, h4, h5, h6⟩ := h
  refine mj_mk (e51 _ ?_)
  rw [h1, nI_clamp (by omega), h5]
  refine ⟨vp_in_nI h2 (by decide), trivial, _, _, _, r_is, tf_01 _, ?_⟩
  exact mqi (tf_iff (r_rg (by omega)))
theorem r_rowAt {r w : Nat} (h : rB I b W Rn) : mj_Cl mj_S2 mj_CD (D + 1) 53 [.ref 0, .int (nI r), .int (nI w)] (I, J, mj_R2) (.int (nI (4 * (40 * b + r) + w)), (I, J, mj_R2)) := by
  refine mj_mk (e53 _ _ ?_)
  rw [h.1, ix40, ix4']
theorem r_lossOf {w : Nat} {x : Int32} (h : rB I b W Rn) (hw : w < W) : mj_Cl mj_S2 mj_CD (D + 1) 58 [.ref 0, .int (nI w), .int x] (I, J, mj_R2) (.int (lo (I 9 (4 * b + w)) x), (I, J, mj_R2)) := by
  obtain ⟨h1, h2, h3, h4, h5, h6⟩ := h
  refine mj_mk (e58 _ _ ?_)
  rw [h1, ix4', nI_clamp (by omega)]
  refine ⟨vp_in_nI (by omega) (by decide), ?_⟩
  unfold lo
  exact if_i (fun c => mqi (if_pos c).symm) (fun c => mqi (if_neg c).symm)
theorem r_rowLoss {r w : Nat} (h : rB I b W Rn) (hr : r < 40) (hw : w < W) : mj_Cl mj_S2 mj_CD (D + 2) 57 [.ref 0, .int (nI r), .int (nI w)] (I, J, mj_R2) (.int (rL I b r w), (I, J, mj_R2)) := by
  obtain ⟨h1, h2, h3, h4, h5, h6⟩ := id h
  refine mj_mk (e57 _ _ ?_)
  refine ⟨trivial, _, _, _, r_rowAt h, vp_in_nI (by omega) (by decide), ?_⟩
  rw [nI_clamp (by omega)]
  exact ⟨trivial, _, _, _, r_lossOf h hw, rfl⟩
theorem r_isAside {r : Nat} (h : rB I b W Rn) (hr : r < 40) : mj_Cl mj_S2 mj_CD (D + 2) 56 [.ref 0, .int (nI r)] (I, J, mj_R2) (.int (tf (rA I b W r)), (I, J, mj_R2)) := by
  obtain ⟨h1, h2, h3, h4, h5, h6⟩ := id h
  refine mj_mk (e56 _ ?_)
  refine lp_up (n := W) (fun i => (∀ w, w < i → I 11 (4 * (40 * b + r) + w) ≠ -1) → mj_Ev mj_S2 (mj_CD 56) (mj_Cl mj_S2 mj_CD (D + 1)) (fun x => x = (.int (tf (rA I b W r)), (I, J, mj_R2))) 2 [(0, .ref 0), (1, .int (nI r)), (2, .int (nI i))] [] (I, J, mj_R2)) (fun i hi ih hw => ?_) 0 (Nat.zero_le _) (fun w hw => absurd hw (Nat.not_lt_zero w))
  refine mj_on (s56_2 _ _ ?_)
  rw [h1, nI_clamp (by omega), h3]
  refine ⟨vp_in_nI h2 (by decide), if_le (by omega) (by omega) (fun c => mzF fun ⟨w, hw1, e⟩ => hw w (by omega) e) (fun c => ?_)⟩
  refine ⟨trivial, _, _, _, r_rowAt h, vp_in_nI (by omega) (by decide), ?_⟩
  rw [nI_clamp (by omega), nI_1]
  refine if_i (fun e => mzT ⟨i, c, e⟩) (fun e => ih c fun w hw2 => ?_)
  by_cases e2 : w = i
  · rw [e2]; exact e
  · exact hw w (by omega)
theorem nbt {f g : Nat → Int32} : bt W f g ↔ nm W f g ∧ ∃ w, w < W ∧ f w < g w := by
  unfold bt
  refine and_congr_right fun _ => ⟨fun h => ?_, fun ⟨w, hw, h⟩ q => ?_⟩
  · refine Classical.byContradiction fun q => h fun w hw => ?_
    exact Int32.not_lt.mp fun z => q ⟨w, hw, z⟩
  · exact absurd (q w hw) (Int32.not_le.mpr h)
theorem r_doesBeat {x y : Nat} (h : rB I b W Rn) (hx : x < 40) (hy : y < 40) : mj_Cl mj_S2 mj_CD (D + 3) 55 [.ref 0, .int (nI x), .int (nI y)] (I, J, mj_R2) (.int (tf (¬ rA I b W x ∧ ¬ rA I b W y ∧ bt W (rL I b x) (rL I b y))), (I, J, mj_R2)) := by
  obtain ⟨h1, h2, h3, h4, h5, h6⟩ := id h
  refine mj_mk (e55 _ _ ?_)
  refine ⟨trivial, _, _, _, r_isAside h hx, if_tf (fun c => mzF fun q => q.1 c) (fun cx => ?_)⟩
  refine ⟨trivial, _, _, _, r_isAside h hy, if_tf (fun c => mzF fun q => q.2.1 c) (fun cy => ?_)⟩
  have key := lp_up (n := W) (fun i => ∀ P : Prop, (P ↔ ∃ w, w < i ∧ rL I b x w < rL I b y w) → (∀ w, w < i → rL I b x w ≤ rL I b y w) → mj_Ev mj_S2 (mj_CD 55) (mj_Cl mj_S2 mj_CD (D + 2)) (fun q => q = (.int (tf (¬ rA I b W x ∧ ¬ rA I b W y ∧ bt W (rL I b x) (rL I b y))), (I, J, mj_R2))) 23 [(0, .ref 0), (1, .int (nI x)), (2, .int (nI y)), (3, .int (tf P)), (4, .int (nI i))] [] (I, J, mj_R2)) (fun i hi ih P hP hw => ?_) 0 (Nat.zero_le _) False
    ⟨fun q => q.elim, fun ⟨w, hw, _⟩ => absurd hw (Nat.not_lt_zero w)⟩ (fun w hw => absurd hw (Nat.not_lt_zero w))
  · rw [tf_f id] at key
    exact key
  refine mj_on (s55_23 _ _ _ _ ?_)
  rw [h1, nI_clamp (by omega), h3, nI_1]
  refine ⟨vp_in_nI h2 (by decide), if_le (by omega) (by omega) (fun c => ⟨tf_01 _, mqi (tf_iff ?_)⟩) (fun c => ?_)⟩
  · obtain rfl : i = W := by omega
    rw [hP, nbt]
    exact ⟨fun q => ⟨cx, cy, hw, q⟩, fun q => q.2.2.2⟩
  · refine ⟨trivial, _, _, _, r_rowLoss h hx c, trivial, _, _, _, r_rowLoss h hy c, if_i (fun d => ?_) (fun d => mzF fun q => d (q.2.2.1 i c))⟩
    have hw2 : ∀ w, w < i + 1 → rL I b x w ≤ rL I b y w := fun w hw3 => by
      by_cases e : w = i
      · rw [e]; exact d
      · exact hw w (by omega)
    refine if_tf (fun p => ?_) (fun p => ?_)
    · rw [← tf_t trivial]
      obtain ⟨w, q1, q2⟩ := hP.mp p
      exact ih c True ⟨fun _ => ⟨w, by omega, q2⟩, fun _ => trivial⟩ hw2
    · refine ⟨trivial, _, _, _, r_rowLoss h hx c, trivial, _, _, _, r_rowLoss h hy c, if_i (fun f => ?_) (fun f => ?_)⟩
      · rw [← tf_f (P := False) id]
        refine ih c False ⟨fun q => q.elim, fun ⟨w, q1, q2⟩ => ?_⟩ hw2
        by_cases e : w = i
        · rw [e] at q2; exact absurd f (Int32.not_le.mpr q2)
        · exact p (hP.mpr ⟨w, by omega, q2⟩)
      · rw [← tf_t trivial]
        exact ih c True ⟨fun _ => ⟨i, by omega, Int32.not_le.mp f⟩, fun _ => trivial⟩ hw2
theorem r_rowFront (h : rB I b W Rn) : mj_Cl mj_S2 mj_CD (D + 4) 60 [.ref 0] (I, J, mj_R2) (.long (bs Rn (ub Rn (rA I b W) (fun o r => bt W (rL I b o) (rL I b r)))), (I, J, mj_R2)) := by
  obtain ⟨h1, h2, h3, h4, h5, h6⟩ := id h
  refine mj_mk (e60 ?_)
  refine lp_up (n := Rn) (fun r => mj_Ev mj_S2 (mj_CD 60) (mj_Cl mj_S2 mj_CD (D + 3)) (fun q => q = (.long (bs Rn (ub Rn (rA I b W) (fun o r => bt W (rL I b o) (rL I b r)))), (I, J, mj_R2))) 4 [(0, .ref 0), (1, .long (bs r (ub Rn (rA I b W) (fun o r => bt W (rL I b o) (rL I b r))))), (3, .int (nI r))] [] (I, J, mj_R2)) (fun r hr ih => ?_) 0 (Nat.zero_le _)
  refine mj_on (s60_4 _ _ ?_)
  rw [h1, nI_clamp (by omega), h5]
  refine ⟨vp_in_nI h2 (by decide), if_le (by omega) (by omega) (fun c => ?_) (fun c => ?_)⟩
  · obtain rfl : r = Rn := by omega
    rfl
  have inner := lp_up (n := Rn) (fun o => ∀ P : Prop, (P ↔ ¬ rA I b W r ∧ ∀ u, u < o → u ≠ r → ¬ rA I b W u → ¬ bt W (rL I b u) (rL I b r)) → mj_Ev mj_S2 (mj_CD 60) (mj_Cl mj_S2 mj_CD (D + 3)) (fun q => q = (.long (bs Rn (ub Rn (rA I b W) (fun o r => bt W (rL I b o) (rL I b r)))), (I, J, mj_R2))) 35 [(0, .ref 0), (1, .long (bs r (ub Rn (rA I b W) (fun o r => bt W (rL I b o) (rL I b r))))), (3, .int (nI r)), (4, .int (tf P)), (5, .int (nI o))] [] (I, J, mj_R2)) (fun o ho ih2 P hP => ?_) 0 (Nat.zero_le _)
  · refine ⟨trivial, _, _, _, r_isAside h (by omega), if_tf (fun d => ?_) (fun d => ?_)⟩
    · refine mj_on (s60_32 _ _ _ ?_)
      have z := inner False ⟨fun q => q.elim, fun q => q.1 d⟩
      rw [tf_f id] at z
      exact z
    · refine mj_on (s60_32 _ _ _ ?_)
      rw [← tf_t trivial]
      exact inner True ⟨fun _ => ⟨d, fun u hu => absurd hu (Nat.not_lt_zero u)⟩, fun _ => trivial⟩
  have fin : (P ↔ ub Rn (rA I b W) (fun o r => bt W (rL I b o) (rL I b r)) r) → mj_Ev mj_S2 (mj_CD 60) (mj_Cl mj_S2 mj_CD (D + 3)) (fun q => q = (.long (bs Rn (ub Rn (rA I b W) (fun o r => bt W (rL I b o) (rL I b r)))), (I, J, mj_R2))) 77 [(0, .ref 0), (1, .long (bs r (ub Rn (rA I b W) (fun o r => bt W (rL I b o) (rL I b r))))), (3, .int (nI r)), (4, .int (tf P))] [] (I, J, mj_R2) := by
    intro hP2
    refine mj_on (s60_77 _ _ _ ?_)
    rw [nI_1]
    refine if_tf (fun d => ?_) (fun d => ?_)
    · rw [← bs_t (hP2.mp d)]; exact ih c
    · rw [← bs_f (fun q => d (hP2.mpr q))]; exact ih c
  refine mj_on (s60_35 _ _ _ _ ?_)
  rw [h1, nI_clamp (by omega), h5, nI_1]
  refine ⟨vp_in_nI h2 (by decide), if_le (by omega) (by omega) (fun d => fin ?_) (fun d => ?_)⟩
  · rw [hP]
    exact ⟨fun q => ⟨q.1, fun u hu e a => q.2 u (by omega) e a⟩, fun q => ⟨q.1, fun u hu e a => q.2 u (by omega) e a⟩⟩
  refine if_tf (fun p => ?_) (fun p => fin ⟨fun q => absurd q p, fun q => absurd (hP.mpr ⟨q.1, fun u hu e a => q.2 u (by omega) e a⟩) p⟩)
  have p2 := hP.mp p
  have irr : ¬ bt W (rL I b r) (rL I b r) := fun q => q.2 q.1
  refine ⟨trivial, _, _, _, r_doesBeat h (by omega) (by omega), if_tf (fun q => ?_) (fun q => ?_)⟩
  · rw [← tf_f (P := False) id]
    refine ih2 d False ⟨fun q => q.elim, fun z => ?_⟩
    by_cases e : o = r
    · rw [e] at q; exact irr q.2.2
    · exact z.2 o (by omega) e q.1 q.2.2
  · rw [← tf_t trivial]
    refine ih2 d True ⟨fun _ => ⟨p2.1, fun u hu e a z => ?_⟩, fun _ => trivial⟩
    by_cases e2 : u = o
    · rw [e2] at a z; exact q ⟨a, p2.1, z⟩
    · exact p2.2 u (by omega) e a z
end R62
end
section
/-! the two states held against each other -/
def opc : Nat → Nat
  | 0 => 17
  | 1 => 13
  | 2 => 14
  | 3 => 11
  | 4 => 12
  | 5 => 43
  | 6 => 45
  | 7 => 42
  | 8 => 47
  | 9 => 15
  | 10 => 16
  | 11 => 60
  | 12 => 62
  | 13 => 61
  | 14 => 9
  | 15 => 8
  | _ => 10
def bnd (x : Int) : Int := if x > 1000000000 then 1000000000 else if x < -1000000000 then -1000000000 else x
/-- a set's number of things, and a thing's place in it -/
def tbit (m k : Nat) : Nat := m / 2 ^ k % 2
def leafv (hs : Nat → Nat) (m op v : Nat) : Int :=
  match op with
  | 0 => v
  | 1 => pcn 12 m
  | 2 => hs v
  | 3 => 1
  | _ => tbit m v
def twov (op : Nat) (a b : Int) : Int :=
  match op with
  | 5 => bnd (a + b)
  | 6 => bnd (a - b)
  | 7 => bnd (a * b)
  | 8 => if b = 0 then 0 else Int.fdiv a b
  | 9 => if a < b then a else b
  | 10 => if a < b then b else a
  | 11 => if a < b then 1 else 0
  | 12 => if b < a then 1 else 0
  | 13 => if a = b then 1 else 0
  | 14 => if a ≠ 0 ∧ b ≠ 0 then 1 else 0
  | _ => if a ≠ 0 ∨ b ≠ 0 then 1 else 0
/-- one step on a stack -/
def ev1 (hs : Nat → Nat) (m : Nat) (st : List Int) (c : Nat × Nat) : List Int :=
  if c.1 ≤ 4 then leafv hs m c.1 c.2 :: st
  else if c.1 = 16 then (match st with
    | a :: r => (1 - a) :: r
    | [] => [])
  else match st with
    | b :: a :: r => twov c.1 a b :: r
    | _ => []
def ev (hs : Nat → Nat) (m : Nat) (c : List (Nat × Nat)) (st : List Int) : List Int := c.foldl (ev1 hs m) st
/-- the kinds on the stack (true: a test) behind a step -/
def tys1 (W H : Nat) (c : Nat × Nat) (st : List Bool) : Option (List Bool) :=
  if c.1 ≤ 4 then (if (c.1 = 0 → c.2 ≤ 9999) ∧ (c.1 = 2 → c.2 < W) ∧ (c.1 = 4 → c.2 < H) ∧ (c.1 = 1 ∨ c.1 = 3 → c.2 = 0) then some (decide (3 ≤ c.1) :: st) else none)
  else if c.2 ≠ 0 then none
  else if c.1 = 16 then (match st with
    | true :: r => some (true :: r)
    | _ => none)
  else if c.1 ≤ 13 then (match st with
    | false :: false :: r => some (decide (11 ≤ c.1) :: r)
    | _ => none)
  else if c.1 ≤ 15 then (match st with
    | true :: true :: r => some (true :: r)
    | _ => none)
  else none
/-- every step finds what it works on, and no more than M stand on the stack -/
def tyc (M W H : Nat) : List (Nat × Nat) → List Bool → Option (List Bool)
  | [], st => some st
  | c :: r, st => match tys1 W H c st with
    | some st' => if st'.length ≤ M then tyc M W H r st' else none
    | none => none
/-- two rows of steps that come to the same, of a test -/
def sgB (M1 M2 W H : Nat) (a1 a2 : List (Nat × Nat)) : Prop := tyc M1 W H a1 [] = some [true] ∧ tyc M2 W H a2 [] = some [true] ∧ ∀ (hs : Nat → Nat) (m : Nat), ev hs m a1 [] = ev hs m a2 []
def cdC (I : Nat → Nat → Int32) (c p : Nat) (a : List (Nat × Nat)) : Prop := ∀ k x, a[k]? = some x → I c (p + k) = nI (opc x.1 * 16384 + x.2)
def cdR (I : Nat → Nat → Int32) (p : Nat) (a : List (Nat × Nat)) : Prop := ∀ k x, a[k]? = some x → I 21 (p + k) = nI x.1 ∧ I 22 (p + k) = nI x.2
/-- where rule u of the class begins -/
def rb (I : Nat → Nat → Int32) (c : Nat) : Nat → Nat
  | 0 => 0
  | u + 1 => (I c u).toNatClampNeg
-- names: letters 1 .. 26
def nmC : List Nat → Nat
  | [] => 0
  | x :: r => nmC r * 32 + x
def nmR : List Nat → Nat
  | [] => 0
  | x :: r => nmR r * 256 + (x + 96)
/-- the same name, its letters from the last one on -/
def nmq (x : Int32) (y : Int64) : Prop := ∃ l : List Nat, 1 ≤ l.length ∧ l.length ≤ 6 ∧ (∀ a ∈ l, 1 ≤ a ∧ a ≤ 26) ∧ x = nI (nmC l) ∧ y = lN (nmR l)
def amt (x : Int32) : Prop := ∃ n, n ≤ 9999 ∧ x = nI n
/-- the numbers of a tale: cells from c on; c + 1 counts, c + 2 names, c + 3 more, c + 4 amounts, c + 5 spreads, c + 6 from, c + 7 to, c + 8 steps, c + 9 ends of rules -/
def tlN (c b W Rn Kn Tn Hn Un : Nat) (I1 I2 : Nat → Nat → Int32) : Prop :=
  I1 (c + 1) 0 = nI W ∧ I1 (c + 1) 1 = nI Rn ∧ I1 (c + 1) 2 = nI Kn ∧ I1 (c + 1) 3 = nI Tn ∧ I1 (c + 1) 4 = nI Hn ∧ I1 (c + 1) 5 = nI Un ∧
  I2 2 b = nI W ∧ I2 3 b = nI Rn ∧ I2 4 b = nI Kn ∧ I2 5 b = nI Tn ∧ I2 6 b = nI Hn ∧ I2 7 b = nI Un ∧
  b < 2 ∧ W ≤ 4 ∧ Rn ≤ 40 ∧ Kn ≤ 10 ∧ Tn ≤ 24 ∧ Hn ≤ 12 ∧ Un ≤ 12
def tlM (c b W : Nat) (I1 I2 : Nat → Nat → Int32) : Prop := ∀ w, w < W → I2 9 (4 * b + w) = I1 (c + 3) w ∧ (I1 (c + 3) w = 0 ∨ I1 (c + 3) w = 1)
def tlR (c b W Rn : Nat) (I1 I2 : Nat → Nat → Int32) : Prop := ∀ r, r < Rn → ∀ w, w < W → I2 11 (4 * (40 * b + r) + w) = I1 (c + 4) (160 + 4 * r + w) ∧ (I1 (c + 4) (160 + 4 * r + w) = -1 ∨ amt (I1 (c + 4) (160 + 4 * r + w))) ∧ I2 12 (4 * (40 * b + r) + w) = I1 (c + 5) (4 * r + w) ∧ amt (I1 (c + 5) (4 * r + w))
def tlT (c b W Kn Tn : Nat) (I1 I2 : Nat → Nat → Int32) : Prop := ∀ t, t < Tn → I2 14 (24 * b + t) = I1 (c + 6) t ∧ I2 15 (24 * b + t) = I1 (c + 7) t ∧ (∃ x y, x < Kn ∧ y < Kn ∧ x ≠ y ∧ I1 (c + 6) t = nI x ∧ I1 (c + 7) t = nI y) ∧ ∀ w, w < W → I2 16 (4 * (24 * b + t) + w) = I1 (c + 4) (480 + 4 * t + w) ∧ amt (I1 (c + 4) (480 + 4 * t + w))
def tlH (c b W Hn : Nat) (I1 I2 : Nat → Nat → Int32) : Prop := ∀ k, k < Hn → ∀ w, w < W → I2 18 (4 * (12 * b + k) + w) = I1 (c + 4) (640 + 4 * k + w) ∧ amt (I1 (c + 4) (640 + 4 * k + w))
def tlA (c b W Rn Kn Hn : Nat) (I1 : Nat → Nat → Int32) (J2 : Nat → Nat → Int64) : Prop := (∀ k, k < W → nmq (I1 (c + 2) k) (J2 8 (4 * b + k))) ∧ (∀ k, k < Rn → nmq (I1 (c + 2) (40 + k)) (J2 10 (40 * b + k))) ∧ (∀ k, k < Kn → nmq (I1 (c + 2) (80 + k)) (J2 13 (10 * b + k))) ∧ (∀ k, k < Hn → nmq (I1 (c + 2) (160 + k)) (J2 17 (12 * b + k)))
def tlU (c b W Hn Un : Nat) (I1 I2 : Nat → Nat → Int32) : Prop := ∀ u, u < Un → ∃ (f : Nat) (a1 a2 : List (Nat × Nat)), sgB 64 950 W Hn a1 a2 ∧ I1 (c + 9) u = nI (rb I1 (c + 9) u + a1.length) ∧ rb I1 (c + 9) u + a1.length ≤ 900 ∧ cdC I1 (c + 8) (rb I1 (c + 9) u) a1 ∧
  I2 19 (12 * b + u) = nI f ∧ I2 20 (12 * b + u) = nI (f + a2.length) ∧ f + a2.length ≤ 900 ∧ cdR I2 (900 * b + f) a2
def Tl (c b W Rn Kn Tn Hn Un : Nat) (I1 I2 : Nat → Nat → Int32) (J2 : Nat → Nat → Int64) : Prop :=
  tlN c b W Rn Kn Tn Hn Un I1 I2 ∧ tlM c b W I1 I2 ∧ tlR c b W Rn I1 I2 ∧ tlT c b W Kn Tn I1 I2 ∧ tlH c b W Hn I1 I2 ∧ tlA c b W Rn Kn Hn I1 J2 ∧ tlU c b W Hn Un I1 I2
-- the rest
def rlT (I1 I2 : Nat → Nat → Int32) : Prop := I2 1 = I1 13 ∧ (∀ j, ∃ x, x < 256 ∧ I1 13 j = nI x) ∧ ∃ t, t ≤ 900 ∧ I1 0 0 = nI t ∧ I2 0 1 = nI t
def rlF (I1 I2 : Nat → Nat → Int32) : Prop := I2 0 10 = I1 11 10 ∧ I2 0 11 = I1 11 11
def ows : List Nat := [0]
/-- the class' table of rows -/
def rlW (W Rn : Nat) (I : Nat → Nat → Int32) (J : Nat → Nat → Int64) : Prop :=
  I 24 0 = nI Rn ∧ I 24 1 = nI W ∧ (∀ r, r < Rn → (lbit (J 24 5) r ↔ ∃ w, w < W ∧ I 5 (160 + 4 * r + w) = -1)) ∧
  (∀ r, r < Rn → ∀ w, w < W → I 25 (4 * r + w) = lo (I 4 w) (I 5 (160 + 4 * r + w)) ∧ I 26 (4 * r + w) = lo (I 4 w) (I 5 (160 + 4 * r + w)) - I 6 (4 * r + w) ∧ I 27 (4 * r + w) = lo (I 4 w) (I 5 (160 + 4 * r + w)) + I 6 (4 * r + w)) ∧
  J 24 6 = bs Rn (ub Rn (lbit (J 24 5)) (fun o r => bt W (fun w => I 25 (4 * o + w)) (fun w => I 25 (4 * r + w))))
def rlH (W : Nat) (I1 I2 : Nat → Nat → Int32) (_J1 : Nat → Nat → Int64) : Prop :=
  (I1 38 0 = -1 ∧ I1 38 1 = nI 0 ∧ I2 0 58 = -1) ∨
  ∃ kd n, kd < 3 ∧ n ≤ 100 ∧ I1 38 0 = nI kd ∧ I1 38 1 = nI n ∧ I2 0 58 = nI n ∧ I2 0 59 = nI kd ∧ 1 ≤ W ∧
    (∀ k, k < n → ∀ w, w < W → I2 37 (4 * k + w) = I1 39 (4 * k + w) ∧ ∃ x : Int, -1000000 ≤ x ∧ x ≤ 1000000 ∧ I1 39 (4 * k + w) = iI x) ∧
    (kd = 1 → ∀ k, k < n → ∃ x, x ≤ 10 ∧ I2 38 k = nI x)
def rlG (W g : Nat) (I1 I2 : Nat → Nat → Int32) : Prop := 1 ≤ g ∧ g ≤ 12 ∧ I1 51 0 = nI g ∧ I2 0 63 = nI g ∧ I1 51 1 = nI W ∧ I1 51 2 = nI (wl W g).length ∧ ∀ n r, (wl W g)[n]? = some r → ∀ w x, r[w]? = some x → I1 52 (4 * n + w) = nI x
def rlK (I1 I2 : Nat → Nat → Int32) : Prop := ∃ n, n ≤ 16 ∧ I1 47 4 = nI n ∧ I2 0 65 = nI n ∧ ∀ i, i < n → I2 41 i = I1 50 i
def rlS (Rn : Nat) (I1 I2 : Nat → Nat → Int32) : Prop := ∃ n, n ≤ 12 ∧ I1 53 0 = nI n ∧ I2 0 68 = nI n ∧ ∀ i, i < n → I2 43 i = I1 54 i ∧ I2 44 i = I1 55 i ∧ ∃ x y, x < Rn ∧ y < Rn ∧ I1 54 i = nI x ∧ I1 55 i = nI y
def rlP (W : Nat) (I1 I2 : Nat → Nat → Int32) (J1 J2 : Nat → Nat → Int64) : Prop := ∀ p, p < 6 → J2 49 p = J1 61 p ∧ (∀ w, w < 4 → ∃ x, x ≤ 9 ∧ I2 48 (4 * p + w) = nI x ∧ (W ≤ w → x = 0)) ∧
  ((I1 60 p = 0 ∧ ∀ w, w < 4 → I2 48 (4 * p + w) = nI 0) ∨ (I1 60 p = 1 ∧ (∀ w, w < 4 → I1 59 (4 * p + w) = I2 48 (4 * p + w)) ∧ ∃ w, w < 4 ∧ I2 48 (4 * p + w) ≠ nI 0))
def rlC (J1 J2 : Nat → Nat → Int64) : Prop := J2 0 46 = J1 0 14 ∧ J2 0 47 = J1 0 15
end
section
/-! fronts as such; the two states together; what of a state is kept when only rough cells change -/
def lexlt (W : Nat) (f g : Nat → Int32) : Prop := ∃ w, w < W ∧ f w < g w ∧ ∀ u, u < w → f u = g u
/-- the front of the candidates C: n rows of losses F with their keys, in order -/
def FR (W : Nat) (C : (Nat → Int32) → Nat → Prop) (n : Nat) (F : Nat → Nat → Int32) (key : Nat → Nat) : Prop :=
  (∀ i j, i < j → j < n → lexlt W (F i) (F j)) ∧ (∀ i, i < n → C (F i) (key i)) ∧ (∀ i, i < n → ∀ f k, C f k → nm W f (F i) → nm W (F i) f) ∧
  (∀ i, i < n → ∀ f k, C f k → (∀ w, w < W → f w = F i w) → key i ≤ k) ∧ (∀ f k, C f k → ∃ i, i < n ∧ nm W (F i) f)
/-- what a set has of a wish -/
def hsu (I : Nat → Nat → Int32) (w m n : Nat) : Nat := ((List.range n).map (fun k => tbit m k * (I 5 (640 + 4 * k + w)).toNatClampNeg)).sum
theorem hsu_s {I : Nat → Nat → Int32} {w m n : Nat} : hsu I w m (n + 1) = hsu I w m n + tbit m n * (I 5 (640 + 4 * n + w)).toNatClampNeg := by
  unfold hsu
  rw [List.range_succ, List.map_append, List.sum_append]
  simp
def hsf (I : Nat → Nat → Int32) (Hn m w : Nat) : Nat := hsu I w m Hn
def ruT (I : Nat → Nat → Int32) (W Hn u m : Nat) : Prop := ∃ a, I 10 u = nI (rb I 10 u + a.length) ∧ rb I 10 u + a.length ≤ 900 ∧ cdC I 9 (rb I 10 u) a ∧ tyc 64 W Hn a [] = some [true] ∧ ev (hsf I Hn m) m a [] = [1]
/-- what the sets have that the tests allow -/
def aT (I : Nat → Nat → Int32) (W Hn Un : Nat) (v : Nat → Nat) : Prop := ∃ m, m < 2 ^ Hn ∧ (∀ u, u < Un → ruT I W Hn u m) ∧ v = fun w => hsu I w m Hn
def sC (I : Nat → Nat → Int32) (W Hn Un : Nat) (f : Nat → Int32) (k : Nat) : Prop := k = 0 ∧ ∃ v, aT I W Hn Un v ∧ ∀ w, w < W → f w = lo (I 4 w) (nI (v w))
def rlZ (W Hn Un : Nat) (I : Nat → Nat → Int32) (_J : Nat → Nat → Int64) : Prop :=
  I 0 9 = -3 ∨ (I 0 9 = -2 ∧ ∃ n F, 100 < n ∧ FR W (sC I W Hn Un) n F (fun _ => 0)) ∨
  ∃ n, n ≤ 100 ∧ I 0 9 = nI n ∧ I 44 0 = nI 2 ∧ I 44 1 = nI n ∧ FR W (sC I W Hn Un) n (fun k w => I 45 (4 * k + w)) (fun _ => 0)
def owL : List (List Nat) := [[8, 19, 9, 23], [23, 15, 18], [20, 15, 14, 11], [5, 9, 20], [7, 14, 9, 8, 20], [5, 12, 21, 18], [19, 19, 5, 12], [5, 18, 15, 13], [18, 15], [4, 14, 1], [20, 15, 14], [12, 12, 1], [19, 1, 8], [25, 14, 1, 13], [6, 15], [14, 9, 13], [24, 1, 13]]
def rlO (I : Nat → Nat → Int32) : Prop := ∀ n, n < 17 → I 12 n = nI (nmC (owL.getD n []))
def Rl (b W Rn Kn Tn Hn Un g : Nat) (I1 : Nat → Nat → Int32) (J1 : Nat → Nat → Int64) (I2 : Nat → Nat → Int32) (J2 : Nat → Nat → Int64) : Prop :=
  I2 0 12 = nI b ∧ Tl 1 b W Rn Kn Tn Hn Un I1 I2 J2 ∧ rlT I1 I2 ∧ rlF I1 I2 ∧ rlW W Rn I1 J1 ∧ rlH W I1 I2 J1 ∧ rlG W g I1 I2 ∧ rlK I1 I2 ∧ rlS Rn I1 I2 ∧ rlP W I1 I2 J1 J2 ∧ rlC J1 J2 ∧ rlO I1 ∧ rlZ W Hn Un I1 J1
-- rough cells and slots
def sc1 : List Nat := [14, 15, 16, 17, 18, 19, 20, 21, 22, 23, 28, 29, 30, 32, 34, 35, 36, 37, 41, 42, 48, 49, 57, 62]
def sl1 : List (Nat × Nat) := [(1, 0), (1, 9), (47, 0), (53, 5), (53, 6), (53, 7), (58, 4), (11, 2), (11, 4), (11, 5), (11, 6), (11, 7), (11, 8), (11, 9)]
def scJ1 : List Nat := [31, 43, 56, 58]
def sc2 : List Nat := [23, 24, 25, 26, 27, 28, 29, 30, 31, 32, 33, 34, 35, 40, 42, 45, 47]
def sl2 : List (Nat × Nat) := [(0, 2), (0, 3), (0, 4), (0, 5), (0, 6), (0, 8), (0, 9), (0, 34), (0, 35), (0, 41), (0, 42), (0, 44), (0, 45), (0, 48), (0, 56), (0, 71)]
def scJ2 : List Nat := [36, 46]
def slJ2 : List (Nat × Nat) := [(0, 7)]
def co1 (q j : Nat) : Bool := !(sc1.elem q || sl1.elem (q, j))
def coJ1 (q : Nat) : Bool := !(scJ1.elem q)
def co2 (q j : Nat) : Bool := !(sc2.elem q || sl2.elem (q, j))
def coJ2 (q j : Nat) : Bool := !(scJ2.elem q || slJ2.elem (q, j))
def k1 (I : Nat → Nat → Int32) : Nat → Nat → Int32 := fun q j => if co1 q j then I q j else 0
def kJ1 (J : Nat → Nat → Int64) : Nat → Nat → Int64 := fun q j => if coJ1 q then J q j else 0
def k2 (I : Nat → Nat → Int32) : Nat → Nat → Int32 := fun q j => if co2 q j then I q j else 0
def kJ2 (J : Nat → Nat → Int64) : Nat → Nat → Int64 := fun q j => if coJ2 q j then J q j else 0
section KS
variable {I I' : Nat → Nat → Int32} {J J' : Nat → Nat → Int64} {q j : Nat} {v : Int32} {u : Int64}
theorem k1_up (h : co1 q j = false) : k1 (mj_up I q j v) = k1 I := by
  funext a b
  unfold k1
  by_cases e : a = q ∧ b = j
  · rw [e.1, e.2, h]; rfl
  · rw [up_n (by omega)]
theorem kJ1_up (h : coJ1 q = false) : kJ1 (mj_up J q j u) = kJ1 J := by
  funext a b
  unfold kJ1
  by_cases e : a = q
  · rw [e, h]; rfl
  · rw [up_c e]
theorem k2_up (h : co2 q j = false) : k2 (mj_up I q j v) = k2 I := by
  funext a b
  unfold k2
  by_cases e : a = q ∧ b = j
  · rw [e.1, e.2, h]; rfl
  · rw [up_n (by omega)]
theorem kJ2_up (h : coJ2 q j = false) : kJ2 (mj_up J q j u) = kJ2 J := by
  funext a b
  unfold kJ2
  by_cases e : a = q ∧ b = j
  · rw [e.1, e.2, h]; rfl
  · rw [up_n (by omega)]
theorem k1_at (h : k1 I' = k1 I) (hc : co1 q j = true) : I' q j = I q j := by
  have e := congrFun (congrFun h q) j
  unfold k1 at e
  rwa [if_pos hc, if_pos hc] at e
theorem kJ1_at (h : kJ1 J' = kJ1 J) (hc : coJ1 q = true) : J' q = J q := by
  funext j
  have e := congrFun (congrFun h q) j
  unfold kJ1 at e
  rwa [if_pos hc, if_pos hc] at e
theorem k2_at (h : k2 I' = k2 I) (hc : co2 q j = true) : I' q j = I q j := by
  have e := congrFun (congrFun h q) j
  unfold k2 at e
  rwa [if_pos hc, if_pos hc] at e
theorem kJ2_at (h : kJ2 J' = kJ2 J) (hc : coJ2 q j = true) : J' q j = J q j := by
  have e := congrFun (congrFun h q) j
  unfold kJ2 at e
  rwa [if_pos hc, if_pos hc] at e
end KS
set_option maxRecDepth 100000 in
theorem Rl_k {b W Rn Kn Tn Hn Un g : Nat} {I1 I2 : Nat → Nat → Int32} {J1 J2 : Nat → Nat → Int64} : Rl b W Rn Kn Tn Hn Un g (k1 I1) (kJ1 J1) (k2 I2) (kJ2 J2) = Rl b W Rn Kn Tn Hn Un g I1 J1 I2 J2 := rfl
theorem Rl_same {b W Rn Kn Tn Hn Un g : Nat} {I1 I2 I1' I2' : Nat → Nat → Int32} {J1 J2 J1' J2' : Nat → Nat → Int64} (h : Rl b W Rn Kn Tn Hn Un g I1 J1 I2 J2) (e1 : k1 I1' = k1 I1) (e2 : kJ1 J1' = kJ1 J1) (e3 : k2 I2' = k2 I2) (e4 : kJ2 J2' = kJ2 J2) : Rl b W Rn Kn Tn Hn Un g I1' J1' I2' J2' := by
  rw [← Rl_k, e1, e2, e3, e4, Rl_k]
  exact h
def Inv (n : Nat) (g1 g2 : mj_H) : Prop := g1.2.2 = mj_R1 ∧ g2.2.2 = mj_R2 ∧ ∃ b W Rn Kn Tn Hn Un g, Rl b W Rn Kn Tn Hn Un g g1.1 g1.2.1 g2.1 g2.2.1
end
section
/-! pasted: families of the kit (bits of Int32; lN n to 2^64) -/
/-! ===== Int32 by its bits: xb x i ===== -/
def xb (x : Int32) (i : Nat) : Bool := x.toBitVec.getLsbD i
theorem b_ext {x y : Int32} (h : ∀ i, i < 32 → xb x i = xb y i) : x = y := Int32.toBitVec_inj.mp (BitVec.eq_of_getLsbD_eq (fun i hi => h i hi))
theorem b_or (x y : Int32) (i : Nat) : xb (x ||| y) i = (xb x i || xb y i) := by unfold xb; rw [Int32.toBitVec_or, BitVec.getLsbD_or]
theorem b_and (x y : Int32) (i : Nat) : xb (x &&& y) i = (xb x i && xb y i) := by unfold xb; rw [Int32.toBitVec_and, BitVec.getLsbD_and]
theorem b_xor (x y : Int32) (i : Nat) : xb (x ^^^ y) i = (xb x i ^^ xb y i) := by unfold xb; rw [Int32.toBitVec_xor, BitVec.getLsbD_xor]
theorem b_big {x : Int32} {i : Nat} (h : 32 ≤ i) : xb x i = false := BitVec.getLsbD_of_ge _ _ h
theorem b_255 (i : Nat) : xb 255 i = decide (i < 8) := by
  rcases Nat.lt_or_ge i 32 with h | h
  · exact (by decide +kernel : ∀ i, i < 32 → xb 255 i = decide (i < 8)) i h
  · rw [b_big h, decide_eq_false (by omega)]
theorem b_65535 (i : Nat) : xb 65535 i = decide (i < 16) := by
  rcases Nat.lt_or_ge i 32 with h | h
  · exact (by decide +kernel : ∀ i, i < 32 → xb 65535 i = decide (i < 16)) i h
  · rw [b_big h, decide_eq_false (by omega)]
theorem b_m1 : ∀ i, i < 32 → xb (-1) i = true := by decide +kernel
theorem b_0 (i : Nat) : xb 0 i = false := BitVec.getLsbD_zero
theorem s_l : ∀ n, n < 32 → ((nI n &&& 31).toBitVec.smod 32).toNat = n := by decide +kernel
theorem s_u : ∀ n, n < 32 → (((nI n).toUInt32 &&& Int32.toUInt32 31).toBitVec % 32).toNat = n := by decide +kernel
theorem b_shl (n : Nat) (hn : n < 32) (x : Int32) {i : Nat} (hi : i < 32) : xb (x <<< (nI n &&& 31)) i = (decide (n ≤ i) && xb x (i - n)) := by
  unfold xb
  rw [Int32.toBitVec_shiftLeft]
  show (x.toBitVec <<< ((nI n &&& 31).toBitVec.smod 32).toNat).getLsbD i = _
  rw [s_l n hn, BitVec.getLsbD_shiftLeft]
  rcases Nat.lt_or_ge i n with h | h
  · simp [h, Nat.not_le.mpr h]
  · simp [hi, h, Nat.not_lt.mpr h]
theorem b_ushr (n : Nat) (hn : n < 32) (x : Int32) (i : Nat) : xb ((x.toUInt32 >>> ((nI n).toUInt32 &&& Int32.toUInt32 31)).toInt32) i = xb x (n + i) := by
  show (x.toUInt32 >>> ((nI n).toUInt32 &&& Int32.toUInt32 31)).toBitVec.getLsbD i = x.toUInt32.toBitVec.getLsbD (n + i)
  rw [UInt32.toBitVec_shiftRight]
  show (x.toUInt32.toBitVec >>> (((nI n).toUInt32 &&& Int32.toUInt32 31).toBitVec % 32).toNat).getLsbD i = _
  rw [s_u n hn, BitVec.getLsbD_ushiftRight]
theorem b_sshr (n : Nat) (hn : n < 32) (x : Int32) {i : Nat} (hi : i < 32) : xb (x >>> (nI n &&& 31)) i = if n + i < 32 then xb x (n + i) else xb x 31 := by
  unfold xb
  rw [Int32.toBitVec_shiftRight]
  show (x.toBitVec.sshiftRight ((nI n &&& 31).toBitVec.smod 32).toNat).getLsbD i = _
  rw [s_l n hn, BitVec.getLsbD_sshiftRight, BitVec.msb_eq_getLsbD_last]
  simp [hi]
theorem b_shl8 (x : Int32) {i : Nat} (hi : i < 32) : xb (x <<< ((8 : Int32) &&& 31)) i = (decide (8 ≤ i) && xb x (i - 8)) := b_shl 8 (by omega) x hi
theorem b_shl16 (x : Int32) {i : Nat} (hi : i < 32) : xb (x <<< ((16 : Int32) &&& 31)) i = (decide (16 ≤ i) && xb x (i - 16)) := b_shl 16 (by omega) x hi
theorem b_shl24 (x : Int32) {i : Nat} (hi : i < 32) : xb (x <<< ((24 : Int32) &&& 31)) i = (decide (24 ≤ i) && xb x (i - 24)) := b_shl 24 (by omega) x hi
theorem b_sshr8 (x : Int32) {i : Nat} (hi : i < 32) : xb (x >>> ((8 : Int32) &&& 31)) i = if 8 + i < 32 then xb x (8 + i) else xb x 31 := b_sshr 8 (by omega) x hi
/-! ===== lN n to 2^64: shifts, and, or, masks, one bit ===== -/
theorem wb_tb (n : Nat) : (lN n).toBitVec = BitVec.ofNat 64 n := rfl
theorem wb_inj {a b : Int64} (h : a.toBitVec = b.toBitVec) : a = b := Int64.toBitVec_inj.mp h
theorem wb_tn {n : Nat} (h : n < 2 ^ 64) : (lN n).toBitVec.toNat = n := by rw [wb_tb, BitVec.toNat_ofNat, Nat.mod_eq_of_lt h]
theorem wb_of (x : Int64) : ∃ n, n < 2 ^ 64 ∧ x = lN n := ⟨x.toBitVec.toNat, x.toBitVec.isLt, wb_inj (by rw [wb_tb]; simp)⟩
theorem wb_of32 (x : Int32) : ∃ n, n < 2 ^ 32 ∧ x = nI n := ⟨x.toBitVec.toNat, x.toBitVec.isLt, Int32.toBitVec_inj.mp (by show _ = BitVec.ofNat 32 _; simp)⟩
theorem wb_c : ∀ k, k < 64 → ((nI k).toInt64 &&& 63) = lN k := by decide +kernel
theorem wb_cu : ∀ k, k < 64 → ((nI k).toInt64.toUInt64 &&& Int64.toUInt64 63) = UInt64.ofNat k := by decide +kernel
theorem wb_sm : ∀ k, k < 64 → (BitVec.ofNat 64 k).smod 64 = BitVec.ofNat 64 k := by decide +kernel
theorem wb_pw {a b : Nat} (h : a ≤ b) : 2 ^ b = 2 ^ a * 2 ^ (b - a) := by rw [← Nat.pow_add]; congr 1; omega
theorem wb_lt2 {a b : Nat} (h : a < b) : 2 ^ a < 2 ^ b := Nat.pow_lt_pow_right (by decide) h
theorem wb_mod (n : Nat) : lN n = lN (n % 2 ^ 64) := wb_inj (by rw [wb_tb, wb_tb]; apply BitVec.eq_of_toNat_eq; rw [BitVec.toNat_ofNat, BitVec.toNat_ofNat, Nat.mod_mod])
theorem wb_shr {n k : Nat} (hn : n < 2 ^ 64) (hk : k < 64) : ((lN n).toUInt64 >>> ((nI k).toInt64.toUInt64 &&& Int64.toUInt64 63)).toInt64 = lN (n / 2 ^ k) := by
  rw [wb_cu k hk]
  apply wb_inj
  apply BitVec.eq_of_toNat_eq
  show ((lN n).toUInt64 >>> UInt64.ofNat k).toNat = (BitVec.ofNat 64 _).toNat
  have h1 : (UInt64.ofNat k).toNat = k := by
    show (BitVec.ofNat 64 k).toNat = k
    rw [BitVec.toNat_ofNat, Nat.mod_eq_of_lt (by omega)]
  have h2 : (lN n).toUInt64.toNat = n := wb_tn hn
  rw [UInt64.toNat_shiftRight, h1, h2, Nat.mod_eq_of_lt hk, Nat.shiftRight_eq_div_pow, BitVec.toNat_ofNat, Nat.mod_eq_of_lt (Nat.lt_of_le_of_lt (Nat.div_le_self _ _) hn)]
theorem wb_shl (n : Nat) {k : Nat} (hk : k < 64) : lN n <<< ((nI k).toInt64 &&& 63) = lN (n * 2 ^ k) := by
  rw [wb_c k hk]
  apply wb_inj
  rw [Int64.toBitVec_shiftLeft, wb_tb, wb_tb, wb_tb, wb_sm k hk]
  apply BitVec.eq_of_toNat_eq
  rw [BitVec.shiftLeft_eq', BitVec.toNat_shiftLeft, BitVec.toNat_ofNat, BitVec.toNat_ofNat, BitVec.toNat_ofNat, Nat.mod_eq_of_lt (show k < 2 ^ 64 by omega), Nat.shiftLeft_eq, Nat.mul_mod, Nat.mod_mod, ← Nat.mul_mod]
theorem wb_and {a b : Nat} (ha : a < 2 ^ 64) (hb : b < 2 ^ 64) : lN a &&& lN b = lN (a &&& b) := by
  apply wb_inj
  rw [Int64.toBitVec_and, wb_tb, wb_tb, wb_tb]
  apply BitVec.eq_of_toNat_eq
  rw [BitVec.toNat_and, BitVec.toNat_ofNat, BitVec.toNat_ofNat, BitVec.toNat_ofNat, Nat.mod_eq_of_lt ha, Nat.mod_eq_of_lt hb, Nat.mod_eq_of_lt (Nat.and_lt_two_pow _ hb)]
theorem wb_or {a b : Nat} (ha : a < 2 ^ 64) (hb : b < 2 ^ 64) : lN a ||| lN b = lN (a ||| b) := by
  apply wb_inj
  rw [Int64.toBitVec_or, wb_tb, wb_tb, wb_tb]
  apply BitVec.eq_of_toNat_eq
  rw [BitVec.toNat_or, BitVec.toNat_ofNat, BitVec.toNat_ofNat, BitVec.toNat_ofNat, Nat.mod_eq_of_lt ha, Nat.mod_eq_of_lt hb, Nat.mod_eq_of_lt (Nat.or_lt_two_pow ha hb)]
theorem wb_mask {n k : Nat} (hn : n < 2 ^ 64) (hk : k < 64) : lN n &&& lN (2 ^ k - 1) = lN (n % 2 ^ k) := by
  rw [wb_and hn (by have := wb_lt2 hk; omega), Nat.and_two_pow_sub_one_eq_mod]
theorem wb_a1 {n : Nat} (hn : n < 2 ^ 64) : lN n &&& 1 = lN (n % 2) := wb_mask (k := 1) hn (by decide)
theorem wb_bit {n k : Nat} (hn : n < 2 ^ 64) (hk : k < 64) : ((lN n).toUInt64 >>> ((nI k).toInt64.toUInt64 &&& Int64.toUInt64 63)).toInt64 &&& 1 = lN (n / 2 ^ k % 2) := by
  rw [wb_shr hn hk, wb_a1 (Nat.lt_of_le_of_lt (Nat.div_le_self _ _) hn)]
theorem wb_xor {q k : Nat} (hk : k < 63) (h : 2 ^ k ≤ q) (h2 : q < 2 ^ (k + 1)) : lN q ^^^ lN (2 ^ k) = lN (q - 2 ^ k) := by
  obtain ⟨r, rfl⟩ : ∃ r, q = 2 ^ k + r := ⟨q - 2 ^ k, by omega⟩
  have hr : r < 2 ^ k := by rw [Nat.pow_succ] at h2; omega
  have hx : (2 ^ k + r) ^^^ 2 ^ k = r := by
    apply Nat.eq_of_testBit_eq
    intro i
    rw [Nat.testBit_xor, Nat.testBit_two_pow]
    rcases Nat.lt_trichotomy i k with h | h | h
    · rw [Nat.testBit_two_pow_add_gt h]
      simp [show ¬ k = i by omega]
    · subst h
      rw [Nat.testBit_two_pow_add_eq]
      simp
    · have a1 : 2 ^ (k + 1) ≤ 2 ^ i := Nat.pow_le_pow_right (by decide) h
      rw [Nat.testBit_lt_two_pow (show 2 ^ k + r < 2 ^ i by omega), Nat.testBit_lt_two_pow (show r < 2 ^ i by omega)]
      simp [show ¬ k = i by omega]
  have b1 := wb_lt2 (show k + 1 < 64 by omega)
  have b2 := wb_lt2 (show k < 64 by omega)
  apply wb_inj
  rw [Int64.toBitVec_xor, wb_tb, wb_tb, wb_tb]
  apply BitVec.eq_of_toNat_eq
  rw [BitVec.toNat_xor, BitVec.toNat_ofNat, BitVec.toNat_ofNat, BitVec.toNat_ofNat, Nat.mod_eq_of_lt (by omega : 2 ^ k + r < 2 ^ 64), Nat.mod_eq_of_lt b2, hx, Nat.add_sub_cancel_left, Nat.mod_eq_of_lt (by omega)]
/-! ===== lN: masks, 'or' of parts that don't overlap is a sum ===== -/
theorem u_tn {n : Nat} (h : n < 2 ^ 64) : (UInt64.ofNat n).toNat = n := Nat.mod_eq_of_lt h
theorem g_and {a b c : Nat} (ha : a < 2 ^ 64) (hb : b < 2 ^ 64) (hc : a &&& b = c) : lN a &&& lN b = lN c := by
  subst hc
  have h : UInt64.ofNat a &&& UInt64.ofNat b = UInt64.ofNat (a &&& b) := UInt64.toNat_inj.mp (by rw [UInt64.toNat_and, u_tn ha, u_tn hb, u_tn (Nat.and_lt_two_pow a hb)])
  have h2 := congrArg UInt64.toInt64 h
  exact h2
theorem g_and1 {a : Nat} (ha : a < 2 ^ 64) : lN a &&& 1 = lN (a % 2) := g_and (b := 1) ha (by decide) (Nat.and_two_pow_sub_one_eq_mod a 1)
theorem g_mask {a s p : Nat} (hp : 2 ^ s = p) (hs : s < 64) (ha : a < 2 ^ 64) : lN a &&& lN (p - 1) = lN (a % p) := by
  subst hp
  have := Nat.pow_lt_pow_right (show 1 < 2 by decide) hs
  exact g_and ha (by omega) (Nat.and_two_pow_sub_one_eq_mod a s)
theorem g_or {k p a b : Nat} (hp : 2 ^ k = p) (ha : a < p) (h : b * p + a < 2 ^ 64) : lN (b * p) ||| lN a = lN (b * p + a) := by
  subst hp
  have h1 : b * 2 ^ k ||| a = b * 2 ^ k + a := by rw [← Nat.shiftLeft_eq, Nat.shiftLeft_add_eq_or_of_lt ha]
  have h3 : UInt64.ofNat (b * 2 ^ k) ||| UInt64.ofNat a = UInt64.ofNat (b * 2 ^ k + a) := UInt64.toNat_inj.mp (by rw [UInt64.toNat_or, u_tn (by omega), u_tn (by omega), u_tn h, h1])
  have h2 := congrArg UInt64.toInt64 h3
  exact h2
theorem g_or' {k p a b : Nat} (hp : 2 ^ k = p) (ha : a < p) (h : a + b * p < 2 ^ 64) : lN a ||| lN (b * p) = lN (a + b * p) := by
  rw [Int64.or_comm, g_or hp ha (by omega), Nat.add_comm]
theorem g_ushr {a k p : Nat} {y : UInt64} (hy : y = UInt64.ofNat k) (hk : k < 64) (hp : 2 ^ k = p) (ha : a < 2 ^ 64) : ((lN a).toUInt64 >>> y).toInt64 = lN (a / p) := by
  subst hy hp
  have h : UInt64.ofNat a >>> UInt64.ofNat k = UInt64.ofNat (a / 2 ^ k) := UInt64.toNat_inj.mp (by rw [UInt64.toNat_shiftRight, u_tn ha, u_tn (by omega), u_tn (Nat.lt_of_le_of_lt (Nat.div_le_self _ _) ha), Nat.mod_eq_of_lt hk, Nat.shiftRight_eq_div_pow])
  have h2 := congrArg UInt64.toInt64 h
  exact h2
theorem g_shl {a k p : Nat} {y : Int64} (hy : y.toBitVec.smod 64 = BitVec.ofNat 64 k) (hk : k < 64) (hp : 2 ^ k = p) (ha : a < 2 ^ 64) : lN a <<< y = lN (a * p) := by
  subst hp
  apply Int64.toBitVec_inj.mp
  rw [Int64.toBitVec_shiftLeft, hy]
  apply BitVec.eq_of_toNat_eq
  have hb : (lN a).toBitVec.toNat = a := Nat.mod_eq_of_lt ha
  have hk' : (BitVec.ofNat 64 k).toNat = k := Nat.mod_eq_of_lt (by omega)
  have h : ((lN a).toBitVec <<< BitVec.ofNat 64 k).toNat = (a * 2 ^ k) % 2 ^ 64 := by simp only [BitVec.shiftLeft_eq', BitVec.toNat_shiftLeft, hb, hk', Nat.shiftLeft_eq]
  exact h
end
section
/-! calls that are soon told -/
section S48
variable {D b W Rn Kn Tn Hn Un g : Nat} {I I1 I2 : Nat → Nat → Int32} {J J1 J2 : Nat → Nat → Int64}
def AI (z1 z2 : Nat) (as : List Value) (I1 : Nat → Nat → Int32) (J1 : Nat → Nat → Int64) (I2 : Nat → Nat → Int32) (J2 : Nat → Nat → Int64) (P : (Nat → Nat → Int32) → (Nat → Nat → Int64) → (Nat → Nat → Int32) → (Nat → Nat → Int64) → Prop) : Prop :=
  ∃ (r : Int32) (f1 : Nat → Nat → Int32) (h1 : Nat → Nat → Int64) (f2 : Nat → Nat → Int32) (h2 : Nat → Nat → Int64), mj_Cl mj_S1 mj_CD 900 z1 (.ref 0 :: as) (I1, J1, mj_R1) (.int r, (f1, h1, mj_R1)) ∧ mj_Cl mj_S2 mj_CD 900 z2 (.ref 0 :: as) (I2, J2, mj_R2) (.int r, (f2, h2, mj_R2)) ∧ P f1 h1 f2 h2
def AJ (z1 z2 : Nat) (as : List Value) (I1 : Nat → Nat → Int32) (J1 : Nat → Nat → Int64) (I2 : Nat → Nat → Int32) (J2 : Nat → Nat → Int64) (P : (Nat → Nat → Int32) → (Nat → Nat → Int64) → (Nat → Nat → Int32) → (Nat → Nat → Int64) → Prop) : Prop :=
  ∃ (r : Int64) (f1 : Nat → Nat → Int32) (h1 : Nat → Nat → Int64) (f2 : Nat → Nat → Int32) (h2 : Nat → Nat → Int64), mj_Cl mj_S1 mj_CD 900 z1 (.ref 0 :: as) (I1, J1, mj_R1) (.long r, (f1, h1, mj_R1)) ∧ mj_Cl mj_S2 mj_CD 900 z2 (.ref 0 :: as) (I2, J2, mj_R2) (.long r, (f2, h2, mj_R2)) ∧ P f1 h1 f2 h2
/-- an answer that changes nothing -/
theorem AI.same {z1 z2 : Nat} {as : List Value} {P : (Nat → Nat → Int32) → (Nat → Nat → Int64) → (Nat → Nat → Int32) → (Nat → Nat → Int64) → Prop} (r : Int32) (h1 : mj_Cl mj_S1 mj_CD 900 z1 (.ref 0 :: as) (I1, J1, mj_R1) (.int r, (I1, J1, mj_R1))) (h2 : mj_Cl mj_S2 mj_CD 900 z2 (.ref 0 :: as) (I2, J2, mj_R2) (.int r, (I2, J2, mj_R2))) (hP : P I1 J1 I2 J2) : AI z1 z2 as I1 J1 I2 J2 P := ⟨r, I1, J1, I2, J2, h1, h2, hP⟩
-- fault
theorem al_fault {x : Int32} (h : Rl b W Rn Kn Tn Hn Un g I1 J1 I2 J2) : AI 189 45 [.int x] I1 J1 I2 J2 (Rl b W Rn Kn Tn Hn Un g) := by
  obtain ⟨e1, e2⟩ := h.2.2.2.1
  by_cases c : x = 0
  · exact AI.same (I1 11 10) (mj_mk (D := 899) (e189 _ (by rw [if_pos c]))) (mj_mk (D := 899) (e45 _ (by rw [if_pos c, e1]))) h
  by_cases d : x = 1
  · exact AI.same (I1 11 11) (mj_mk (D := 899) (e189 _ (by rw [if_neg c, if_pos d]))) (mj_mk (D := 899) (e45 _ (by rw [if_neg c, if_pos d, e2]))) h
  · exact AI.same (-1) (mj_mk (D := 899) (e189 _ (by rw [if_neg c, if_neg d]))) (mj_mk (D := 899) (e45 _ (by rw [if_neg c, if_neg d]))) h
-- end
theorem al_end {x : Int32} (h : Rl b W Rn Kn Tn Hn Un g I1 J1 I2 J2) : AI 135 11 [.int x] I1 J1 I2 J2 (Rl b W Rn Kn Tn Hn Un g) := by
  obtain ⟨e1, e2, t, ht, e3, e4⟩ := id h.2.2.1
  by_cases c : x < 0
  · exact AI.same 0 (mj_mk (D := 899) (e135 _ (by rw [if_pos c]; exact ⟨Or.inl rfl, rfl⟩))) (mj_mk (D := 899) (e11 _ (by rw [if_pos c]; exact ⟨Or.inl rfl, rfl⟩))) h
  by_cases d : x ≤ nI t
  · refine ⟨1, mj_up I1 0 0 x, J1, mj_up I2 0 1 x, J2, mj_mk (D := 899) (e135 _ (by rw [if_neg c, e3, if_pos d]; exact ⟨Or.inr rfl, rfl⟩)), mj_mk (D := 899) (e11 _ (by rw [if_neg c, e4, if_pos d]; exact ⟨Or.inr rfl, rfl⟩)), ?_⟩
    obtain ⟨h1, h2, h3, h4, h5, h6, h7, h8, h9, h10, h11, h12, h13⟩ := h
    obtain ⟨j, hj, rfl⟩ := nI_of2 (n := t) (nI_toInt (by omega)) c d
    refine ⟨h1, h2, ⟨e1, e2, j, by omega, rfl, rfl⟩, h4, h5, h6, h7, h8, h9, h10, h11, h12, ?_⟩
    exact h13
  · exact AI.same 0 (mj_mk (D := 899) (e135 _ (by rw [if_neg c, e3, if_neg d]; exact ⟨Or.inl rfl, rfl⟩))) (mj_mk (D := 899) (e11 _ (by rw [if_neg c, e4, if_neg d]; exact ⟨Or.inl rfl, rfl⟩))) h
-- changed
theorem al_changed {x : Int32} (h : Rl b W Rn Kn Tn Hn Un g I1 J1 I2 J2) : AJ 199 64 [.int x] I1 J1 I2 J2 (Rl b W Rn Kn Tn Hn Un g) := by
  obtain ⟨e1, e2⟩ := h.2.2.2.2.2.2.2.2.2.2.1
  by_cases c : x = 0
  · exact ⟨J1 0 14, I1, J1, I2, J2, mj_mk (D := 899) (e199 _ (by rw [if_pos c])), mj_mk (D := 899) (e64 _ (by rw [if_pos c, e1])), h⟩
  · exact ⟨J1 0 15, I1, J1, I2, J2, mj_mk (D := 899) (e199 _ (by rw [if_neg c])), mj_mk (D := 899) (e64 _ (by rw [if_neg c, e2])), h⟩
/-- what Tl says, by short names -/
theorem Rl.rB (h : Rl b W Rn Kn Tn Hn Un g I1 J1 I2 J2) : rB I2 b W Rn := by
  obtain ⟨h1, ⟨h2, -⟩, -⟩ := h
  obtain ⟨a1, a2, a3, a4, a5, a6, b1, b2, b3, b4, b5, b6, c1, c2, c3, -⟩ := h2
  exact ⟨h1, c1, b1, c2, b2, c3⟩
theorem Rl.N (h : Rl b W Rn Kn Tn Hn Un g I1 J1 I2 J2) : tlN 1 b W Rn Kn Tn Hn Un I1 I2 := h.2.1.1
theorem c_there {n k : Nat} {x : Int32} (hn : I 2 k = nI n) (h40 : n ≤ 40) (hk : k < 6) : mj_Cl mj_S1 mj_CD (D + 1) 192 [.ref 1, .int (nI k), .int x] (I, J, mj_R1) (.int (tf (∃ j, j < n ∧ x = nI j)), (I, J, mj_R1)) := by
  refine mj_mk (e192 _ _ ?_)
  rw [nI_clamp (by omega), hn]
  refine if_i (fun c => mzF fun ⟨j, hj, e⟩ => ?_) (fun c => ⟨vp_in_nI hk (by decide), if_i (fun d => mzF fun ⟨j, hj, e⟩ => ?_) (fun d => ?_)⟩)
  · rw [e] at c; exact nI_pos (by omega) c
  · rw [e] at d; exact nI_ge hj (by omega) d
  · rcases pk_ix x (n := n) (by omega) with h | h | ⟨j, hj, e⟩
    · exact absurd h c
    · exact absurd h d
    · exact mzT ⟨j, hj, e⟩
theorem c_slot {k r w : Nat} : mj_Cl mj_S1 mj_CD (D + 1) 155 [.int (nI k), .int (nI r), .int (nI w)] (I, J, mj_R1) (.int (nI (160 * k + 4 * r + w)), (I, J, mj_R1)) := by
  refine mj_mk (e155 _ _ _ ?_)
  refine mqi ?_
  rw [show (40 : Int32) = nI 40 from rfl, pk_mul, nI_add, show (4 : Int32) = nI 4 from rfl, pk_mul, nI_add]
  congr 1
  omega
-- has
theorem al_has {x : Int32} (h : Rl b W Rn Kn Tn Hn Un g I1 J1 I2 J2) : AI 190 46 [.int x] I1 J1 I2 J2 (Rl b W Rn Kn Tn Hn Un g) := by
  obtain ⟨k1, k2, -⟩ := h.rB
  obtain ⟨a1, a2, a3, a4, a5, a6, b1, b2, b3, b4, b5, b6, c1, c2, c3, -⟩ := h.N
  obtain ⟨n, -, f1, f2, -⟩ := h.2.2.2.2.2.2.2.2.1
  obtain ⟨-, -, g1, g2, -⟩ := h.2.2.2.2.2.2.1
  have ref : ∀ r, (if x = (0 : Int32) then r = nI W else if x = 1 then r = nI Rn else if x = 2 then r = nI Kn else if x = 3 then r = nI Tn else if x = 4 then r = nI Hn else if x = 5 then r = nI Un else if x = 6 then r = nI n else if x = 7 then r = nI g else r = -1) → mj_Cl mj_S2 mj_CD 900 46 [.ref 0, .int x] (I2, J2, mj_R2) (.int r, (I2, J2, mj_R2)) := by
    intro r hr
    refine mj_mk (D := 899) (e46 _ ?_)
    rw [k1, nI_clamp (by omega), b1, b2, b3, b4, b5, b6, f2, g2]
    have hv : vp_in (nI b) 2 := vp_in_nI k2 (by decide)
    by_cases q0 : x = 0
    · rw [if_pos q0] at hr ⊢; rw [hr]; exact ⟨hv, rfl⟩
    rw [if_neg q0] at hr ⊢
    by_cases q1 : x = 1
    · rw [if_pos q1] at hr ⊢; rw [hr]; exact ⟨hv, rfl⟩
    rw [if_neg q1] at hr ⊢
    by_cases q2 : x = 2
    · rw [if_pos q2] at hr ⊢; rw [hr]; exact ⟨hv, rfl⟩
    rw [if_neg q2] at hr ⊢
    by_cases q3 : x = 3
    · rw [if_pos q3] at hr ⊢; rw [hr]; exact ⟨hv, rfl⟩
    rw [if_neg q3] at hr ⊢
    by_cases q4 : x = 4
    · rw [if_pos q4] at hr ⊢; rw [hr]; exact ⟨hv, rfl⟩
    rw [if_neg q4] at hr ⊢
    by_cases q5 : x = 5
    · rw [if_pos q5] at hr ⊢; rw [hr]; exact ⟨hv, rfl⟩
    rw [if_neg q5] at hr ⊢
    by_cases q6 : x = 6
    · rw [if_pos q6] at hr ⊢; rw [hr]
    rw [if_neg q6] at hr ⊢
    by_cases q7 : x = 7
    · rw [if_pos q7] at hr ⊢; rw [hr]
    rw [if_neg q7] at hr ⊢
    rw [hr]
  have far : ∀ r, (if x = 6 then r = nI n else if x = 7 then r = nI g else r = -1) → mj_Ev mj_S1 (mj_CD 190) (mj_Cl mj_S1 mj_CD 899) (fun q => q = (.int r, (I1, J1, mj_R1))) 20 [(0, .ref 0), (1, .int x)] [] (I1, J1, mj_R1) := by
    intro r hr
    refine mj_on (s190_20 _ ?_)
    rw [f1, g1]
    by_cases q6 : x = 6
    · rw [if_pos q6] at hr ⊢; rw [hr]
    rw [if_neg q6] at hr ⊢
    by_cases q7 : x = 7
    · rw [if_pos q7] at hr ⊢; rw [hr]
    rw [if_neg q7] at hr ⊢
    rw [hr]
  by_cases c : x < 0
  · have nx : ∀ m : Nat, m < 8 → x ≠ nI m := fun m hm e => nI_pos (n := m) (by omega) (e ▸ c)
    refine AI.same (-1) (mj_mk (D := 899) (e190 _ (by rw [if_pos c]; exact far _ (by rw [if_neg (show x ≠ 6 from nx 6 (by omega)), if_neg (show x ≠ 7 from nx 7 (by omega))])))) (ref _ ?_) h
    rw [if_neg (show x ≠ 0 from nx 0 (by omega)), if_neg (show x ≠ 1 from nx 1 (by omega)), if_neg (show x ≠ 2 from nx 2 (by omega)), if_neg (show x ≠ 3 from nx 3 (by omega)), if_neg (show x ≠ 4 from nx 4 (by omega)), if_neg (show x ≠ 5 from nx 5 (by omega)), if_neg (show x ≠ 6 from nx 6 (by omega)), if_neg (show x ≠ 7 from nx 7 (by omega))]
  by_cases d : (6 : Int32) ≤ x
  · have nx : ∀ m : Nat, m < 6 → x ≠ nI m := fun m hm e => nI_ge (a := m) (b := 6) hm (by omega) (e ▸ d)
    have cl : ∀ r, (if x = 6 then r = nI n else if x = 7 then r = nI g else r = -1) → AI 190 46 [.int x] I1 J1 I2 J2 (Rl b W Rn Kn Tn Hn Un g) := fun r hr => by
      refine AI.same r (mj_mk (D := 899) (e190 _ (by rw [if_neg c, if_pos d]; exact far _ hr))) (ref _ ?_) h
      rw [if_neg (show x ≠ 0 from nx 0 (by omega)), if_neg (show x ≠ 1 from nx 1 (by omega)), if_neg (show x ≠ 2 from nx 2 (by omega)), if_neg (show x ≠ 3 from nx 3 (by omega)), if_neg (show x ≠ 4 from nx 4 (by omega)), if_neg (show x ≠ 5 from nx 5 (by omega))]
      exact hr
    by_cases q6 : x = 6
    · exact cl (nI n) (by rw [if_pos q6])
    by_cases q7 : x = 7
    · exact cl (nI g) (by rw [if_neg q6, if_pos q7])
    · exact cl (-1) (by rw [if_neg q6, if_neg q7])
  · obtain ⟨m, hm, rfl⟩ : ∃ m, m < 6 ∧ x = nI m := by
      rcases pk_ix x (n := 6) (by omega) with q | q | q
      · exact absurd q c
      · exact absurd q d
      · exact q
    have cls : mj_Cl mj_S1 mj_CD 900 190 [.ref 0, .int (nI m)] (I1, J1, mj_R1) (.int (I1 2 m), (I1, J1, mj_R1)) := by
      refine mj_mk (D := 899) (e190 _ ?_)
      rw [if_neg c, if_neg d, nI_clamp (by omega)]
      exact ⟨vp_in_nI hm (by decide), rfl⟩
    refine AI.same _ cls (ref _ ?_) h
    match m, hm with
    | 0, _ => exact a1
    | 1, _ => exact a2
    | 2, _ => exact a3
    | 3, _ => exact a4
    | 4, _ => exact a5
    | 5, _ => exact a6
-- price
theorem al_price {x y z : Int32} (h : Rl b W Rn Kn Tn Hn Un g I1 J1 I2 J2) : AI 194 52 [.int x, .int y, .int z] I1 J1 I2 J2 (Rl b W Rn Kn Tn Hn Un g) := by
  obtain ⟨a1, a2, a3, a4, a5, a6, b1, b2, b3, b4, b5, b6, c1, c2, c3, -⟩ := h.N
  have hB := h.rB
  have hT := h.2.1.2.2.1
  rcases Classical.em (∃ j, j < Rn ∧ x = nI j) with p | p
  · obtain ⟨r, hr, rfl⟩ := p
    rcases Classical.em (∃ j, j < W ∧ y = nI j) with q | q
    · obtain ⟨w, hw, rfl⟩ := q
      obtain ⟨t1, -, t2, -⟩ := hT r hr w hw
      have hc : ∀ v, (if z = 0 then v = I1 5 (160 + 4 * r + w) else if I1 5 (160 + 4 * r + w) = -1 then v = I1 5 (160 + 4 * r + w) else v = I1 6 (4 * r + w)) → mj_Cl mj_S1 mj_CD 900 194 [.ref 0, .int (nI r), .int (nI w), .int z] (I1, J1, mj_R1) (.int v, (I1, J1, mj_R1)) := by
        intro v hv
        refine mj_mk (D := 899) (e194 _ _ _ ?_)
        refine ⟨trivial, _, _, _, c_there (k := 1) a2 c3 (by omega), if_tf (fun _ => ?_) (fun f => absurd ⟨r, hr, rfl⟩ f)⟩
        refine ⟨trivial, _, _, _, c_there (k := 0) a1 (by omega) (by omega), if_tf (fun _ => ?_) (fun f => absurd ⟨w, hw, rfl⟩ f)⟩
        refine ⟨trivial, _, _, _, c_slot (k := 1), vp_in_nI (by omega) (by decide), ?_⟩
        rw [nI_clamp (by omega), ix4, nI_clamp (by omega)]
        refine if_i (fun e => ?_) (fun e => if_i (fun e2 => ?_) (fun e2 => ⟨vp_in_nI (by omega) (by decide), ?_⟩))
        · rw [if_pos e] at hv; rw [hv]
        · rw [if_neg e, if_pos e2] at hv; rw [hv]
        · rw [if_neg e, if_neg e2] at hv; rw [hv]
      have hr2 : ∀ v, (if z = 0 then v = I1 5 (160 + 4 * r + w) else if I1 5 (160 + 4 * r + w) = -1 then v = I1 5 (160 + 4 * r + w) else v = I1 6 (4 * r + w)) → mj_Cl mj_S2 mj_CD 900 52 [.ref 0, .int (nI r), .int (nI w), .int z] (I2, J2, mj_R2) (.int v, (I2, J2, mj_R2)) := by
        intro v hv
        refine mj_mk (D := 899) (e52 _ _ _ ?_)
        refine ⟨trivial, _, _, _, r_isRow hB, if_tf (fun _ => ?_) (fun f => absurd ⟨r, hr, rfl⟩ f)⟩
        refine ⟨trivial, _, _, _, r_isWish hB, if_tf (fun _ => ?_) (fun f => absurd ⟨w, hw, rfl⟩ f)⟩
        refine ⟨trivial, _, _, _, r_rowAt hB, vp_in_nI (by omega) (by decide), ?_⟩
        rw [nI_clamp (by omega), t1]
        refine if_i (fun e => ?_) (fun e => if_i (fun e2 => ⟨trivial, _, _, _, r_rowAt hB, vp_in_nI (by omega) (by decide), ?_⟩) (fun e2 => ⟨trivial, _, _, _, r_rowAt hB, vp_in_nI (by omega) (by decide), ?_⟩))
        · rw [e] at hv
          rw [show v = -1 by
            by_cases z0 : z = 0
            · rw [if_pos z0] at hv; exact hv
            · rw [if_neg z0, if_pos rfl] at hv; exact hv]
        · rw [if_pos e2] at hv
          rw [nI_clamp (by omega), t1, hv]
        · rw [if_neg e2, if_neg e] at hv
          rw [nI_clamp (by omega), t2, hv]
      by_cases z0 : z = 0
      · exact AI.same _ (hc _ (by rw [if_pos z0])) (hr2 _ (by rw [if_pos z0])) h
      · by_cases z1 : I1 5 (160 + 4 * r + w) = -1
        · exact AI.same _ (hc _ (by rw [if_neg z0, if_pos z1])) (hr2 _ (by rw [if_neg z0, if_pos z1])) h
        · exact AI.same _ (hc _ (by rw [if_neg z0, if_neg z1])) (hr2 _ (by rw [if_neg z0, if_neg z1])) h
    · refine AI.same (-1) (mj_mk (D := 899) (e194 _ _ _ ?_)) (mj_mk (D := 899) (e52 _ _ _ ?_)) h
      · refine ⟨trivial, _, _, _, c_there (k := 1) a2 c3 (by omega), if_tf (fun _ => ?_) (fun f => absurd ⟨r, hr, rfl⟩ f)⟩
        exact ⟨trivial, _, _, _, c_there (k := 0) a1 (by omega) (by omega), if_tf (fun f => absurd f q) (fun _ => rfl)⟩
      · refine ⟨trivial, _, _, _, r_isRow hB, if_tf (fun _ => ?_) (fun f => absurd ⟨r, hr, rfl⟩ f)⟩
        exact ⟨trivial, _, _, _, r_isWish hB, if_tf (fun f => absurd f q) (fun _ => rfl)⟩
  · refine AI.same (-1) (mj_mk (D := 899) (e194 _ _ _ ?_)) (mj_mk (D := 899) (e52 _ _ _ ?_)) h
    · exact ⟨trivial, _, _, _, c_there (k := 1) a2 c3 (by omega), if_tf (fun f => absurd f p) (fun _ => rfl)⟩
    · exact ⟨trivial, _, _, _, r_isRow hB, if_tf (fun f => absurd f p) (fun _ => rfl)⟩
end S48
end
section
/-! rows: beats, leads, rows, unsure, maybe -/
/-- the first from i on, of k, with P; -1 without one -/
noncomputable def fs (P : Nat → Prop) : Nat → Nat → Int32
  | 0, _ => -1
  | k + 1, i => @ite _ (P i) (Classical.propDecidable _) (nI i) (fs P k (i + 1))
theorem fs_t {P : Nat → Prop} {n i : Nat} (hi : i < n) (h : P i) : fs P (n - i) i = nI i := by
  obtain ⟨k, e⟩ : ∃ k, n - i = k + 1 := ⟨n - i - 1, by omega⟩
  rw [e]
  exact @if_pos (P i) (Classical.propDecidable _) h _ _ _
theorem fs_f {P : Nat → Prop} {n i : Nat} (hi : i < n) (h : ¬ P i) : fs P (n - i) i = fs P (n - (i + 1)) (i + 1) := by
  obtain ⟨k, e⟩ : ∃ k, n - i = k + 1 := ⟨n - i - 1, by omega⟩
  rw [e, show n - (i + 1) = k by omega]
  exact @if_neg (P i) (Classical.propDecidable _) h _ _ _
theorem fs_e {P : Nat → Prop} {n i : Nat} (hi : n ≤ i) : fs P (n - i) i = -1 := by
  rw [show n - i = 0 by omega]
  rfl
theorem fs_iff {P Q : Nat → Prop} : ∀ {k i : Nat}, (∀ j, i ≤ j → j < i + k → (P j ↔ Q j)) → fs P k i = fs Q k i
  | 0, _, _ => rfl
  | k + 1, i, h => by
    have ih := fs_iff (P := P) (Q := Q) (k := k) (i := i + 1) fun j h1 h2 => h j (by omega) (by omega)
    have e : ∀ R : Nat → Prop, fs R (k + 1) i = @ite _ (R i) (Classical.propDecidable _) (nI i) (fs R k (i + 1)) := fun _ => rfl
    rw [e, e, ih, propext (h i (by omega) (by omega))]
theorem sh_sb : ∀ n, n < 64 → ((nI n).toInt64 &&& 63).toBitVec.smod 64 = BitVec.ofNat 64 n := by decide +kernel
theorem sb_v {x : Int64} {a : Nat} (ha : a < 64) : (x >>> ((nI a).toInt64 &&& 63)) &&& 1 = if x.toBitVec.getLsbD a then 1 else 0 := by
  have e : (x >>> ((nI a).toInt64 &&& 63)).toBitVec = x.toBitVec.sshiftRight a := by
    rw [Int64.toBitVec_shiftRight, sh_sb a ha]
    show x.toBitVec.sshiftRight (BitVec.ofNat 64 a).toNat = _
    rw [BitVec.toNat_ofNat, Nat.mod_eq_of_lt (Nat.lt_of_lt_of_le ha (by decide))]
  apply Int64.toBitVec_inj.mp
  rw [Int64.toBitVec_and, e]
  show x.toBitVec.sshiftRight a &&& 1#64 = _
  rw [BitVec.and_one_eq_setWidth_ofBool_getLsbD, BitVec.getLsbD_sshiftRight, Nat.add_zero]
  simp only [show ¬ (64 ≤ 0) by decide, decide_false, Bool.not_false, Bool.true_and, ha, if_true]
  cases x.toBitVec.getLsbD a <;> decide
theorem sb_1 {x : Int64} {a : Nat} (ha : a < 64) : lg_cmp ((x >>> ((nI a).toInt64 &&& 63)) &&& 1) 1 = 0 ↔ lbit x a := by
  rw [cmp0, sb_v ha]
  unfold lbit
  cases x.toBitVec.getLsbD a <;> decide
theorem sb_0 {x : Int64} {a : Nat} (ha : a < 64) : lg_cmp ((x >>> ((nI a).toInt64 &&& 63)) &&& 1) 0 = 0 ↔ ¬ lbit x a := by
  rw [cmp0, sb_v ha]
  unfold lbit
  cases x.toBitVec.getLsbD a <;> decide
theorem nm_iff {W : Nat} {f g f' g' : Nat → Int32} (h1 : ∀ w, w < W → f w = f' w) (h2 : ∀ w, w < W → g w = g' w) : nm W f g ↔ nm W f' g' :=
  forall_congr' fun w => forall_congr' fun hw => by rw [h1 w hw, h2 w hw]
theorem bt_iff {W : Nat} {f g f' g' : Nat → Int32} (h1 : ∀ w, w < W → f w = f' w) (h2 : ∀ w, w < W → g w = g' w) : bt W f g ↔ bt W f' g' :=
  and_congr (nm_iff h1 h2) (not_congr (nm_iff h2 h1))
theorem ub_iff {n : Nat} {as as' : Nat → Prop} {ou ou' : Nat → Nat → Prop} (h1 : ∀ r, r < n → (as r ↔ as' r)) (h2 : ∀ o r, o < n → r < n → (ou o r ↔ ou' o r)) {r : Nat} (hr : r < n) : ub n as ou r ↔ ub n as' ou' r := by
  unfold ub
  refine and_congr (not_congr (h1 r hr)) ⟨fun h o ho e a q => h o ho e (fun z => a ((h1 o ho).mp z)) ((h2 o r ho hr).mpr q), fun h o ho e a q => h o ho e (fun z => a ((h1 o ho).mpr z)) ((h2 o r ho hr).mp q)⟩
section S49
variable {D b W Rn Kn Tn Hn Un g : Nat} {I I1 I2 : Nat → Nat → Int32} {J J1 J2 : Nat → Nat → Int64}
theorem Rl.asd (h : Rl b W Rn Kn Tn Hn Un g I1 J1 I2 J2) {r : Nat} (hr : r < Rn) : rA I2 b W r ↔ lbit (J1 24 5) r := by
  have hT := h.2.1.2.2.1
  obtain ⟨-, -, h3, -⟩ := h.2.2.2.2.1
  rw [h3 r hr]
  exact ⟨fun ⟨w, hw, e⟩ => ⟨w, hw, by rw [← (hT r hr w hw).1]; exact e⟩, fun ⟨w, hw, e⟩ => ⟨w, hw, by rw [(hT r hr w hw).1]; exact e⟩⟩
theorem Rl.ls (h : Rl b W Rn Kn Tn Hn Un g I1 J1 I2 J2) {r w : Nat} (hr : r < Rn) (hw : w < W) : rL I2 b r w = I1 25 (4 * r + w) := by
  have hT := h.2.1.2.2.1
  have hM := h.2.1.2.1
  obtain ⟨-, -, -, h4, -⟩ := h.2.2.2.2.1
  rw [(h4 r hr w hw).1]
  unfold rL
  rw [(hT r hr w hw).1, (hM w hw).1]
theorem Rl.btq (h : Rl b W Rn Kn Tn Hn Un g I1 J1 I2 J2) {o r : Nat} (ho : o < Rn) (hr : r < Rn) : bt W (rL I2 b o) (rL I2 b r) ↔ bt W (fun w => I1 25 (4 * o + w)) (fun w => I1 25 (4 * r + w)) :=
  bt_iff (fun w hw => h.ls ho hw) (fun w hw => h.ls hr hw)
theorem Rl.front (h : Rl b W Rn Kn Tn Hn Un g I1 J1 I2 J2) : bs Rn (ub Rn (rA I2 b W) (fun o r => bt W (rL I2 b o) (rL I2 b r))) = J1 24 6 := by
  rw [h.2.2.2.2.1.2.2.2.2]
  exact bs_iff fun r hr => ub_iff (fun o ho => h.asd ho) (fun o u ho hu => h.btq ho hu) hr
theorem Rl.rfront (h : Rl b W Rn Kn Tn Hn Un g I1 J1 I2 J2) : mj_Cl mj_S2 mj_CD (D + 4) 60 [.ref 0] (I2, J2, mj_R2) (.long (J1 24 6), (I2, J2, mj_R2)) := by
  have e := r_rowFront (D := D) (J := J2) h.rB
  rw [h.front] at e
  exact e
theorem Rl.beat (h : Rl b W Rn Kn Tn Hn Un g I1 J1 I2 J2) {x y : Nat} (hx : x < Rn) (hy : y < Rn) : mj_Cl mj_S2 mj_CD (D + 3) 55 [.ref 0, .int (nI x), .int (nI y)] (I2, J2, mj_R2) (.int (tf (¬ lbit (J1 24 5) x ∧ ¬ lbit (J1 24 5) y ∧ bt W (fun w => I1 25 (4 * x + w)) (fun w => I1 25 (4 * y + w)))), (I2, J2, mj_R2)) := by
  have hR := h.rB.2.2.2.2.2
  have e := r_doesBeat (D := D) (J := J2) h.rB (x := x) (y := y) (by omega) (by omega)
  rw [tf_iff (and_congr (not_congr (h.asd hx)) (and_congr (not_congr (h.asd hy)) (h.btq hx hy)))] at e
  exact e
theorem c_better (hr : I 24 0 = nI Rn) (hR : Rn ≤ 40) (hw : I 24 1 = nI W) (hW : W ≤ 4) {x y : Nat} (hx : x < Rn) (hy : y < Rn) : mj_Cl mj_S1 mj_CD (D + 3) 196 [.ref 24, .int (nI x), .int (nI y)] (I, J, mj_R1) (.int (tf (¬ lbit (J 24 5) x ∧ ¬ lbit (J 24 5) y ∧ bt W (fun w => I 25 (4 * x + w)) (fun w => I 25 (4 * y + w)))), (I, J, mj_R1)) := by
  refine mj_mk (e196 _ _ ?_)
  refine ⟨trivial, _, _, _, c_judged (n := Rn) hr hR, if_tf (fun c => ?_) (fun c => mzF fun q => c ((c_jud (by omega)).mpr q.1))⟩
  refine ⟨trivial, _, _, _, c_judged (n := Rn) hr hR, if_tf (fun d => ?_) (fun d => mzF fun q => d ((c_jud (by omega)).mpr q.2.1))⟩
  refine ⟨trivial, _, _, _, c_out_c hw hW (by omega) (by omega), if_tf (fun f => ?_) (fun f => mzF fun q => f q.2.2)⟩
  exact mzT ⟨(c_jud (by omega)).mp c, (c_jud (by omega)).mp d, f⟩
theorem Rl.W24 (h : Rl b W Rn Kn Tn Hn Un g I1 J1 I2 J2) : I1 24 0 = nI Rn ∧ Rn ≤ 40 ∧ I1 24 1 = nI W ∧ W ≤ 4 := by
  obtain ⟨h1, h2, -⟩ := h.2.2.2.2.1
  obtain ⟨-, -, -, c2, -, c3⟩ := h.rB
  exact ⟨h1, c3, h2, c2⟩
theorem al_rows (h : Rl b W Rn Kn Tn Hn Un g I1 J1 I2 J2) : AJ 200 59 [] I1 J1 I2 J2 (Rl b W Rn Kn Tn Hn Un g) :=
  ⟨J1 24 6, I1, J1, I2, J2, mj_mk (D := 899) (e200 rfl), mj_mk (D := 899) (e59 ⟨trivial, _, _, _, h.rfront (D := 895), rfl⟩), h⟩
theorem al_beats {x y : Int32} (h : Rl b W Rn Kn Tn Hn Un g I1 J1 I2 J2) : AI 195 54 [.int x, .int y] I1 J1 I2 J2 (Rl b W Rn Kn Tn Hn Un g) := by
  obtain ⟨a1, a2, -⟩ := h.N
  obtain ⟨w1, w2, w3, w4⟩ := h.W24
  have hB := h.rB
  rcases Classical.em (∃ j, j < Rn ∧ x = nI j) with p | p
  · rcases Classical.em (∃ j, j < Rn ∧ y = nI j) with q | q
    · obtain ⟨r, hr, rfl⟩ := p
      obtain ⟨u, hu, rfl⟩ := q
      refine AI.same (tf (¬ lbit (J1 24 5) r ∧ ¬ lbit (J1 24 5) u ∧ bt W (fun w => I1 25 (4 * r + w)) (fun w => I1 25 (4 * u + w)))) (mj_mk (D := 899) (e195 _ _ ?_)) (mj_mk (D := 899) (e54 _ _ ?_)) h
      · refine ⟨trivial, _, _, _, c_there (k := 1) a2 w2 (by omega), if_tf (fun _ => ?_) (fun f => absurd ⟨r, hr, rfl⟩ f)⟩
        refine ⟨trivial, _, _, _, c_there (k := 1) a2 w2 (by omega), if_tf (fun _ => ?_) (fun f => absurd ⟨u, hu, rfl⟩ f)⟩
        exact ⟨trivial, _, _, _, c_better w1 w2 w3 w4 hr hu, if_tf (fun f => mqT f) (fun f => mqF f)⟩
      · refine ⟨trivial, _, _, _, r_isRow hB, if_tf (fun _ => ?_) (fun f => absurd ⟨r, hr, rfl⟩ f)⟩
        refine ⟨trivial, _, _, _, r_isRow hB, if_tf (fun _ => ?_) (fun f => absurd ⟨u, hu, rfl⟩ f)⟩
        exact ⟨trivial, _, _, _, h.beat hr hu, if_tf (fun f => mqT f) (fun f => mqF f)⟩
    · refine AI.same (-1) (mj_mk (D := 899) (e195 _ _ ?_)) (mj_mk (D := 899) (e54 _ _ ?_)) h
      · refine ⟨trivial, _, _, _, c_there (k := 1) a2 w2 (by omega), if_tf (fun _ => ?_) (fun f => absurd p f)⟩
        exact ⟨trivial, _, _, _, c_there (k := 1) a2 w2 (by omega), if_tf (fun f => absurd f q) (fun _ => rfl)⟩
      · refine ⟨trivial, _, _, _, r_isRow hB, if_tf (fun _ => ?_) (fun f => absurd p f)⟩
        exact ⟨trivial, _, _, _, r_isRow hB, if_tf (fun f => absurd f q) (fun _ => rfl)⟩
  · refine AI.same (-1) (mj_mk (D := 899) (e195 _ _ ?_)) (mj_mk (D := 899) (e54 _ _ ?_)) h
    · exact ⟨trivial, _, _, _, c_there (k := 1) a2 w2 (by omega), if_tf (fun f => absurd f p) (fun _ => rfl)⟩
    · exact ⟨trivial, _, _, _, r_isRow hB, if_tf (fun f => absurd f p) (fun _ => rfl)⟩
theorem al_leads {x : Int32} (h : Rl b W Rn Kn Tn Hn Un g I1 J1 I2 J2) : AI 197 61 [.int x] I1 J1 I2 J2 (Rl b W Rn Kn Tn Hn Un g) := by
  obtain ⟨a1, a2, -⟩ := h.N
  obtain ⟨w1, w2, w3, w4⟩ := h.W24
  have hB := h.rB
  obtain ⟨b1, b2, b3, b4, b5, b6⟩ := id hB
  rcases Classical.em (∃ j, j < Rn ∧ x = nI j) with p | p
  · obtain ⟨r, hr, rfl⟩ := p
    obtain ⟨P, hP⟩ : ∃ P : Nat → Prop, P = fun o => lbit (J1 24 6) o ∧ ¬ lbit (J1 24 5) o ∧ ¬ lbit (J1 24 5) r ∧ bt W (fun w => I1 25 (4 * o + w)) (fun w => I1 25 (4 * r + w)) := ⟨_, rfl⟩
    refine AI.same (fs P (Rn - 0) 0) (mj_mk (D := 899) (e197 _ ?_)) (mj_mk (D := 899) (e61 _ ?_)) h
    · refine ⟨trivial, _, _, _, c_there (k := 1) a2 w2 (by omega), if_tf (fun _ => ?_) (fun f => absurd ⟨r, hr, rfl⟩ f)⟩
      refine lp_up (n := Rn) (fun i => E1 197 899 (fun q => q = (.int (fs P (Rn - i) i), (I1, J1, mj_R1))) 16 [(0, .ref 0), (1, .int (nI r)), (2, .int (nI i))] I1 J1) (fun i hi ih => ?_) 0 (Nat.zero_le _)
      refine mj_on (s197_16 _ _ ?_)
      rw [show ((1 : Int32)).toNatClampNeg = 1 from rfl, a2, nI_1]
      refine ⟨vp_in_nI (n := 1) (by decide) (by decide), if_le (by omega) (by omega) (fun c => by rw [fs_e c]) (fun c => ?_)⟩
      refine ⟨trivial, _, _, _, c_isIn (by omega), if_tf (fun d => ?_) (fun d => ?_)⟩
      · refine ⟨trivial, _, _, _, c_better w1 w2 w3 w4 c hr, if_tf (fun f => ?_) (fun f => ?_)⟩
        · rw [fs_t c (by rw [hP]; exact ⟨d, f⟩)]
        · rw [fs_f c (by rw [hP]; exact fun q => f q.2)]; exact ih c
      · rw [fs_f c (by rw [hP]; exact fun q => d q.1)]; exact ih c
    · refine ⟨trivial, _, _, _, r_isRow hB, if_tf (fun _ => ?_) (fun f => absurd ⟨r, hr, rfl⟩ f)⟩
      refine ⟨trivial, _, _, _, h.rfront, ?_⟩
      refine lp_up (n := Rn) (fun i => E2 61 899 (fun q => q = (.int (fs P (Rn - i) i), (I2, J2, mj_R2))) 18 [(0, .ref 0), (1, .int (nI r)), (2, .long (J1 24 6)), (4, .int (nI i))] I2 J2) (fun i hi ih => ?_) 0 (Nat.zero_le _)
      refine mj_on (s61_18 _ _ _ ?_)
      rw [b1, nI_clamp (by omega), b5, nI_1]
      refine ⟨vp_in_nI b2 (by decide), if_le (by omega) (by omega) (fun c => by rw [fs_e c]) (fun c => ?_)⟩
      refine if_i (fun d => ?_) (fun d => ?_)
      · have d := (sb_1 (by omega)).mp d
        refine ⟨trivial, _, _, _, h.beat c hr, if_tf (fun f => ?_) (fun f => ?_)⟩
        · rw [fs_t c (by rw [hP]; exact ⟨d, f⟩)]
        · rw [fs_f c (by rw [hP]; exact fun q => f q.2)]; exact ih c
      · have d : ¬ lbit (J1 24 6) i := fun q => d ((sb_1 (by omega)).mpr q)
        rw [fs_f c (by rw [hP]; exact fun q => d q.1)]; exact ih c
  · refine AI.same (-1) (mj_mk (D := 899) (e197 _ ?_)) (mj_mk (D := 899) (e61 _ ?_)) h
    · exact ⟨trivial, _, _, _, c_there (k := 1) a2 w2 (by omega), if_tf (fun f => absurd f p) (fun _ => rfl)⟩
    · exact ⟨trivial, _, _, _, r_isRow hB, if_tf (fun f => absurd f p) (fun _ => rfl)⟩
-- unsure, maybe
theorem Rl.ml (h : Rl b W Rn Kn Tn Hn Un g I1 J1 I2 J2) {r w : Nat} (hr : r < Rn) (hw : w < W) : C2 (D + 3) 67 [.ref 0, .int (nI r), .int (nI w)] I2 J2 (.int (I1 27 (4 * r + w))) I2 J2 ∧ C2 (D + 3) 68 [.ref 0, .int (nI r), .int (nI w)] I2 J2 (.int (I1 26 (4 * r + w))) I2 J2 := by
  have hB := h.rB
  have hR := h.rB.2.2.2.2.2
  have hT := (h.2.1.2.2.1 r hr w hw).2.2.1
  have hL := h.ls hr hw
  obtain ⟨-, -, -, h4, -⟩ := h.2.2.2.2.1
  obtain ⟨q1, q2, q3⟩ := h4 r hr w hw
  obtain ⟨b1, b2, b3, b4, b5, b6⟩ := id hB
  constructor
  · refine mj_mk (e67 _ _ ?_)
    refine ⟨trivial, _, _, _, r_rowLoss hB (by omega) hw, trivial, _, _, _, r_rowAt hB, vp_in_nI (by omega) (by decide), ?_⟩
    rw [nI_clamp (by omega), hT, hL, q1, q3]
  · refine mj_mk (e68 _ _ ?_)
    refine ⟨trivial, _, _, _, r_rowLoss hB (by omega) hw, trivial, _, _, _, r_rowAt hB, vp_in_nI (by omega) (by decide), ?_⟩
    rw [nI_clamp (by omega), hT, hL, q1, q2]
/-- 2, 1 or 0 -/
noncomputable def t2 (P Q : Prop) : Int32 := @ite _ P (Classical.propDecidable _) 2 (tf Q)
theorem t2_a {P Q : Prop} (h : P) : t2 P Q = 2 := @if_pos P (Classical.propDecidable _) h _ _ _
theorem t2_b {P Q : Prop} (h : ¬ P) : t2 P Q = tf Q := @if_neg P (Classical.propDecidable _) h _ _ _
theorem r_mayBeat (h : Rl b W Rn Kn Tn Hn Un g I1 J1 I2 J2) {x y : Nat} (hx : x < Rn) (hy : y < Rn) : C2 (D + 4) 66 [.ref 0, .int (nI x), .int (nI y)] I2 J2 (.int (t2 (bt W (fun w => I1 27 (4 * x + w)) (fun w => I1 26 (4 * y + w))) (bt W (fun w => I1 26 (4 * x + w)) (fun w => I1 27 (4 * y + w))))) I2 J2 := by
  have hB := h.rB
  obtain ⟨b1, b2, b3, b4, b5, b6⟩ := id hB
  have mx : ∀ {w}, w < W → _ := fun {w} hw => (h.ml (D := D) hx (w := w) hw)
  have my : ∀ {w}, w < W → _ := fun {w} hw => (h.ml (D := D) hy (w := w) hw)
  refine mj_mk (e66 _ _ ?_)
  have key := lp_up (n := W) (fun i => ∀ A B C E : Prop, (A ↔ ∀ w, w < i → I1 27 (4 * x + w) ≤ I1 26 (4 * y + w)) → (B ↔ ∃ w, w < i ∧ I1 27 (4 * x + w) < I1 26 (4 * y + w)) → (C ↔ ∀ w, w < i → I1 26 (4 * x + w) ≤ I1 27 (4 * y + w)) → (E ↔ ∃ w, w < i ∧ I1 26 (4 * x + w) < I1 27 (4 * y + w)) →
    E2 66 (D + 3) (fun q => q = (.int (t2 (bt W (fun w => I1 27 (4 * x + w)) (fun w => I1 26 (4 * y + w))) (bt W (fun w => I1 26 (4 * x + w)) (fun w => I1 27 (4 * y + w)))), (I2, J2, mj_R2))) 14 [(0, .ref 0), (1, .int (nI x)), (2, .int (nI y)), (3, .int (tf A)), (4, .int (tf B)), (5, .int (tf C)), (6, .int (tf E)), (7, .int (nI i))] I2 J2) (fun i hi ih A B C E hA hB' hC hE => ?_) 0 (Nat.zero_le _) True False True False
    ⟨fun _ w hw => absurd hw (Nat.not_lt_zero w), fun _ => trivial⟩ ⟨fun q => q.elim, fun ⟨w, hw, _⟩ => absurd hw (Nat.not_lt_zero w)⟩ ⟨fun _ w hw => absurd hw (Nat.not_lt_zero w), fun _ => trivial⟩ ⟨fun q => q.elim, fun ⟨w, hw, _⟩ => absurd hw (Nat.not_lt_zero w)⟩
  · rw [tf_t trivial, tf_f id] at key
    exact key
  refine mj_on (s66_14 _ _ _ _ _ _ _ ?_)
  rw [b1, nI_clamp (by omega), b3]
  refine ⟨vp_in_nI b2 (by decide), if_le (by omega) (by omega) (fun c => ?_) (fun c => ?_)⟩
  · obtain rfl : i = W := by omega
    have e1 : bt i (fun w => I1 27 (4 * x + w)) (fun w => I1 26 (4 * y + w)) ↔ A ∧ B := by rw [nbt, hA, hB']; rfl
    have e2 : bt i (fun w => I1 26 (4 * x + w)) (fun w => I1 27 (4 * y + w)) ↔ C ∧ E := by rw [nbt, hC, hE]; rfl
    have fin : ¬ (A ∧ B) → E2 66 (D + 3) (fun q => q = (.int (t2 (bt i (fun w => I1 27 (4 * x + w)) (fun w => I1 26 (4 * y + w))) (bt i (fun w => I1 26 (4 * x + w)) (fun w => I1 27 (4 * y + w)))), (I2, J2, mj_R2))) 161 [(5, .int (tf C)), (6, .int (tf E))] I2 J2 := by
      intro q
      refine mj_on (s66_161 _ _ ?_)
      rw [t2_b (fun z => q (e1.mp z))]
      exact if_tf (fun p1 => if_tf (fun p2 => mqT (e2.mpr ⟨p1, p2⟩)) (fun p2 => mqF fun z => p2 (e2.mp z).2)) (fun p1 => mqF fun z => p1 (e2.mp z).1)
    refine if_tf (fun p1 => if_tf (fun p2 => ?_) (fun p2 => fin fun z => p2 z.2)) (fun p1 => fin fun z => p1 z.1)
    rw [t2_a (e1.mpr ⟨p1, p2⟩)]
  -- one more wish: the four flags, one behind the other
  have s4 : ∀ A' B' C' : Prop, (A' ↔ ∀ w, w < i + 1 → I1 27 (4 * x + w) ≤ I1 26 (4 * y + w)) → (B' ↔ ∃ w, w < i + 1 ∧ I1 27 (4 * x + w) < I1 26 (4 * y + w)) → (C' ↔ ∀ w, w < i + 1 → I1 26 (4 * x + w) ≤ I1 27 (4 * y + w)) →
      E2 66 (D + 3) (fun q => q = (.int (t2 (bt W (fun w => I1 27 (4 * x + w)) (fun w => I1 26 (4 * y + w))) (bt W (fun w => I1 26 (4 * x + w)) (fun w => I1 27 (4 * y + w)))), (I2, J2, mj_R2))) 113 [(0, .ref 0), (1, .int (nI x)), (2, .int (nI y)), (3, .int (tf A')), (4, .int (tf B')), (5, .int (tf C')), (6, .int (tf E)), (7, .int (nI i))] I2 J2 := by
    intro A' B' C' hA' hB2 hC'
    refine mj_on (s66_113 _ _ _ _ _ _ _ ?_)
    rw [nI_1]
    refine if_tf (fun p => ?_) (fun p => ⟨trivial, _, _, _, (mx c).2, trivial, _, _, _, (my c).1, if_i (fun d => ?_) (fun d => ?_)⟩)
    · have z := ih c A' B' C' True hA' hB2 hC' ⟨fun _ => by obtain ⟨w, q1, q2⟩ := hE.mp p; exact ⟨w, by omega, q2⟩, fun _ => trivial⟩
      rw [tf_t trivial] at z
      exact z
    · have z := ih c A' B' C' False hA' hB2 hC' ⟨fun q => q.elim, fun ⟨w, q1, q2⟩ => by
        by_cases e : w = i
        · rw [e] at q2; exact absurd d (Int32.not_le.mpr q2)
        · exact p (hE.mpr ⟨w, by omega, q2⟩)⟩
      rw [tf_f id] at z
      exact z
    · have z := ih c A' B' C' True hA' hB2 hC' ⟨fun _ => ⟨i, by omega, Int32.not_le.mp d⟩, fun _ => trivial⟩
      rw [tf_t trivial] at z
      exact z
  have s3 : ∀ A' B' : Prop, (A' ↔ ∀ w, w < i + 1 → I1 27 (4 * x + w) ≤ I1 26 (4 * y + w)) → (B' ↔ ∃ w, w < i + 1 ∧ I1 27 (4 * x + w) < I1 26 (4 * y + w)) →
      E2 66 (D + 3) (fun q => q = (.int (t2 (bt W (fun w => I1 27 (4 * x + w)) (fun w => I1 26 (4 * y + w))) (bt W (fun w => I1 26 (4 * x + w)) (fun w => I1 27 (4 * y + w)))), (I2, J2, mj_R2))) 84 [(0, .ref 0), (1, .int (nI x)), (2, .int (nI y)), (3, .int (tf A')), (4, .int (tf B')), (5, .int (tf C)), (6, .int (tf E)), (7, .int (nI i))] I2 J2 := by
    intro A' B' hA' hB2
    refine mj_on (s66_84 _ _ _ _ _ _ _ ?_)
    refine if_tf (fun p => ⟨trivial, _, _, _, (mx c).2, trivial, _, _, _, (my c).1, if_i (fun d => ?_) (fun d => ?_)⟩) (fun p => ?_)
    · have z := s4 A' B' False hA' hB2 ⟨fun q => q.elim, fun q => absurd (q i (by omega)) (Int32.not_le.mpr d)⟩
      rw [tf_f id] at z
      exact z
    · have z := s4 A' B' True hA' hB2 ⟨fun _ w hw => by
        by_cases e : w = i
        · rw [e]; exact Int32.not_lt.mp d
        · exact hC.mp p w (by omega), fun _ => trivial⟩
      rw [tf_t trivial] at z
      exact z
    · have z := s4 A' B' False hA' hB2 ⟨fun q => q.elim, fun q => p (hC.mpr fun w hw => q w (by omega))⟩
      rw [tf_f id] at z
      exact z
  have s2 : ∀ A' : Prop, (A' ↔ ∀ w, w < i + 1 → I1 27 (4 * x + w) ≤ I1 26 (4 * y + w)) →
      E2 66 (D + 3) (fun q => q = (.int (t2 (bt W (fun w => I1 27 (4 * x + w)) (fun w => I1 26 (4 * y + w))) (bt W (fun w => I1 26 (4 * x + w)) (fun w => I1 27 (4 * y + w)))), (I2, J2, mj_R2))) 55 [(0, .ref 0), (1, .int (nI x)), (2, .int (nI y)), (3, .int (tf A')), (4, .int (tf B)), (5, .int (tf C)), (6, .int (tf E)), (7, .int (nI i))] I2 J2 := by
    intro A' hA'
    refine mj_on (s66_55 _ _ _ _ _ _ _ ?_)
    refine if_tf (fun p => ?_) (fun p => ⟨trivial, _, _, _, (mx c).1, trivial, _, _, _, (my c).2, if_i (fun d => ?_) (fun d => ?_)⟩)
    · have z := s3 A' True hA' ⟨fun _ => by obtain ⟨w, q1, q2⟩ := hB'.mp p; exact ⟨w, by omega, q2⟩, fun _ => trivial⟩
      rw [tf_t trivial] at z
      exact z
    · have z := s3 A' False hA' ⟨fun q => q.elim, fun ⟨w, q1, q2⟩ => by
        by_cases e : w = i
        · rw [e] at q2; exact absurd d (Int32.not_le.mpr q2)
        · exact p (hB'.mpr ⟨w, by omega, q2⟩)⟩
      rw [tf_f id] at z
      exact z
    · have z := s3 A' True hA' ⟨fun _ => ⟨i, by omega, Int32.not_le.mp d⟩, fun _ => trivial⟩
      rw [tf_t trivial] at z
      exact z
  refine if_tf (fun p => ⟨trivial, _, _, _, (mx c).1, trivial, _, _, _, (my c).2, if_i (fun d => ?_) (fun d => ?_)⟩) (fun p => ?_)
  · have z := s2 False ⟨fun q => q.elim, fun q => absurd (q i (by omega)) (Int32.not_le.mpr d)⟩
    rw [tf_f id] at z
    exact z
  · have z := s2 True ⟨fun _ w hw => by
      by_cases e : w = i
      · rw [e]; exact Int32.not_lt.mp d
      · exact hA.mp p w (by omega), fun _ => trivial⟩
    rw [tf_t trivial] at z
    exact z
  · have z := s2 False ⟨fun q => q.elim, fun q => p (hA.mpr fun w hw => q w (by omega))⟩
    rw [tf_f id] at z
    exact z
theorem al_maybe {x y : Int32} (h : Rl b W Rn Kn Tn Hn Un g I1 J1 I2 J2) : AI 202 65 [.int x, .int y] I1 J1 I2 J2 (Rl b W Rn Kn Tn Hn Un g) := by
  obtain ⟨w1, w2, w3, w4⟩ := h.W24
  have hB := h.rB
  have hj1 : ∀ {z : Int32} {r}, z = nI r → r < Rn → ((∃ j, j < Rn ∧ z = nI j ∧ ¬ lbit (J1 24 5) j) ↔ ¬ lbit (J1 24 5) r) := fun e hr => by rw [e]; exact c_jud hr
  rcases Classical.em (∃ j, j < Rn ∧ x = nI j) with p | p
  · rcases Classical.em (∃ j, j < Rn ∧ y = nI j) with q | q
    · obtain ⟨r, hr, rfl⟩ := p
      obtain ⟨u, hu, rfl⟩ := q
      obtain ⟨ans, ha0, ha1, ha2, ha3⟩ : ∃ v : Int32, (r = u → v = -1) ∧ (lbit (J1 24 5) r → v = -1) ∧ (lbit (J1 24 5) u → v = -1) ∧ (r ≠ u → ¬ lbit (J1 24 5) r → ¬ lbit (J1 24 5) u → v = t2 (bt W (fun w => I1 27 (4 * r + w)) (fun w => I1 26 (4 * u + w))) (bt W (fun w => I1 26 (4 * r + w)) (fun w => I1 27 (4 * u + w)))) := by
        by_cases e : r = u
        · exact ⟨-1, fun _ => rfl, fun _ => rfl, fun _ => rfl, fun q => absurd e q⟩
        rcases Classical.em (lbit (J1 24 5) r) with c | c
        · exact ⟨-1, fun _ => rfl, fun _ => rfl, fun _ => rfl, fun _ q => absurd c q⟩
        rcases Classical.em (lbit (J1 24 5) u) with d | d
        · exact ⟨-1, fun _ => rfl, fun _ => rfl, fun _ => rfl, fun _ _ q => absurd d q⟩
        · exact ⟨_, fun q => absurd q e, fun q => absurd q c, fun q => absurd q d, fun _ _ _ => rfl⟩
      refine AI.same ans (mj_mk (D := 899) (e202 _ _ ?_)) (mj_mk (D := 899) (e65 _ _ ?_)) h
      · refine ⟨trivial, _, _, _, c_judged (n := Rn) w1 w2, if_tf (fun c => ?_) (fun c => ?_)⟩
        · have c := (c_jud hr).mp c
          refine ⟨trivial, _, _, _, c_judged (n := Rn) w1 w2, if_tf (fun d => ?_) (fun d => ?_)⟩
          · have d := (c_jud hu).mp d
            refine if_eq (by omega) (by omega) (fun e => ?_) (fun e => ?_)
            · rw [ha0 e]
            · rw [ha3 e c d]
              refine ⟨trivial, _, _, _, c_out_b w3 w4 (by omega) (by omega), if_tf (fun f => ?_) (fun f => ?_)⟩
              · rw [t2_a f]
              · rw [t2_b f]
                exact ⟨trivial, _, _, _, c_out_a w3 w4 (by omega) (by omega), if_tf (fun z => mqT z) (fun z => mqF z)⟩
          · have d : lbit (J1 24 5) u := Classical.byContradiction fun z => d ((c_jud hu).mpr z)
            rw [ha2 d]
        · have c : lbit (J1 24 5) r := Classical.byContradiction fun z => c ((c_jud hr).mpr z)
          rw [ha1 c]
      · refine ⟨trivial, _, _, _, r_isRow hB, if_tf (fun _ => ?_) (fun f => absurd ⟨r, hr, rfl⟩ f)⟩
        refine ⟨trivial, _, _, _, r_isRow hB, if_tf (fun _ => ?_) (fun f => absurd ⟨u, hu, rfl⟩ f)⟩
        refine if_eq (by omega) (by omega) (fun e => ?_) (fun e => ?_)
        · rw [ha0 e]
        refine ⟨trivial, _, _, _, r_isAside hB (by omega), if_tf (fun c => ?_) (fun c => ?_)⟩
        · rw [ha1 ((h.asd hr).mp c)]
        have c := fun z => c ((h.asd hr).mpr z)
        refine ⟨trivial, _, _, _, r_isAside hB (by omega), if_tf (fun d => ?_) (fun d => ?_)⟩
        · rw [ha2 ((h.asd hu).mp d)]
        have d := fun z => d ((h.asd hu).mpr z)
        rw [ha3 e c d]
        exact ⟨trivial, _, _, _, r_mayBeat h hr hu, rfl⟩
    · refine AI.same (-1) (mj_mk (D := 899) (e202 _ _ ?_)) (mj_mk (D := 899) (e65 _ _ ?_)) h
      · refine ⟨trivial, _, _, _, c_judged (n := Rn) w1 w2, if_tf (fun c => ?_) (fun c => rfl)⟩
        exact ⟨trivial, _, _, _, c_judged (n := Rn) w1 w2, if_tf (fun ⟨j, hj, e, _⟩ => absurd ⟨j, hj, e⟩ q) (fun _ => rfl)⟩
      · refine ⟨trivial, _, _, _, r_isRow hB, if_tf (fun _ => ?_) (fun f => absurd p f)⟩
        exact ⟨trivial, _, _, _, r_isRow hB, if_tf (fun f => absurd f q) (fun _ => rfl)⟩
  · refine AI.same (-1) (mj_mk (D := 899) (e202 _ _ ?_)) (mj_mk (D := 899) (e65 _ _ ?_)) h
    · exact ⟨trivial, _, _, _, c_judged (n := Rn) w1 w2, if_tf (fun ⟨j, hj, e, _⟩ => absurd ⟨j, hj, e⟩ p) (fun _ => rfl)⟩
    · exact ⟨trivial, _, _, _, r_isRow hB, if_tf (fun f => absurd f p) (fun _ => rfl)⟩
end S49
end
section
/-! how many bits: Long.bitCount, Integer.bitCount, the reference's own -/
theorem nx_and (a b : Nat) : nI a &&& nI b = nI (a &&& b) := by
  apply Int32.toBitVec_inj.1
  show BitVec.ofNat 32 a &&& BitVec.ofNat 32 b = BitVec.ofNat 32 (a &&& b)
  apply BitVec.eq_of_getLsbD_eq
  intro i hi
  simp [hi]
def bl1 (x : Int64) : Int64 := x - ((x.toUInt64 >>> ((1 : Int32).toInt64.toUInt64 &&& Int64.toUInt64 63)).toInt64 &&& (6148914691236517205 : Int64))
def bl2 (x : Int64) : Int64 := (x &&& (3689348814741910323 : Int64)) + ((x.toUInt64 >>> ((2 : Int32).toInt64.toUInt64 &&& Int64.toUInt64 63)).toInt64 &&& (3689348814741910323 : Int64))
def bl3 (x : Int64) : Int64 := (x + (x.toUInt64 >>> ((4 : Int32).toInt64.toUInt64 &&& Int64.toUInt64 63)).toInt64) &&& (1085102592571150095 : Int64)
def bl4 (x : Int64) : Int64 := x + (x.toUInt64 >>> ((8 : Int32).toInt64.toUInt64 &&& Int64.toUInt64 63)).toInt64
def bl5 (x : Int64) : Int64 := x + (x.toUInt64 >>> ((16 : Int32).toInt64.toUInt64 &&& Int64.toUInt64 63)).toInt64
def bl6 (x : Int64) : Int64 := x + (x.toUInt64 >>> ((32 : Int32).toInt64.toUInt64 &&& Int64.toUInt64 63)).toInt64
theorem bl_eq {m : Nat} (hm : m < 2 ^ 64) : (bl6 (bl5 (bl4 (bl3 (bl2 (bl1 (lN m))))))).toInt32 &&& (127 : Int32) = nI (pcn 64 m) := by
  have h8 : (256 : Nat) ^ 8 = 2 ^ 64 := by decide
  have hm8 : m < 256 ^ 8 := by rw [h8]; exact hm
  obtain ⟨q1, q2, q3, q4, q5, -⟩ := p_le 8 m hm8
  rw [h8] at q2 q3
  have d2 : ∀ {a k : Nat}, a < 2 ^ 64 → a / k < 2 ^ 64 := fun h => Nat.lt_of_le_of_lt (Nat.div_le_self _ _) h
  have z1 : ((lN m).toUInt64 >>> ((1 : Int32).toInt64.toUInt64 &&& Int64.toUInt64 63)).toInt64 = lN (m / 2) := wb_shr (k := 1) hm (by decide)
  have e1 : bl1 (lN m) = lN (p1 8 m) := by
    unfold bl1 p1
    rw [z1, show (6148914691236517205 : Int64) = lN (pm 85 8) from rfl, wb_and (d2 hm) (by decide), lN_sub q1]
  have z2 : ((lN (p1 8 m)).toUInt64 >>> ((2 : Int32).toInt64.toUInt64 &&& Int64.toUInt64 63)).toInt64 = lN (p1 8 m / 4) := wb_shr (k := 2) q2 (by decide)
  have e2 : bl2 (lN (p1 8 m)) = lN (p2 8 m) := by
    unfold bl2 p2
    rw [z2, show (3689348814741910323 : Int64) = lN (pm 51 8) from rfl, wb_and q2 (by decide), wb_and (d2 q2) (by decide), lN_add]
  have z3 : ((lN (p2 8 m)).toUInt64 >>> ((4 : Int32).toInt64.toUInt64 &&& Int64.toUInt64 63)).toInt64 = lN (p2 8 m / 16) := wb_shr (k := 4) q3 (by decide)
  have e3 : bl3 (lN (p2 8 m)) = lN (p3 8 m) := by
    unfold bl3 p3
    rw [z3, lN_add, show (1085102592571150095 : Int64) = lN (pm 15 8) from rfl, wb_mod]
    rw [wb_and (Nat.mod_lt _ (by decide)) (by decide)]
    congr 1
    have : p2 8 m + p2 8 m / 16 < 2 ^ 64 ∨ 2 ^ 64 ≤ p2 8 m + p2 8 m / 16 := Nat.lt_or_ge _ _
    rw [show pm 15 8 = 1085102592571150095 from rfl]
    apply Nat.eq_of_testBit_eq
    intro i
    rw [Nat.testBit_and, Nat.testBit_and, Nat.testBit_mod_two_pow]
    by_cases h : i < 64
    · simp [h]
    · have : (1085102592571150095 : Nat).testBit i = false := Nat.testBit_lt_two_pow (Nat.lt_of_lt_of_le (by decide : 1085102592571150095 < 2 ^ 64) (Nat.pow_le_pow_right (by decide) (by omega)))
      rw [this]
      simp
  obtain ⟨a4, a5, r1, r2, r3, r4, r5, r6, r7⟩ := pc_64 hm8
  have z4 : ((lN (p3 8 m)).toUInt64 >>> ((8 : Int32).toInt64.toUInt64 &&& Int64.toUInt64 63)).toInt64 = lN (p3 8 m / 256) := wb_shr (k := 8) (by omega) (by decide)
  have e4 : bl4 (lN (p3 8 m)) = lN a4 := by
    unfold bl4
    rw [z4, lN_add, r2]
  have z5 : ((lN a4).toUInt64 >>> ((16 : Int32).toInt64.toUInt64 &&& Int64.toUInt64 63)).toInt64 = lN (a4 / 65536) := wb_shr (k := 16) (by omega) (by decide)
  have e5 : bl5 (lN a4) = lN a5 := by
    unfold bl5
    rw [z5, lN_add, r4]
  have z6 : ((lN a5).toUInt64 >>> ((32 : Int32).toInt64.toUInt64 &&& Int64.toUInt64 63)).toInt64 = lN (a5 / 4294967296) := wb_shr (k := 32) (by omega) (by decide)
  have e6 : bl6 (lN a5) = lN (a5 + a5 / 4294967296) := by
    unfold bl6
    rw [z6, lN_add]
  rw [e1, e2, e3, e4, e5, e6, lN_i, show (127 : Int32) = nI 127 from rfl, nx_and, show (127 : Nat) = 2 ^ 7 - 1 from rfl, Nat.and_two_pow_sub_one_eq_mod]
  exact congrArg nI r7
def bi1 (x : Int32) : Int32 := x - ((x.toUInt32 >>> ((1 : Int32).toUInt32 &&& Int32.toUInt32 31)).toInt32 &&& (1431655765 : Int32))
def bi2 (x : Int32) : Int32 := (x &&& (858993459 : Int32)) + ((x.toUInt32 >>> ((2 : Int32).toUInt32 &&& Int32.toUInt32 31)).toInt32 &&& (858993459 : Int32))
def bi3 (x : Int32) : Int32 := (x + (x.toUInt32 >>> ((4 : Int32).toUInt32 &&& Int32.toUInt32 31)).toInt32) &&& (252645135 : Int32)
def bi4 (x : Int32) : Int32 := x + (x.toUInt32 >>> ((8 : Int32).toUInt32 &&& Int32.toUInt32 31)).toInt32
def bi5 (x : Int32) : Int32 := x + (x.toUInt32 >>> ((16 : Int32).toUInt32 &&& Int32.toUInt32 31)).toInt32
theorem bi_eq {m : Nat} (hm : m < 2 ^ 28) : bi5 (bi4 (bi3 (bi2 (bi1 (nI m))))) &&& (63 : Int32) = nI (pcn 32 m) := by
  have hm8 : m < 256 ^ 4 := by omega
  obtain ⟨q1, q2, q3, q4, q5, -⟩ := p_le 4 m hm8
  have b1 : p1 4 m ≤ m := Nat.sub_le _ _
  have b2 : p2 4 m < 2 ^ 30 := by
    have i1 : p1 4 m &&& pm 51 4 ≤ p1 4 m := Nat.and_le_left
    have i2 : p1 4 m / 4 &&& pm 51 4 ≤ p1 4 m / 4 := Nat.and_le_left
    unfold p2
    omega
  have e1 : bi1 (nI m) = nI (p1 4 m) := by
    unfold bi1 p1
    rw [pk_ushrN (by omega) (1 : Int32) 1 (by decide), show (1431655765 : Int32) = nI (pm 85 4) from rfl, nx_and, pk_sub q1]
  have e2 : bi2 (nI (p1 4 m)) = nI (p2 4 m) := by
    unfold bi2 p2
    rw [pk_ushrN (by omega) (2 : Int32) 2 (by decide), show (858993459 : Int32) = nI (pm 51 4) from rfl, nx_and, nx_and, nI_add]
  have e3 : bi3 (nI (p2 4 m)) = nI (p3 4 m) := by
    unfold bi3 p3
    rw [pk_ushrN (by omega) (4 : Int32) 4 (by decide), nI_add, show (252645135 : Int32) = nI (pm 15 4) from rfl, nx_and]
  obtain ⟨a4, r1, r2, r3, r4, r5⟩ := pc_32 hm8
  have e4 : bi4 (nI (p3 4 m)) = nI a4 := by
    unfold bi4
    rw [pk_ushrN (by omega) (8 : Int32) 8 (by decide), nI_add, r2]
  have e5 : bi5 (nI a4) = nI (a4 + a4 / 65536) := by
    unfold bi5
    rw [pk_ushrN (by omega) (16 : Int32) 16 (by decide), nI_add]
  rw [e1, e2, e3, e4, e5, show (63 : Int32) = nI 63 from rfl, nx_and, show (63 : Nat) = 2 ^ 6 - 1 from rfl, Nat.and_two_pow_sub_one_eq_mod]
  exact congrArg nI r5
section S50
variable {D : Nat} {I : Nat → Nat → Int32} {J : Nat → Nat → Int64}
def pcL (x : Int64) : Nat := pcn 64 x.toBitVec.toNat
theorem pcL_lN {m : Nat} (hm : m < 2 ^ 64) : pcL (lN m) = pcn 64 m := by
  unfold pcL
  rw [wb_tn hm]
set_option maxRecDepth 100000 in
set_option maxHeartbeats 4000000 in
theorem c_bcL {x : Int64} : C1 (D + 1) 2 [.long x] I J (.int (nI (pcL x))) I J := by
  obtain ⟨m, hm, rfl⟩ := wb_of x
  rw [pcL_lN hm, ← bl_eq hm]
  exact mj_mk (e2 _ rfl)
set_option maxRecDepth 100000 in
set_option maxHeartbeats 4000000 in
theorem c_bcI {m : Nat} (hm : m < 2 ^ 28) : C1 (D + 1) 3 [.int (nI m)] I J (.int (nI (pcn 32 m))) I J := by
  rw [← bi_eq hm]
  exact mj_mk (e3 _ rfl)
theorem pcn_big : ∀ (k j m : Nat), m < 2 ^ k → pcn (k + j) m = pcn k m
  | 0, j, m, h => by
    have : m = 0 := by omega
    subst this
    rw [pcn_0, pcn_0]
  | k + 1, j, m, h => by
    rw [Nat.add_right_comm]
    show m % 2 + pcn (k + j) (m / 2) = m % 2 + pcn k (m / 2)
    rw [pcn_big k j (m / 2) (by rw [Nat.pow_succ] at h; omega)]
theorem r_bits {x : Int64} : C2 (D + 1) 63 [.long x] I J (.int (nI (pcL x))) I J := by
  obtain ⟨m, hm, rfl⟩ := wb_of x
  rw [pcL_lN hm]
  refine mj_mk (e63 _ ?_)
  obtain ⟨t, ht⟩ : ∃ t, t = pcn 64 m := ⟨_, rfl⟩
  rw [← ht]
  suffices key : ∀ k m c, k ≤ 64 → m < 2 ^ k → c + pcn k m = t → E2 63 D (fun q => q = (.int (nI t), (I, J, mj_R2))) 4 [(2, .int (nI c)), (3, .long (lN m))] I J from key 64 m 0 (Nat.le_refl _) hm (by rw [ht, Nat.zero_add])
  clear ht hm m
  intro k
  induction k with
  | zero =>
    intro m c _ h hc
    obtain rfl : m = 0 := by omega
    refine mj_on (s63_4 _ _ ?_)
    rw [if_pos (show lg_cmp (lN 0) 0 = 0 from cmp0.mpr rfl), ← hc]
    rfl
  | succ k ih =>
    intro m c hk h hc
    have hm64 : m < 2 ^ 64 := Nat.lt_of_lt_of_le h (Nat.pow_le_pow_right (by decide) hk)
    refine mj_on (s63_4 _ _ ?_)
    have z : ((lN m).toUInt64 >>> ((1 : Int32).toInt64.toUInt64 &&& Int64.toUInt64 63)).toInt64 = lN (m / 2) := wb_shr (k := 1) hm64 (by decide)
    refine if_i (fun e => ?_) (fun e => ?_)
    · have e := cmp0.mp e
      have e2 : m = 0 := by
        have := congrArg (fun y => y.toBitVec.toNat) e
        simp only [wb_tn hm64] at this
        exact this
      subst e2
      rw [← hc, pcn_0, Nat.add_zero]
    · rw [z, wb_a1 hm64, lN_i, nI_add]
      refine ih (m / 2) (c + m % 2) (by omega) (by rw [Nat.pow_succ] at h; omega) ?_
      rw [← hc]
      show _ = c + (m % 2 + pcn k (m / 2))
      omega
end S50
end
section
/-! unsure, the class' table anew, change -/
theorem iI_neg (z : Int) : -iI z = iI (-z) := (Int32.ofInt_neg z).symm
theorem iI_sub (y z : Int) : iI y - iI z = iI (y - z) := (Int32.ofInt_sub y z).symm
theorem iI_add (y z : Int) : iI y + iI z = iI (y + z) := (Int32.ofInt_add y z).symm
theorem iI_mul (y z : Int) : iI y * iI z = iI (y * z) := (Int32.ofInt_mul y z).symm
section S51
variable {D b W Rn Kn Tn Hn Un g : Nat} {I I1 I2 : Nat → Nat → Int32} {J J1 J2 : Nat → Nat → Int64}
theorem lo_rng {m x : Int32} (hx : x = -1 ∨ amt x) : -9999 ≤ (lo m x).toInt ∧ (lo m x).toInt ≤ 9999 := by
  have h1 : ∃ z : Int, -1 ≤ z ∧ z ≤ 9999 ∧ x = iI z := by
    rcases hx with rfl | ⟨n, hn, rfl⟩
    · exact ⟨-1, by omega, by omega, rfl⟩
    · exact ⟨n, by omega, by omega, rfl⟩
  obtain ⟨z, z1, z2, rfl⟩ := h1
  unfold lo
  by_cases c : m = 0
  · rw [if_pos c, iI_toInt (by omega) (by omega)]; omega
  · rw [if_neg c, iI_neg, iI_toInt (by omega) (by omega)]; omega
theorem spr_le {L s : Int32} (h1 : -9999 ≤ L.toInt) (h2 : L.toInt ≤ 9999) (hs : amt s) : L - s ≤ L + s := by
  obtain ⟨n, hn, rfl⟩ := hs
  obtain ⟨z, hz⟩ : ∃ z, L.toInt = z := ⟨_, rfl⟩
  have e : L = iI z := by rw [← hz]; exact iI_of L
  rw [hz] at h1 h2
  rw [e, ← iI_nI, iI_sub, iI_add, Int32.le_iff_toInt_le, iI_toInt (by omega) (by omega), iI_toInt (by omega) (by omega)]
  omega
theorem Rl.lowhigh (h : Rl b W Rn Kn Tn Hn Un g I1 J1 I2 J2) {r w : Nat} (hr : r < Rn) (hw : w < W) : I1 26 (4 * r + w) ≤ I1 27 (4 * r + w) := by
  obtain ⟨-, t1, -, t2⟩ := h.2.1.2.2.1 r hr w hw
  obtain ⟨-, -, -, h4, -⟩ := h.2.2.2.2.1
  obtain ⟨-, q2, q3⟩ := h4 r hr w hw
  rw [q2, q3]
  exact spr_le (lo_rng t1).1 (lo_rng t1).2 t2
theorem r_unsure (h : Rl b W Rn Kn Tn Hn Un g I1 J1 I2 J2) {z : Int32} : C2 (D + 5) 69 [.ref 0, .int z] I2 J2 (.long (bs Rn (ub Rn (lbit (J1 24 5)) (fun o r => if z = 0 then bt W (fun w => I1 27 (4 * o + w)) (fun w => I1 26 (4 * r + w)) else bt W (fun w => I1 26 (4 * o + w)) (fun w => I1 27 (4 * r + w)))))) I2 J2 := by
  have hB := h.rB
  obtain ⟨h1, h2, h3, h4, h5, h6⟩ := id hB
  obtain ⟨ou, hou⟩ : ∃ ou : Nat → Nat → Prop, ou = fun o r => if z = 0 then bt W (fun w => I1 27 (4 * o + w)) (fun w => I1 26 (4 * r + w)) else bt W (fun w => I1 26 (4 * o + w)) (fun w => I1 27 (4 * r + w)) := ⟨_, rfl⟩
  rw [← hou]
  obtain ⟨as, has⟩ : ∃ as : Nat → Prop, as = lbit (J1 24 5) := ⟨_, rfl⟩
  rw [← has]
  have hasd : ∀ {r}, r < Rn → (rA I2 b W r ↔ as r) := fun hr => by rw [has]; exact h.asd hr
  refine mj_mk (e69 _ ?_)
  refine lp_up (n := Rn) (fun r => E2 69 (D + 4) (fun q => q = (.long (bs Rn (ub Rn as ou)), (I2, J2, mj_R2))) 5 [(0, .ref 0), (1, .int z), (2, .long (bs r (ub Rn as ou))), (4, .int (nI r))] I2 J2) (fun r hr ih => ?_) 0 (Nat.zero_le _)
  refine mj_on (s69_5 _ _ _ ?_)
  rw [h1, nI_clamp (by omega), h5]
  refine ⟨vp_in_nI h2 (by decide), if_le (by omega) (by omega) (fun c => ?_) (fun c => ?_)⟩
  · obtain rfl : r = Rn := by omega
    rfl
  have inner := lp_up (n := Rn) (fun o => ∀ P : Prop, (P ↔ ¬ as r ∧ ∀ u, u < o → u ≠ r → ¬ as u → ¬ ou u r) → E2 69 (D + 4) (fun q => q = (.long (bs Rn (ub Rn as ou)), (I2, J2, mj_R2))) 38 [(0, .ref 0), (1, .int z), (2, .long (bs r (ub Rn as ou))), (4, .int (nI r)), (5, .int (tf P)), (6, .int (nI o))] I2 J2) (fun o ho ih2 P hP => ?_) 0 (Nat.zero_le _)
  · refine ⟨trivial, _, _, _, r_isAside hB (by omega), if_tf (fun d => ?_) (fun d => ?_)⟩
    · refine mj_on (s69_35 _ _ _ _ ?_)
      have y := inner False ⟨fun q => q.elim, fun q => q.1 ((hasd c).mp d)⟩
      rw [tf_f id] at y
      exact y
    · refine mj_on (s69_35 _ _ _ _ ?_)
      have y := inner True ⟨fun _ => ⟨fun q => d ((hasd c).mpr q), fun u hu => absurd hu (Nat.not_lt_zero u)⟩, fun _ => trivial⟩
      rw [tf_t trivial] at y
      exact y
  have fin : (P ↔ ub Rn as ou r) → E2 69 (D + 4) (fun q => q = (.long (bs Rn (ub Rn as ou)), (I2, J2, mj_R2))) 106 [(0, .ref 0), (1, .int z), (2, .long (bs r (ub Rn as ou))), (4, .int (nI r)), (5, .int (tf P))] I2 J2 := by
    intro hP2
    refine mj_on (s69_106 _ _ _ _ ?_)
    rw [nI_1]
    refine if_tf (fun d => ?_) (fun d => ?_)
    · rw [← bs_t (hP2.mp d)]; exact ih c
    · rw [← bs_f (fun q => d (hP2.mpr q))]; exact ih c
  refine mj_on (s69_38 _ _ _ _ _ ?_)
  rw [h1, nI_clamp (by omega), h5, nI_1]
  refine ⟨vp_in_nI h2 (by decide), if_le (by omega) (by omega) (fun d => fin ?_) (fun d => ?_)⟩
  · rw [hP]
    exact ⟨fun q => ⟨q.1, fun u hu e a => q.2 u (by omega) e a⟩, fun q => ⟨q.1, fun u hu e a => q.2 u (by omega) e a⟩⟩
  refine if_tf (fun p => ?_) (fun p => fin ⟨fun q => absurd q p, fun q => absurd (hP.mpr ⟨q.1, fun u hu e a => q.2 u (by omega) e a⟩) p⟩)
  have p2 := hP.mp p
  have go1 : (o = r ∨ as o ∨ ¬ ou o r) → E2 69 (D + 4) (fun q => q = (.long (bs Rn (ub Rn as ou)), (I2, J2, mj_R2))) 38 [(0, .ref 0), (1, .int z), (2, .long (bs r (ub Rn as ou))), (4, .int (nI r)), (5, .int 1), (6, .int (nI (o + 1)))] I2 J2 := by
    intro ho2
    have y := ih2 d True ⟨fun _ => ⟨p2.1, fun u hu e a q => by
      by_cases e2 : u = o
      · rw [e2] at a e q
        rcases ho2 with z | z | z
        · exact e z
        · exact a z
        · exact z q
      · exact p2.2 u (by omega) e a q⟩, fun _ => trivial⟩
    rw [tf_t trivial] at y
    exact y
  have go0 : o ≠ r → ¬ as o → ou o r → E2 69 (D + 4) (fun q => q = (.long (bs Rn (ub Rn as ou)), (I2, J2, mj_R2))) 38 [(0, .ref 0), (1, .int z), (2, .long (bs r (ub Rn as ou))), (4, .int (nI r)), (5, .int 0), (6, .int (nI (o + 1)))] I2 J2 := by
    intro ho1 ho2 ho3
    have y := ih2 d False ⟨fun q => q.elim, fun q => q.2 o (by omega) ho1 ho2 ho3⟩
    rw [tf_f id] at y
    exact y
  refine if_eq (by omega) (by omega) (fun e => go1 (Or.inl e)) (fun e => ?_)
  refine ⟨trivial, _, _, _, r_isAside hB (by omega), if_tf (fun f => go1 (Or.inr (Or.inl ((hasd d).mp f)))) (fun f => ?_)⟩
  have f2 : ¬ as o := fun q => f ((hasd d).mpr q)
  refine ⟨trivial, _, _, _, r_mayBeat h d c, ?_⟩
  have imp : bt W (fun w => I1 27 (4 * o + w)) (fun w => I1 26 (4 * r + w)) → bt W (fun w => I1 26 (4 * o + w)) (fun w => I1 27 (4 * r + w)) := by
    rw [nbt, nbt]
    rintro ⟨q1, w, hw, q2⟩
    refine ⟨fun u hu => Int32.le_trans (h.lowhigh d hu) (Int32.le_trans (q1 u hu) (h.lowhigh c hu)), w, hw, ?_⟩
    exact Int32.lt_of_le_of_lt (h.lowhigh d hw) (Int32.lt_of_lt_of_le q2 (h.lowhigh c hw))
  refine if_i (fun e0 => ?_) (fun e0 => ?_)
  · have oe : ou o r ↔ bt W (fun w => I1 27 (4 * o + w)) (fun w => I1 26 (4 * r + w)) := by rw [hou]; simp only [e0, if_true]
    rcases Classical.em (bt W (fun w => I1 27 (4 * o + w)) (fun w => I1 26 (4 * r + w))) with q | q
    · rw [t2_a q]
      exact go0 e f2 (oe.mpr q)
    · rw [t2_b q, if_neg (by rcases tf_01 (bt W (fun w => I1 26 (4 * o + w)) (fun w => I1 27 (4 * r + w))) with y | y <;> rw [y] <;> decide)]
      exact go1 (Or.inr (Or.inr fun y => q (oe.mp y)))
  · have oe : ou o r ↔ bt W (fun w => I1 26 (4 * o + w)) (fun w => I1 27 (4 * r + w)) := by rw [hou]; simp only [e0, if_false]
    rcases Classical.em (bt W (fun w => I1 27 (4 * o + w)) (fun w => I1 26 (4 * r + w))) with q | q
    · rw [t2_a q]
      exact go0 e f2 (oe.mpr (imp q))
    · rw [t2_b q]
      rcases Classical.em (bt W (fun w => I1 26 (4 * o + w)) (fun w => I1 27 (4 * r + w))) with y | y
      · rw [tf_t y]
        exact go0 e f2 (oe.mpr y)
      · rw [tf_f y]
        exact go1 (Or.inr (Or.inr fun x => y (oe.mp x)))
theorem al_unsure {z : Int32} (h : Rl b W Rn Kn Tn Hn Un g I1 J1 I2 J2) : AJ 201 69 [.int z] I1 J1 I2 J2 (Rl b W Rn Kn Tn Hn Un g) := by
  obtain ⟨w1, w2, w3, w4⟩ := h.W24
  refine ⟨_, I1, J1, I2, J2, mj_mk (D := 899) (e201 _ ?_), r_unsure (D := 895) h, h⟩
  refine if_i (fun e => ?_) (fun e => ?_)
  · simp only [e, if_true]
    exact ⟨trivial, _, _, _, c_unb_a w3 w4 w1 w2, rfl⟩
  · simp only [e, if_false]
    exact ⟨trivial, _, _, _, c_unb_b w3 w4 w1 w2, rfl⟩
end S51
end
section
/-! the class' table of rows, made anew -/
section S52
variable {D W Rn : Nat} {I : Nat → Nat → Int32} {J : Nat → Nat → Int64}
theorem c_lossFor {w : Nat} {x : Int32} (hw : w < 4) : mj_Cl mj_S1 mj_CD (D + 1) 175 [.ref 1, .int (nI w), .int x] (I, J, mj_R1) (.int (lo (I 4 w) x), (I, J, mj_R1)) := by
  refine mj_mk (e175 _ _ ?_)
  rw [nI_clamp (by omega)]
  refine ⟨vp_in_nI hw (by decide), ?_⟩
  unfold lo
  exact if_i (fun c => mqi (if_pos c).symm) (fun c => mqi (if_neg c).symm)
/-- what takeLoss writes -/
def tkI (I : Nat → Nat → Int32) (r w : Nat) : Nat → Nat → Int32 := mj_up (mj_up (mj_up I 25 (4 * r + w) (lo (I 4 w) (I 5 (160 + 4 * r + w)))) 26 (4 * r + w) (lo (I 4 w) (I 5 (160 + 4 * r + w)) - I 6 (4 * r + w))) 27 (4 * r + w) (lo (I 4 w) (I 5 (160 + 4 * r + w)) + I 6 (4 * r + w))
def tkJ (I : Nat → Nat → Int32) (J : Nat → Nat → Int64) (r w : Nat) : Nat → Nat → Int64 := if I 5 (160 + 4 * r + w) = -1 then mj_up J 24 5 (J 24 5 ||| ((1 : Int64) <<< ((nI r).toInt64 &&& 63))) else J
theorem c_takeLoss {r w : Nat} (hr : r < 40) (hw : w < 4) : mj_Cl mj_S1 mj_CD (D + 2) 174 [.ref 24, .ref 1, .int (nI r), .int (nI w)] (I, J, mj_R1) (.null, (tkI I r w, tkJ I J r w, mj_R1)) := by
  refine mj_mk (e174 _ _ ?_)
  refine ⟨trivial, _, _, _, c_slot (k := 1), vp_in_nI (by omega) (by decide), ?_⟩
  rw [nI_clamp (by omega), ix4, Nat.mul_one]
  have key : ∀ J0 : Nat → Nat → Int64, mj_Ev mj_S1 (mj_CD 174) (mj_Cl mj_S1 mj_CD (D + 1)) (fun x => x = (.null, (tkI I r w, J0, mj_R1))) 38 [(0, .ref 24), (1, .ref 1), (3, .int (nI w)), (4, .int (I 5 (160 + 4 * r + w))), (5, .int (nI (4 * r + w)))] [] (I, J0, mj_R1) := by
    intro J0
    refine mj_on (s174_38 _ _ _ ?_)
    have hv : vp_in (nI (4 * r + w)) 160 := vp_in_nI (by omega) (by decide)
    refine ⟨trivial, _, _, _, c_lossFor hw, hv, hv, hv, hv, hv, hv, hv, ?_⟩
    rw [nI_clamp (by omega), up_s]
    rfl
  unfold tkJ
  refine if_i (fun c => ?_) (fun c => ?_)
  · rw [if_pos c]; exact key _
  · rw [if_neg c]; exact key _
/-- the table up to wish w of row r -/
def tkP (W r w : Nat) (I : Nat → Nat → Int32) (J : Nat → Nat → Int64) : Prop :=
  (∀ i, i < 64 → (lbit (J 24 5) i ↔ (i < r ∧ ∃ u, u < W ∧ I 5 (160 + 4 * i + u) = -1) ∨ (i = r ∧ ∃ u, u < w ∧ I 5 (160 + 4 * i + u) = -1))) ∧
  (∀ i u, u < W → (i < r ∨ (i = r ∧ u < w)) → I 25 (4 * i + u) = lo (I 4 u) (I 5 (160 + 4 * i + u)) ∧ I 26 (4 * i + u) = lo (I 4 u) (I 5 (160 + 4 * i + u)) - I 6 (4 * i + u) ∧ I 27 (4 * i + u) = lo (I 4 u) (I 5 (160 + 4 * i + u)) + I 6 (4 * i + u))
def tkF (I I' : Nat → Nat → Int32) (J J' : Nat → Nat → Int64) : Prop := (∀ q, q ≠ 25 → q ≠ 26 → q ≠ 27 → I' q = I q) ∧ (∀ q j, (q ≠ 24 ∨ (j ≠ 5 ∧ j ≠ 6)) → J' q j = J q j)
theorem tkI_f {r w q : Nat} (h1 : q ≠ 25) (h2 : q ≠ 26) (h3 : q ≠ 27) : tkI I r w q = I q := by
  unfold tkI
  rw [up_c h3, up_c h2, up_c h1]
theorem lbit_or {x : Int64} {r i : Nat} (hr : r < 64) (hi : i < 64) : lbit (x ||| ((1 : Int64) <<< ((nI r).toInt64 &&& 63))) i ↔ lbit x i ∨ i = r := by
  unfold lbit
  rw [Int64.toBitVec_or, sh_1 r hr, BitVec.getLsbD_or, BitVec.getLsbD_twoPow, Bool.or_eq_true, Bool.and_eq_true, decide_eq_true_eq, decide_eq_true_eq]
  exact or_congr Iff.rfl ⟨fun q => q.2.symm, fun q => ⟨by omega, q.symm⟩⟩
theorem tk_step {r w : Nat} (hr : r < 40) (hw : w < W) (hW : W ≤ 4) (h : tkP W r w I J) : tkP W r (w + 1) (tkI I r w) (tkJ I J r w) := by
  obtain ⟨h1, h2⟩ := h
  have e5 : tkI I r w 5 = I 5 := tkI_f (by decide) (by decide) (by decide)
  have e4 : tkI I r w 4 = I 4 := tkI_f (by decide) (by decide) (by decide)
  have e6 : tkI I r w 6 = I 6 := tkI_f (by decide) (by decide) (by decide)
  refine ⟨fun i hi => ?_, fun i u hu hiu => ?_⟩
  · rw [e5]
    have base := h1 i hi
    unfold tkJ
    by_cases c : I 5 (160 + 4 * r + w) = -1
    · rw [if_pos c, up_s, lbit_or (by omega) hi, base]
      constructor
      · rintro ((q | ⟨q1, u, q2, q3⟩) | q)
        · exact Or.inl q
        · exact Or.inr ⟨q1, u, by omega, q3⟩
        · exact Or.inr ⟨q, w, by omega, by rw [q]; exact c⟩
      · rintro (q | ⟨q1, u, q2, q3⟩)
        · exact Or.inl (Or.inl q)
        · exact Or.inr q1
    · rw [if_neg c, base]
      constructor
      · rintro (q | ⟨q1, u, q2, q3⟩)
        · exact Or.inl q
        · exact Or.inr ⟨q1, u, by omega, q3⟩
      · rintro (q | ⟨q1, u, q2, q3⟩)
        · exact Or.inl q
        · by_cases e : u = w
          · subst e; subst q1; exact absurd q3 c
          · exact Or.inr ⟨q1, u, by omega, q3⟩
  · rw [e4, e5, e6]
    by_cases e : i = r ∧ u = w
    · obtain ⟨rfl, rfl⟩ := e
      unfold tkI
      refine ⟨?_, ?_, ?_⟩
      · rw [up_c (by decide), up_c (by decide), up_s]
      · rw [up_c (by decide), up_s]
      · rw [up_s]
    · have hne : 4 * i + u ≠ 4 * r + w := by omega
      have q := h2 i u hu (by omega)
      unfold tkI
      refine ⟨?_, ?_, ?_⟩
      · rw [up_c (by decide), up_c (by decide), up_j hne]; exact q.1
      · rw [up_c (by decide), up_j hne, up_c (by decide)]; exact q.2.1
      · rw [up_j hne, up_c (by decide), up_c (by decide)]; exact q.2.2
theorem c_take (hW : I 2 0 = nI W) (hW4 : W ≤ 4) (hR : I 2 1 = nI Rn) (hR4 : Rn ≤ 40) : ∃ I' J', mj_Cl mj_S1 mj_CD (D + 4) 173 [.ref 24, .ref 1] (I, J, mj_R1) (.null, (I', J', mj_R1)) ∧ rlW W Rn I' J' ∧ (∀ q, q ≠ 24 → q ≠ 25 → q ≠ 26 → q ≠ 27 → I' q = I q) ∧ (∀ q j, (q ≠ 24 ∨ (j ≠ 5 ∧ j ≠ 6)) → J' q j = J q j) := by
  refine mj_cN (e173 ?_)
  rw [show ((1 : Int32)).toNatClampNeg = 1 from rfl, show ((0 : Int32)).toNatClampNeg = 0 from rfl, hW, hR]
  refine ⟨vp_in_nI (n := 1) (by decide) (by decide), vp_in_nI (n := 0) (by decide) (by decide), ?_⟩
  obtain ⟨Ia, hIa⟩ : ∃ Ia, Ia = mj_up (mj_up I 24 0 (nI Rn)) 24 1 (nI W) := ⟨_, rfl⟩
  obtain ⟨Ja, hJa⟩ : ∃ Ja, Ja = mj_up J 24 5 (0 : Int64) := ⟨_, rfl⟩
  rw [← hIa, ← hJa]
  have a0 : Ia 24 0 = nI Rn := by rw [hIa, up_j (by decide), up_s]
  have a1 : Ia 24 1 = nI W := by rw [hIa, up_s]
  have aI : ∀ q, q ≠ 24 → Ia q = I q := fun q hq => by rw [hIa, up_c hq, up_c hq]
  have aJ : ∀ q j, (q ≠ 24 ∨ j ≠ 5) → Ja q j = J q j := fun q j hq => by rw [hJa, up_n hq]
  obtain ⟨Q, hQ⟩ : ∃ Q, Q = qN mj_R1 (fun I' J' => rlW W Rn I' J' ∧ (∀ q, q ≠ 24 → q ≠ 25 → q ≠ 26 → q ≠ 27 → I' q = I q) ∧ (∀ q j, (q ≠ 24 ∨ (j ≠ 5 ∧ j ≠ 6)) → J' q j = J q j)) := ⟨_, rfl⟩
  rw [← hQ]
  have outer := lp_up (n := Rn) (fun r => ∀ I0 J0, tkP W r 0 I0 J0 → tkF Ia I0 Ja J0 → mj_Ev mj_S1 (mj_CD 173) (mj_Cl mj_S1 mj_CD (D + 3)) Q 27 [(0, .ref 24), (1, .ref 1), (2, .int (nI r))] [] (I0, J0, mj_R1)) (fun r hr ih I0 J0 hP hF => ?_) 0 (Nat.zero_le _) Ia Ja
    ⟨fun i hi => by
      rw [hJa, up_s]
      refine ⟨fun q => ?_, fun q => ?_⟩
      · exact absurd q (by unfold lbit; simp)
      · rcases q with ⟨q, -⟩ | ⟨-, u, q, -⟩
        · omega
        · omega, fun i u _ q => by omega⟩ ⟨fun _ _ _ _ => rfl, fun _ _ _ => rfl⟩
  · exact outer
  refine mj_on (s173_27 _ ?_)
  rw [hF.1 24 (by decide) (by decide) (by decide), a0]
  refine if_le (by omega) (by omega) (fun c => ?_) (fun c => ?_)
  · obtain rfl : r = Rn := by omega
    refine ⟨trivial, _, _, _, c_unb_c (by rw [hF.1 24 (by decide) (by decide) (by decide), a1]) hW4 (by rw [hF.1 24 (by decide) (by decide) (by decide), a0]) hR4, ?_⟩
    rw [hQ]
    refine ⟨_, _, rfl, ⟨?_, ?_, ?_, ?_, ?_⟩, ?_, ?_⟩
    · rw [hF.1 24 (by decide) (by decide) (by decide), a0]
    · rw [hF.1 24 (by decide) (by decide) (by decide), a1]
    · intro i hi
      rw [up_j (by decide), hP.1 i (by omega)]
      exact ⟨fun q => by
        rcases q with q | ⟨-, u, q, -⟩
        · exact q.2
        · omega, fun q => Or.inl ⟨hi, q⟩⟩
    · intro i hi u hu
      exact hP.2 i u hu (Or.inl hi)
    · rw [up_s, up_j (by decide)]
    · intro q q1 q2 q3 q4
      rw [hF.1 q q2 q3 q4, aI q q1]
    · intro q j hq
      rw [up_n (by omega), hF.2 q j hq, aJ q j (by omega)]
  · have inner := lp_up (n := W) (fun w => ∀ I0 J0, tkP W r w I0 J0 → tkF Ia I0 Ja J0 → mj_Ev mj_S1 (mj_CD 173) (mj_Cl mj_S1 mj_CD (D + 3)) Q 37 [(0, .ref 24), (1, .ref 1), (2, .int (nI r)), (3, .int (nI w))] [] (I0, J0, mj_R1)) (fun w hw ih2 I0 J0 hP hF => ?_) 0 (Nat.zero_le _) I0 J0 hP hF
    · exact inner
    refine mj_on (s173_37 _ _ ?_)
    rw [hF.1 24 (by decide) (by decide) (by decide), a1, nI_1, nI_1]
    refine if_le (by omega) (by omega) (fun d => ?_) (fun d => ?_)
    · obtain rfl : w = W := by omega
      refine ih c I0 J0 ⟨fun i hi => ?_, fun i u hu q => ?_⟩ hF
      · rw [hP.1 i hi]
        constructor
        · rintro (⟨q1, q2⟩ | ⟨q1, q2⟩)
          · exact Or.inl ⟨by omega, q2⟩
          · exact Or.inl ⟨by omega, q2⟩
        · rintro (⟨q1, q2⟩ | ⟨q1, u, q2, -⟩)
          · by_cases e : i = r
            · exact Or.inr ⟨e, q2⟩
            · exact Or.inl ⟨by omega, q2⟩
          · omega
      · exact hP.2 i u hu (by omega)
    · refine ⟨trivial, _, _, c_takeLoss (by omega) (by omega), ?_⟩
      refine ih2 d _ _ (tk_step (by omega) d hW4 hP) ⟨fun q q1 q2 q3 => ?_, fun q j hq => ?_⟩
      · rw [tkI_f q1 q2 q3, hF.1 q q1 q2 q3]
      · rw [← hF.2 q j hq]
        unfold tkJ
        split
        · rw [up_n (by omega)]
        · rfl
end S52
end
section
/-! change -/
theorem rlZ_c {W Hn Un : Nat} {I I' : Nat → Nat → Int32} {J J' : Nat → Nat → Int64} (h0 : I' 0 9 = I 0 9) (h4 : I' 4 = I 4) (h5 : ∀ j, 640 ≤ j → I' 5 j = I 5 j) (h9 : I' 9 = I 9) (h10 : I' 10 = I 10) (h44 : I' 44 = I 44) (h45 : I' 45 = I 45) (h46 : J' 46 = J 46) : rlZ W Hn Un I' J' = rlZ W Hn Un I J := by
  have e1 : hsu I' = hsu I := by
    funext w m n
    unfold hsu
    congr 1
    exact List.map_congr_left fun k _ => by rw [h5 _ (by omega)]
  have e2 : rb I' 10 = rb I 10 := by
    funext u
    cases u with
    | zero => rfl
    | succ u => show (I' 10 u).toNatClampNeg = (I 10 u).toNatClampNeg; rw [h10]
  have e3 : ruT I' = ruT I := by
    funext W Hn u m
    unfold ruT hsf cdC
    rw [e1, e2, h9, h10]
  have e4 : sC I' = sC I := by
    funext W Hn Un f m
    unfold sC aT
    rw [e1, e3, h4]
  unfold rlZ
  rw [e4, h0, h44, h45]
theorem Rl_rows {b W Rn Kn Tn Hn Un g : Nat} {I1 I2 I1' I2' : Nat → Nat → Int32} {J1 J2 J1' J2' : Nat → Nat → Int64} (h : Rl b W Rn Kn Tn Hn Un g I1 J1 I2 J2)
    (hI : ∀ q, q ≠ 5 → q ≠ 6 → q ≠ 24 → q ≠ 25 → q ≠ 26 → q ≠ 27 → I1' q = I1 q) (h5 : ∀ j, 320 ≤ j → I1' 5 j = I1 5 j) (hJ : ∀ q, q ≠ 24 → q ≠ 0 → J1' q = J1 q) (hI2 : ∀ q, q ≠ 11 → q ≠ 12 → I2' q = I2 q) (hJ2 : ∀ q, q ≠ 0 → J2' q = J2 q)
    (hR : tlR 1 b W Rn I1' I2') (hW : rlW W Rn I1' J1') (hC : rlC J1' J2') : Rl b W Rn Kn Tn Hn Un g I1' J1' I2' J2' := by
  obtain ⟨g1, ⟨t1, t2, t3, t4, t5, t6, t7⟩, g3, g4, g5, g6, g7, g8, g9, g10, g11, g12, g13⟩ := h
  have I1e : ∀ q, q ≠ 5 ∧ q ≠ 6 ∧ q ≠ 24 ∧ q ≠ 25 ∧ q ≠ 26 ∧ q ≠ 27 → I1' q = I1 q := fun q ⟨a, b, c, d, e, f⟩ => hI q a b c d e f
  have I2e : ∀ q, q ≠ 11 ∧ q ≠ 12 → I2' q = I2 q := fun q ⟨a, b⟩ => hI2 q a b
  have J1e : ∀ q, q ≠ 24 ∧ q ≠ 0 → J1' q = J1 q := fun q ⟨a, b⟩ => hJ q a b
  have e0 := I1e 0 (by decide)
  have f0 := I2e 0 (by decide)
  refine ⟨by rw [f0]; exact g1, ⟨?_, ?_, hR, ?_, ?_, ?_, ?_⟩, ?_, ?_, hW, ?_, ?_, ?_, ?_, ?_, hC, ?_, ?_⟩
  · unfold tlN at t1 ⊢
    rw [I1e (1 + 1) (by decide), I2e 2 (by decide), I2e 3 (by decide), I2e 4 (by decide), I2e 5 (by decide), I2e 6 (by decide), I2e 7 (by decide)]
    exact t1
  · unfold tlM at t2 ⊢
    rw [I1e (1 + 3) (by decide), I2e 9 (by decide)]
    exact t2
  · intro t ht
    obtain ⟨a1, a2, a3, a4⟩ := t4 t ht
    refine ⟨?_, ?_, ?_, fun w hw => ?_⟩
    · rw [I1e (1 + 6) (by decide), I2e 14 (by decide)]; exact a1
    · rw [I1e (1 + 7) (by decide), I2e 15 (by decide)]; exact a2
    · rw [I1e (1 + 6) (by decide), I1e (1 + 7) (by decide)]; exact a3
    · have e : I1' (1 + 4) (480 + 4 * t + w) = I1 (1 + 4) (480 + 4 * t + w) := h5 _ (by omega)
      rw [e, I2e 16 (by decide)]
      exact a4 w hw
  · intro k hk w hw
    have e : I1' (1 + 4) (640 + 4 * k + w) = I1 (1 + 4) (640 + 4 * k + w) := h5 _ (by omega)
    rw [e, I2e 18 (by decide)]
    exact t5 k hk w hw
  · unfold tlA at t6 ⊢
    rw [I1e (1 + 2) (by decide), hJ2 8 (by decide), hJ2 10 (by decide), hJ2 13 (by decide), hJ2 17 (by decide)]
    exact t6
  · have e : rb I1' (1 + 9) = rb I1 (1 + 9) := by
      funext u
      cases u with
      | zero => rfl
      | succ u => show (I1' (1 + 9) u).toNatClampNeg = (I1 (1 + 9) u).toNatClampNeg; rw [I1e (1 + 9) (by decide)]
    unfold tlU cdC cdR at t7 ⊢
    rw [e, I1e (1 + 9) (by decide), I1e (1 + 8) (by decide), I2e 19 (by decide), I2e 20 (by decide), I2e 21 (by decide), I2e 22 (by decide)]
    exact t7
  · unfold rlT at g3 ⊢
    rw [e0, f0, I1e 13 (by decide), I2e 1 (by decide)]
    exact g3
  · unfold rlF at g4 ⊢
    rw [f0, I1e 11 (by decide)]
    exact g4
  · unfold rlH at g6 ⊢
    rw [f0, I1e 38 (by decide), I1e 39 (by decide), I2e 37 (by decide), I2e 38 (by decide)]
    exact g6
  · unfold rlG at g7 ⊢
    rw [f0, I1e 51 (by decide), I1e 52 (by decide)]
    exact g7
  · unfold rlK at g8 ⊢
    rw [f0, I1e 47 (by decide), I1e 50 (by decide), I2e 41 (by decide)]
    exact g8
  · unfold rlS at g9 ⊢
    rw [f0, I1e 53 (by decide), I1e 54 (by decide), I1e 55 (by decide), I2e 43 (by decide), I2e 44 (by decide)]
    exact g9
  · unfold rlP at g10 ⊢
    rw [I1e 59 (by decide), I1e 60 (by decide), I2e 48 (by decide), J1e 61 (by decide), hJ2 49 (by decide)]
    exact g10
  · unfold rlO at g12 ⊢
    rw [I1e 12 (by decide)]
    exact g12
  · rw [rlZ_c (by rw [e0]) (I1e 4 (by decide)) (fun j hj => h5 j (by omega)) (I1e 9 (by decide)) (I1e 10 (by decide)) (I1e 44 (by decide)) (I1e 45 (by decide)) (J1e 46 (by decide))]
    exact g13
section S53
variable {D b W Rn Kn Tn Hn Un g : Nat} {I I1 I2 : Nat → Nat → Int32} {J J1 J2 : Nat → Nat → Int64}
theorem al_change {x y z : Int32} (h : Rl b W Rn Kn Tn Hn Un g I1 J1 I2 J2) : AI 198 62 [.int x, .int y, .int z] I1 J1 I2 J2 (Rl b W Rn Kn Tn Hn Un g) := by
  obtain ⟨a1, a2, -⟩ := h.N
  obtain ⟨w1, w2, w3, w4⟩ := h.W24
  have hB := h.rB
  obtain ⟨b1, b2, b3, b4, b5, b6⟩ := id hB
  rcases Classical.em (∃ j, j < Rn ∧ x = nI j) with p | p
  · rcases Classical.em (∃ j, j < W ∧ y = nI j) with q | q
    · obtain ⟨r, hr, rfl⟩ := p
      obtain ⟨w, hw, rfl⟩ := q
      have eis : (¬ z < -1 ∧ ¬ (9999 : Int32) < z) ↔ (¬ z < -1 ∧ z ≤ 9999) := and_congr Iff.rfl Int32.not_lt
      by_cases ok : ¬ z < -1 ∧ z ≤ 9999
      · -- what is written
        obtain ⟨I1a, hI1a⟩ : ∃ Ia, Ia = (if z = -1 then mj_up (mj_up I1 5 (160 + 4 * r + w) z) 6 (4 * r + w) 0 else mj_up I1 5 (160 + 4 * r + w) z) := ⟨_, rfl⟩
        obtain ⟨I2a, hI2a⟩ : ∃ Ia, Ia = (if z = -1 then mj_up (mj_up I2 12 (4 * (40 * b + r) + w) 0) 11 (4 * (40 * b + r) + w) z else mj_up I2 11 (4 * (40 * b + r) + w) z) := ⟨_, rfl⟩
        have f1 : ∀ q, q ≠ 5 → q ≠ 6 → I1a q = I1 q := fun q q5 q6 => by
          rw [hI1a]; split
          · rw [up_c q6, up_c q5]
          · rw [up_c q5]
        have f2 : ∀ q, q ≠ 11 → q ≠ 12 → I2a q = I2 q := fun q q5 q6 => by
          rw [hI2a]; split
          · rw [up_c q5, up_c q6]
          · rw [up_c q5]
        have z5 : I1a 5 (160 + 4 * r + w) = z := by
          rw [hI1a]; split
          · rw [up_c (by decide), up_s]
          · rw [up_s]
        have n5 : ∀ j, j ≠ 160 + 4 * r + w → I1a 5 j = I1 5 j := fun j hj => by
          rw [hI1a]; split
          · rw [up_c (by decide), up_j hj]
          · rw [up_j hj]
        have n6 : ∀ j, j ≠ 4 * r + w → I1a 6 j = I1 6 j := fun j hj => by
          rw [hI1a]; split
          · rw [up_j hj, up_c (by decide)]
          · rw [up_c (by decide)]
        have z11 : I2a 11 (4 * (40 * b + r) + w) = z := by
          rw [hI2a]; split
          · rw [up_s]
          · rw [up_s]
        have n11 : ∀ j, j ≠ 4 * (40 * b + r) + w → I2a 11 j = I2 11 j := fun j hj => by
          rw [hI2a]; split
          · rw [up_j hj, up_c (by decide)]
          · rw [up_j hj]
        have n12 : ∀ j, j ≠ 4 * (40 * b + r) + w → I2a 12 j = I2 12 j := fun j hj => by
          rw [hI2a]; split
          · rw [up_c (by decide), up_j hj]
          · rw [up_c (by decide)]
        have hzamt : z = -1 ∨ amt z := by
          by_cases e : z = -1
          · exact Or.inl e
          · have z0 : ¬ z < 0 := fun q => by
              have h1 := Int32.lt_iff_toInt_lt.mp q
              have h2 : ¬ z.toInt < (-1 : Int32).toInt := fun u => ok.1 (Int32.lt_iff_toInt_lt.mpr u)
              have h3 : (-1 : Int32).toInt = -1 := by decide
              have h4 : (0 : Int32).toInt = 0 := by decide
              rw [h3] at h2
              rw [h4] at h1
              refine e (Int32.toInt_inj.mp ?_)
              rw [h3]
              omega
            obtain ⟨n, hn, rfl⟩ := nI_of2 (n := 9999) (by decide) z0 ok.2
            exact Or.inr ⟨n, hn, rfl⟩
        have hTR : tlR 1 b W Rn I1a I2a := by
          intro i hi u hu
          show I2a 11 _ = I1a 5 _ ∧ (I1a 5 _ = -1 ∨ amt (I1a 5 _)) ∧ I2a 12 _ = I1a 6 _ ∧ amt (I1a 6 _)
          obtain ⟨t1, t2, t3, t4⟩ := h.2.1.2.2.1 i hi u hu
          by_cases e : i = r ∧ u = w
          · obtain ⟨rfl, rfl⟩ := e
            rw [z11, z5]
            refine ⟨rfl, hzamt, ?_⟩
            rw [hI1a, hI2a]
            by_cases e1 : z = -1
            · rw [if_pos e1, if_pos e1, up_c (by decide), up_s, up_s]
              exact ⟨rfl, 0, by omega, rfl⟩
            · rw [if_neg e1, if_neg e1, up_c (by decide), up_c (by decide)]
              exact ⟨t3, t4⟩
          · rw [n11 _ (by omega), n5 _ (by omega), n12 _ (by omega), n6 _ (by omega)]
            exact ⟨t1, t2, t3, t4⟩
        have a0' : I1a 2 0 = nI W := by rw [f1 2 (by decide) (by decide)]; exact a1
        have a1' : I1a 2 1 = nI Rn := by rw [f1 2 (by decide) (by decide)]; exact a2
        obtain ⟨I1c, J1c, hc, hW, fI, fJ⟩ := c_take (D := 895) (I := I1a) (J := J1) a0' w4 a1' w2
        obtain ⟨old, hold⟩ : ∃ o, o = J1 24 6 := ⟨_, rfl⟩
        obtain ⟨J1d, hJ1d⟩ : ∃ Jd, Jd = mj_up (mj_up J1c 0 14 (old &&& ((J1c 24 6) ^^^ (-1 : Int64)))) 0 15 ((J1c 24 6) &&& (old ^^^ (-1 : Int64))) := ⟨_, rfl⟩
        obtain ⟨J2d, hJ2d⟩ : ∃ Jd, Jd = mj_up (mj_up J2 0 46 (old &&& ((J1c 24 6) ^^^ (-1 : Int64)))) 0 47 ((J1c 24 6) &&& (old ^^^ (-1 : Int64))) := ⟨_, rfl⟩
        have hd24 : J1d 24 = J1c 24 := by rw [hJ1d, up_c (by decide), up_c (by decide)]
        have hRl : Rl b W Rn Kn Tn Hn Un g I1c J1d I2a J2d := by
          refine Rl_rows h (fun q q5 q6 q24 q25 q26 q27 => ?_) (fun j hj => ?_) (fun q q24 q0 => ?_) f2 (fun q q0 => ?_) ?_ ?_ ?_
          · rw [fI q q24 q25 q26 q27, f1 q q5 q6]
          · rw [fI 5 (by decide) (by decide) (by decide) (by decide), n5 j (by omega)]
          · funext j
            rw [hJ1d, up_c q0, up_c q0, fJ q j (Or.inl q24)]
          · rw [hJ2d, up_c q0, up_c q0]
          · unfold tlR at hTR ⊢
            rw [fI (1 + 4) (by decide) (by decide) (by decide) (by decide), fI (1 + 5) (by decide) (by decide) (by decide) (by decide)]
            exact hTR
          · unfold rlW at hW ⊢
            rw [hd24]
            exact hW
          · constructor
            · rw [hJ1d, hJ2d, up_j (by decide), up_s, up_j (by decide), up_s]
            · rw [hJ1d, hJ2d, up_s, up_s]
        refine ⟨nI (pcL (old &&& ((J1c 24 6) ^^^ (-1 : Int64)))) + nI (pcL ((J1c 24 6) &&& (old ^^^ (-1 : Int64)))), I1c, J1d, I2a, J2d, mj_mk (D := 899) (e198 _ _ _ ?_), mj_mk (D := 899) (e62 _ _ _ ?_), hRl⟩
        · refine ⟨trivial, _, _, _, c_there (k := 1) a2 w2 (by omega), if_tf (fun _ => ?_) (fun f => absurd ⟨r, hr, rfl⟩ f)⟩
          refine ⟨trivial, _, _, _, c_there (k := 0) a1 (by omega) (by omega), if_tf (fun _ => ?_) (fun f => absurd ⟨w, hw, rfl⟩ f)⟩
          rw [if_neg ok.1, if_pos ok.2]
          refine ⟨trivial, _, _, _, c_slot (k := 1), vp_in_nI (by omega) (by decide), ?_⟩
          rw [nI_clamp (by omega), ix4, nI_clamp (by omega), Nat.mul_one]
          have key : E1 198 899 (fun q => q = (.int (nI (pcL (old &&& ((J1c 24 6) ^^^ (-1 : Int64)))) + nI (pcL ((J1c 24 6) &&& (old ^^^ (-1 : Int64))))), (I1c, J1d, mj_R1))) 81 [(0, .ref 0), (4, .long old)] I1a J1 := by
            refine mj_on (s198_81 _ ?_)
            refine ⟨trivial, _, _, hc, ?_⟩
            rw [← hJ1d]
            refine ⟨trivial, _, _, _, c_bcL, ?_⟩
            refine ⟨trivial, _, _, _, c_bcL, ?_⟩
            rw [hJ1d, up_s]
          rw [← hold]
          refine if_i (fun e => ⟨vp_in_nI (by omega) (by decide), ?_⟩) (fun e => ?_)
          · rw [hI1a, if_pos e] at key; exact key
          · rw [hI1a, if_neg e] at key; exact key
        · refine ⟨trivial, _, _, _, r_isRow hB, if_tf (fun _ => ?_) (fun f => absurd ⟨r, hr, rfl⟩ f)⟩
          refine ⟨trivial, _, _, _, r_isWish hB, if_tf (fun _ => ?_) (fun f => absurd ⟨w, hw, rfl⟩ f)⟩
          refine ⟨trivial, _, _, _, r_is, if_tf (fun _ => ?_) (fun f => absurd (eis.mpr ok) f)⟩
          refine ⟨trivial, _, _, _, h.rfront, trivial, _, _, _, r_rowAt hB, ?_⟩
          have hfront : C2 (895 + 4) 60 [.ref 0] I2a J2 (.long (J1c 24 6)) I2a J2 := by
            have e := hRl.rfront (D := 895)
            rw [hd24] at e
            have hB2 := hRl.rB
            have e2 := r_rowFront (D := 895) (J := J2) hB2
            rw [hRl.front, hd24] at e2
            exact e2
          have key : ∀ I0, (mj_up I0 11 (4 * (40 * b + r) + w) z = I2a) → E2 62 899 (fun q => q = (.int (nI (pcL (old &&& ((J1c 24 6) ^^^ (-1 : Int64)))) + nI (pcL ((J1c 24 6) &&& (old ^^^ (-1 : Int64))))), (I2a, J2d, mj_R2))) 56 [(0, .ref 0), (3, .int z), (4, .long old), (6, .int (nI (4 * (40 * b + r) + w)))] I0 J2 := by
            intro I0 hI0
            refine mj_on (s62_56 _ _ _ ?_)
            rw [nI_clamp (by omega), hI0]
            refine ⟨vp_in_nI (by omega) (by decide), trivial, _, _, _, hfront, ?_⟩
            rw [← hJ2d]
            refine ⟨trivial, _, _, _, r_bits, trivial, _, _, _, r_bits, ?_⟩
            rw [hJ2d, up_s]
          rw [← hold, nI_clamp (by omega)]
          refine if_i (fun e => ⟨vp_in_nI (by omega) (by decide), ?_⟩) (fun e => ?_)
          · refine key _ ?_
            rw [hI2a, if_pos e]
          · refine key _ ?_
            rw [hI2a, if_neg e]
      · refine AI.same (-1) (mj_mk (D := 899) (e198 _ _ _ ?_)) (mj_mk (D := 899) (e62 _ _ _ ?_)) h
        · refine ⟨trivial, _, _, _, c_there (k := 1) a2 w2 (by omega), if_tf (fun _ => ?_) (fun f => absurd ⟨r, hr, rfl⟩ f)⟩
          refine ⟨trivial, _, _, _, c_there (k := 0) a1 (by omega) (by omega), if_tf (fun _ => ?_) (fun f => absurd ⟨w, hw, rfl⟩ f)⟩
          exact if_i (fun _ => rfl) (fun c => if_i (fun d => absurd ⟨c, d⟩ ok) (fun _ => rfl))
        · refine ⟨trivial, _, _, _, r_isRow hB, if_tf (fun _ => ?_) (fun f => absurd ⟨r, hr, rfl⟩ f)⟩
          refine ⟨trivial, _, _, _, r_isWish hB, if_tf (fun _ => ?_) (fun f => absurd ⟨w, hw, rfl⟩ f)⟩
          exact ⟨trivial, _, _, _, r_is, if_tf (fun f => absurd (eis.mp f) ok) (fun _ => rfl)⟩
    · refine AI.same (-1) (mj_mk (D := 899) (e198 _ _ _ ?_)) (mj_mk (D := 899) (e62 _ _ _ ?_)) h
      · refine ⟨trivial, _, _, _, c_there (k := 1) a2 w2 (by omega), if_tf (fun _ => ?_) (fun f => absurd p f)⟩
        exact ⟨trivial, _, _, _, c_there (k := 0) a1 (by omega) (by omega), if_tf (fun f => absurd f q) (fun _ => rfl)⟩
      · refine ⟨trivial, _, _, _, r_isRow hB, if_tf (fun _ => ?_) (fun f => absurd p f)⟩
        exact ⟨trivial, _, _, _, r_isWish hB, if_tf (fun f => absurd f q) (fun _ => rfl)⟩
  · refine AI.same (-1) (mj_mk (D := 899) (e198 _ _ _ ?_)) (mj_mk (D := 899) (e62 _ _ _ ?_)) h
    · exact ⟨trivial, _, _, _, c_there (k := 1) a2 w2 (by omega), if_tf (fun f => absurd f p) (fun _ => rfl)⟩
    · exact ⟨trivial, _, _, _, r_isRow hB, if_tf (fun f => absurd f p) (fun _ => rfl)⟩
end S53
end
section
/-! feed, letter -/
theorem byt (x : Int32) (s : Nat) (hs : s + 8 ≤ 32) : ((x.toUInt32 >>> ((nI s).toUInt32 &&& Int32.toUInt32 31)).toInt32 &&& (255 : Int32)) = ((x >>> (nI s &&& 31)) &&& (255 : Int32)) ∧ ∃ y, y < 256 ∧ ((x >>> (nI s &&& 31)) &&& (255 : Int32)) = nI y := by
  refine ⟨b_ext fun i hi => ?_, ?_⟩
  · rw [b_and, b_and, b_255, b_ushr s (by omega), b_sshr s (by omega) x hi]
    by_cases h : i < 8
    · rw [if_pos (by omega)]
    · simp [h]
  · exact ⟨_, Nat.mod_lt _ (by decide), pk_and _ 8 (by decide)⟩
section S54
variable {D b W Rn Kn Tn Hn Un g : Nat} {I I1 I2 : Nat → Nat → Int32} {J J1 J2 : Nat → Nat → Int64}
/-- one byte put -/
def pt1 (I : Nat → Nat → Int32) (t : Nat) (y : Int32) : Nat → Nat → Int32 := mj_up (mj_up I 13 t y) 0 0 (nI (t + 1))
def pt2 (I : Nat → Nat → Int32) (t : Nat) (y : Int32) : Nat → Nat → Int32 := mj_up (mj_up I 1 t y) 0 1 (nI (t + 1))
theorem pt_Rl {t y : Nat} (h : Rl b W Rn Kn Tn Hn Un g I1 J1 I2 J2) (ht : I1 0 0 = nI t) (ht2 : t + 1 ≤ 900) (hy : y < 256) : Rl b W Rn Kn Tn Hn Un g (pt1 I1 t (nI y)) J1 (pt2 I2 t (nI y)) J2 := by
  obtain ⟨g1, g2, ⟨e1, e2, e3⟩, g4, g5, g6, g7, g8, g9, g10, g11, g12, g13⟩ := h
  refine ⟨g1, g2, ⟨?_, fun j => ?_, t + 1, ht2, up_s, up_s⟩, g4, g5, g6, g7, g8, g9, g10, g11, g12, g13⟩
  · show mj_up (mj_up I2 1 t (nI y)) 0 1 _ 1 = mj_up (mj_up I1 13 t (nI y)) 0 0 _ 13
    rw [up_c (k := 1) (q := 0) (by decide), up_c (k := 13) (q := 0) (by decide)]
    funext j
    by_cases e : j = t
    · rw [e, up_s, up_s]
    · rw [up_j e, up_j e, e1]
  · show ∃ x, x < 256 ∧ mj_up (mj_up I1 13 t (nI y)) 0 0 _ 13 j = nI x
    rw [up_c (by decide)]
    by_cases e : j = t
    · rw [e, up_s]; exact ⟨y, hy, rfl⟩
    · rw [up_j e]; exact e2 j
theorem al_put {x : Int32} {t : Nat} (h : Rl b W Rn Kn Tn Hn Un g I1 J1 I2 J2) (ht : I1 0 0 = nI t) (ht4 : t + 4 ≤ 900) : ∃ I1' I2', C1 (D + 1) 134 [.ref 0, .int x] I1 J1 .null I1' J1 ∧ C2 (D + 1) 10 [.ref 0, .int x] I2 J2 .null I2' J2 ∧ Rl b W Rn Kn Tn Hn Un g I1' J1 I2' J2 ∧ I1' 0 0 = nI (t + 4) := by
  have tt : ∀ {I1 I2 : Nat → Nat → Int32} {t}, Rl b W Rn Kn Tn Hn Un g I1 J1 I2 J2 → I1 0 0 = nI t → I2 0 1 = nI t := fun h ht => by
    obtain ⟨-, -, u, -, e3, e4⟩ := h.2.2.1
    rw [e4, ← e3, ht]
  obtain ⟨a, ya, qa1, qa2⟩ := byt x 24 (by decide)
  obtain ⟨b', yb, qb1, qb2⟩ := byt x 16 (by decide)
  obtain ⟨c, yc, qc1, qc2⟩ := byt x 8 (by decide)
  obtain ⟨d, yd, qd1, qd2⟩ := byt x 0 (by decide)
  have r1 := pt_Rl h ht (by omega) qa1
  have s1 : pt1 I1 t (nI ya) 0 0 = nI (t + 1) := up_s
  have r2 := pt_Rl r1 s1 (by omega) qb1
  have s2 : pt1 (pt1 I1 t (nI ya)) (t + 1) (nI yb) 0 0 = nI (t + 1 + 1) := up_s
  have r3 := pt_Rl r2 s2 (by omega) qc1
  have s3 : pt1 (pt1 (pt1 I1 t (nI ya)) (t + 1) (nI yb)) (t + 1 + 1) (nI yc) 0 0 = nI (t + 1 + 1 + 1) := up_s
  have r4 := pt_Rl r3 s3 (by omega) qd1
  have s4 : pt1 (pt1 (pt1 (pt1 I1 t (nI ya)) (t + 1) (nI yb)) (t + 1 + 1) (nI yc)) (t + 1 + 1 + 1) (nI yd) 0 0 = nI (t + 1 + 1 + 1 + 1) := up_s
  refine ⟨_, _, mj_mk (e134 _ ?_), mj_mk (e10 _ ?_), r4, s4⟩
  · have st : ∀ {I : Nat → Nat → Int32} {u s : Nat} {y : Nat} {Q : mj_R → Prop}, I 0 0 = nI u → u < 900 → s < 32 → ((x.toUInt32 >>> ((nI s).toUInt32 &&& Int32.toUInt32 31)).toInt32 &&& (255 : Int32)) = nI y → E1 134 D Q 3 [(0, .ref 0), (1, .int x), (2, .int (nI s + (-8)))] (pt1 I u (nI y)) J1 → E1 134 D Q 3 [(0, .ref 0), (1, .int x), (2, .int (nI s))] I J1 := by
      intro I u s y Q hI hu hs hy k
      refine mj_on (s134_3 _ _ ?_)
      rw [if_neg (nI_pos (by omega)), hI, nI_clamp (by omega), hy, nI_1]
      exact ⟨vp_in_nI hu (by decide), k⟩
    refine st (s := 24) ht (by omega) (by omega) (a.trans qa2) ?_
    refine st (s := 16) s1 (by omega) (by omega) (b'.trans qb2) ?_
    refine st (s := 8) s2 (by omega) (by omega) (c.trans qc2) ?_
    refine st (s := 0) s3 (by omega) (by omega) (d.trans qd2) ?_
    refine mj_on (s134_3 _ _ ?_)
    rw [if_pos (show (nI 0 + (-8) : Int32) < 0 by decide)]
  · have st : ∀ {I : Nat → Nat → Int32} {u s : Nat} {y : Nat} {Q : mj_R → Prop}, I 0 1 = nI u → u < 900 → s < 32 → ((x >>> (nI s &&& 31)) &&& (255 : Int32)) = nI y → E2 10 D Q 3 [(0, .ref 0), (1, .int x), (2, .int (nI s + (-8)))] (pt2 I u (nI y)) J2 → E2 10 D Q 3 [(0, .ref 0), (1, .int x), (2, .int (nI s))] I J2 := by
      intro I u s y Q hI hu hs hy k
      refine mj_on (s10_3 _ _ ?_)
      rw [if_neg (nI_pos (by omega)), hI, nI_clamp (by omega), hy, nI_1]
      exact ⟨vp_in_nI hu (by decide), k⟩
    refine st (s := 24) (tt h ht) (by omega) (by omega) qa2 ?_
    refine st (s := 16) (tt r1 s1) (by omega) (by omega) qb2 ?_
    refine st (s := 8) (tt r2 s2) (by omega) (by omega) qc2 ?_
    refine st (s := 0) (tt r3 s3) (by omega) (by omega) qd2 ?_
    refine mj_on (s10_3 _ _ ?_)
    rw [if_pos (show (nI 0 + (-8) : Int32) < 0 by decide)]
theorem al_feed {x1 x2 x3 x4 x5 : Int32} (h : Rl b W Rn Kn Tn Hn Un g I1 J1 I2 J2) : AI 133 9 [.int x1, .int x2, .int x3, .int x4, .int x5] I1 J1 I2 J2 (Rl b W Rn Kn Tn Hn Un g) := by
  obtain ⟨-, -, t, ht, e3, e4⟩ := id h.2.2.1
  by_cases c : t ≤ 880
  · obtain ⟨I1a, I2a, p1, q1, r1, s1⟩ := al_put (D := 898) (x := x1) h e3 (by omega)
    obtain ⟨I1b, I2b, p2, q2, r2, s2⟩ := al_put (D := 898) (x := x2) r1 s1 (by omega)
    obtain ⟨I1c, I2c, p3, q3, r3, s3⟩ := al_put (D := 898) (x := x3) r2 s2 (by omega)
    obtain ⟨I1d, I2d, p4, q4, r4, s4⟩ := al_put (D := 898) (x := x4) r3 s3 (by omega)
    obtain ⟨I1e, I2e, p5, q5, r5, s5⟩ := al_put (D := 898) (x := x5) r4 s4 (by omega)
    have s5' : I2e 0 1 = I1e 0 0 := by
      obtain ⟨-, -, u, -, e5, e6⟩ := r5.2.2.1
      rw [e5, e6]
    refine ⟨I1e 0 0, I1e, J1, I2e, J2, mj_mk (D := 899) (e133 _ _ _ _ _ ?_), mj_mk (D := 899) (e9 _ _ _ _ _ ?_), r5⟩
    · rw [e3]
      refine if_le (b := 880) (by omega) (by decide) (fun _ => ?_) (fun d => absurd d (by omega))
      exact ⟨trivial, _, _, p1, trivial, _, _, p2, trivial, _, _, p3, trivial, _, _, p4, trivial, _, _, p5, rfl⟩
    · rw [e4, show (20 : Int32) = nI 20 from rfl, nI_add]
      refine if_le (b := 900) (by omega) (by decide) (fun _ => ?_) (fun d => absurd d (by omega))
      refine ⟨trivial, _, _, q1, trivial, _, _, q2, trivial, _, _, q3, trivial, _, _, q4, trivial, _, _, q5, ?_⟩
      rw [s5']
  · refine AI.same (-1) (mj_mk (D := 899) (e133 _ _ _ _ _ ?_)) (mj_mk (D := 899) (e9 _ _ _ _ _ ?_)) h
    · rw [e3]
      exact if_le (b := 880) (by omega) (by decide) (fun d => absurd d c) (fun _ => rfl)
    · rw [e4, show (20 : Int32) = nI 20 from rfl, nI_add]
      exact if_le (b := 900) (by omega) (by decide) (fun d => absurd d (by omega)) (fun _ => rfl)
-- letter
theorem nmC_lt : ∀ {l : List Nat}, (∀ a ∈ l, 1 ≤ a ∧ a ≤ 26) → nmC l < 32 ^ l.length
  | [], _ => by decide
  | x :: r, h => by
    have ih := nmC_lt (l := r) fun a ha => h a (List.mem_cons_of_mem _ ha)
    have hx := h x List.mem_cons_self
    rw [List.length_cons, Nat.pow_succ]
    show nmC r * 32 + x < _
    omega
theorem nmR_lt : ∀ {l : List Nat}, (∀ a ∈ l, 1 ≤ a ∧ a ≤ 26) → nmR l < 256 ^ l.length
  | [], _ => by decide
  | x :: r, h => by
    have ih := nmR_lt (l := r) fun a ha => h a (List.mem_cons_of_mem _ ha)
    have hx := h x List.mem_cons_self
    rw [List.length_cons, Nat.pow_succ]
    show nmR r * 256 + (x + 96) < _
    omega
theorem nmC_drop : ∀ {l : List Nat} {i : Nat}, (∀ a ∈ l, 1 ≤ a ∧ a ≤ 26) → nmC l / 32 ^ i = nmC (l.drop i)
  | l, 0, _ => by simp
  | [], i + 1, _ => by
    show 0 / _ = 0
    exact Nat.zero_div _
  | x :: r, i + 1, h => by
    have hx := h x List.mem_cons_self
    have ih := nmC_drop (l := r) (i := i) fun a ha => h a (List.mem_cons_of_mem _ ha)
    rw [Nat.pow_succ, Nat.mul_comm, ← Nat.div_div_eq_div_mul]
    show (nmC r * 32 + x) / 32 / 32 ^ i = _
    rw [show (nmC r * 32 + x) / 32 = nmC r by omega, ih]
    rfl
theorem nmR_drop : ∀ {l : List Nat} {i : Nat}, (∀ a ∈ l, 1 ≤ a ∧ a ≤ 26) → nmR l / 256 ^ i = nmR (l.drop i)
  | l, 0, _ => by simp
  | [], i + 1, _ => by
    show 0 / _ = 0
    exact Nat.zero_div _
  | x :: r, i + 1, h => by
    have hx := h x List.mem_cons_self
    have ih := nmR_drop (l := r) (i := i) fun a ha => h a (List.mem_cons_of_mem _ ha)
    rw [Nat.pow_succ, Nat.mul_comm, ← Nat.div_div_eq_div_mul]
    show (nmR r * 256 + (x + 96)) / 256 / 256 ^ i = _
    rw [show (nmR r * 256 + (x + 96)) / 256 = nmR r by omega, ih]
    rfl
/-- the letter k of a name -/
noncomputable def lett (l : List Nat) (x : Int32) : Int32 := @ite _ (∃ k, k < l.length ∧ x = nI k) (Classical.propDecidable _) (nI (96 + l.getD (l.length - 1 - x.toNatClampNeg) 0)) (-1)
theorem lett_t {l : List Nat} {k : Nat} (hk : k < l.length) (hl : l.length ≤ 6) : lett l (nI k) = nI (96 + l.getD (l.length - 1 - k) 0) := by
  have e : lett l (nI k) = nI (96 + l.getD (l.length - 1 - (nI k).toNatClampNeg) 0) := @if_pos _ (Classical.propDecidable _) ⟨k, hk, rfl⟩ _ _ _
  rw [e, nI_clamp (by omega)]
theorem lett_f {l : List Nat} {x : Int32} (h : ¬ ∃ k, k < l.length ∧ x = nI k) : lett l x = -1 := @if_neg _ (Classical.propDecidable _) h _ _ _
theorem drop_z {l : List Nat} {i : Nat} (h : l.length ≤ i) : l.drop i = [] := List.drop_eq_nil_of_le h
theorem drop_c {l : List Nat} {i : Nat} (h : i < l.length) : l.drop i = l.getD i 0 :: l.drop (i + 1) := by
  rw [List.getD_eq_getElem?_getD, List.getElem?_eq_getElem h]
  exact List.drop_eq_getElem_cons h
theorem c_letterOf {l : List Nat} {x : Int32} (h1 : l.length ≤ 6) (h2 : ∀ a ∈ l, 1 ≤ a ∧ a ≤ 26) : C1 (D + 1) 193 [.int (nI (nmC l)), .int x] I J (.int (lett l x)) I J := by
  have h32 : (32 : Nat) ^ l.length ≤ 32 ^ 6 := Nat.pow_le_pow_right (by decide) h1
  have hlt := nmC_lt h2
  have hdl : ∀ i, nmC (l.drop i) < 2 ^ 31 := fun i => by
    rw [← nmC_drop h2]
    exact Nat.lt_of_le_of_lt (Nat.div_le_self _ _) (by omega)
  refine mj_mk (e193 _ _ ?_)
  refine lp_up (n := l.length) (fun i => E1 193 D (fun q => q = (.int (lett l x), (I, J, mj_R1))) 4 [(0, .int (nI (nmC l))), (1, .int x), (2, .int (nI i)), (3, .int (nI (nmC (l.drop i))))] I J) (fun i hi ih => ?_) 0 (Nat.zero_le _)
  refine mj_on (s193_4 _ _ _ _ ?_)
  rw [nI_1]
  by_cases c : i < l.length
  · have e := drop_c c
    have hp : 0 < nmC (l.drop i) := by
      rw [e]
      show 0 < nmC (l.drop (i + 1)) * 32 + l.getD i 0
      have : l.getD i 0 ∈ l := by
        rw [List.getD_eq_getElem?_getD, List.getElem?_eq_getElem c]
        exact List.getElem_mem c
      have := h2 _ this
      omega
    rw [if_neg (nI_nle hp (hdl i))]
    have es : nI (nmC (l.drop i)) >>> ((5 : Int32) &&& 31) = nI (nmC (l.drop (i + 1))) := by
      have hlm : l.getD i 0 ∈ l := by
        rw [List.getD_eq_getElem?_getD, List.getElem?_eq_getElem c]
        exact List.getElem_mem c
      have hle := h2 _ hlm
      rw [pk_shrN (hdl i) _ 5 (by decide)]
      congr 1
      rw [e]
      show (nmC (l.drop (i + 1)) * 32 + l.getD i 0) / 32 = _
      omega
    rw [es]
    exact ih c
  · obtain rfl : i = l.length := by omega
    rw [drop_z (Nat.le_refl _), if_pos (show nI (nmC []) ≤ 0 by decide)]
    refine if_i (fun d => ?_) (fun d => if_i (fun f => ?_) (fun f => ?_))
    · rw [lett_f]
      rintro ⟨k, hk, rfl⟩
      exact nI_pos (by omega) d
    · obtain ⟨k, hk, rfl⟩ : ∃ k, k < l.length ∧ x = nI k := by
        rcases pk_ix x (n := l.length) (by omega) with q | q | q
        · exact absurd q d
        · exact absurd f (Int32.not_lt.mpr q)
        · exact q
      rw [lett_t hk h1]
      obtain ⟨m, hm⟩ : ∃ m, l.length = m + 1 := ⟨l.length - 1, by omega⟩
      have e1 : (5 : Int32) * ((nI l.length - 1) - nI k) = nI (5 * (l.length - 1 - k)) := by
        rw [hm, n1_sub, pk_sub (by omega), show (5 : Int32) = nI 5 from rfl, pk_mul]
        simp
      rw [e1, pk_shrN (by omega) _ (5 * (l.length - 1 - k)) (s_l _ (by omega)), show (31 : Int32) = nI (2 ^ 5 - 1) from rfl, nx_and, Nat.and_two_pow_sub_one_eq_mod, show (96 : Int32) = nI 96 from rfl, nI_add]
      have e2 : nmC l / 2 ^ (5 * (l.length - 1 - k)) % 2 ^ 5 = l.getD (l.length - 1 - k) 0 := by
        rw [Nat.pow_mul, show (2 : Nat) ^ 5 = 32 from rfl, nmC_drop h2, drop_c (by omega)]
        show (nmC _ * 32 + l.getD (l.length - 1 - k) 0) % 32 = _
        have : l.getD (l.length - 1 - k) 0 ∈ l := by
          rw [List.getD_eq_getElem?_getD, List.getElem?_eq_getElem (by omega)]
          exact List.getElem_mem _
        have := h2 _ this
        omega
      rw [e2]
    · rw [lett_f]
      rintro ⟨k, hk, rfl⟩
      exact f (nI_lt hk (by omega))
theorem r_letterOf {l : List Nat} {x : Int32} (h1 : l.length ≤ 6) (h2 : ∀ a ∈ l, 1 ≤ a ∧ a ≤ 26) : C2 (D + 1) 50 [.long (lN (nmR l)), .int x] I J (.int (lett l x)) I J := by
  have h32 : (256 : Nat) ^ l.length ≤ 256 ^ 6 := Nat.pow_le_pow_right (by decide) h1
  have hlt := nmR_lt h2
  have hdl : ∀ i, nmR (l.drop i) < 2 ^ 62 := fun i => by
    rw [← nmR_drop h2]
    exact Nat.lt_of_le_of_lt (Nat.div_le_self _ _) (by omega)
  refine mj_mk (e50 _ _ ?_)
  refine lp_up (n := l.length) (fun i => E2 50 D (fun q => q = (.int (lett l x), (I, J, mj_R2))) 5 [(0, .long (lN (nmR l))), (2, .int x), (3, .int (nI i)), (4, .long (lN (nmR (l.drop i))))] I J) (fun i hi ih => ?_) 0 (Nat.zero_le _)
  refine mj_on (s50_5 _ _ _ _ ?_)
  rw [nI_1]
  by_cases c : i < l.length
  · have e := drop_c c
    have hp : 0 < nmR (l.drop i) := by
      rw [e]
      show 0 < nmR (l.drop (i + 1)) * 256 + (l.getD i 0 + 96)
      omega
    rw [if_neg (fun q => by
      have q := cmp0.mp q
      have := (pk_lEQ (b := 0) (Nat.lt_trans (hdl i) (by decide)) (by decide)).mp q
      omega)]
    have es : ((lN (nmR (l.drop i))).toUInt64 >>> ((8 : Int32).toInt64.toUInt64 &&& Int64.toUInt64 63)).toInt64 = lN (nmR (l.drop (i + 1))) := by
      have z : ((lN (nmR (l.drop i))).toUInt64 >>> ((8 : Int32).toInt64.toUInt64 &&& Int64.toUInt64 63)).toInt64 = lN (nmR (l.drop i) / 2 ^ 8) := wb_shr (k := 8) (Nat.lt_trans (hdl i) (by decide)) (by decide)
      have hlm : l.getD i 0 ∈ l := by
        rw [List.getD_eq_getElem?_getD, List.getElem?_eq_getElem c]
        exact List.getElem_mem c
      have hle := h2 _ hlm
      rw [z]
      congr 1
      rw [e]
      show (nmR (l.drop (i + 1)) * 256 + (l.getD i 0 + 96)) / 256 = _
      omega
    rw [es]
    exact ih c
  · obtain rfl : i = l.length := by omega
    rw [drop_z (Nat.le_refl _), if_pos (show lg_cmp (lN (nmR [])) 0 = 0 by decide)]
    refine if_i (fun d => ?_) (fun d => if_i (fun f => ?_) (fun f => ?_))
    · rw [lett_f]
      rintro ⟨k, hk, rfl⟩
      exact nI_pos (by omega) d
    · obtain ⟨k, hk, rfl⟩ : ∃ k, k < l.length ∧ x = nI k := by
        rcases pk_ix x (n := l.length) (by omega) with q | q | q
        · exact absurd q d
        · exact absurd f (Int32.not_lt.mpr q)
        · exact q
      rw [lett_t hk h1]
      obtain ⟨m, hm⟩ : ∃ m, l.length = m + 1 := ⟨l.length - 1, by omega⟩
      have e1 : (8 : Int32) * ((nI l.length - 1) - nI k) = nI (8 * (l.length - 1 - k)) := by
        rw [hm, n1_sub, pk_sub (by omega), show (8 : Int32) = nI 8 from rfl, pk_mul]
        simp
      rw [e1, wb_shr (by omega) (by omega), show (255 : Int64) = lN (2 ^ 8 - 1) from rfl, wb_mask (Nat.lt_of_le_of_lt (Nat.div_le_self _ _) (by omega)) (by decide), lN_i]
      have e2 : nmR l / 2 ^ (8 * (l.length - 1 - k)) % 2 ^ 8 = 96 + l.getD (l.length - 1 - k) 0 := by
        rw [Nat.pow_mul, show (2 : Nat) ^ 8 = 256 from rfl, nmR_drop h2, drop_c (by omega)]
        show (nmR _ * 256 + (l.getD (l.length - 1 - k) 0 + 96)) % 256 = _
        have : l.getD (l.length - 1 - k) 0 ∈ l := by
          rw [List.getD_eq_getElem?_getD, List.getElem?_eq_getElem (by omega)]
          exact List.getElem_mem _
        have := h2 _ this
        omega
      rw [e2]
    · rw [lett_f]
      rintro ⟨k, hk, rfl⟩
      exact f (nI_lt hk (by omega))
end S54
end
