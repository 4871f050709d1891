/-! ways through the net: the sums of all of them, in the order in which the walk meets them; how many they are -/
/-- from a knot on: the knots that were met are the bits of m; acc is what the way has so far -/
def wk (Tn : Nat) (fr tt : Nat → Nat) (am : Nat → Nat → Nat) (dst : Nat) : Nat → Nat → Nat → (Nat → Nat) → List (Nat → Nat)
  | 0, knot, _, acc => if knot = dst then [acc] else []
  | fuel + 1, knot, m, acc => if knot = dst then [acc] else (List.range Tn).flatMap fun t => if fr t = knot ∧ m.testBit (tt t) = false then wk Tn fr tt am dst fuel (tt t) (m ||| 2 ^ tt t) (fun w => acc w + am t w) else []
/-- as far as tie n -/
def wkt (fr tt : Nat → Nat) (f : Nat → List (Nat → Nat)) (knot m : Nat) : Nat → List (Nat → Nat)
  | 0 => []
  | n + 1 => wkt fr tt f knot m n ++ (if fr n = knot ∧ m.testBit (tt n) = false then f n else [])
theorem wkt_eq {fr tt : Nat → Nat} {f : Nat → List (Nat → Nat)} {knot m : Nat} : ∀ n, (List.range n).flatMap (fun t => if fr t = knot ∧ m.testBit (tt t) = false then f t else []) = wkt fr tt f knot m n
  | 0 => rfl
  | n + 1 => by
    rw [List.range_succ, List.flatMap_append, wkt_eq n, List.flatMap_cons, List.flatMap_nil, List.append_nil]
    rfl
def dg (fr : Nat → Nat) (k : Nat) : Nat → Nat
  | 0 => 0
  | n + 1 => dg fr k n + if fr n = k then 1 else 0
def smm (f : Nat → Nat) : Nat → Nat
  | 0 => 0
  | n + 1 => smm f n + f n
def prd (f : Nat → Nat) : Nat → Nat
  | 0 => 1
  | n + 1 => prd f n * f n
theorem smm_add {f g : Nat → Nat} : ∀ n, smm (fun k => f k + g k) n = smm f n + smm g n
  | 0 => rfl
  | n + 1 => by
    show smm (fun k => f k + g k) n + (f n + g n) = smm f n + f n + (smm g n + g n)
    rw [smm_add n]
    omega
theorem smm_0 : ∀ n, smm (fun _ => 0) n = 0
  | 0 => rfl
  | n + 1 => by
    show smm (fun _ => 0) n + 0 = 0
    rw [smm_0 n]
theorem smm_1 (x : Nat) : ∀ n, smm (fun k => if x = k then 1 else 0) n ≤ (if x < n then 1 else 0)
  | 0 => by simp [smm]
  | n + 1 => by
    have ih := smm_1 x n
    show smm (fun k => if x = k then 1 else 0) n + (if x = n then 1 else 0) ≤ _
    by_cases h : x = n
    · rw [if_pos h, if_pos (by omega)]
      rw [if_neg (by omega)] at ih
      omega
    · rw [if_neg h]
      by_cases h2 : x < n
      · rw [if_pos h2] at ih; rw [if_pos (by omega)]; omega
      · rw [if_neg h2] at ih; omega
theorem smm_dg {fr : Nat → Nat} : ∀ n, smm (fun k => dg fr k n) 10 ≤ n
  | 0 => by
    show smm (fun _ => 0) 10 ≤ 0
    rw [smm_0]
    exact Nat.le_refl 0
  | n + 1 => by
    show smm (fun k => dg fr k n + if fr n = k then 1 else 0) 10 ≤ n + 1
    rw [smm_add]
    have h1 := smm_dg (fr := fr) n
    have h2 := smm_1 (fr n) 10
    split at h2 <;> omega
theorem prd_cg {f g : Nat → Nat} : ∀ n, (∀ k, k < n → f k = g k) → prd f n = prd g n
  | 0, _ => rfl
  | n + 1, h => by
    show prd f n * f n = prd g n * g n
    rw [prd_cg n (fun k hk => h k (by omega)), h n (by omega)]
theorem prd_at {f : Nat → Nat} {j : Nat} : ∀ n, j < n → prd f n = f j * prd (fun k => if k = j then 1 else f k) n
  | 0, h => absurd h (by omega)
  | n + 1, h => by
    show prd f n * f n = f j * (prd (fun k => if k = j then 1 else f k) n * (if n = j then 1 else f n))
    by_cases e : n = j
    · subst e
      rw [if_pos rfl, Nat.mul_one, Nat.mul_comm, prd_cg (f := fun k => if k = n then 1 else f k) (g := f) n (fun k hk => if_neg (by omega))]
    · rw [if_neg e, prd_at (f := f) (j := j) n (by omega), Nat.mul_assoc]
def mx1 (d : Nat) : Nat := if d = 0 then 1 else d
theorem mx1_3 : ∀ d, d < 25 → mx1 d ^ 3 ≤ 3 ^ d := by decide
theorem prd_3 {d : Nat → Nat} : ∀ n, (∀ k, k < n → d k < 25) → prd (fun k => mx1 (d k)) n ^ 3 ≤ 3 ^ smm d n
  | 0, _ => by
    show 1 ^ 3 ≤ 3 ^ 0
    decide
  | n + 1, h => by
    show (prd (fun k => mx1 (d k)) n * mx1 (d n)) ^ 3 ≤ 3 ^ (smm d n + d n)
    rw [Nat.mul_pow, Nat.pow_add]
    exact Nat.mul_le_mul (prd_3 n (fun k hk => h k (by omega))) (mx1_3 _ (h n (by omega)))
theorem dg_le {fr : Nat → Nat} {k : Nat} : ∀ n, dg fr k n ≤ n
  | 0 => Nat.le_refl 0
  | n + 1 => by
    show dg fr k n + (if fr n = k then 1 else 0) ≤ n + 1
    have := dg_le (fr := fr) (k := k) n
    split <;> omega
/-- how many ways there may be at most from a knot on, when the knots of m are met -/
def wbd (fr : Nat → Nat) (Tn m : Nat) : Nat := prd (fun k => if m.testBit k then 1 else mx1 (dg fr k Tn)) 10
theorem wbd_s {fr : Nat → Nat} {Tn m j : Nat} (hj : j < 10) (hm : m.testBit j = false) : wbd fr Tn m = mx1 (dg fr j Tn) * wbd fr Tn (m ||| 2 ^ j) := by
  unfold wbd
  rw [prd_at 10 hj, hm]
  show mx1 (dg fr j Tn) * _ = _
  refine congrArg _ (prd_cg 10 fun k hk => ?_)
  rw [Nat.testBit_or, Nat.testBit_two_pow]
  by_cases e : k = j
  · subst e
    simp
  · rw [if_neg e]
    have : decide (j = k) = false := by simp; omega
    rw [this, Bool.or_false]
theorem wkt_len {fr tt : Nat → Nat} {f : Nat → List (Nat → Nat)} {knot m c : Nat} : ∀ n, (∀ t, t < n → fr t = knot → m.testBit (tt t) = false → (f t).length ≤ c) → (wkt fr tt f knot m n).length ≤ dg fr knot n * c
  | 0, _ => by simp [wkt]
  | n + 1, h => by
    have ih := wkt_len n (fun t ht => h t (by omega))
    show (wkt fr tt f knot m n ++ _).length ≤ (dg fr knot n + if fr n = knot then 1 else 0) * c
    rw [List.length_append, Nat.add_mul]
    by_cases e : fr n = knot
    · rw [if_pos e, Nat.one_mul]
      by_cases e2 : m.testBit (tt n) = false
      · rw [if_pos ⟨e, e2⟩]
        exact Nat.add_le_add ih (h n (by omega) e e2)
      · rw [if_neg (fun q => e2 q.2)]
        simp only [List.length_nil]
        omega
    · rw [if_neg (fun q => e q.1), if_neg e]
      simp only [List.length_nil]
      omega
theorem mx1_pos (d : Nat) : 1 ≤ mx1 d := by unfold mx1; split <;> omega
theorem prd_pos {f : Nat → Nat} (h : ∀ k, 1 ≤ f k) : ∀ n, 1 ≤ prd f n
  | 0 => Nat.le_refl 1
  | n + 1 => Nat.mul_le_mul (prd_pos h n) (h n)
theorem wbd_pos {fr : Nat → Nat} {Tn m : Nat} : 1 ≤ wbd fr Tn m := prd_pos (fun k => by
  show 1 ≤ if m.testBit k then 1 else mx1 (dg fr k Tn)
  split
  · exact Nat.le_refl 1
  · exact mx1_pos _) 10
theorem wk_len {Tn : Nat} {fr tt : Nat → Nat} {am : Nat → Nat → Nat} {dst : Nat} (ht : ∀ t, t < Tn → tt t < 10) : ∀ (fuel knot m : Nat) (acc : Nat → Nat), (wk Tn fr tt am dst fuel knot m acc).length ≤ mx1 (dg fr knot Tn) * wbd fr Tn m
  | 0, knot, m, acc => by
    have h1 := Nat.mul_le_mul (mx1_pos (dg fr knot Tn)) (wbd_pos (fr := fr) (Tn := Tn) (m := m))
    unfold wk
    split
    · simpa using h1
    · simp
  | fuel + 1, knot, m, acc => by
    have h1 := Nat.mul_le_mul (mx1_pos (dg fr knot Tn)) (wbd_pos (fr := fr) (Tn := Tn) (m := m))
    unfold wk
    split
    · simpa using h1
    · rw [wkt_eq]
      refine Nat.le_trans (wkt_len Tn (c := wbd fr Tn m) fun t h e e2 => ?_) (Nat.mul_le_mul_right _ (by unfold mx1; split <;> omega))
      rw [wbd_s (ht t h) e2]
      exact wk_len ht fuel _ _ _
theorem wbd_0 {fr : Nat → Nat} {Tn : Nat} (hT : Tn ≤ 24) : wbd fr Tn 0 ≤ 6561 := by
  have h1 : wbd fr Tn 0 = prd (fun k => mx1 (dg fr k Tn)) 10 := prd_cg 10 fun k _ => by rw [Nat.zero_testBit]; rfl
  have h2 := prd_3 (d := fun k => dg fr k Tn) 10 (fun k _ => Nat.lt_of_le_of_lt (dg_le Tn) (by omega))
  have h3 : smm (fun k => dg fr k Tn) 10 ≤ 24 := Nat.le_trans (smm_dg Tn) hT
  have h4 : (3 : Nat) ^ smm (fun k => dg fr k Tn) 10 ≤ 3 ^ 24 := Nat.pow_le_pow_right (by decide) h3
  rw [h1]
  refine Nat.le_of_not_lt fun h => ?_
  have h5 : 6562 ^ 3 ≤ prd (fun k => mx1 (dg fr k Tn)) 10 ^ 3 := Nat.pow_le_pow_left h 3
  have h6 : (6562 : Nat) ^ 3 ≤ 3 ^ 24 := Nat.le_trans h5 (Nat.le_trans h2 h4)
  exact absurd h6 (by decide)
theorem wk_all {Tn : Nat} {fr tt : Nat → Nat} {am : Nat → Nat → Nat} {dst src : Nat} {acc : Nat → Nat} (hT : Tn ≤ 24) (ht : ∀ t, t < Tn → tt t < 10) (hs : src < 10) : (wk Tn fr tt am dst 9 src (2 ^ src) acc).length ≤ 6561 := by
  refine Nat.le_trans (wk_len ht 9 src (2 ^ src) acc) ?_
  have h := wbd_s (fr := fr) (Tn := Tn) (m := 0) hs (Nat.zero_testBit _)
  rw [Nat.zero_or] at h
  rw [← h]
  exact wbd_0 hT
