/-! choices of some of n, in their order -/
def iot : Nat → Nat → List Nat
  | _, 0 => []
  | y, k + 1 => y :: iot (y + 1) k
theorem iot_len : ∀ {k y : Nat}, (iot y k).length = k
  | 0, _ => rfl
  | k + 1, y => by
    show (iot (y + 1) k).length + 1 = _
    rw [iot_len]
theorem iot_at : ∀ {k y i : Nat}, i < k → (iot y k)[i]? = some (y + i)
  | 0, _, _, h => absurd h (Nat.not_lt_zero _)
  | k + 1, y, 0, _ => rfl
  | k + 1, y, i + 1, h => by
    show (iot (y + 1) k)[i]? = _
    rw [iot_at (by omega)]
    congr 1
    omega
def nxt (n : Nat) : List Nat → Option (List Nat)
  | [] => none
  | x :: r => match nxt n r with
    | some r' => some (x :: r')
    | none => if x + (r.length + 1) < n then some (iot (x + 1) (r.length + 1)) else none
def bin : Nat → Nat → Nat
  | _, 0 => 1
  | 0, _ + 1 => 0
  | n + 1, k + 1 => bin n (k + 1) + bin n k
def rem (n : Nat) : List Nat → Nat
  | [] => 0
  | x :: r => bin (n - 1 - x) (r.length + 1) + rem n r
def vld (n : Nat) : List Nat → Prop
  | [] => True
  | x :: r => x + (r.length + 1) ≤ n ∧ vld n r
theorem bin_0 : ∀ {n k : Nat}, n < k → bin n k = 0
  | n, 0, h => absurd h (Nat.not_lt_zero n)
  | 0, k + 1, _ => rfl
  | n + 1, k + 1, h => by
    show bin n (k + 1) + bin n k = 0
    rw [bin_0 (by omega), bin_0 (by omega)]
theorem rem_iot {n : Nat} : ∀ {k y : Nat}, y + k ≤ n → rem n (iot y k) + 1 = bin (n - y) k
  | 0, y, _ => by
    show 1 = bin (n - y) 0
    cases n - y <;> rfl
  | k + 1, y, h => by
    show bin (n - 1 - y) ((iot (y + 1) k).length + 1) + rem n (iot (y + 1) k) + 1 = _
    have ih := rem_iot (n := n) (k := k) (y := y + 1) (by omega)
    rw [iot_len, Nat.add_assoc, ih]
    have e1 : n - y = (n - 1 - y) + 1 := by omega
    have e2 : n - (y + 1) = n - 1 - y := by omega
    rw [e1, e2]
    rfl
theorem vld_iot {n : Nat} : ∀ {k y : Nat}, y + k ≤ n → vld n (iot y k)
  | 0, _, _ => trivial
  | k + 1, y, h => by
    refine ⟨?_, vld_iot (by omega)⟩
    rw [iot_len]
    exact h
theorem vld_at {n : Nat} : ∀ {t : List Nat} {i x : Nat}, vld n t → t[i]? = some x → x + (t.length - i) ≤ n
  | [], i, x, _, h => by cases i <;> cases h
  | y :: r, 0, x, v, h => by
    cases h
    exact v.1
  | y :: r, i + 1, x, v, h => by
    have := vld_at (i := i) v.2 h
    rw [List.length_cons]
    omega
theorem nxt_ok {n : Nat} : ∀ {t : List Nat}, vld n t → (nxt n t = none → rem n t = 0) ∧ ∀ t', nxt n t = some t' → rem n t = rem n t' + 1 ∧ vld n t' ∧ t'.length = t.length
  | [], _ => ⟨fun _ => rfl, fun t' h => by cases h⟩
  | x :: r, v => by
    obtain ⟨i1, i2⟩ := nxt_ok v.2
    have v1 := v.1
    cases hr : nxt n r with
    | some r' =>
      obtain ⟨j1, j2, j3⟩ := i2 r' hr
      have e : nxt n (x :: r) = some (x :: r') := by
        show (match nxt n r with | some r' => some (x :: r') | none => _) = _
        rw [hr]
      rw [e]
      refine ⟨fun q => (by cases q), fun t' q => ?_⟩
      cases q
      refine ⟨?_, ⟨by rw [j3]; exact v1, j2⟩, by rw [List.length_cons, List.length_cons, j3]⟩
      show bin (n - 1 - x) (r.length + 1) + rem n r = bin (n - 1 - x) (r'.length + 1) + rem n r' + 1
      rw [j1, j3]
      omega
    | none =>
      have r0 := i1 hr
      have e : nxt n (x :: r) = if x + (r.length + 1) < n then some (iot (x + 1) (r.length + 1)) else none := by
        show (match nxt n r with | some r' => some (x :: r') | none => _) = _
        rw [hr]
      rw [e]
      by_cases c : x + (r.length + 1) < n
      · rw [if_pos c]
        refine ⟨fun q => (by cases q), fun t' q => ?_⟩
        cases q
        refine ⟨?_, vld_iot (by omega), by rw [iot_len, List.length_cons]⟩
        have := rem_iot (n := n) (k := r.length + 1) (y := x + 1) (by omega)
        show bin (n - 1 - x) (r.length + 1) + rem n r = _
        rw [this, r0, show n - (x + 1) = n - 1 - x by omega]
        rfl
      · rw [if_neg c]
        refine ⟨fun _ => ?_, fun t' q => by cases q⟩
        show bin (n - 1 - x) (r.length + 1) + rem n r = 0
        rw [r0, bin_0 (by omega)]
/-- how a search from the last place on finds the next choice -/
theorem nxt_cap {n : Nat} {t : List Nat} : ∀ k, (∀ j x, t.length - k ≤ j → t[j]? = some x → n ≤ x + (t.length - j)) → nxt n (t.drop (t.length - k)) = none
  | 0, _ => by
    rw [Nat.sub_zero, List.drop_length]
    rfl
  | k + 1, h => by
    by_cases c : t.length ≤ k
    · have := nxt_cap k (n := n) (t := t) (fun j x h1 h2 => h j x (by omega) h2)
      rw [show t.length - (k + 1) = t.length - k by omega]
      exact this
    · have ih := nxt_cap k (n := n) (t := t) (fun j x h1 h2 => h j x (by omega) h2)
      obtain ⟨x, hx, -, hd⟩ := gt_of (l := t) (n := t.length - (k + 1)) (by omega)
      rw [hd, show t.length - (k + 1) + 1 = t.length - k by omega]
      have hc := h _ x (Nat.le_refl _) hx
      show (match nxt n (t.drop (t.length - k)) with | some r' => some (x :: r') | none => if x + ((t.drop (t.length - k)).length + 1) < n then some (iot (x + 1) ((t.drop (t.length - k)).length + 1)) else none) = none
      rw [ih]
      rw [List.length_drop]
      exact if_neg (by omega)
theorem nxt_find {n i x : Nat} {t : List Nat} (hi : t[i]? = some x) (hx : x + (t.length - i) < n) (h : ∀ j y, i < j → t[j]? = some y → n ≤ y + (t.length - j)) : nxt n t = some (t.take i ++ iot (x + 1) (t.length - i)) := by
  have hil : i < t.length := (List.getElem?_eq_some_iff.mp hi).1
  have key : ∀ q, q ≤ i → nxt n (t.drop (i - q)) = some ((t.drop (i - q)).take q ++ iot (x + 1) (t.length - i)) := by
    intro q
    induction q with
    | zero =>
      intro _
      have hc := nxt_cap (n := n) (t := t) (t.length - (i + 1)) (fun j y h1 h2 => h j y (by omega) h2)
      rw [show t.length - (t.length - (i + 1)) = i + 1 by omega] at hc
      obtain ⟨x', hx', -, hd⟩ := gt_of (l := t) (n := i) hil
      rw [hi] at hx'
      cases hx'
      rw [Nat.sub_zero, hd]
      show (match nxt n (t.drop (i + 1)) with | some r' => some (x :: r') | none => if x + ((t.drop (i + 1)).length + 1) < n then some (iot (x + 1) ((t.drop (i + 1)).length + 1)) else none) = _
      rw [hc, List.length_drop]
      rw [show t.length - (i + 1) + 1 = t.length - i by omega]
      exact if_pos hx
    | succ q ih =>
      intro hq
      have ih := ih (by omega)
      obtain ⟨y, hy, -, hd⟩ := gt_of (l := t) (n := i - (q + 1)) (by omega)
      rw [hd, show i - (q + 1) + 1 = i - q by omega]
      show (match nxt n (t.drop (i - q)) with | some r' => some (y :: r') | none => _) = _
      rw [ih]
      rfl
  have := key i (Nat.le_refl _)
  rw [Nat.sub_self] at this
  exact this
theorem nxt_none {n : Nat} {t : List Nat} (h : ∀ j y, t[j]? = some y → n ≤ y + (t.length - j)) : nxt n t = none := by
  have := nxt_cap (n := n) (t := t) t.length (fun j x _ h2 => h j x h2)
  rw [Nat.sub_self] at this
  exact this
theorem bin_16 : ∀ n, n < 17 → ∀ s, s < 17 → bin n s ≤ 12870 := by decide +kernel
theorem bin_24 : ∀ n, n < 25 → ∀ s, s < 5 → bin n s ≤ 12870 := by decide +kernel
