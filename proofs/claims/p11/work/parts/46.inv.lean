/-! fronts as such; the two states together; what of a state is kept when only rough cells change -/
def lexlt (W : Nat) (f g : Nat → Int32) : Prop := ∃ w, w < W ∧ f w < g w ∧ ∀ u, u < w → f u = g u
/-- the front of the candidates C: n rows of losses F with their keys, in order -/
def FR (W : Nat) (C : (Nat → Int32) → Nat → Prop) (n : Nat) (F : Nat → Nat → Int32) (key : Nat → Nat) : Prop :=
  (∀ i j, i < j → j < n → lexlt W (F i) (F j)) ∧ (∀ i, i < n → C (F i) (key i)) ∧ (∀ i, i < n → ∀ f k, C f k → nm W f (F i) → nm W (F i) f) ∧
  (∀ i, i < n → ∀ f k, C f k → (∀ w, w < W → f w = F i w) → key i ≤ k) ∧ (∀ f k, C f k → ∃ i, i < n ∧ nm W (F i) f)
/-- what a set has of a wish -/
def hsu (I : Nat → Nat → Int32) (w m n : Nat) : Nat := ((List.range n).map (fun k => tbit m k * (I 5 (640 + 4 * k + w)).toNatClampNeg)).sum
theorem hsu_s {I : Nat → Nat → Int32} {w m n : Nat} : hsu I w m (n + 1) = hsu I w m n + tbit m n * (I 5 (640 + 4 * n + w)).toNatClampNeg := by
  unfold hsu
  rw [List.range_succ, List.map_append, List.sum_append]
  simp
def hsf (I : Nat → Nat → Int32) (Hn m w : Nat) : Nat := hsu I w m Hn
def ruT (I : Nat → Nat → Int32) (W Hn u m : Nat) : Prop := ∃ a, I 10 u = nI (rb I 10 u + a.length) ∧ rb I 10 u + a.length ≤ 900 ∧ cdC I 9 (rb I 10 u) a ∧ tyc 64 W Hn a [] = some [true] ∧ ev (hsf I Hn m) m a [] = [1]
/-- what the sets have that the tests allow -/
def aT (I : Nat → Nat → Int32) (W Hn Un : Nat) (v : Nat → Nat) : Prop := ∃ m, m < 2 ^ Hn ∧ (∀ u, u < Un → ruT I W Hn u m) ∧ v = fun w => hsu I w m Hn
def sC (I : Nat → Nat → Int32) (W Hn Un : Nat) (f : Nat → Int32) (k : Nat) : Prop := k = 0 ∧ ∃ v, aT I W Hn Un v ∧ ∀ w, w < W → f w = lo (I 4 w) (nI (v w))
def rlZ (W Hn Un : Nat) (I : Nat → Nat → Int32) (_J : Nat → Nat → Int64) : Prop :=
  I 0 9 = -3 ∨ (I 0 9 = -2 ∧ ∃ n F, 100 < n ∧ FR W (sC I W Hn Un) n F (fun _ => 0)) ∨
  ∃ n, n ≤ 100 ∧ I 0 9 = nI n ∧ I 44 0 = nI 2 ∧ I 44 1 = nI n ∧ FR W (sC I W Hn Un) n (fun k w => I 45 (4 * k + w)) (fun _ => 0)
def owL : List (List Nat) := [[8, 19, 9, 23], [23, 15, 18], [20, 15, 14, 11], [5, 9, 20], [7, 14, 9, 8, 20], [5, 12, 21, 18], [19, 19, 5, 12], [5, 18, 15, 13], [18, 15], [4, 14, 1], [20, 15, 14], [12, 12, 1], [19, 1, 8], [25, 14, 1, 13], [6, 15], [14, 9, 13], [24, 1, 13]]
def rlO (I : Nat → Nat → Int32) : Prop := ∀ n, n < 17 → I 12 n = nI (nmC (owL.getD n []))
def Rl (b W Rn Kn Tn Hn Un g : Nat) (I1 : Nat → Nat → Int32) (J1 : Nat → Nat → Int64) (I2 : Nat → Nat → Int32) (J2 : Nat → Nat → Int64) : Prop :=
  I2 0 12 = nI b ∧ Tl 1 b W Rn Kn Tn Hn Un I1 I2 J2 ∧ rlT I1 I2 ∧ rlF I1 I2 ∧ rlW W Rn I1 J1 ∧ rlH W I1 I2 J1 ∧ rlG W g I1 I2 ∧ rlK I1 I2 ∧ rlS Rn I1 I2 ∧ rlP W I1 I2 J1 J2 ∧ rlC J1 J2 ∧ rlO I1 ∧ rlZ W Hn Un I1 J1
-- rough cells and slots
def sc1 : List Nat := [14, 15, 16, 17, 18, 19, 20, 21, 22, 23, 28, 29, 30, 32, 34, 35, 36, 37, 41, 42, 48, 49, 57, 62]
def sl1 : List (Nat × Nat) := [(1, 0), (1, 9), (47, 0), (53, 5), (53, 6), (53, 7), (58, 4), (11, 2), (11, 4), (11, 5), (11, 6), (11, 7), (11, 8), (11, 9)]
def scJ1 : List Nat := [31, 43, 56, 58]
def sc2 : List Nat := [23, 24, 25, 26, 27, 28, 29, 30, 31, 32, 33, 34, 35, 40, 42, 45, 47]
def sl2 : List (Nat × Nat) := [(0, 2), (0, 3), (0, 4), (0, 5), (0, 6), (0, 8), (0, 9), (0, 34), (0, 35), (0, 41), (0, 42), (0, 44), (0, 45), (0, 48), (0, 56), (0, 71)]
def scJ2 : List Nat := [36, 46]
def slJ2 : List (Nat × Nat) := [(0, 7)]
def co1 (q j : Nat) : Bool := !(sc1.elem q || sl1.elem (q, j))
def coJ1 (q : Nat) : Bool := !(scJ1.elem q)
def co2 (q j : Nat) : Bool := !(sc2.elem q || sl2.elem (q, j))
def coJ2 (q j : Nat) : Bool := !(scJ2.elem q || slJ2.elem (q, j))
def k1 (I : Nat → Nat → Int32) : Nat → Nat → Int32 := fun q j => if co1 q j then I q j else 0
def kJ1 (J : Nat → Nat → Int64) : Nat → Nat → Int64 := fun q j => if coJ1 q then J q j else 0
def k2 (I : Nat → Nat → Int32) : Nat → Nat → Int32 := fun q j => if co2 q j then I q j else 0
def kJ2 (J : Nat → Nat → Int64) : Nat → Nat → Int64 := fun q j => if coJ2 q j then J q j else 0
section KS
variable {I I' : Nat → Nat → Int32} {J J' : Nat → Nat → Int64} {q j : Nat} {v : Int32} {u : Int64}
theorem k1_up (h : co1 q j = false) : k1 (mj_up I q j v) = k1 I := by
  funext a b
  unfold k1
  by_cases e : a = q ∧ b = j
  · rw [e.1, e.2, h]; rfl
  · rw [up_n (by omega)]
theorem kJ1_up (h : coJ1 q = false) : kJ1 (mj_up J q j u) = kJ1 J := by
  funext a b
  unfold kJ1
  by_cases e : a = q
  · rw [e, h]; rfl
  · rw [up_c e]
theorem k2_up (h : co2 q j = false) : k2 (mj_up I q j v) = k2 I := by
  funext a b
  unfold k2
  by_cases e : a = q ∧ b = j
  · rw [e.1, e.2, h]; rfl
  · rw [up_n (by omega)]
theorem kJ2_up (h : coJ2 q j = false) : kJ2 (mj_up J q j u) = kJ2 J := by
  funext a b
  unfold kJ2
  by_cases e : a = q ∧ b = j
  · rw [e.1, e.2, h]; rfl
  · rw [up_n (by omega)]
theorem k1_at (h : k1 I' = k1 I) (hc : co1 q j = true) : I' q j = I q j := by
  have e := congrFun (congrFun h q) j
  unfold k1 at e
  rwa [if_pos hc, if_pos hc] at e
theorem kJ1_at (h : kJ1 J' = kJ1 J) (hc : coJ1 q = true) : J' q = J q := by
  funext j
  have e := congrFun (congrFun h q) j
  unfold kJ1 at e
  rwa [if_pos hc, if_pos hc] at e
theorem k2_at (h : k2 I' = k2 I) (hc : co2 q j = true) : I' q j = I q j := by
  have e := congrFun (congrFun h q) j
  unfold k2 at e
  rwa [if_pos hc, if_pos hc] at e
theorem kJ2_at (h : kJ2 J' = kJ2 J) (hc : coJ2 q j = true) : J' q j = J q j := by
  have e := congrFun (congrFun h q) j
  unfold kJ2 at e
  rwa [if_pos hc, if_pos hc] at e
end KS
set_option maxRecDepth 100000 in
theorem Rl_k {b W Rn Kn Tn Hn Un g : Nat} {I1 I2 : Nat → Nat → Int32} {J1 J2 : Nat → Nat → Int64} : Rl b W Rn Kn Tn Hn Un g (k1 I1) (kJ1 J1) (k2 I2) (kJ2 J2) = Rl b W Rn Kn Tn Hn Un g I1 J1 I2 J2 := rfl
theorem Rl_same {b W Rn Kn Tn Hn Un g : Nat} {I1 I2 I1' I2' : Nat → Nat → Int32} {J1 J2 J1' J2' : Nat → Nat → Int64} (h : Rl b W Rn Kn Tn Hn Un g I1 J1 I2 J2) (e1 : k1 I1' = k1 I1) (e2 : kJ1 J1' = kJ1 J1) (e3 : k2 I2' = k2 I2) (e4 : kJ2 J2' = kJ2 J2) : Rl b W Rn Kn Tn Hn Un g I1' J1' I2' J2' := by
  rw [← Rl_k, e1, e2, e3, e4, Rl_k]
  exact h
def Inv (n : Nat) (g1 g2 : mj_H) : Prop := g1.2.2 = mj_R1 ∧ g2.2.2 = mj_R2 ∧ ∃ b W Rn Kn Tn Hn Un g, Rl b W Rn Kn Tn Hn Un g g1.1 g1.2.1 g2.1 g2.2.1
