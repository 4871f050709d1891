/-! the two states held against each other -/
def opc : Nat → Nat
  | 0 => 17
  | 1 => 13
  | 2 => 14
  | 3 => 11
  | 4 => 12
  | 5 => 43
  | 6 => 45
  | 7 => 42
  | 8 => 47
  | 9 => 15
  | 10 => 16
  | 11 => 60
  | 12 => 62
  | 13 => 61
  | 14 => 9
  | 15 => 8
  | _ => 10
def bnd (x : Int) : Int := if x > 1000000000 then 1000000000 else if x < -1000000000 then -1000000000 else x
/-- a set's number of things, and a thing's place in it -/
def tbit (m k : Nat) : Nat := m / 2 ^ k % 2
def leafv (hs : Nat → Nat) (m op v : Nat) : Int :=
  match op with
  | 0 => v
  | 1 => pcn 12 m
  | 2 => hs v
  | 3 => 1
  | _ => tbit m v
def twov (op : Nat) (a b : Int) : Int :=
  match op with
  | 5 => bnd (a + b)
  | 6 => bnd (a - b)
  | 7 => bnd (a * b)
  | 8 => if b = 0 then 0 else Int.fdiv a b
  | 9 => if a < b then a else b
  | 10 => if a < b then b else a
  | 11 => if a < b then 1 else 0
  | 12 => if b < a then 1 else 0
  | 13 => if a = b then 1 else 0
  | 14 => if a ≠ 0 ∧ b ≠ 0 then 1 else 0
  | _ => if a ≠ 0 ∨ b ≠ 0 then 1 else 0
/-- one step on a stack -/
def ev1 (hs : Nat → Nat) (m : Nat) (st : List Int) (c : Nat × Nat) : List Int :=
  if c.1 ≤ 4 then leafv hs m c.1 c.2 :: st
  else if c.1 = 16 then (match st with
    | a :: r => (1 - a) :: r
    | [] => [])
  else match st with
    | b :: a :: r => twov c.1 a b :: r
    | _ => []
def ev (hs : Nat → Nat) (m : Nat) (c : List (Nat × Nat)) (st : List Int) : List Int := c.foldl (ev1 hs m) st
/-- the kinds on the stack (true: a test) behind a step -/
def tys1 (W H : Nat) (c : Nat × Nat) (st : List Bool) : Option (List Bool) :=
  if c.1 ≤ 4 then (if (c.1 = 0 → c.2 ≤ 9999) ∧ (c.1 = 2 → c.2 < W) ∧ (c.1 = 4 → c.2 < H) ∧ (c.1 = 1 ∨ c.1 = 3 → c.2 = 0) then some (decide (3 ≤ c.1) :: st) else none)
  else if c.2 ≠ 0 then none
  else if c.1 = 16 then (match st with
    | true :: r => some (true :: r)
    | _ => none)
  else if c.1 ≤ 13 then (match st with
    | false :: false :: r => some (decide (11 ≤ c.1) :: r)
    | _ => none)
  else if c.1 ≤ 15 then (match st with
    | true :: true :: r => some (true :: r)
    | _ => none)
  else none
/-- every step finds what it works on, and no more than M stand on the stack -/
def tyc (M W H : Nat) : List (Nat × Nat) → List Bool → Option (List Bool)
  | [], st => some st
  | c :: r, st => match tys1 W H c st with
    | some st' => if st'.length ≤ M then tyc M W H r st' else none
    | none => none
/-- two rows of steps that come to the same, of a test -/
def sgB (M1 M2 W H : Nat) (a1 a2 : List (Nat × Nat)) : Prop := tyc M1 W H a1 [] = some [true] ∧ tyc M2 W H a2 [] = some [true] ∧ ∀ (hs : Nat → Nat) (m : Nat), ev hs m a1 [] = ev hs m a2 []
def cdC (I : Nat → Nat → Int32) (c p : Nat) (a : List (Nat × Nat)) : Prop := ∀ k x, a[k]? = some x → I c (p + k) = nI (opc x.1 * 16384 + x.2)
def cdR (I : Nat → Nat → Int32) (p : Nat) (a : List (Nat × Nat)) : Prop := ∀ k x, a[k]? = some x → I 21 (p + k) = nI x.1 ∧ I 22 (p + k) = nI x.2
/-- where rule u of the class begins -/
def rb (I : Nat → Nat → Int32) (c : Nat) : Nat → Nat
  | 0 => 0
  | u + 1 => (I c u).toNatClampNeg
-- names: letters 1 .. 26
def nmC : List Nat → Nat
  | [] => 0
  | x :: r => nmC r * 32 + x
def nmR : List Nat → Nat
  | [] => 0
  | x :: r => nmR r * 256 + (x + 96)
/-- the same name, its letters from the last one on -/
def nmq (x : Int32) (y : Int64) : Prop := ∃ l : List Nat, 1 ≤ l.length ∧ l.length ≤ 6 ∧ (∀ a ∈ l, 1 ≤ a ∧ a ≤ 26) ∧ x = nI (nmC l) ∧ y = lN (nmR l)
def amt (x : Int32) : Prop := ∃ n, n ≤ 9999 ∧ x = nI n
/-- the numbers of a tale: cells from c on; c + 1 counts, c + 2 names, c + 3 more, c + 4 amounts, c + 5 spreads, c + 6 from, c + 7 to, c + 8 steps, c + 9 ends of rules -/
def tlN (c b W Rn Kn Tn Hn Un : Nat) (I1 I2 : Nat → Nat → Int32) : Prop :=
  I1 (c + 1) 0 = nI W ∧ I1 (c + 1) 1 = nI Rn ∧ I1 (c + 1) 2 = nI Kn ∧ I1 (c + 1) 3 = nI Tn ∧ I1 (c + 1) 4 = nI Hn ∧ I1 (c + 1) 5 = nI Un ∧
  I2 2 b = nI W ∧ I2 3 b = nI Rn ∧ I2 4 b = nI Kn ∧ I2 5 b = nI Tn ∧ I2 6 b = nI Hn ∧ I2 7 b = nI Un ∧
  b < 2 ∧ W ≤ 4 ∧ Rn ≤ 40 ∧ Kn ≤ 10 ∧ Tn ≤ 24 ∧ Hn ≤ 12 ∧ Un ≤ 12
def tlM (c b W : Nat) (I1 I2 : Nat → Nat → Int32) : Prop := ∀ w, w < W → I2 9 (4 * b + w) = I1 (c + 3) w ∧ (I1 (c + 3) w = 0 ∨ I1 (c + 3) w = 1)
def tlR (c b W Rn : Nat) (I1 I2 : Nat → Nat → Int32) : Prop := ∀ r, r < Rn → ∀ w, w < W → I2 11 (4 * (40 * b + r) + w) = I1 (c + 4) (160 + 4 * r + w) ∧ (I1 (c + 4) (160 + 4 * r + w) = -1 ∨ amt (I1 (c + 4) (160 + 4 * r + w))) ∧ I2 12 (4 * (40 * b + r) + w) = I1 (c + 5) (4 * r + w) ∧ amt (I1 (c + 5) (4 * r + w))
def tlT (c b W Kn Tn : Nat) (I1 I2 : Nat → Nat → Int32) : Prop := ∀ t, t < Tn → I2 14 (24 * b + t) = I1 (c + 6) t ∧ I2 15 (24 * b + t) = I1 (c + 7) t ∧ (∃ x y, x < Kn ∧ y < Kn ∧ x ≠ y ∧ I1 (c + 6) t = nI x ∧ I1 (c + 7) t = nI y) ∧ ∀ w, w < W → I2 16 (4 * (24 * b + t) + w) = I1 (c + 4) (480 + 4 * t + w) ∧ amt (I1 (c + 4) (480 + 4 * t + w))
def tlH (c b W Hn : Nat) (I1 I2 : Nat → Nat → Int32) : Prop := ∀ k, k < Hn → ∀ w, w < W → I2 18 (4 * (12 * b + k) + w) = I1 (c + 4) (640 + 4 * k + w) ∧ amt (I1 (c + 4) (640 + 4 * k + w))
def tlA (c b W Rn Kn Hn : Nat) (I1 : Nat → Nat → Int32) (J2 : Nat → Nat → Int64) : Prop := (∀ k, k < W → nmq (I1 (c + 2) k) (J2 8 (4 * b + k))) ∧ (∀ k, k < Rn → nmq (I1 (c + 2) (40 + k)) (J2 10 (40 * b + k))) ∧ (∀ k, k < Kn → nmq (I1 (c + 2) (80 + k)) (J2 13 (10 * b + k))) ∧ (∀ k, k < Hn → nmq (I1 (c + 2) (160 + k)) (J2 17 (12 * b + k)))
def tlU (c b W Hn Un : Nat) (I1 I2 : Nat → Nat → Int32) : Prop := ∀ u, u < Un → ∃ (f : Nat) (a1 a2 : List (Nat × Nat)), sgB 64 950 W Hn a1 a2 ∧ I1 (c + 9) u = nI (rb I1 (c + 9) u + a1.length) ∧ rb I1 (c + 9) u + a1.length ≤ 900 ∧ cdC I1 (c + 8) (rb I1 (c + 9) u) a1 ∧
  I2 19 (12 * b + u) = nI f ∧ I2 20 (12 * b + u) = nI (f + a2.length) ∧ f + a2.length ≤ 900 ∧ cdR I2 (900 * b + f) a2
def Tl (c b W Rn Kn Tn Hn Un : Nat) (I1 I2 : Nat → Nat → Int32) (J2 : Nat → Nat → Int64) : Prop :=
  tlN c b W Rn Kn Tn Hn Un I1 I2 ∧ tlM c b W I1 I2 ∧ tlR c b W Rn I1 I2 ∧ tlT c b W Kn Tn I1 I2 ∧ tlH c b W Hn I1 I2 ∧ tlA c b W Rn Kn Hn I1 J2 ∧ tlU c b W Hn Un I1 I2
-- the rest
def rlT (I1 I2 : Nat → Nat → Int32) : Prop := I2 1 = I1 13 ∧ (∀ j, ∃ x, x < 256 ∧ I1 13 j = nI x) ∧ ∃ t, t ≤ 900 ∧ I1 0 0 = nI t ∧ I2 0 1 = nI t
def rlF (I1 I2 : Nat → Nat → Int32) : Prop := I2 0 10 = I1 11 10 ∧ I2 0 11 = I1 11 11
def ows : List Nat := [0]
/-- the class' table of rows -/
def rlW (W Rn : Nat) (I : Nat → Nat → Int32) (J : Nat → Nat → Int64) : Prop :=
  I 24 0 = nI Rn ∧ I 24 1 = nI W ∧ (∀ r, r < Rn → (lbit (J 24 5) r ↔ ∃ w, w < W ∧ I 5 (160 + 4 * r + w) = -1)) ∧
  (∀ r, r < Rn → ∀ w, w < W → I 25 (4 * r + w) = lo (I 4 w) (I 5 (160 + 4 * r + w)) ∧ I 26 (4 * r + w) = lo (I 4 w) (I 5 (160 + 4 * r + w)) - I 6 (4 * r + w) ∧ I 27 (4 * r + w) = lo (I 4 w) (I 5 (160 + 4 * r + w)) + I 6 (4 * r + w)) ∧
  J 24 6 = bs Rn (ub Rn (lbit (J 24 5)) (fun o r => bt W (fun w => I 25 (4 * o + w)) (fun w => I 25 (4 * r + w))))
def rlH (W : Nat) (I1 I2 : Nat → Nat → Int32) (_J1 : Nat → Nat → Int64) : Prop :=
  (I1 38 0 = -1 ∧ I1 38 1 = nI 0 ∧ I2 0 58 = -1) ∨
  ∃ kd n, kd < 3 ∧ n ≤ 100 ∧ I1 38 0 = nI kd ∧ I1 38 1 = nI n ∧ I2 0 58 = nI n ∧ I2 0 59 = nI kd ∧ 1 ≤ W ∧
    (∀ k, k < n → ∀ w, w < W → I2 37 (4 * k + w) = I1 39 (4 * k + w) ∧ ∃ x : Int, -1000000 ≤ x ∧ x ≤ 1000000 ∧ I1 39 (4 * k + w) = iI x) ∧
    (kd = 1 → ∀ k, k < n → ∃ x, x ≤ 10 ∧ I2 38 k = nI x)
def rlG (W g : Nat) (I1 I2 : Nat → Nat → Int32) : Prop := 1 ≤ g ∧ g ≤ 12 ∧ I1 51 0 = nI g ∧ I2 0 63 = nI g ∧ I1 51 1 = nI W ∧ I1 51 2 = nI (wl W g).length ∧ ∀ n r, (wl W g)[n]? = some r → ∀ w x, r[w]? = some x → I1 52 (4 * n + w) = nI x
def rlK (I1 I2 : Nat → Nat → Int32) : Prop := ∃ n, n ≤ 16 ∧ I1 47 4 = nI n ∧ I2 0 65 = nI n ∧ ∀ i, i < n → I2 41 i = I1 50 i
def rlS (Rn : Nat) (I1 I2 : Nat → Nat → Int32) : Prop := ∃ n, n ≤ 12 ∧ I1 53 0 = nI n ∧ I2 0 68 = nI n ∧ ∀ i, i < n → I2 43 i = I1 54 i ∧ I2 44 i = I1 55 i ∧ ∃ x y, x < Rn ∧ y < Rn ∧ I1 54 i = nI x ∧ I1 55 i = nI y
def rlP (W : Nat) (I1 I2 : Nat → Nat → Int32) (J1 J2 : Nat → Nat → Int64) : Prop := ∀ p, p < 6 → J2 49 p = J1 61 p ∧ (∀ w, w < 4 → ∃ x, x ≤ 9 ∧ I2 48 (4 * p + w) = nI x ∧ (W ≤ w → x = 0)) ∧
  ((I1 60 p = 0 ∧ ∀ w, w < 4 → I2 48 (4 * p + w) = nI 0) ∨ (I1 60 p = 1 ∧ (∀ w, w < 4 → I1 59 (4 * p + w) = I2 48 (4 * p + w)) ∧ ∃ w, w < 4 ∧ I2 48 (4 * p + w) ≠ nI 0))
def rlC (J1 J2 : Nat → Nat → Int64) : Prop := J2 0 46 = J1 0 14 ∧ J2 0 47 = J1 0 15
