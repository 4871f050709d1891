/-! weighings: the list of them, in the order of rows, and as a search through numbers finds them -/
/-- all rows of W numbers with the sum s, lesser ones first -/
def wl : Nat → Nat → List (List Nat)
  | 0, _ => []
  | 1, s => [[s]]
  | k + 2, s => (List.range (s + 1)).flatMap (fun a => (wl (k + 1) (s - a)).map (fun r => a :: r))
/-- the digits of x, the last place first -/
def wdig (B : Nat) : Nat → Nat → List Nat
  | 0, _ => []
  | k + 1, x => wdig B k (x / B) ++ [x % B]
def wval (g W x : Nat) : Option (List Nat) := if (wdig (g + 1) (W - 1) x).sum ≤ g then some (wdig (g + 1) (W - 1) x ++ [g - (wdig (g + 1) (W - 1) x).sum]) else none
def wnum (g : Nat) : Nat → Nat
  | 0 => 0
  | k + 1 => (g + 1) ^ k
def wck (g W : Nat) : Bool := decide ((List.range (wnum g W)).filterMap (wval g W) = wl W g) && decide ((wl W g).length ≤ 455) && (wl W g).all (fun r => decide (r.length = W))
theorem wck_all : ∀ g, g < 13 → ∀ W, W < 5 → wck g W = true := by decide +kernel
