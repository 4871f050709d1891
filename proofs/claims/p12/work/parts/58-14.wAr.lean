/-- the class' rows hold the list L -/
def wAr (g W : Nat) (L : List (List Nat)) (I : Nat → Nat → Int32) : Prop := I 51 0 = nI g ∧ I 51 1 = nI W ∧ I 51 2 = nI L.length ∧ ∀ n r, L[n]? = some r → ∀ w, w < W → I 52 (4 * n + w) = nI (r.getD w 0)
