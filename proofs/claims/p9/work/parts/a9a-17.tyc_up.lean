section Sa9a_17
variable {n d W Rn Kn Tn Hn Un S F mc : Nat} {x : Nat → Nat} {B1 B2 : Nat → Nat → Int32} {BJ : Nat → Nat → Int64}
variable {D D' E p a t v : Nat} {l : List Nat} {o : Int} {I1 I2 : Nat → Nat → Int32} {J1 J2 : Nat → Nat → Int64}
theorem tyc_up {M W W' H H' : Nat} (hW : W ≤ W') (hH : H ≤ H') : ∀ {a : (List (Nat × Nat))} {st s' : List Bool}, tyc M W H a st = some s' → tyc M W' H' a st = some s'
  | [], _, _, h => h
  | c :: r, st, s', h => by
    obtain ⟨s1, h1, h2, h3⟩ := tyc_cons h
    show (match tys1 W' H' c st with
      | some st' => if st'.length ≤ M then tyc M W' H' r st' else none
      | none => none) = _
    rw [tys1_up hW hH h1]
    show (if s1.length ≤ M then tyc M W' H' r s1 else none) = _
    rw [if_pos h2]
    exact tyc_up hW hH h3
end Sa9a_17

