/-! statements: the two states while a text is read -/
/-- outside of what bank d holds -/
def oub (d q j : Nat) : Prop := ((q < 2 ∨ 7 < q) ∨ j ≠ d) ∧ ((q ≠ 8 ∧ q ≠ 9) ∨ j < 4 * d ∨ 4 * d + 4 ≤ j) ∧ (q ≠ 10 ∨ j < 40 * d ∨ 40 * d + 40 ≤ j) ∧ ((q ≠ 11 ∧ q ≠ 12) ∨ j < 160 * d ∨ 160 * d + 160 ≤ j) ∧ (q ≠ 13 ∨ j < 10 * d ∨ 10 * d + 10 ≤ j) ∧ ((q ≠ 14 ∧ q ≠ 15) ∨ j < 24 * d ∨ 24 * d + 24 ≤ j) ∧ (q ≠ 16 ∨ j < 96 * d ∨ 96 * d + 96 ≤ j) ∧ ((q ≠ 17 ∧ q ≠ 19 ∧ q ≠ 20) ∨ j < 12 * d ∨ 12 * d + 12 ≤ j) ∧ (q ≠ 18 ∨ j < 48 * d ∨ 48 * d + 48 ≤ j) ∧ ((q ≠ 21 ∧ q ≠ 22) ∨ j < 900 * d ∨ 900 * d + 900 ≤ j)
def tsz (j : Nat) : Prop := (j = 1 ∨ 10 ≤ j) ∧ j ≠ 34 ∧ j ≠ 35 ∧ j ≠ 41 ∧ j ≠ 42 ∧ j ≠ 44 ∧ j ≠ 45
/-- what stays while a text is read -/
def tfC (B I : (Nat → Nat → Int32)) : Prop := ∀ q j, q ≠ 11 → (q < 14 ∨ 23 < q) → I q j = B q j
def tfR (d : Nat) (B I : (Nat → Nat → Int32)) : Prop := ∀ q j, (q ≠ 0 ∨ tsz j) → (q < 23 ∨ 28 < q) → oub d q j → I q j = B q j
def tfJ (d : Nat) (B J : (Nat → Nat → Int64)) : Prop := ∀ q j, (q ≠ 0 ∨ j ≠ 7) → oub d q j → J q j = B q j
def tfA (d : Nat) (B1 B2 : (Nat → Nat → Int32)) (BJ : (Nat → Nat → Int64)) (I1 I2 : (Nat → Nat → Int32)) (J2 : (Nat → Nat → Int64)) : Prop := tfC B1 I1 ∧ tfR d B2 I2 ∧ tfJ d BJ J2
/-- the rules that have been read -/
def tlV (d W Hn Un S F : Nat) (I1 I2 : (Nat → Nat → Int32)) : Prop := ∀ u, u < Un → ∃ (f : Nat) (a1 a2 : (List (Nat × Nat))), sgB 64 950 W Hn a1 a2 ∧ I1 23 u = nI (rb I1 23 u + a1.length) ∧ rb I1 23 u + a1.length ≤ S ∧ cdC I1 22 (rb I1 23 u) a1 ∧
  I2 19 (12 * d + u) = nI f ∧ I2 20 (12 * d + u) = nI (f + a2.length) ∧ f + a2.length ≤ F ∧ cdR I2 (900 * d + f) a2
def TDo (d W Rn Kn Tn Hn Un S F : Nat) (I1 I2 : (Nat → Nat → Int32)) (J2 : (Nat → Nat → Int64)) : Prop := tlM 14 d W I1 I2 ∧ tlR 14 d W Rn I1 I2 ∧ tlT 14 d W Kn Tn I1 I2 ∧ tlH 14 d W Hn I1 I2 ∧ tlA 14 d W Rn Kn Hn I1 J2 ∧ tlV d W Hn Un S F I1 I2
def TD (d W Rn Kn Tn Hn Un S F : Nat) (I1 I2 : (Nat → Nat → Int32)) (J2 : (Nat → Nat → Int64)) : Prop := I2 0 35 = nI d ∧ I1 14 9 = nI S ∧ S = rb I1 23 Un ∧ I2 0 34 = nI F ∧ tlN 14 d W Rn Kn Tn Hn Un I1 I2 ∧ TDo d W Rn Kn Tn Hn Un S F I1 I2 J2
def RS (n : Nat) (x : Nat → Nat) (d : Nat) (B1 B2 : (Nat → Nat → Int32)) (BJ : (Nat → Nat → Int64)) (W Rn Kn Tn Hn Un S F mc p a t v : Nat) (l : List Nat) (o : Int) (I1 I2 : (Nat → Nat → Int32)) (J2 : (Nat → Nat → Int64)) : Prop := tkR n x p a t v l o I1 I2 J2 ∧ tfA d B1 B2 BJ I1 I2 J2 ∧ TD d W Rn Kn Tn Hn Un S F I1 I2 J2 ∧ S ≤ p ∧ F ≤ p ∧ I1 14 0 = nI mc ∧ I1 11 9 = nI 0
/-- what the class needs behind a fault -/
def DSB (I : (Nat → Nat → Int32)) : Prop := (∃ c, c ≤ 900 ∧ I 14 9 = nI c) ∧ (∃ w, w ≤ 4 ∧ I 15 0 = nI w) ∧ ∃ u, u ≤ 12 ∧ I 15 5 = nI u
def DS (d : Nat) (B1 B2 : (Nat → Nat → Int32)) (BJ : (Nat → Nat → Int64)) (I1 I2 : (Nat → Nat → Int32)) (J2 : (Nat → Nat → Int64)) : Prop := (∃ k p, tkD k p I1 I2) ∧ tfA d B1 B2 BJ I1 I2 J2 ∧ DSB I1
/-- where data lie -/
def inC (W Rn Kn Tn Hn Un S q j : Nat) : Prop := (q = 16 ∧ (j < W ∨ (40 ≤ j ∧ j < 40 + Rn) ∨ (80 ≤ j ∧ j < 80 + Kn) ∨ (160 ≤ j ∧ j < 160 + Hn))) ∨ (q = 17 ∧ j < W) ∨ (q = 18 ∧ ((160 ≤ j ∧ j < 160 + 4 * Rn) ∨ (480 ≤ j ∧ j < 480 + 4 * Tn) ∨ (640 ≤ j ∧ j < 640 + 4 * Hn))) ∨ (q = 19 ∧ j < 4 * Rn) ∨ ((q = 20 ∨ q = 21) ∧ j < Tn) ∨ (q = 22 ∧ j < S) ∨ (q = 23 ∧ j < Un)
def inR (d W Rn Tn Hn Un F q j : Nat) : Prop := (q = 9 ∧ j < 4 * d + W) ∨ ((q = 11 ∨ q = 12) ∧ j < 160 * d + 4 * Rn) ∨ ((q = 14 ∨ q = 15) ∧ j < 24 * d + Tn) ∨ (q = 16 ∧ j < 96 * d + 4 * Tn) ∨ (q = 18 ∧ j < 48 * d + 4 * Hn) ∨ ((q = 19 ∨ q = 20) ∧ j < 12 * d + Un) ∨ ((q = 21 ∨ q = 22) ∧ j < 900 * d + F)
def inJ (d W Rn Kn Hn q j : Nat) : Prop := (q = 8 ∧ j < 4 * d + W) ∨ (q = 10 ∧ j < 40 * d + Rn) ∨ (q = 13 ∧ j < 10 * d + Kn) ∨ (q = 17 ∧ j < 12 * d + Hn)
section Sa9a
variable {n d W Rn Kn Tn Hn Un S F mc : Nat} {x : Nat → Nat} {B1 B2 : Nat → Nat → Int32} {BJ : Nat → Nat → Int64}
variable {D D' E p a t v : Nat} {l : List Nat} {o : Int} {I1 I2 : Nat → Nat → Int32} {J1 J2 : Nat → Nat → Int64}
theorem rb_cg {I I' : (Nat → Nat → Int32)} {c : Nat} : ∀ {u : Nat}, (∀ j, j < u → I' c j = I c j) → rb I' c u = rb I c u
  | 0, _ => rfl
  | u + 1, h => by
    show (I' c u).toNatClampNeg = (I c u).toNatClampNeg
    rw [h u (by omega)]
theorem tys1_up {W W' H H' : Nat} {c : Nat × Nat} {st s' : List Bool} (hW : W ≤ W') (hH : H ≤ H') (h : tys1 W H c st = some s') : tys1 W' H' c st = some s' := by
  unfold tys1 at h ⊢
  by_cases c4 : c.1 ≤ 4
  · rw [if_pos c4] at h ⊢
    by_cases q : (c.1 = 0 → c.2 ≤ 9999) ∧ (c.1 = 2 → c.2 < W) ∧ (c.1 = 4 → c.2 < H) ∧ (c.1 = 1 ∨ c.1 = 3 → c.2 = 0)
    · rw [if_pos q] at h
      rw [if_pos ⟨q.1, fun z => Nat.lt_of_lt_of_le (q.2.1 z) hW, fun z => Nat.lt_of_lt_of_le (q.2.2.1 z) hH, q.2.2.2⟩]
      exact h
    · rw [if_neg q] at h
      cases h
  · rw [if_neg c4] at h ⊢
    exact h
theorem tyc_up {M W W' H H' : Nat} (hW : W ≤ W') (hH : H ≤ H') : ∀ {a : (List (Nat × Nat))} {st s' : List Bool}, tyc M W H a st = some s' → tyc M W' H' a st = some s'
  | [], _, _, h => h
  | c :: r, st, s', h => by
    obtain ⟨s1, h1, h2, h3⟩ := tyc_cons h
    show (match tys1 W' H' c st with
      | some st' => if st'.length ≤ M then tyc M W' H' r st' else none
      | none => none) = _
    rw [tys1_up hW hH h1]
    show (if s1.length ≤ M then tyc M W' H' r s1 else none) = _
    rw [if_pos h2]
    exact tyc_up hW hH h3
theorem sgB_up {W W' H H' : Nat} {a1 a2 : (List (Nat × Nat))} (hW : W ≤ W') (hH : H ≤ H') (h : sgB 64 950 W H a1 a2) : sgB 64 950 W' H' a1 a2 := ⟨tyc_up hW hH h.1, tyc_up hW hH h.2.1, h.2.2⟩
theorem tlV_up {W' Hn' S' F' : Nat} {I1' I2' : (Nat → Nat → Int32)} (h : tlV d W Hn Un S F I1 I2) (hW : W ≤ W') (hH : Hn ≤ Hn') (hS : S ≤ S') (hF : F ≤ F') (e1 : ∀ q j, (q = 22 ∧ j < S) ∨ (q = 23 ∧ j < Un) → I1' q j = I1 q j) (e2 : ∀ q j, ((q = 19 ∨ q = 20) ∧ j < 12 * d + Un) ∨ ((q = 21 ∨ q = 22) ∧ j < 900 * d + F) → I2' q j = I2 q j) : tlV d W' Hn' Un S' F' I1' I2' := fun u hu => by
  obtain ⟨f, a1, a2, g1, g2, g3, g4, g5, g6, g7, g8⟩ := h u hu
  have eb : rb I1' 23 u = rb I1 23 u := rb_cg fun j hj => e1 23 j (Or.inr ⟨rfl, by omega⟩)
  refine ⟨f, a1, a2, sgB_up hW hH g1, ?_, ?_, ?_, ?_, ?_, by omega, fun k y hk => ?_⟩
  · rw [eb, e1 23 u (Or.inr ⟨rfl, hu⟩)]; exact g2
  · rw [eb]; omega
  · rw [eb]
    intro k y hk
    have hl := (List.getElem?_eq_some_iff.mp hk).1
    rw [e1 22 _ (Or.inl ⟨rfl, by omega⟩)]
    exact g4 k y hk
  · rw [e2 19 _ (Or.inl ⟨Or.inl rfl, by omega⟩)]; exact g5
  · rw [e2 20 _ (Or.inl ⟨Or.inr rfl, by omega⟩)]; exact g6
  · have hl := (List.getElem?_eq_some_iff.mp hk).1
    rw [e2 21 _ (Or.inr ⟨Or.inl rfl, by omega⟩), e2 22 _ (Or.inr ⟨Or.inr rfl, by omega⟩)]
    exact g8 k y hk
theorem TDo_up {I1' I2' : (Nat → Nat → Int32)} {J2' : (Nat → Nat → Int64)} (h : TDo d W Rn Kn Tn Hn Un S F I1 I2 J2) (hW : W ≤ 4) (cC : ∀ q j, inC W Rn Kn Tn Hn Un S q j → I1' q j = I1 q j) (cR : ∀ q j, inR d W Rn Tn Hn Un F q j → I2' q j = I2 q j) (cJ : ∀ q j, inJ d W Rn Kn Hn q j → J2' q j = J2 q j) : TDo d W Rn Kn Tn Hn Un S F I1' I2' J2' := by
  obtain ⟨hM, hR, hT, hH, ⟨a1, a2, a3, a4⟩, hV⟩ := h
  refine ⟨fun w hw => ?_, fun r hr w hw => ?_, fun t ht => ?_, fun k hk w hw => ?_, ⟨fun k hk => ?_, fun k hk => ?_, fun k hk => ?_, fun k hk => ?_⟩, ?_⟩
  · have e1 : I1' (14 + 3) w = I1 (14 + 3) w := cC 17 w (Or.inr (Or.inl ⟨rfl, by omega⟩))
    rw [e1, cR 9 _ (Or.inl ⟨rfl, by omega⟩)]
    exact hM w hw
  · have e1 : I1' (14 + 4) (160 + 4 * r + w) = I1 (14 + 4) (160 + 4 * r + w) := cC 18 _ (Or.inr (Or.inr (Or.inl ⟨rfl, Or.inl (by omega)⟩)))
    have e2 : I1' (14 + 5) (4 * r + w) = I1 (14 + 5) (4 * r + w) := cC 19 _ (Or.inr (Or.inr (Or.inr (Or.inl ⟨rfl, by omega⟩))))
    rw [e1, e2, cR 11 _ (Or.inr (Or.inl ⟨Or.inl rfl, by omega⟩)), cR 12 _ (Or.inr (Or.inl ⟨Or.inr rfl, by omega⟩))]
    exact hR r hr w hw
  · have e1 : I1' (14 + 6) t = I1 (14 + 6) t := cC 20 _ (Or.inr (Or.inr (Or.inr (Or.inr (Or.inl ⟨Or.inl rfl, by omega⟩)))))
    have e2 : I1' (14 + 7) t = I1 (14 + 7) t := cC 21 _ (Or.inr (Or.inr (Or.inr (Or.inr (Or.inl ⟨Or.inr rfl, by omega⟩)))))
    obtain ⟨g1, g2, g3, g4⟩ := hT t ht
    rw [e1, e2, cR 14 _ (Or.inr (Or.inr (Or.inl ⟨Or.inl rfl, by omega⟩))), cR 15 _ (Or.inr (Or.inr (Or.inl ⟨Or.inr rfl, by omega⟩)))]
    refine ⟨g1, g2, g3, fun w hw => ?_⟩
    have e3 : I1' (14 + 4) (480 + 4 * t + w) = I1 (14 + 4) (480 + 4 * t + w) := cC 18 _ (Or.inr (Or.inr (Or.inl ⟨rfl, Or.inr (Or.inl (by omega))⟩)))
    rw [e3, cR 16 _ (Or.inr (Or.inr (Or.inr (Or.inl ⟨rfl, by omega⟩))))]
    exact g4 w hw
  · have e1 : I1' (14 + 4) (640 + 4 * k + w) = I1 (14 + 4) (640 + 4 * k + w) := cC 18 _ (Or.inr (Or.inr (Or.inl ⟨rfl, Or.inr (Or.inr (by omega))⟩)))
    rw [e1, cR 18 _ (Or.inr (Or.inr (Or.inr (Or.inr (Or.inl ⟨rfl, by omega⟩)))))]
    exact hH k hk w hw
  · have e1 : I1' (14 + 2) k = I1 (14 + 2) k := cC 16 _ (Or.inl ⟨rfl, Or.inl (by omega)⟩)
    rw [e1, cJ 8 _ (Or.inl ⟨rfl, by omega⟩)]
    exact a1 k hk
  · have e1 : I1' (14 + 2) (40 + k) = I1 (14 + 2) (40 + k) := cC 16 _ (Or.inl ⟨rfl, Or.inr (Or.inl (by omega))⟩)
    rw [e1, cJ 10 _ (Or.inr (Or.inl ⟨rfl, by omega⟩))]
    exact a2 k hk
  · have e1 : I1' (14 + 2) (80 + k) = I1 (14 + 2) (80 + k) := cC 16 _ (Or.inl ⟨rfl, Or.inr (Or.inr (Or.inl (by omega)))⟩)
    rw [e1, cJ 13 _ (Or.inr (Or.inr (Or.inl ⟨rfl, by omega⟩)))]
    exact a3 k hk
  · have e1 : I1' (14 + 2) (160 + k) = I1 (14 + 2) (160 + k) := cC 16 _ (Or.inl ⟨rfl, Or.inr (Or.inr (Or.inr (by omega)))⟩)
    rw [e1, cJ 17 _ (Or.inr (Or.inr (Or.inr ⟨rfl, by omega⟩)))]
    exact a4 k hk
  · exact tlV_up hV (Nat.le_refl _) (Nat.le_refl _) (Nat.le_refl _) (Nat.le_refl _) (fun q j z => cC q j (Or.inr (Or.inr (Or.inr (Or.inr (Or.inr z)))))) (fun q j z => cR q j (Or.inr (Or.inr (Or.inr (Or.inr (Or.inr z))))))
theorem lxf_F {I I' : (Nat → Nat → Int32)} (h : lxf I I') : lxF I I' := fun q j z => h q j (by omega)
theorem lxh_F {I I' : (Nat → Nat → Int32)} (h : lxh I I') : lxF I I' := fun q j z => h q j (by omega)
theorem tfA_lx {I1' I2' : (Nat → Nat → Int32)} {J2' : (Nat → Nat → Int64)} (h : tfA d B1 B2 BJ I1 I2 J2) (e1 : lxF I1 I1') (e2 : lxg I2 I2') (e3 : lxgJ J2 J2') : tfA d B1 B2 BJ I1' I2' J2' := by
  obtain ⟨h1, h2, h3⟩ := h
  refine ⟨fun q j z1 z2 => ?_, fun q j z1 z2 z3 => ?_, fun q j z1 z2 => ?_⟩
  · rw [e1 q j (Or.inl z1)]; exact h1 q j z1 z2
  · rw [e2 q j (by unfold tsz at z1; omega)]; exact h2 q j z1 z2 z3
  · rw [e3 q j z1]; exact h3 q j z1 z2
theorem TD_lx {I1' I2' : (Nat → Nat → Int32)} {J2' : (Nat → Nat → Int64)} (h : TD d W Rn Kn Tn Hn Un S F I1 I2 J2) (e1 : lxF I1 I1') (e2 : lxg I2 I2') (e3 : lxgJ J2 J2') : TD d W Rn Kn Tn Hn Un S F I1' I2' J2' := by
  obtain ⟨h1, h2, h3, h4, h5, h6⟩ := h
  have hW : W ≤ 4 := by
    obtain ⟨-, -, -, -, -, -, -, -, -, -, -, -, -, q, -⟩ := h5
    exact q
  have c1 : ∀ q j, q ≠ 11 → I1' q j = I1 q j := fun q j z => e1 q j (Or.inl z)
  refine ⟨?_, ?_, ?_, ?_, ?_, TDo_up h6 hW (fun q j z => c1 q j (by unfold inC at z; omega)) (fun q j z => e2 q j (by unfold inR at z; omega)) (fun q j z => e3 q j (by unfold inJ at z; omega))⟩
  · rw [e2 0 35 (by decide)]; exact h1
  · rw [c1 14 9 (by decide)]; exact h2
  · rw [h3]; exact (rb_cg fun j _ => c1 23 j (by decide)).symm
  · rw [e2 0 34 (by decide)]; exact h4
  · unfold tlN at h5 ⊢
    rw [c1 (14 + 1) 0 (by decide), c1 (14 + 1) 1 (by decide), c1 (14 + 1) 2 (by decide), c1 (14 + 1) 3 (by decide), c1 (14 + 1) 4 (by decide), c1 (14 + 1) 5 (by decide), e2 2 d (Or.inl (by decide)), e2 3 d (Or.inl (by decide)), e2 4 d (Or.inl (by decide)), e2 5 d (Or.inl (by decide)), e2 6 d (Or.inl (by decide)), e2 7 d (Or.inl (by decide))]
    exact h5
theorem DS_mk {I1' I2' : (Nat → Nat → Int32)} {J2' : (Nat → Nat → Int64)} (h : tfA d B1 B2 BJ I1 I2 J2) (hb : DSB I1) (e1 : lxF I1 I1') (e2 : lxg I2 I2') (e3 : lxgJ J2 J2') (hd : ∃ k p, tkD k p I1' I2') : DS d B1 B2 BJ I1' I2' J2' := by
  refine ⟨hd, tfA_lx h e1 e2 e3, ?_⟩
  obtain ⟨⟨c, c1, c2⟩, ⟨w, w1, w2⟩, ⟨u, u1, u2⟩⟩ := hb
  exact ⟨⟨c, c1, by rw [e1 14 9 (by decide)]; exact c2⟩, ⟨w, w1, by rw [e1 15 0 (by decide)]; exact w2⟩, ⟨u, u1, by rw [e1 15 5 (by decide)]; exact u2⟩⟩
theorem lxg_rf {I : (Nat → Nat → Int32)} : lxg I I := fun _ _ _ => rfl
theorem lxgJ_rf {J : (Nat → Nat → Int64)} : lxgJ J J := fun _ _ _ => rfl
theorem lxF_rf {I : (Nat → Nat → Int32)} : lxF I I := fun _ _ _ => rfl
theorem DS_lx {I1' : (Nat → Nat → Int32)} (h : DS d B1 B2 BJ I1 I2 J2) (e1 : lxF I1 I1') (hd : ∃ k p, tkD k p I1' I2) : DS d B1 B2 BJ I1' I2 J2 := DS_mk h.2.1 h.2.2 e1 lxg_rf lxgJ_rf hd
theorem TD_N (h : TD d W Rn Kn Tn Hn Un S F I1 I2 J2) : (I1 15 0 = nI W ∧ I1 15 1 = nI Rn ∧ I1 15 2 = nI Kn ∧ I1 15 3 = nI Tn ∧ I1 15 4 = nI Hn ∧ I1 15 5 = nI Un) ∧ (I2 2 d = nI W ∧ I2 3 d = nI Rn ∧ I2 4 d = nI Kn ∧ I2 5 d = nI Tn ∧ I2 6 d = nI Hn ∧ I2 7 d = nI Un) ∧ d < 2 ∧ W ≤ 4 ∧ Rn ≤ 40 ∧ Kn ≤ 10 ∧ Tn ≤ 24 ∧ Hn ≤ 12 ∧ Un ≤ 12 := by
  obtain ⟨a1, a2, a3, a4, a5, a6, b1, b2, b3, b4, b5, b6, c⟩ := h.2.2.2.2.1
  exact ⟨⟨a1, a2, a3, a4, a5, a6⟩, ⟨b1, b2, b3, b4, b5, b6⟩, c⟩
theorem TD_DSB (h : TD d W Rn Kn Tn Hn Un S F I1 I2 J2) (hS : S ≤ 900) : DSB I1 := by
  obtain ⟨⟨a1, -, -, -, -, a6⟩, -, -, c1, -, -, -, -, c6⟩ := TD_N h
  exact ⟨⟨S, hS, h.2.1⟩, ⟨W, c1, a1⟩, ⟨Un, c6, a6⟩⟩
end Sa9a
