section
/-! reading a test: one part of a product, on both sides -/
/-- what comes of reading a number: the same number is laid down on both sides, or a fault is found -/
def LN (n : Nat) (x : Nat → Nat) (d s0 f0 W H : Nat) (B1 B2 : (Nat → Nat → Int32)) (BJ : (Nat → Nat → Int64)) (E : Nat) (r h : Nat) (nx : Nat → Nat → Prop) (op kd ph bs : Nat) (K : List Nat) (L : (Nat → Nat → Int32)) (A1 A2 : (List (Nat × Nat))) (p : Nat) (I1' I2 : (Nat → Nat → Int32)) (J2 : (Nat → Nat → Int64)) : Prop :=
  (∃ p' a' t' v' l' o' c1 c2 kk I2' J2', gA E I2 J2 I2' J2' ∧ TS n x d s0 f0 B1 B2 BJ op kd ph bs 0 (K ++ kk) L (A1 ++ c1) (A2 ++ c2) p' a' t' v' l' o' I1' I2' J2' ∧ I2' 0 45 = 1 ∧ I1' 11 9 = nI op ∧ fr2 W H false h c1 (c2 ++ pops kk) ∧ (∀ c ∈ kk, r ≤ rnk c) ∧ p < p' ∧ c1.length + p ≤ p' ∧ f0 + (A2 ++ c2).length + (bs + (K ++ kk).length) ≤ p' ∧ 3 * (bs + (K ++ kk).length) ≤ 18 * op + 18 + p' ∧ nx t' v') ∨
  (∃ I2' J2', gD E I2 J2 I2' J2' ∧ DD d s0 f0 B1 B2 BJ I1' I2' J2')
def nx5 (t v : Nat) : Prop := ¬ (t = 1 ∧ (v = 43 ∨ v = 45 ∨ v = 42 ∨ v = 47))
def nx6 (t v : Nat) : Prop := ¬ (t = 1 ∧ (v = 42 ∨ v = 47))
/-- sums are read alike, with u more brackets to open -/
def SumOK (n : Nat) (x : Nat → Nat) (d s0 f0 W H : Nat) (B1 B2 : (Nat → Nat → Int32)) (BJ : (Nat → Nat → Int64)) (J1 : (Nat → Nat → Int64)) (E u : Nat) : Prop := ∀ (D op kd ph bs : Nat) (bg : Int32) (K : List Nat) (L : (Nat → Nat → Int32)) (A1 A2 : (List (Nat × Nat))) (p a t v : Nat) (l : List Nat) (o : Int) (I1 I2 : (Nat → Nat → Int32)) (J2 : (Nat → Nat → Int64)), 4 * u + 12 ≤ D → op + u = 8 → TS n x d s0 f0 B1 B2 BJ op kd ph bs bg K L A1 A2 p a t v l o I1 I2 J2 → I2 0 45 = 0 → I1 11 9 = nI op → ph < 2 → (fst1 kd bg → ¬ spcl t v o) → (∀ c ∈ K, rnk c < 5) → s0 + A1.length ≤ p → f0 + A2.length + (bs + K.length) ≤ p → 3 * (bs + K.length) ≤ 18 * op + 12 + p →
  ∃ I1', C1 D 164 [.ref 11] I1 J1 .null I1' J1 ∧ LN n x d s0 f0 W H B1 B2 BJ E 5 (3 * u + 3) nx5 op kd ph bs K L A1 A2 p I1' I2 J2
section Sa8f
variable {n d s0 f0 W H : Nat} {x : Nat → Nat} {B1 B2 : Nat → Nat → Int32} {BJ : Nat → Nat → Int64}
variable {D D' E op kd ph bs p a t v u : Nat} {l : List Nat} {o : Int} {bg : Int32} {K : List Nat} {A1 A2 : List (Nat × Nat)} {L I1 I2 : Nat → Nat → Int32} {J1 J2 : Nat → Nat → Int64}
theorem part_in {r : Value} {I' : (Nat → Nat → Int32)} {J' : (Nat → Nat → Int64)} (h : TS n x d s0 f0 B1 B2 BJ op kd ph bs bg K L A1 A2 p a t v l o I1 I2 J2) (hq : E2 35 (D + 1) (fun y => y = (r, (I', J', mj_R2))) 34 [(0, .ref 0), (1, .int (nI op)), (2, .int (tf (fst1 kd bg)))] I2 J2) : mj_Cl mj_S2 mj_CD (D + 2) 35 [.ref 0] (I2, J2, mj_R2) (r, (I', J', mj_R2)) := by
  obtain ⟨-, -, -, -, ⟨-, -, -, -, a5, -, -⟩, ⟨f1, f2, f3, f4, -, -, -, -, -, f10, -, f12, -⟩⟩ := h
  have vp : vp_in (nI op) 20 := vp_in_nI (by omega) (by decide)
  refine mj_mk (e35 ?_)
  rw [f1, nI_pred, nI_clamp (by omega), f2]
  refine ⟨vp, trivial, _, _, _, r_isTest f10, if_tf (fun z => ⟨vp, ?_⟩) (fun z => ?_)⟩
  · rw [f4]
    rcases f12 with rfl | rfl
    · rw [tf_f (show ¬ fst1 kd 0 from fun q => absurd q.2 (by decide))] at hq
      rw [if_pos rfl]; exact hq
    · rw [tf_t (show fst1 kd 1 from ⟨z, rfl⟩)] at hq
      rw [if_neg (by decide)]; exact hq
  · rw [tf_f (show ¬ fst1 kd bg from fun q => z q.1)] at hq
    exact hq
/-- no word or bracket of a test: on to the operands -/
theorem part_148 {Q : mj_R → Prop} (h : TS n x d s0 f0 B1 B2 BJ op kd ph bs bg K L A1 A2 p a t v l o I1 I2 J2) (hb : fst1 kd bg → ¬ spcl t v o) (hq : E2 35 (D + 1) Q 148 [(0, .ref 0)] (mj_up I2 25 op 0) J2) : E2 35 (D + 1) Q 34 [(0, .ref 0), (1, .int (nI op)), (2, .int (tf (fst1 kd bg)))] I2 J2 := by
  have a5 := h.2.2.2.2.1.2.2.2.2.1
  have vp : vp_in (nI op) 20 := vp_in_nI (by omega) (by decide)
  have h' := (TS_bg (y := 0) h (Or.inl rfl)).1
  have e60 : E2 35 (D + 1) Q 60 [(0, .ref 0), (1, .int (nI op)), (2, .int (tf (fst1 kd bg)))] I2 J2 := by
    have e87 : E2 35 (D + 1) Q 87 [(0, .ref 0), (1, .int (nI op)), (2, .int (tf (fst1 kd bg)))] (mj_up I2 25 op 0) J2 := by
      have e120 : E2 35 (D + 1) Q 120 [(0, .ref 0), (1, .int (nI op)), (2, .int (tf (fst1 kd bg)))] (mj_up I2 25 op 0) J2 := by
        refine mj_on (s35_120 _ _ ?_)
        refine if_tf (fun z => ?_) (fun _ => hq)
        exact ⟨trivial, _, _, _, wd_r (w := 12) h' (by decide), if_tf (fun y => absurd (Or.inr (Or.inr (Or.inr y))) (hb z)) (fun _ => hq)⟩
      refine mj_on (s35_87 _ _ ?_)
      refine if_tf (fun z => ?_) (fun _ => e120)
      exact ⟨trivial, _, _, _, wd_r (w := 11) h' (by decide), if_tf (fun y => absurd (Or.inr (Or.inr (Or.inl y))) (hb z)) (fun _ => e120)⟩
    refine mj_on (s35_60 _ _ ?_)
    rw [nI_clamp (by omega)]
    refine ⟨vp, if_tf (fun z => ?_) (fun _ => e87)⟩
    exact ⟨trivial, _, _, _, sg_r (c := 91) h' (by decide), if_tf (fun y => absurd (Or.inl y) (hb z)) (fun _ => e87)⟩
  refine mj_on (s35_34 _ _ ?_)
  refine if_tf (fun z => ?_) (fun _ => e60)
  exact ⟨trivial, _, _, _, wd_r (w := 10) h.1 (by decide), if_tf (fun y => absurd (Or.inr (Or.inl y)) (hb z)) (fun _ => e60)⟩
/-- one step that stands for one token -/
theorem lv_leaf {c y u : Nat} {Ia Ib : (Nat → Nat → Int32)} {Jb : (Nat → Nat → Int64)} (hc : c ≤ 2) (hv : (c = 0 → y ≤ 9999) ∧ (c = 2 → y < W) ∧ (c = 4 → y < H) ∧ (c = 1 ∨ c = 3 → y = 0)) (hg : gA E I2 J2 Ib Jb) {p' a' t' v' : Nat} {l' : List Nat} {o' : Int} (h : TS n x d s0 f0 B1 B2 BJ op kd ph bs 0 K L (A1 ++ [(c, y)]) (A2 ++ [(c, y)]) p' a' t' v' l' o' Ia Ib Jb) (h45 : Ib 0 45 = 1) (h9 : Ia 11 9 = nI op) (hp : p < p') (q1 : s0 + A1.length ≤ p) (q2 : f0 + A2.length + (bs + K.length) ≤ p) (q3 : 3 * (bs + K.length) ≤ 18 * op + 15 + p) : LN n x d s0 f0 W H B1 B2 BJ E 6 (3 * u + 1) (fun _ _ => True) op kd ph bs K L A1 A2 p Ia I2 J2 := by
  refine Or.inl ⟨p', a', t', v', l', o', [(c, y)], [(c, y)], [], Ib, Jb, hg, by rw [List.append_nil]; exact h, h45, h9, ?_, fun c hc => (by cases hc), hp, ?_, ?_, ?_, trivial⟩
  · rw [pops_nil, List.append_nil]
    have q := fr2_leaf (W := W) (H := H) (c := c) (v := y) (by omega) hv
    rw [decide_eq_false (by omega)] at q
    exact fr2_up q (by omega)
  · show 1 + p ≤ p'; omega
  · rw [List.length_append, List.append_nil]; show f0 + (A2.length + 1) + (bs + K.length) ≤ p'; omega
  · rw [List.append_nil]; omega
theorem TS_pr {y : Int32} (h : TS n x d s0 f0 B1 B2 BJ op kd ph bs bg K L A1 A2 p a t v l o I1 I2 J2) : TS n x d s0 f0 B1 B2 BJ op kd ph bs bg K (mj_up I2 26 op y) A1 A2 p a t v l o I1 (mj_up I2 26 op y) J2 := by
  obtain ⟨h1, h2, h3, h4, h5, ⟨f1, f2, f3, f4, f5, f6, f7, f8, f9, f10⟩⟩ := h
  refine ⟨tkR_cg h1 (fun _ _ _ => rfl) (fun q j z => up_n (by omega)) rfl, h2, fun q j z1 z2 z3 => by rw [up_n (by omega)]; exact h3 q j z1 z2 z3, h4, tsA_cg h5 rfl (fun _ => rfl) (up_n (by omega)) (fun j => ⟨up_n (by omega), up_n (by omega)⟩) (up_n (by omega)) (up_n (by omega)), ⟨?_, ?_, ?_, ?_, ?_, fun i z zz => ?_, fun _ _ _ _ _ => rfl, rfl, fun _ _ => rfl, f10⟩⟩
  · rw [up_n (by omega)]; exact f1
  · rw [up_n (by omega)]; exact f2
  · rw [up_n (by omega)]; exact f3
  · rw [up_n (by omega)]; exact f4
  · rw [up_n (by omega)]; exact f5
  · rw [up_n (by omega)]; exact f6 i z zz
theorem TS_119 {y : Int32} (h : TS n x d s0 f0 B1 B2 BJ op kd ph bs bg K L A1 A2 p a t v l o I1 I2 J2) : TS n x d s0 f0 B1 B2 BJ op kd ph bs bg K L A1 A2 p a t v l o (mj_up I1 11 9 y) I2 J2 := by
  obtain ⟨h1, h2, h3, h4, h5, h6⟩ := h
  refine ⟨tkR_cg h1 (fun q j z => up_n (by omega)) (fun _ _ _ => rfl) rfl, fun q j z1 z2 z3 => by rw [up_n (by omega)]; exact h2 q j z1 z2 z3, h3, h4, tsA_cg h5 (up_n (by omega)) (fun j => up_n (by omega)) rfl (fun _ => ⟨rfl, rfl⟩) rfl rfl, h6⟩
/-- opens does nothing behind a fault -/
theorem r38_D {k : Nat} (h : DD d s0 f0 B1 B2 BJ I1 I2 J2) : C2 (D + 2) 38 [.ref 0, .int (nI k)] I2 J2 .null I2 J2 := by
  obtain ⟨j, j1, j2, j3⟩ := DD_k h
  have e18 : E2 38 (D + 1) (fun y => y = (.null, (I2, J2, mj_R2))) 18 [(0, .ref 0), (1, .int (nI k))] I2 J2 := by
    refine mj_on (s38_18 _ ?_)
    rw [if_neg (DD_8 h).2]
  refine mj_mk (e38 _ ?_)
  exact if_i (fun _ => ⟨trivial, _, _, r_blD j3 j1 j2, e18⟩) (fun _ => e18)
theorem r224_D {Q : mj_R → Prop} {y : Int32} (h : DD d s0 f0 B1 B2 BJ I1 I2 J2) (hQ : Q (.int 0, (I2, J2, mj_R2))) : E2 35 (E + 4) Q 224 [(0, .ref 0), (3, .int y)] I2 J2 := by
  refine mj_on (s35_224 _ ?_)
  refine ⟨trivial, _, _, r38_D (k := 3) (D := E + 2) h, ?_⟩
  rw [if_neg (DD_8 h).1]
  exact ⟨Or.inl rfl, hQ⟩
theorem tk_n2 (h : tkR n x p a t v l o I1 I2 J2) : p ≤ n ∧ n ≤ 900 := ⟨(tk_n h).1, (tk_n h).2.1⟩
end Sa8f
end
section
section Sa8f
variable {n d s0 f0 W H : Nat} {x : Nat → Nat} {B1 B2 : Nat → Nat → Int32} {BJ : Nat → Nat → Int64}
variable {D D' E op kd ph bs p a t v u : Nat} {l : List Nat} {o : Int} {bg : Int32} {K : List Nat} {A1 A2 : List (Nat × Nat)} {L I1 I2 : Nat → Nat → Int32} {J1 J2 : Nat → Nat → Int64}
set_option maxHeartbeats 16000000 in
/-- a pair in brackets, behind its word -/
theorem lv_pair {F w pr p0 : Nat} {I0 : (Nat → Nat → Int32)} {J0 : (Nat → Nat → Int64)} (hS : stc d W H B1 B2 BJ) (IH : ∀ y, u = y + 1 → SumOK n x d s0 f0 W H B1 B2 BJ J1 E y) (hw : w = 15 ∧ pr = 9 ∨ w = 16 ∧ pr = 10) (hF : 4 * u ≤ F) (hu : op + u = 8) (h : TS n x d s0 f0 B1 B2 BJ op kd ph bs 0 K L A1 A2 p a t v l o I1 I2 J2) (h9 : I1 11 9 = nI op) (hp0 : p0 < p) (q1 : s0 + A1.length ≤ p) (q2 : f0 + A2.length + (bs + K.length) ≤ p) (q3 : 3 * (bs + K.length) ≤ 18 * op + 15 + p)
    (g45 : I0 0 45 = 0) (hr : ∀ {r : Value} {I' : (Nat → Nat → Int32)} {J' : (Nat → Nat → Int64)} {Rz : (Nat → Nat → Int32)}, ((t = 1 ∧ v = 40) → Rz = I2) → (¬ (t = 1 ∧ v = 40) → C2 (E + 4) 16 [.ref 0, .int 1, .int (I2 0 4)] I2 J2 .null Rz J2) → E2 35 (E + 4) (fun y => y = (r, (I', J', mj_R2))) 224 [(0, .ref 0), (3, .int (nI pr))] Rz J2 → mj_Cl mj_S2 mj_CD (E + 5) 35 [.ref 0] (I0, J0, mj_R2) (r, (I', J', mj_R2))) :
    ∃ I1', C1 (F + 9) 167 [.ref 11, .int (nI w)] I1 J1 .null I1' J1 ∧ LN n x d s0 f0 W H B1 B2 BJ E 6 (3 * u + 1) (fun _ _ => True) op kd ph bs K L A1 A2 p0 I1' I0 J0 := by
  have hn := tk_n2 h.1
  have hbM : bs + K.length < 500 := by have := h.2.2.2.2.1.2.2.2.2.1; omega
  have hopc : nI (opc pr) = nI w := by rcases hw with ⟨rfl, rfl⟩ | ⟨rfl, rfl⟩ <;> rfl
  -- the class behind a fault
  have cz : ∀ {Ia : (Nat → Nat → Int32)} {R : (Nat → Nat → Int32)} {S : (Nat → Nat → Int64)}, DD d s0 f0 B1 B2 BJ Ia R S → ∃ Ib, C1 (F + 8) 163 [.ref 14, .int (nI w), .int 0] (mj_up Ia 11 9 (Ia 11 9 - 1)) J1 .null Ib J1 ∧ DD d s0 f0 B1 B2 BJ Ib R S := fun {Ia R S} q => d_add (D := F + 6) (J1 := J1) (y := nI w) (z := 0) (DD_119 q)
  by_cases e : t = 1 ∧ v = 40
  · obtain ⟨r, Ic, Rc, Sc, k1, k2, k3⟩ := ts_open (D := F + 4) (E := E) (J1 := J1) (c := 40) (k := 3) (by decide) (by decide) h e.1 e.2 h9 q1 hbM
    rcases k3 with ⟨rfl, k3⟩ | ⟨rfl, k3⟩ | ⟨rfl, k3, k4, k5, k6, k7, p2, a2, t2, v2, l2, o2, k8, k9⟩
    · refine ⟨Ic, mj_mk (e167 _ ⟨trivial, _, _, _, k1, by rw [if_pos rfl]⟩), Or.inr ⟨_, _, g_partD g45 (hr (Rz := I2) (fun _ => rfl) (fun z => absurd e z) (I' := Rc) (J' := Sc) (r := .int 0) ?_) (Or.inl rfl) (DD_8 k3).1, DD_45 k3⟩⟩
      refine mj_on (s35_224 _ ?_)
      refine ⟨trivial, _, _, k2, ?_⟩
      rw [if_neg (DD_8 k3).1]
      exact ⟨Or.inl rfl, rfl⟩
    · obtain ⟨Ia, a1, b1⟩ := d_sum (D := F + 3) (J1 := J1) k3
      obtain ⟨Ib, a2, b2⟩ := d_take (D := F + 6) (J1 := J1) (c := 44) b1
      obtain ⟨Id, a3, b3⟩ := d_sum (D := F + 3) (J1 := J1) b2
      obtain ⟨Ie, a4, b4⟩ := d_take (D := F + 6) (J1 := J1) (c := 41) b3
      obtain ⟨If, a5, b5⟩ := cz b4
      refine ⟨If, mj_mk (e167 _ ⟨trivial, _, _, _, k1, ?_⟩), Or.inr ⟨_, _, g_partD g45 (hr (Rz := I2) (fun _ => rfl) (fun z => absurd e z) (I' := Rc) (J' := Sc) (r := .int 0) ?_) (Or.inl rfl) (DD_8 b5).1, DD_45 b5⟩⟩
      · rw [if_neg (by decide)]
        exact ⟨trivial, _, _, a1, trivial, _, _, a2, trivial, _, _, a3, trivial, _, _, a4, trivial, _, _, a5, rfl⟩
      · refine mj_on (s35_224 _ ?_)
        refine ⟨trivial, _, _, k2, ?_⟩
        rw [if_neg (DD_8 b5).1]
        exact ⟨Or.inl rfl, rfl⟩
    · -- the first number
      obtain ⟨y, rfl⟩ : ∃ y, u = y + 1 := ⟨u - 1, by omega⟩
      have hn2 := tk_n2 k8.1
      have k81 := TS_45 (r := 0) (TS_pr (y := nI pr) k8)
      obtain ⟨Rd, hRd⟩ : ∃ Rd, Rd = mj_up (mj_up Rc 26 (op + 1) (nI pr)) 0 45 0 := ⟨_, rfl⟩
      obtain ⟨L', hL'⟩ : ∃ L', L' = mj_up Rc 26 (op + 1) (nI pr) := ⟨_, rfl⟩
      rw [← hRd, ← hL'] at k81
      have g0 : gA E I0 J0 Rd Sc := by
        rw [hRd]
        refine g_part g45 (hr (Rz := I2) (fun _ => rfl) (fun z => absurd e z) ?_) (Or.inl rfl) ?_
        · refine mj_on (s35_224 _ ?_)
          refine ⟨trivial, _, _, k2, ?_⟩
          rw [if_pos k8.1.2.2.2.2.2.2.2.2.2.2.2.2.2.1, k8.2.2.2.2.2.1, nI_pred, nI_clamp (by omega)]
          exact ⟨vp_in_nI (by omega) (by decide), Or.inl rfl, rfl⟩
        · rw [up_n (by omega)]; exact k8.1.2.2.2.2.2.2.2.2.2.2.2.2.2.1
      have hF0 := h.2.2.2.2.2
      have ag1 : ∀ q, 23 ≤ q → q ≤ 27 → ∀ i, i < op + 1 → L' q i = I2 q i := fun q z1 z2 i hi => by rw [hL', up_n (by omega)]; exact k6 q z1 z2 i hi
      have ag2 : ∀ i, i < bs + K.length → L' 28 i = I2 28 i := fun i _ => by rw [hL', up_n (by omega)]; exact k7 i
      have lpr : L' 26 (op + 1) = nI pr := by rw [hL', up_s]
      obtain ⟨I3, c3, n3⟩ := IH y rfl (F + 8) (op + 1) 3 0 (bs + K.length) 1 [] L' A1 A2 p2 a2 t2 v2 l2 o2 Ic Rd Sc (by omega) (by omega) k81 (by rw [hRd, up_s]) k5 (by decide) (fun z => absurd z.1 (by omega)) (fun c hc => by cases hc) (by omega) (by show f0 + A2.length + (bs + K.length + 0) ≤ p2; omega) (by show 3 * (bs + K.length + 0) ≤ 18 * (op + 1) + 12 + p2; omega)
      have hd : ∀ {Iy : (Nat → Nat → Int32)} {R : (Nat → Nat → Int32)} {S : (Nat → Nat → Int64)}, C1 (F + 8) 164 [.ref 11] Ic J1 .null Iy J1 → DD d s0 f0 B1 B2 BJ Iy R S → ∃ If, C1 (F + 9) 167 [.ref 11, .int (nI w)] I1 J1 .null If J1 ∧ DD d s0 f0 B1 B2 BJ If R S := fun {Iy R S} cc b1 => by
        obtain ⟨Ib, a2, b2⟩ := d_take (D := F + 6) (J1 := J1) (c := 44) b1
        obtain ⟨Id, a3, b3⟩ := d_sum (D := F + 3) (J1 := J1) b2
        obtain ⟨Ie, a4, b4⟩ := d_take (D := F + 6) (J1 := J1) (c := 41) b3
        obtain ⟨If, a5, b5⟩ := cz b4
        refine ⟨If, mj_mk (e167 _ ⟨trivial, _, _, _, k1, ?_⟩), b5⟩
        rw [if_neg (by decide)]
        exact ⟨trivial, _, _, cc, trivial, _, _, a2, trivial, _, _, a3, trivial, _, _, a4, trivial, _, _, a5, rfl⟩
      rcases n3 with ⟨p3, a3, t3, v3, l3, o3, x1, x2, kk, R3, S3, m1, m2, m3, m4, m5, m6, m7, m8, m9, m10, m11⟩ | ⟨R3, S3, m1, m2⟩
      · -- the comma
        have hn3 := tk_n2 m2.1
        have e00 : ([] ++ kk).length = kk.length := rfl
        rw [e00] at m9 m10
        obtain ⟨I4, R4, S4, c4, c49, n4⟩ := ts_comma (D := F + 4) (E := E) (J1 := J1) hS m2 m3 m11 (by rw [List.length_append]; omega) m9 (by omega)
        rcases n4 with ⟨g4, d4⟩ | ⟨g4, z45, p4, a4, t4, v4, l4, o4, m12, m13⟩
        · obtain ⟨Id, a3, b3⟩ := d_sum (D := F + 3) (J1 := J1) d4
          obtain ⟨Ie, a4, b4⟩ := d_take (D := F + 6) (J1 := J1) (c := 41) b3
          obtain ⟨If, a5, b5⟩ := cz b4
          refine ⟨If, mj_mk (e167 _ ⟨trivial, _, _, _, k1, ?_⟩), Or.inr ⟨R4, S4, gA_D g0 (gA_D m1 g4), b5⟩⟩
          rw [if_neg (by decide)]
          exact ⟨trivial, _, _, c3, trivial, _, _, c4, trivial, _, _, a3, trivial, _, _, a4, trivial, _, _, a5, rfl⟩
        · -- the second number
          have hn4 := tk_n2 m12.1
          have e01 : (A2 ++ x2 ++ pops kk).length = (A2 ++ x2).length + kk.length := by rw [List.length_append, pops_len]
          obtain ⟨I5, c5, n5⟩ := IH y rfl (F + 8) (op + 1) 4 0 (bs + K.length) 0 [] L' (A1 ++ x1) (A2 ++ x2 ++ pops kk) p4 a4 t4 v4 l4 o4 I4 R4 S4 (by omega) (by omega) m12 z45 (by rw [c49, m4]) (by decide) (fun z => absurd z.1 (by omega)) (fun c hc => by cases hc) (by rw [List.length_append]; omega) (by rw [e01]; show (f0 + ((A2 ++ x2).length + kk.length) + (bs + K.length + 0)) ≤ p4; omega) (by show 3 * (bs + K.length + 0) ≤ 18 * (op + 1) + 12 + p4; omega)
          rcases n5 with ⟨p5, a5, t5, v5, l5, o5, y1, y2, k2', R5, S5, r1, r2, r3, r4, r5, r6, r7, r8, r9, r10, r11⟩ | ⟨R5, S5, r1, r2⟩
          · have hn5 := tk_n2 r2.1
            have e02 : ([] ++ k2').length = k2'.length := rfl
            rw [e02] at r9 r10
            obtain ⟨I6, R6, S6, c6, c69, n6⟩ := ts_close (D := F + 4) (E := E) (J1 := J1) (k := 4) (c := 41) (pr := pr) hS (Or.inl ⟨Or.inr rfl, rfl⟩) r2 r3 (Or.inr r11) (fun z => by omega) hF0 ag1 ag2 (fun _ => lpr) (by rw [List.length_append, List.length_append]; omega) r9 (by omega)
            have c167 : ∀ {If : (Nat → Nat → Int32)}, C1 (F + 8) 163 [.ref 14, .int (nI w), .int 0] (mj_up I6 11 9 (I6 11 9 - 1)) J1 .null If J1 → C1 (F + 9) 167 [.ref 11, .int (nI w)] I1 J1 .null If J1 := fun {If} a5 => by
              refine mj_mk (e167 _ ⟨trivial, _, _, _, k1, ?_⟩)
              rw [if_neg (by decide)]
              exact ⟨trivial, _, _, c3, trivial, _, _, c4, trivial, _, _, c5, trivial, _, _, c6, trivial, _, _, a5, rfl⟩
            rcases n6 with ⟨g6, d6⟩ | ⟨g6, z46, p6, a6, t6, v6, l6, o6, m14, m15⟩
            · obtain ⟨If, a5, b5⟩ := cz d6
              exact ⟨If, c167 a5, Or.inr ⟨R6, S6, gA_D g0 (gA_D m1 (gA_D g4 (gA_D r1 g6))), b5⟩⟩
            · rw [if_neg (by decide), if_pos rfl] at m14
              have hn6 := tk_n2 m14.1
              obtain ⟨If, a7, b7, b8⟩ := ts_addC (D := F + 6) (J1 := J1) (c := pr) (y := 0) (TS_119 (y := I6 11 9 - 1) m14) (by rw [List.length_append, List.length_append]; omega) (by decide)
              rw [hopc] at a7
              refine ⟨If, c167 a7, Or.inl ⟨p6, a6, t6, v6, l6, o6, x1 ++ (y1 ++ [(pr, 0)]), (x2 ++ pops kk) ++ ((y2 ++ pops k2') ++ [(pr, 0)]), [], R6, S6, gA_tr g0 (gA_tr m1 (gA_tr g4 (gA_tr r1 g6))), ?_, z46, ?_, ?_, fun c hc => (by cases hc), by omega, ?_, ?_, ?_, trivial⟩⟩
              · rw [List.append_nil]
                simp only [List.append_assoc] at b7 ⊢
                exact b7
              · rw [b8, up_s, c69, r4, nI_pred]
              · rw [pops_nil, List.append_nil]
                exact fr2_num (by omega) (by omega) m5 r5 (by omega) (by omega)
              · simp only [List.length_append, List.length_cons, List.length_nil]
                omega
              · simp only [List.length_append, List.length_cons, List.length_nil, pops_len] at r9 ⊢
                omega
              · simp only [List.append_nil]
                omega
          · obtain ⟨Ie, a4, b4⟩ := d_take (D := F + 6) (J1 := J1) (c := 41) r2
            obtain ⟨If, a5, b5⟩ := cz b4
            refine ⟨If, mj_mk (e167 _ ⟨trivial, _, _, _, k1, ?_⟩), Or.inr ⟨R5, S5, gA_D g0 (gA_D m1 (gA_D g4 r1)), b5⟩⟩
            rw [if_neg (by decide)]
            exact ⟨trivial, _, _, c3, trivial, _, _, c4, trivial, _, _, c5, trivial, _, _, a4, trivial, _, _, a5, rfl⟩
      · obtain ⟨If, a5, b5⟩ := hd c3 m2
        exact ⟨If, a5, Or.inr ⟨R3, S3, gA_D g0 m1, b5⟩⟩
  · obtain ⟨Ib, Rb, m1, m2, m3, m4, m5, m6, m7⟩ := ts_bl (D := F + 6) (D' := E + 3) (J1 := J1) (k := 1) h (by decide) (by decide) (by omega)
    refine ⟨Ib, mj_mk (e167 _ ⟨trivial, _, _, _, mj_mk (r := (.int 0, (Ib, J1, mj_R1))) (e161 _ ⟨trivial, _, _, _, sg_c h.1 (c := 40) (by decide), if_tf (fun z => absurd z e) (fun _ => ⟨trivial, _, _, m1, Or.inl rfl, rfl⟩)⟩), by rw [if_pos rfl]⟩), Or.inr ⟨_, _, g_partD g45 (hr (fun z => absurd z e) (fun _ => m2) (r224_D m3 rfl)) (Or.inl rfl) (DD_8 m3).1, DD_45 m3⟩⟩
end Sa8f
end
section
section Sa8f
variable {n d s0 f0 W H : Nat} {x : Nat → Nat} {B1 B2 : Nat → Nat → Int32} {BJ : Nat → Nat → Int64}
variable {D D' E op kd ph bs p a t v u : Nat} {l : List Nat} {o : Int} {bg : Int32} {K : List Nat} {A1 A2 : List (Nat × Nat)} {L I1 I2 : Nat → Nat → Int32} {J1 J2 : Nat → Nat → Int64}
set_option maxHeartbeats 16000000 in
theorem lv_part (hS : stc d W H B1 B2 BJ) (IH : ∀ w, u = w + 1 → SumOK n x d s0 f0 W H B1 B2 BJ J1 E w) (hD : 4 * u + 10 ≤ D) (hu : op + u = 8) (h : TS n x d s0 f0 B1 B2 BJ op kd ph bs bg K L A1 A2 p a t v l o I1 I2 J2) (h45 : I2 0 45 = 0) (h9 : I1 11 9 = nI op) (hph : ph < 2) (hb : fst1 kd bg → ¬ spcl t v o) (q1 : s0 + A1.length ≤ p) (q2 : f0 + A2.length + (bs + K.length) ≤ p) (q3 : 3 * (bs + K.length) ≤ 18 * op + 15 + p) :
    ∃ I1', C1 D 166 [.ref 11] I1 J1 .null I1' J1 ∧ LN n x d s0 f0 W H B1 B2 BJ E 6 (3 * u + 1) (fun _ _ => True) op kd ph bs K L A1 A2 p I1' I2 J2 := by
  obtain ⟨F, rfl⟩ : ∃ F, D = F + 10 := ⟨D - 10, by omega⟩
  have hn := tk_n h.1
  have h' := TS_bg (y := 0) h (Or.inl rfl)
  obtain ⟨Ib, hIb⟩ : ∃ Ib, Ib = mj_up I2 25 op 0 := ⟨_, rfl⟩
  rw [← hIb] at h'
  have hd := TS_d h' hS
  have h8 := h'.1.2.2.2.2.2.2.2.2.2.2.2.2.2.1
  have b45 : Ib 0 45 = 0 := by rw [hIb, up_n (by omega)]; exact h45
  have r35 : ∀ {r : Value} {I' : (Nat → Nat → Int32)} {J' : (Nat → Nat → Int64)}, E2 35 (E + 4) (fun y => y = (r, (I', J', mj_R2))) 148 [(0, .ref 0)] Ib J2 → mj_Cl mj_S2 mj_CD (E + 5) 35 [.ref 0] (I2, J2, mj_R2) (r, (I', J', mj_R2)) := fun {r I' J'} q => part_in (D := E + 3) h (part_148 (D := E + 3) h hb (by rw [← hIb]; exact q))
  have hbM : bs + K.length < 500 := by omega
  have sg : t ≠ 1 → ∀ {T1 T2 : Prop}, T1 → (if tf (t = 1 ∧ v = 40) = 0 then T1 else T2) := fun q T1 T2 y => if_tf (fun z => absurd z.1 q) (fun _ => y)
  by_cases t2 : t = 2
  · -- a number
    obtain ⟨Ic, m1, m2, m3⟩ := ts_addR (D := E + 3) (c := 0) (y := v) hS h' (by omega)
    obtain ⟨Ia, Ra, Sa, k1, k2, k3, k4, k5⟩ := ts_adv (D := F + 5) (D' := E + 2) (J1 := J1) m2 (by omega) (by omega)
    have hv : v ≤ 9999 := (tk_n h.1).2.2.2.1 t2
    have vv : I1 11 6 = nI v ∧ Ib 0 6 = nI v := by
      rcases h'.1.2.2.2.2.2.2.2.2.2.2.2.2.2.2.2.2 with ⟨q, -⟩ | ⟨q, -⟩ | ⟨-, -, -, -, -, w1, w2, -⟩ | ⟨q, -⟩
      · omega
      · omega
      · exact ⟨w1, w2⟩
      · omega
    have o1 : o = -1 := tk_o h.1 (by omega)
    have c35 : C2 (E + 5) 35 [.ref 0] I2 J2 (.int 1) Ra Sa := r35 (by
      refine mj_on (s35_148 ?_)
      refine ⟨trivial, _, _, _, sg_r (c := 40) h'.1 (by decide), sg (by omega) ?_⟩
      refine ⟨trivial, _, _, _, wd_r (w := 15) h'.1 (by decide), if_tf (fun z => by omega) (fun _ => ?_)⟩
      refine ⟨trivial, _, _, _, wd_r (w := 16) h'.1 (by decide), if_tf (fun z => by omega) (fun _ => ?_)⟩
      refine ⟨trivial, _, _, _, wd_r (w := 14) h'.1 (by decide), if_tf (fun z => by omega) (fun _ => ?_)⟩
      rw [if_pos ((rtk_eq (y := 2) h'.1 (k := 2) (by decide) (by decide) rfl).mpr t2), vv.2]
      refine ⟨trivial, _, _, m1, ?_⟩
      refine mj_on (s35_315 ?_)
      rw [if_pos m2.1.2.2.2.2.2.2.2.2.2.2.2.2.2.1]
      exact ⟨trivial, _, _, k2, Or.inr rfl, rfl⟩)
    have c166 : ∀ {Id : (Nat → Nat → Int32)}, C1 (F + 9) 163 [.ref 14, .int 17, .int (nI v)] Ia J1 .null Id J1 → C1 (F + 10) 166 [.ref 11] I1 J1 .null Id J1 := fun {Id} q => by
      refine mj_mk (e166 ?_)
      rw [if_pos ((tok_eq (y := 2) h.1 (k := 2) (by decide) rfl).mpr t2)]
      refine ⟨trivial, _, _, _, mj_mk (r := (.int (nI v), (Ia, J1, mj_R1))) (e156 ?_), trivial, _, _, q, rfl⟩
      rw [if_pos ((tok_eq (y := 2) h.1 (k := 2) (by decide) rfl).mpr t2), vv.1]
      exact ⟨trivial, _, _, k1, rfl⟩
    rcases k5 with ⟨p', a', t', v', l', o', w1, w2, -⟩ | ⟨w1, -⟩
    · obtain ⟨Id, g1, g2, g3⟩ := ts_addC (D := F + 7) (J1 := J1) (c := 0) (y := v) w1 (by have := tk_n w1.1; omega) hv
      exact ⟨Id, c166 g1, lv_leaf (by decide) ⟨fun _ => hv, fun z => by omega, fun z => by omega, fun z => by omega⟩ (g_part h45 c35 (Or.inr rfl) w1.1.2.2.2.2.2.2.2.2.2.2.2.2.2.1) (TS_45 g2) up_s (by rw [g3, k4, h9]) w2 q1 q2 q3⟩
    · obtain ⟨Id, g1, g2⟩ := d_add (D := F + 7) (J1 := J1) (y := 17) (z := nI v) w1
      exact ⟨Id, c166 g1, Or.inr ⟨_, _, g_partD h45 c35 (Or.inr rfl) (DD_8 w1).1, DD_45 g2⟩⟩
  have nt2 : ¬ I1 11 5 = 2 := fun z => t2 ((tok_eq (y := 2) h.1 (k := 2) (by decide) rfl).mp z)
  have rt2 : ¬ Ib 0 3 = 2 := fun z => t2 ((rtk_eq (y := 2) h'.1 (k := 2) (by decide) (by decide) rfl).mp z)
  by_cases o13 : o = (13 : Nat)
  · -- many
    have t3 : t = 3 := (tk_w h.1 (by decide) o13).1
    obtain ⟨Ic, m1, m2, m3⟩ := ts_addR (D := E + 3) (c := 1) (y := 0) hS h' (by omega)
    obtain ⟨Id, g1, g2, g3⟩ := ts_addC (D := F + 7) (J1 := J1) (c := 1) (y := 0) m2 (by omega) (by decide)
    obtain ⟨Ia, Ra, Sa, k1, k2, k3, k4, k5⟩ := ts_adv (D := F + 6) (D' := E + 2) (J1 := J1) g2 (by omega) (by rw [List.length_append]; show s0 + (A1.length + 1) ≤ 900; omega)
    have c35 : C2 (E + 5) 35 [.ref 0] I2 J2 (.int 1) Ra Sa := r35 (by
      refine mj_on (s35_148 ?_)
      refine ⟨trivial, _, _, _, sg_r (c := 40) h'.1 (by decide), sg (by omega) ?_⟩
      refine ⟨trivial, _, _, _, wd_r (w := 15) h'.1 (by decide), if_tf (fun z => by omega) (fun _ => ?_)⟩
      refine ⟨trivial, _, _, _, wd_r (w := 16) h'.1 (by decide), if_tf (fun z => by omega) (fun _ => ?_)⟩
      refine ⟨trivial, _, _, _, wd_r (w := 14) h'.1 (by decide), if_tf (fun z => by omega) (fun _ => ?_)⟩
      rw [if_neg rt2]
      refine ⟨trivial, _, _, _, wd_r (w := 13) h'.1 (by decide), if_tf (fun _ => ?_) (fun z => absurd o13 z)⟩
      refine ⟨trivial, _, _, m1, ?_⟩
      refine mj_on (s35_315 ?_)
      rw [if_pos m2.1.2.2.2.2.2.2.2.2.2.2.2.2.2.1]
      exact ⟨trivial, _, _, k2, Or.inr rfl, rfl⟩)
    have c166 : C1 (F + 10) 166 [.ref 11] I1 J1 .null Ia J1 := by
      refine mj_mk (e166 ?_)
      rw [if_neg nt2, if_pos ((own_eq (y := 13) h.1 (w := 13) (by decide) rfl).mpr o13)]
      exact ⟨trivial, _, _, g1, trivial, _, _, k1, rfl⟩
    rcases k5 with ⟨p', a', t', v', l', o', w1, w2, -⟩ | ⟨w1, -⟩
    · exact ⟨Ia, c166, lv_leaf (by decide) ⟨fun z => by omega, fun z => by omega, fun z => by omega, fun _ => rfl⟩ (g_part h45 c35 (Or.inr rfl) w1.1.2.2.2.2.2.2.2.2.2.2.2.2.2.1) (TS_45 w1) up_s (by rw [k4, g3, h9]) w2 q1 q2 q3⟩
    · exact ⟨Ia, c166, Or.inr ⟨_, _, g_partD h45 c35 (Or.inr rfl) (DD_8 w1).1, DD_45 w1⟩⟩
  have n13 : ¬ I1 11 7 = 13 := fun z => o13 ((own_eq (y := 13) h.1 (w := 13) (by decide) rfl).mp z)
  by_cases o14 : o = (14 : Nat)
  · -- of
    have t3 : t = 3 := (tk_w h.1 (by decide) o14).1
    obtain ⟨Ia, r, Ic, Id, Ra, Sa, k1, k2, k3, k4, k5⟩ := ts_named (D := F + 4) (E := E) (J1 := J1) (c := 2) (i := 0) hS (Or.inl ⟨rfl, rfl⟩) h' (by omega) q1 (by omega)
    have c35 : C2 (E + 5) 35 [.ref 0] I2 J2 (.int 1) Ra Sa := r35 (by
      refine mj_on (s35_148 ?_)
      refine ⟨trivial, _, _, _, sg_r (c := 40) h'.1 (by decide), sg (by omega) ?_⟩
      refine ⟨trivial, _, _, _, wd_r (w := 15) h'.1 (by decide), if_tf (fun z => by omega) (fun _ => ?_)⟩
      refine ⟨trivial, _, _, _, wd_r (w := 16) h'.1 (by decide), if_tf (fun z => by omega) (fun _ => ?_)⟩
      refine ⟨trivial, _, _, _, wd_r (w := 14) h'.1 (by decide), if_tf (fun _ => ?_) (fun z => absurd o14 z)⟩
      exact ⟨trivial, _, _, k4, Or.inr rfl, rfl⟩)
    have c166 : C1 (F + 10) 166 [.ref 11] I1 J1 .null Id J1 := by
      refine mj_mk (e166 ?_)
      rw [if_neg nt2, if_neg n13, if_pos ((own_eq (y := 14) h.1 (w := 14) (by decide) rfl).mpr o14)]
      exact ⟨trivial, _, _, k1, trivial, _, _, _, k2, trivial, _, _, k3, rfl⟩
    rcases k5 with ⟨k, p', a', t', v', l', o', w1, w2, w3, w4, w5, w6, -⟩ | w1
    · exact ⟨Id, c166, lv_leaf (by decide) ⟨fun z => by omega, fun _ => w6 rfl, fun z => by omega, fun z => by omega⟩ (g_part h45 c35 (Or.inr rfl) w1.1.2.2.2.2.2.2.2.2.2.2.2.2.2.1) (TS_45 w1) up_s (by rw [w5, h9]) w2 q1 q2 q3⟩
    · exact ⟨Id, c166, Or.inr ⟨_, _, g_partD h45 c35 (Or.inr rfl) (DD_8 w1).1, DD_45 w1⟩⟩
  have n14 : ¬ I1 11 7 = 14 := fun z => o14 ((own_eq (y := 14) h.1 (w := 14) (by decide) rfl).mp z)
  by_cases om : o = (15 : Nat) ∨ o = (16 : Nat)
  · -- min, max
    obtain ⟨w, pr, hw, ow, hpr⟩ : ∃ w pr : Nat, (w = 15 ∧ pr = 9 ∨ w = 16 ∧ pr = 10) ∧ o = (w : Nat) ∧ opc pr = w := by
      rcases om with e | e
      · exact ⟨15, 9, Or.inl ⟨rfl, rfl⟩, e, rfl⟩
      · exact ⟨16, 10, Or.inr ⟨rfl, rfl⟩, e, rfl⟩
    have t3 : t = 3 := (tk_w h.1 (w := w) (by omega) ow).1
    have w7 : I1 11 7 = nI w := (own_eq h.1 (w := w) (by omega) rfl).mpr ow
    obtain ⟨Ia, Ra, Sa, k1, k2, k3, k4, k5⟩ := ts_adv (D := F + 6) (D' := E + 2) (J1 := J1) h' (by omega) (by omega)
    -- the reference up to what is behind the word
    have r202 : ∀ {r : Value} {I' : (Nat → Nat → Int32)} {J' : (Nat → Nat → Int64)}, E2 35 (E + 4) (fun y => y = (r, (I', J', mj_R2))) 202 [(0, .ref 0), (3, .int (nI pr))] Ib J2 → mj_Cl mj_S2 mj_CD (E + 5) 35 [.ref 0] (I2, J2, mj_R2) (r, (I', J', mj_R2)) := fun {r I' J'} q => r35 (by
      refine mj_on (s35_148 ?_)
      refine ⟨trivial, _, _, _, sg_r (c := 40) h'.1 (by decide), sg (by omega) ?_⟩
      have e184 : E2 35 (E + 4) (fun y => y = (r, (I', J', mj_R2))) 184 [(0, .ref 0)] Ib J2 := by
        refine mj_on (s35_184 ?_)
        refine ⟨trivial, _, _, _, wd_r (w := 15) h'.1 (by decide), if_tf (fun z => ?_) (fun z => ?_)⟩
        · rcases hw with ⟨rfl, rfl⟩ | ⟨rfl, rfl⟩
          · exact q
          · exact absurd (z.symm.trans ow) (by decide)
        · rcases hw with ⟨rfl, rfl⟩ | ⟨rfl, rfl⟩
          · exact absurd ow z
          · exact q
      refine ⟨trivial, _, _, _, wd_r (w := 15) h'.1 (by decide), if_tf (fun _ => e184) (fun z1 => ?_)⟩
      exact ⟨trivial, _, _, _, wd_r (w := 16) h'.1 (by decide), if_tf (fun _ => e184) (fun z2 => om.elim (fun y => absurd y z1) (fun y => absurd y z2))⟩)
    have c166 : ∀ {Id : (Nat → Nat → Int32)}, C1 (F + 9) 167 [.ref 11, .int (nI w)] Ia J1 .null Id J1 → C1 (F + 10) 166 [.ref 11] I1 J1 .null Id J1 := fun {Id} q => by
      have e92 : E1 166 (F + 9) (fun y => y = (.null, (Id, J1, mj_R1))) 92 [(0, .ref 11), (1, .int (nI w))] I1 J1 := mj_on (s166_92 _ ⟨trivial, _, _, k1, trivial, _, _, q, rfl⟩)
      refine mj_mk (e166 ?_)
      rw [if_neg nt2, if_neg n13, if_neg n14, w7]
      refine if_i (fun _ => e92) (fun z1 => if_i (fun _ => e92) (fun z2 => ?_))
      rcases hw with ⟨rfl, -⟩ | ⟨rfl, -⟩
      · exact absurd rfl z1
      · exact absurd rfl z2
    rcases k5 with ⟨p1, a1, t1, v1, l1, o1, ha, hp1, -⟩ | ⟨hda, -⟩
    · obtain ⟨Id, g1, g2⟩ := lv_pair (F := F) (w := w) (pr := pr) (p0 := p) (I0 := I2) (J0 := J2) hS IH hw (by omega) hu ha (by rw [k4, h9]) hp1 (by omega) (by omega) (by omega) h45 (fun {r I' J' Rz} y1 y2 hh => r202 (by
        refine mj_on (s35_202 _ ?_)
        refine ⟨trivial, _, _, k2, trivial, _, _, _, sg_r (c := 40) ha.1 (by decide), if_tf (fun z => by rw [← y1 z]; exact hh) (fun z => ⟨trivial, _, _, y2 z, hh⟩)⟩))
      exact ⟨Id, c166 g1, g2⟩
    · obtain ⟨Id, g1, g2⟩ := d_open (D := F + 6) (J1 := J1) (c := 40) hda
      obtain ⟨j, j1, j2, j3⟩ := DD_k hda
      refine ⟨Id, c166 (mj_mk (e167 _ ⟨trivial, _, _, _, g1, by rw [if_pos rfl]⟩)), Or.inr ⟨_, _, g_partD h45 (r202 (I' := Ra) (J' := Sa) (r := .int 0) ?_) (Or.inl rfl) (DD_8 g2).1, DD_45 g2⟩⟩
      obtain ⟨y, hy⟩ := sg_any (D := E + 3) (I2 := Ra) (J2 := Sa) (y := 40)
      refine mj_on (s35_202 _ ?_)
      refine ⟨trivial, _, _, k2, trivial, _, _, _, hy, if_i (fun _ => ?_) (fun _ => r224_D hda rfl)⟩
      exact ⟨trivial, _, _, r_blD j3 j1 j2, r224_D hda rfl⟩
  have n15 : ¬ I1 11 7 = 15 := fun z => om (Or.inl ((own_eq (y := 15) h.1 (w := 15) (by decide) rfl).mp z))
  have n16 : ¬ I1 11 7 = 16 := fun z => om (Or.inr ((own_eq (y := 16) h.1 (w := 16) (by decide) rfl).mp z))
  by_cases e : t = 1 ∧ v = 40
  · -- a bracket
    obtain ⟨r, Ic, Rc, Sc, k1, k2, k3⟩ := ts_open (D := F + 5) (E := E) (J1 := J1) (c := 40) (k := 2) (by decide) (by decide) h' e.1 e.2 h9 q1 hbM
    have c35 : C2 (E + 5) 35 [.ref 0] I2 J2 (.int 0) Rc Sc := r35 (by
      refine mj_on (s35_148 ?_)
      exact ⟨trivial, _, _, _, sg_r (c := 40) h'.1 (by decide), if_tf (fun _ => ⟨trivial, _, _, k2, Or.inl rfl, rfl⟩) (fun z => absurd e z)⟩)
    rcases k3 with ⟨rfl, k3⟩ | ⟨rfl, k3⟩ | ⟨rfl, k3, k4, k5, k6, k7, p2, a2, t2', v2, l2, o2, k8, k9⟩
    · refine ⟨Ic, mj_mk (e166 ?_), Or.inr ⟨_, _, g_partD h45 c35 (Or.inl rfl) (DD_8 k3).1, DD_45 k3⟩⟩
      rw [if_neg nt2, if_neg n13, if_neg n14, if_neg n15, if_neg n16]
      exact ⟨trivial, _, _, _, k1, by rw [if_pos rfl]⟩
    · obtain ⟨Ia, a1, b1⟩ := d_sum (D := F + 4) (J1 := J1) k3
      obtain ⟨Id, a2, b2⟩ := d_take (D := F + 7) (J1 := J1) (c := 41) b1
      refine ⟨mj_up Id 11 9 (Id 11 9 - 1), mj_mk (e166 ?_), Or.inr ⟨_, _, g_partD h45 c35 (Or.inl rfl) (DD_8 b2).1, DD_45 (DD_119 b2)⟩⟩
      rw [if_neg nt2, if_neg n13, if_neg n14, if_neg n15, if_neg n16]
      refine ⟨trivial, _, _, _, k1, ?_⟩
      rw [if_neg (by decide)]
      exact ⟨trivial, _, _, a1, trivial, _, _, a2, rfl⟩
    · obtain ⟨y, rfl⟩ : ∃ y, u = y + 1 := ⟨u - 1, by omega⟩
      have hn2 := tk_n2 k8.1
      have g0 : gA E I2 J2 (mj_up Rc 0 45 0) Sc := g_part h45 c35 (Or.inl rfl) k8.1.2.2.2.2.2.2.2.2.2.2.2.2.2.1
      obtain ⟨I3, c3, n3⟩ := IH y rfl (F + 9) (op + 1) 2 0 (bs + K.length) 1 [] Rc A1 A2 p2 a2 t2' v2 l2 o2 Ic (mj_up Rc 0 45 0) Sc (by omega) (by omega) (TS_45 k8) up_s k5 (by decide) (fun z => absurd z.1 (by omega)) (fun c hc => by cases hc) (by omega) (by show f0 + A2.length + (bs + K.length + 0) ≤ p2; omega) (by show 3 * (bs + K.length + 0) ≤ 18 * (op + 1) + 12 + p2; omega)
      have c166 : ∀ {Iz : (Nat → Nat → Int32)}, C1 (F + 9) 162 [.ref 11, .int (nI 41)] I3 J1 .null Iz J1 → C1 (F + 10) 166 [.ref 11] I1 J1 .null (mj_up Iz 11 9 (Iz 11 9 - 1)) J1 := fun {Iz} q => by
        refine mj_mk (e166 ?_)
        rw [if_neg nt2, if_neg n13, if_neg n14, if_neg n15, if_neg n16]
        refine ⟨trivial, _, _, _, k1, ?_⟩
        rw [if_neg (by decide)]
        exact ⟨trivial, _, _, c3, trivial, _, _, q, rfl⟩
      rcases n3 with ⟨p3, a3, t3, v3, l3, o3, x1, x2, kk, R3, S3, m1, m2, m3, m4, m5, m6, m7, m8, m9, m10, m11⟩ | ⟨R3, S3, m1, m2⟩
      · have hn3 := tk_n2 m2.1
        have e00 : ([] ++ kk).length = kk.length := rfl
        rw [e00] at m9 m10
        obtain ⟨I6, R6, S6, c6, c69, n6⟩ := ts_close (D := F + 5) (E := E) (J1 := J1) (k := 2) (c := 41) (pr := 0) hS (Or.inl ⟨Or.inl rfl, rfl⟩) m2 m3 (Or.inr m11) (fun z => by omega) h'.2.2.2.2.2 k6 (fun i _ => k7 i) (fun z => by omega) (by rw [List.length_append]; omega) m9 (by omega)
        rcases n6 with ⟨g6, d6⟩ | ⟨g6, z46, p6, a6, t6, v6, l6, o6, m14, m15⟩
        · exact ⟨_, c166 c6, Or.inr ⟨R6, S6, gA_D g0 (gA_D m1 g6), DD_119 d6⟩⟩
        · rw [if_neg (by decide), if_neg (by decide), List.append_nil] at m14
          have hn6 := tk_n2 m14.1
          refine ⟨_, c166 c6, Or.inl ⟨p6, a6, t6, v6, l6, o6, x1, x2 ++ pops kk, [], R6, S6, gA_tr g0 (gA_tr m1 g6), ?_, z46, ?_, ?_, fun c hc => (by cases hc), by omega, by omega, ?_, ?_, trivial⟩⟩
          · rw [List.append_nil, ← List.append_assoc]
            exact TS_119 m14
          · rw [up_s, c69, m4, nI_pred]
          · rw [pops_nil, List.append_nil]
            exact fr2_up m5 (by omega)
          · simp only [List.length_append, pops_len, List.append_nil] at m9 ⊢
            omega
          · simp only [List.append_nil]
            omega
      · obtain ⟨Id, a2, b2⟩ := d_take (D := F + 7) (J1 := J1) (c := nI 41) m2
        exact ⟨_, c166 a2, Or.inr ⟨R3, S3, gA_D g0 m1, DD_119 b2⟩⟩
  · -- nothing that a part begins with
    obtain ⟨Id, Rb, m1, m2, m3, m4, m5, m6, m7⟩ := ts_bl (D := F + 7) (D' := E + 3) (J1 := J1) (k := 1) h' (by decide) (by decide) (by omega)
    refine ⟨Id, mj_mk (e166 ?_), Or.inr ⟨_, _, g_partD h45 (r35 (I' := Rb) (J' := J2) (r := .int 1) ?_) (Or.inr rfl) (DD_8 m3).1, DD_45 m3⟩⟩
    · rw [if_neg nt2, if_neg n13, if_neg n14, if_neg n15, if_neg n16]
      exact ⟨trivial, _, _, _, mj_mk (r := (.int 0, (Id, J1, mj_R1))) (e161 _ ⟨trivial, _, _, _, sg_c h.1 (c := 40) (by decide), if_tf (fun z => absurd z e) (fun _ => ⟨trivial, _, _, m1, Or.inl rfl, rfl⟩)⟩), by rw [if_pos rfl]⟩
    · refine mj_on (s35_148 ?_)
      refine ⟨trivial, _, _, _, sg_r (c := 40) h'.1 (by decide), if_tf (fun z => absurd z e) (fun _ => ?_)⟩
      refine ⟨trivial, _, _, _, wd_r (w := 15) h'.1 (by decide), if_tf (fun z => absurd (Or.inl z) om) (fun _ => ?_)⟩
      refine ⟨trivial, _, _, _, wd_r (w := 16) h'.1 (by decide), if_tf (fun z => absurd (Or.inr z) om) (fun _ => ?_)⟩
      refine ⟨trivial, _, _, _, wd_r (w := 14) h'.1 (by decide), if_tf (fun z => absurd z o14) (fun _ => ?_)⟩
      rw [if_neg rt2]
      refine ⟨trivial, _, _, _, wd_r (w := 13) h'.1 (by decide), if_tf (fun z => absurd z o13) (fun _ => ?_)⟩
      refine ⟨trivial, _, _, m2, ?_⟩
      refine mj_on (s35_315 ?_)
      rw [if_neg (DD_8 m3).1]
      exact ⟨Or.inr rfl, rfl⟩
end Sa8f
end
section
/-! reading a test: operators on both sides -/
section Sa8g
variable {n d s0 f0 W H : Nat} {x : Nat → Nat} {B1 B2 : Nat → Nat → Int32} {BJ : Nat → Nat → Int64}
variable {D D' E op kd ph bs p a t v u : Nat} {l : List Nat} {o : Int} {bg : Int32} {K : List Nat} {A1 A2 : List (Nat × Nat)} {L I1 I2 : Nat → Nat → Int32} {J1 J2 : Nat → Nat → Int64}
/-- plus, minus, times, over -/
theorem ts_arith {c r : Nat} {kk : List Nat} (hS : stc d W H B1 B2 BJ) (hc : (v = 43 ∧ c = 5 ∧ r = 5) ∨ (v = 45 ∧ c = 6 ∧ r = 5) ∨ (v = 42 ∧ c = 7 ∧ r = 6) ∨ (v = 47 ∧ c = 8 ∧ r = 6)) (ht : t = 1) (hph : ph < 2) (h : TS n x d s0 f0 B1 B2 BJ op kd ph bs bg (K ++ kk) L A1 A2 p a t v l o I1 I2 J2) (h45 : I2 0 45 = 1) (hK : ∀ c ∈ K, rnk c < r) (hk : ∀ c ∈ kk, r ≤ rnk c) (q1 : s0 + A1.length ≤ p) (q2 : f0 + A2.length + (bs + (K ++ kk).length) ≤ p) (q3 : bs + (K ++ kk).length < 499) :
    ∃ Ia Ra Sa, C1 (D + 3) 139 [.ref 11] I1 J1 .null Ia J1 ∧ Ia 11 9 = I1 11 9 ∧ ((gD E I2 J2 Ra Sa ∧ DD d s0 f0 B1 B2 BJ Ia Ra Sa) ∨ (gA E I2 J2 Ra Sa ∧ Ra 0 45 = 0 ∧ ∃ p' a' t' v' l' o', TS n x d s0 f0 B1 B2 BJ op kd ph bs bg (K ++ [c]) L A1 (A2 ++ pops kk) p' a' t' v' l' o' Ia Ra Sa ∧ p < p')) := by
  have hn := tk_n h.1
  have e0 : (K ++ kk).length = K.length + kk.length := List.length_append
  rw [e0] at q2 q3
  have r10 : r < 10 := by omega
  have c17 : c < 17 := by omega
  have r5 : v = 43 ∨ v = 45 → r = 5 := by omega
  have r6 : ¬ v = 43 → ¬ v = 45 → r = 6 := by omega
  have c5 : v = 43 → c = 5 := by omega
  have c6 : v = 45 → c = 6 := by omega
  have c7 : v = 42 → c = 7 := by omega
  have c8 : v ≠ 43 → v ≠ 45 → v ≠ 42 → c = 8 := by omega
  have hv : v = 43 ∨ v = 45 ∨ v = 42 ∨ v = 47 := by omega
  obtain ⟨h1, -, -, -, ⟨-, -, -, -, a5, -, -⟩, ⟨f1, f2, f3, -, -, -, -, -, -, f10, f11, -, -⟩⟩ := id h
  have vp : vp_in (nI op) 20 := vp_in_nI (by omega) (by decide)
  obtain ⟨Ij, j1, j2, j3⟩ := ts_join (D := E + 2) (r := r) (K := K) (kk := kk) hS r10 hK h hk (by omega) (by omega)
  obtain ⟨Ih, b1, b2, b3⟩ := ts_hold (D := E + 3) (c := c) j2 (by omega) c17
  obtain ⟨Ia, Ra, Sa, k1, k2, k3, k4, k5⟩ := ts_adv (D := D) (D' := E + 2) (J1 := J1) b2 (by omega) (by omega)
  have sg : ∀ {c' : Nat} {I : (Nat → Nat → Int32)} {A : (List (Nat × Nat))} {K' : List Nat}, TS n x d s0 f0 B1 B2 BJ op kd ph bs bg K' L A1 A p a t v l o I1 I J2 → c' < 256 → C2 (E + 4) 28 [.ref 0, .int (nI c')] I J2 (.int (tf (t = 1 ∧ v = c'))) I J2 := fun q q2 => sg_r q.1 q2
  have e93 : E2 41 (E + 4) (fun y => y = (.int 1, (mj_up Ra 0 45 0, Sa, mj_R2))) 93 [(0, .ref 0)] Ij J2 := by
    have e140 : E2 41 (E + 4) (fun y => y = (.int 1, (mj_up Ra 0 45 0, Sa, mj_R2))) 140 [(0, .ref 0)] Ih J2 := by
      refine mj_on (s41_140 ?_)
      exact ⟨trivial, _, _, k2, Or.inl rfl, Or.inr rfl, rfl⟩
    refine mj_on (s41_93 ?_)
    refine ⟨trivial, _, _, _, sg (c' := 43) j2 (by decide), if_tf (fun z => ?_) (fun z1 => ?_)⟩
    · rw [c5 z.2] at b1; exact ⟨trivial, _, _, b1, e140⟩
    refine ⟨trivial, _, _, _, sg (c' := 45) j2 (by decide), if_tf (fun z => ?_) (fun z2 => ?_)⟩
    · rw [c6 z.2] at b1; exact ⟨trivial, _, _, b1, e140⟩
    refine ⟨trivial, _, _, _, sg (c' := 42) j2 (by decide), if_tf (fun z => ?_) (fun z3 => ?_)⟩
    · rw [c7 z.2] at b1; exact ⟨trivial, _, _, b1, e140⟩
    · rw [c8 (fun q => z1 ⟨ht, q⟩) (fun q => z2 ⟨ht, q⟩) (fun q => z3 ⟨ht, q⟩)] at b1; exact ⟨trivial, _, _, b1, e140⟩
  have e65 : E2 41 (E + 4) (fun y => y = (.int 1, (mj_up Ra 0 45 0, Sa, mj_R2))) 65 [(0, .ref 0)] I2 J2 := by
    refine mj_on (s41_65 ?_)
    refine ⟨trivial, _, _, _, sg (c' := 43) h (by decide), if_tf (fun z => ?_) (fun z1 => ?_)⟩
    · rw [r5 (Or.inl z.2)] at j1; exact ⟨trivial, _, _, j1, e93⟩
    refine ⟨trivial, _, _, _, sg (c' := 45) h (by decide), if_tf (fun z => ?_) (fun z2 => ?_)⟩
    · rw [r5 (Or.inr z.2)] at j1; exact ⟨trivial, _, _, j1, e93⟩
    · rw [r6 (fun q => z1 ⟨ht, q⟩) (fun q => z2 ⟨ht, q⟩)] at j1; exact ⟨trivial, _, _, j1, e93⟩
  have c41 : C2 (E + 5) 41 [.ref 0] I2 J2 (.int 1) (mj_up Ra 0 45 0) Sa := by
    refine mj_mk (e41 ?_)
    rw [f1, nI_pred, nI_clamp (by omega), f2]
    refine ⟨vp, trivial, _, _, _, r_isTest f10, vp, ?_⟩
    rw [f3, show (2 : Int32) = nI 2 from rfl]
    refine if_le (by decide) (by omega) (fun z => absurd z (by omega)) (fun _ => ?_)
    refine ⟨trivial, _, _, _, sg (c' := 43) h (by decide), if_tf (fun _ => e65) (fun z1 => ?_)⟩
    refine ⟨trivial, _, _, _, sg (c' := 45) h (by decide), if_tf (fun _ => e65) (fun z2 => ?_)⟩
    refine ⟨trivial, _, _, _, sg (c' := 42) h (by decide), if_tf (fun _ => e65) (fun z3 => ?_)⟩
    refine ⟨trivial, _, _, _, sg (c' := 47) h (by decide), if_tf (fun _ => e65) (fun z4 => ?_)⟩
    rcases hv with q | q | q | q
    · exact absurd ⟨ht, q⟩ z1
    · exact absurd ⟨ht, q⟩ z2
    · exact absurd ⟨ht, q⟩ z3
    · exact absurd ⟨ht, q⟩ z4
  refine ⟨Ia, mj_up Ra 0 45 0, Sa, k1, k4, ?_⟩
  rcases k5 with ⟨p', a', t', v', l', o', w1, w2, -⟩ | ⟨w1, -⟩
  · exact Or.inr ⟨g_go h45 c41 (by rw [up_n (by omega)]; exact w1.1.2.2.2.2.2.2.2.2.2.2.2.2.2.1), up_s, p', a', t', v', l', o', TS_45 w1, w2⟩
  · exact Or.inl ⟨g_goD h45 c41 (Or.inl (by rw [up_n (by omega)]; exact (DD_8 w1).1)), DD_45 w1⟩
/-- less, more, like -/
theorem ts_comp {c : Nat} {kk : List Nat} (hS : stc d W H B1 B2 BJ) (hc : (v = 60 ∧ c = 11) ∨ (v = 62 ∧ c = 12) ∨ (v = 61 ∧ c = 13)) (ht : t = 1) (hkd : kd = 1 ∨ kd = 5) (h : TS n x d s0 f0 B1 B2 BJ op kd 0 bs bg (K ++ kk) L A1 A2 p a t v l o I1 I2 J2) (h45 : I2 0 45 = 1) (hK : ∀ c ∈ K, rnk c < 5) (hk : ∀ c ∈ kk, 5 ≤ rnk c) (q1 : s0 + A1.length ≤ p) (q2 : f0 + A2.length + (bs + (K ++ kk).length) ≤ p) (q3 : bs + (K ++ kk).length < 499) :
    ∃ Ia Ra Sa, C1 (D + 3) 139 [.ref 11] I1 J1 .null Ia J1 ∧ Ia 11 9 = I1 11 9 ∧ ((gD E I2 J2 Ra Sa ∧ DD d s0 f0 B1 B2 BJ Ia Ra Sa) ∨ (gA E I2 J2 Ra Sa ∧ Ra 0 45 = 0 ∧ ∃ p' a' t' v' l' o', TS n x d s0 f0 B1 B2 BJ op kd 1 bs bg (K ++ [c]) L A1 (A2 ++ pops kk) p' a' t' v' l' o' Ia Ra Sa ∧ p < p')) := by
  have hn := tk_n h.1
  have e0 : (K ++ kk).length = K.length + kk.length := List.length_append
  rw [e0] at q2 q3
  have c17 : c < 17 := by omega
  have c60 : v = 60 → c = 11 := by omega
  have c62 : v = 62 → c = 12 := by omega
  have c61 : v ≠ 60 → v ≠ 62 → c = 13 := by omega
  have hv : v = 60 ∨ v = 62 ∨ v = 61 := by omega
  have nv : v ≠ 43 ∧ v ≠ 45 ∧ v ≠ 42 ∧ v ≠ 47 := by omega
  obtain ⟨h1, -, -, -, ⟨-, -, -, -, a5, -, -⟩, ⟨f1, f2, f3, -, -, -, -, -, -, f10, f11, -, -⟩⟩ := id h
  have vp : vp_in (nI op) 20 := vp_in_nI (by omega) (by decide)
  obtain ⟨Ij, j1, j2, j3⟩ := ts_join (D := E + 2) (r := 5) (K := K) (kk := kk) hS (by decide) hK h hk (by omega) (by omega)
  obtain ⟨Ih, b1, b2, b3⟩ := ts_hold (D := E + 3) (c := c) j2 (by omega) c17
  have b4 := TS_ph (y := 1) b2 (by decide)
  obtain ⟨Ia, Ra, Sa, k1, k2, k3, k4, k5⟩ := ts_adv (D := D) (D' := E + 2) (J1 := J1) b4 (by omega) (by omega)
  have sg : ∀ {c' : Nat} {I : (Nat → Nat → Int32)} {A : (List (Nat × Nat))} {K' : List Nat}, TS n x d s0 f0 B1 B2 BJ op kd 0 bs bg K' L A1 A p a t v l o I1 I J2 → c' < 256 → C2 (E + 4) 28 [.ref 0, .int (nI c')] I J2 (.int (tf (t = 1 ∧ v = c'))) I J2 := fun q q2 => sg_r q.1 q2
  have e191 : E2 41 (E + 4) (fun y => y = (.int 1, (mj_up Ra 0 45 0, Sa, mj_R2))) 191 [(0, .ref 0), (1, .int (nI op))] I2 J2 := by
    have e230 : E2 41 (E + 4) (fun y => y = (.int 1, (mj_up Ra 0 45 0, Sa, mj_R2))) 230 [(0, .ref 0), (1, .int (nI op))] Ih J2 := by
      refine mj_on (s41_230 _ ?_)
      rw [nI_clamp (by omega)]
      exact ⟨vp, trivial, _, _, k2, Or.inl rfl, Or.inr rfl, rfl⟩
    refine mj_on (s41_191 _ ?_)
    refine ⟨trivial, _, _, j1, trivial, _, _, _, sg (c' := 60) j2 (by decide), if_tf (fun z => ?_) (fun z1 => ?_)⟩
    · rw [c60 z.2] at b1; exact ⟨trivial, _, _, b1, e230⟩
    refine ⟨trivial, _, _, _, sg (c' := 62) j2 (by decide), if_tf (fun z => ?_) (fun z2 => ?_)⟩
    · rw [c62 z.2] at b1; exact ⟨trivial, _, _, b1, e230⟩
    · rw [c61 (fun q => z1 ⟨ht, q⟩) (fun q => z2 ⟨ht, q⟩)] at b1; exact ⟨trivial, _, _, b1, e230⟩
  have c41 : C2 (E + 5) 41 [.ref 0] I2 J2 (.int 1) (mj_up Ra 0 45 0) Sa := by
    refine mj_mk (e41 ?_)
    rw [f1, nI_pred, nI_clamp (by omega), f2]
    refine ⟨vp, trivial, _, _, _, r_isTest f10, vp, ?_⟩
    rw [f3, show (2 : Int32) = nI 2 from rfl]
    refine if_le (by decide) (by omega) (fun z => absurd z (by omega)) (fun _ => ?_)
    refine ⟨trivial, _, _, _, sg (c' := 43) h (by decide), if_tf (fun z => absurd z.2 nv.1) (fun _ => ?_)⟩
    refine ⟨trivial, _, _, _, sg (c' := 45) h (by decide), if_tf (fun z => absurd z.2 nv.2.1) (fun _ => ?_)⟩
    refine ⟨trivial, _, _, _, sg (c' := 42) h (by decide), if_tf (fun z => absurd z.2 nv.2.2.1) (fun _ => ?_)⟩
    refine ⟨trivial, _, _, _, sg (c' := 47) h (by decide), if_tf (fun z => absurd z.2 nv.2.2.2) (fun _ => ?_)⟩
    refine mj_on (s41_151 _ _ _ ?_)
    refine if_tf (fun _ => ?_) (fun z => absurd hkd z)
    rw [nI_clamp (by omega), f3]
    refine ⟨vp, ?_⟩
    rw [if_pos (show nI 0 = 0 from rfl)]
    refine ⟨trivial, _, _, _, sg (c' := 60) h (by decide), if_tf (fun _ => e191) (fun z1 => ?_)⟩
    refine ⟨trivial, _, _, _, sg (c' := 62) h (by decide), if_tf (fun _ => e191) (fun z2 => ?_)⟩
    refine ⟨trivial, _, _, _, sg (c' := 61) h (by decide), if_tf (fun _ => e191) (fun z3 => ?_)⟩
    rcases hv with q | q | q
    · exact absurd ⟨ht, q⟩ z1
    · exact absurd ⟨ht, q⟩ z2
    · exact absurd ⟨ht, q⟩ z3
  refine ⟨Ia, mj_up Ra 0 45 0, Sa, k1, k4, ?_⟩
  rcases k5 with ⟨p', a', t', v', l', o', w1, w2, -⟩ | ⟨w1, -⟩
  · exact Or.inr ⟨g_go h45 c41 (by rw [up_n (by omega)]; exact w1.1.2.2.2.2.2.2.2.2.2.2.2.2.2.1), up_s, p', a', t', v', l', o', TS_45 w1, w2⟩
  · exact Or.inl ⟨g_goD h45 c41 (Or.inl (by rw [up_n (by omega)]; exact (DD_8 w1).1)), DD_45 w1⟩
/-- no comparison where there should be one -/
theorem ts_nocomp (hv : ¬ (t = 1 ∧ (v = 43 ∨ v = 45 ∨ v = 42 ∨ v = 47))) (hw : ¬ (t = 1 ∧ (v = 60 ∨ v = 62 ∨ v = 61))) (hkd : kd = 1 ∨ kd = 5) (h : TS n x d s0 f0 B1 B2 BJ op kd 0 bs bg K L A1 A2 p a t v l o I1 I2 J2) (h45 : I2 0 45 = 1) (q1 : s0 + A1.length ≤ p) :
    ∃ Ia Ra, C1 (D + 1) 144 [.ref 11, .int (nI 1)] I1 J1 .null Ia J1 ∧ gD E I2 J2 Ra J2 ∧ DD d s0 f0 B1 B2 BJ Ia Ra J2 := by
  have hn := tk_n h.1
  obtain ⟨h1, -, -, -, ⟨-, -, -, -, a5, -, -⟩, ⟨f1, f2, f3, -, -, -, -, -, -, f10, f11, -, -⟩⟩ := id h
  have vp : vp_in (nI op) 20 := vp_in_nI (by omega) (by decide)
  obtain ⟨Ia, Ra, m1, m2, m3, m4, m5, m6, m7⟩ := ts_bl (D := D) (D' := E + 3) (J1 := J1) (k := 1) h (by decide) (by decide) (by omega)
  obtain ⟨j, j1, j2, j3⟩ := DD_k m3
  -- whatever comes behind the fault, no further call is made
  have e385 : ∃ R, E2 41 (E + 4) (fun y => y = (.int 0, (R, J2, mj_R2))) 385 [(0, .ref 0), (1, .int (nI op)), (2, .int (nI kd))] Ra J2 ∧ R = Ra := by
    refine ⟨Ra, ?_, rfl⟩
    refine mj_on (s41_385 _ _ ?_)
    rcases hkd with rfl | rfl
    · rw [if_pos (show nI 1 = 1 from rfl), if_neg (DD_8 m3).1]
      exact ⟨Or.inl rfl, rfl⟩
    · rw [if_neg (by decide), if_neg (by decide), if_pos (show nI 5 = 5 from rfl)]
      obtain ⟨y, hy⟩ := sg_any (D := E + 3) (I2 := Ra) (J2 := J2) (y := 93)
      have e487 : E2 41 (E + 4) (fun y => y = (.int 0, (Ra, J2, mj_R2))) 487 [(0, .ref 0), (1, .int (nI op)), (2, .int (nI 5))] Ra J2 := by
        refine mj_on (s41_487 _ _ ?_)
        rw [if_neg (DD_8 m3).2]
        exact ⟨Or.inl rfl, rfl⟩
      exact ⟨trivial, _, _, _, hy, if_i (fun _ => ⟨trivial, _, _, r_blD j3 j1 j2, e487⟩) (fun _ => e487)⟩
  obtain ⟨R, e385, rfl⟩ := e385
  have e272 : E2 41 (E + 4) (fun y => y = (.int 0, (R, J2, mj_R2))) 272 [(0, .ref 0), (1, .int (nI op))] I2 J2 := by
    refine mj_on (s41_272 _ ?_)
    rw [nI_clamp (by omega), f3, if_pos (show nI 0 = 0 from rfl)]
    refine ⟨vp, trivial, _, _, m2, ?_⟩
    refine mj_on (s41_290 _ ?_)
    rw [if_neg (DD_8 m3).2]
    exact ⟨Or.inl rfl, rfl⟩
  have c41 : C2 (E + 5) 41 [.ref 0] I2 J2 (.int 0) R J2 := by
    refine mj_mk (e41 ?_)
    rw [f1, nI_pred, nI_clamp (by omega), f2]
    refine ⟨vp, trivial, _, _, _, r_isTest f10, vp, ?_⟩
    rw [f3, show (2 : Int32) = nI 2 from rfl]
    refine if_le (by decide) (by omega) (fun z => absurd z (by omega)) (fun _ => ?_)
    refine ⟨trivial, _, _, _, sg_r (c := 43) h1 (by decide), if_tf (fun z => absurd ⟨z.1, Or.inl z.2⟩ hv) (fun _ => ?_)⟩
    refine ⟨trivial, _, _, _, sg_r (c := 45) h1 (by decide), if_tf (fun z => absurd ⟨z.1, Or.inr (Or.inl z.2)⟩ hv) (fun _ => ?_)⟩
    refine ⟨trivial, _, _, _, sg_r (c := 42) h1 (by decide), if_tf (fun z => absurd ⟨z.1, Or.inr (Or.inr (Or.inl z.2))⟩ hv) (fun _ => ?_)⟩
    refine ⟨trivial, _, _, _, sg_r (c := 47) h1 (by decide), if_tf (fun z => absurd ⟨z.1, Or.inr (Or.inr (Or.inr z.2))⟩ hv) (fun _ => ?_)⟩
    refine mj_on (s41_151 _ _ _ ?_)
    refine if_tf (fun _ => ?_) (fun z => absurd hkd z)
    rw [nI_clamp (by omega), f3]
    refine ⟨vp, ?_⟩
    rw [if_pos (show nI 0 = 0 from rfl)]
    refine ⟨trivial, _, _, _, sg_r (c := 60) h1 (by decide), if_tf (fun z => absurd ⟨z.1, Or.inl z.2⟩ hw) (fun z1 => ?_)⟩
    refine ⟨trivial, _, _, _, sg_r (c := 62) h1 (by decide), if_tf (fun z => absurd ⟨z.1, Or.inr (Or.inl z.2)⟩ hw) (fun z2 => ?_)⟩
    refine ⟨trivial, _, _, _, sg_r (c := 61) h1 (by decide), if_tf (fun z => absurd ⟨z.1, Or.inr (Or.inr z.2)⟩ hw) (fun z3 => ?_)⟩
    refine mj_on (s41_248 _ _ _ ?_)
    refine if_tf (fun _ => ?_) (fun z => absurd hkd z)
    refine ⟨trivial, _, _, _, wd_r (w := 9) h1 (by decide), if_tf (fun _ => e272) (fun _ => ?_)⟩
    refine ⟨trivial, _, _, _, wd_r (w := 8) h1 (by decide), if_tf (fun _ => e272) (fun _ => ?_)⟩
    refine mj_on (s41_363 _ _ _ ?_)
    refine if_tf (fun _ => ?_) (fun z => absurd hkd z)
    rw [nI_clamp (by omega), f3]
    refine ⟨vp, ?_⟩
    rw [if_pos (show nI 0 = 0 from rfl)]
    exact ⟨trivial, _, _, m2, e385⟩
  exact ⟨Ia, R, m1, g_goD h45 c41 (Or.inr rfl), m3⟩
/-- and, or -/
theorem ts_logic {c r w : Nat} {kk : List Nat} (hS : stc d W H B1 B2 BJ) (hc : (w = 9 ∧ c = 14 ∧ r = 2) ∨ (w = 8 ∧ c = 15 ∧ r = 1)) (ho : o = (w : Nat)) (hkd : kd = 1 ∨ kd = 5) (h0 : ph ≠ 0) (h : TS n x d s0 f0 B1 B2 BJ op kd ph bs bg (K ++ kk) L A1 A2 p a t v l o I1 I2 J2) (h45 : I2 0 45 = 1) (hK : ∀ c ∈ K, rnk c < r) (hk : ∀ c ∈ kk, r ≤ rnk c) (q1 : s0 + A1.length ≤ p) (q2 : f0 + A2.length + (bs + (K ++ kk).length) ≤ p) (q3 : bs + (K ++ kk).length < 499) :
    ∃ Ia Ra Sa, C1 (D + 3) 139 [.ref 11] I1 J1 .null Ia J1 ∧ Ia 11 9 = I1 11 9 ∧ ((gD E I2 J2 Ra Sa ∧ DD d s0 f0 B1 B2 BJ Ia Ra Sa) ∨ (gA E I2 J2 Ra Sa ∧ Ra 0 45 = 0 ∧ ∃ p' a' t' v' l' o', TS n x d s0 f0 B1 B2 BJ op kd 0 bs 1 (K ++ [c]) L A1 (A2 ++ pops kk) p' a' t' v' l' o' Ia Ra Sa ∧ p < p')) := by
  have hn := tk_n h.1
  have e0 : (K ++ kk).length = K.length + kk.length := List.length_append
  rw [e0] at q2 q3
  have r10 : r < 10 := by omega
  have c17 : c < 17 := by omega
  have w17 : w < 17 := by omega
  have t3 : t = 3 := (tk_w h.1 w17 ho).1
  have n1 : ¬ t = 1 := by omega
  have o9 : o = (9 : Nat) → c = 14 ∧ r = 2 := by omega
  have o8 : ¬ o = (9 : Nat) → c = 15 ∧ r = 1 ∧ o = (8 : Nat) := by omega
  obtain ⟨h1, -, -, -, ⟨-, -, -, -, a5, -, -⟩, ⟨f1, f2, f3, -, -, -, -, -, -, f10, f11, -, -⟩⟩ := id h
  have h8 := h1.2.2.2.2.2.2.2.2.2.2.2.2.2.1
  have vp : vp_in (nI op) 20 := vp_in_nI (by omega) (by decide)
  obtain ⟨Ij, j1, j2, j3⟩ := ts_join (D := E + 2) (r := r) (K := K) (kk := kk) hS r10 hK h hk (by omega) (by omega)
  obtain ⟨Ih, b1, b2, b3⟩ := ts_hold (D := E + 3) (c := c) j2 (by omega) c17
  have b4 := TS_bg (y := 1) (TS_ph (y := 0) b2 (by decide)) (Or.inr rfl)
  obtain ⟨Ia, Ra, Sa, k1, k2, k3, k4, k5⟩ := ts_adv (D := D) (D' := E + 2) (J1 := J1) b4 (by omega) (by omega)
  have sg : ∀ {c' : Nat}, c' < 256 → C2 (E + 4) 28 [.ref 0, .int (nI c')] I2 J2 (.int (tf (t = 1 ∧ v = c'))) I2 J2 := fun q => sg_r h1 q
  have pne : ¬ nI ph = 0 := nI_ne0 (by omega) (by omega)
  have e272 : E2 41 (E + 4) (fun y => y = (.int 1, (mj_up Ra 0 45 0, Sa, mj_R2))) 272 [(0, .ref 0), (1, .int (nI op))] I2 J2 := by
    have e338 : E2 41 (E + 4) (fun y => y = (.int 1, (mj_up Ra 0 45 0, Sa, mj_R2))) 338 [(0, .ref 0), (1, .int (nI op))] Ih J2 := by
      refine mj_on (s41_338 _ ?_)
      rw [nI_clamp (by omega)]
      exact ⟨vp, vp, trivial, _, _, k2, Or.inl rfl, Or.inr rfl, rfl⟩
    refine mj_on (s41_272 _ ?_)
    rw [nI_clamp (by omega), f3, if_neg pne]
    refine ⟨vp, ?_⟩
    refine mj_on (s41_290 _ ?_)
    rw [if_pos (by rw [h8]; decide)]
    refine ⟨trivial, _, _, _, wd_r (w := 9) h1 (by decide), if_tf (fun z => ?_) (fun z => ?_)⟩
    · rw [(o9 z).2] at j1
      rw [(o9 z).1] at b1
      refine ⟨trivial, _, _, j1, ?_⟩
      refine mj_on (s41_322 _ _ ?_)
      rw [tf_t z, if_neg (by decide)]
      exact ⟨trivial, _, _, b1, e338⟩
    · rw [(o8 z).2.1] at j1
      rw [(o8 z).1] at b1
      refine ⟨trivial, _, _, j1, ?_⟩
      refine mj_on (s41_322 _ _ ?_)
      rw [tf_f z, if_pos rfl]
      exact ⟨trivial, _, _, b1, e338⟩
  have e151 : E2 41 (E + 4) (fun y => y = (.int 1, (mj_up Ra 0 45 0, Sa, mj_R2))) 151 [(0, .ref 0), (1, .int (nI op)), (2, .int (nI kd)), (3, .int (tf (kd = 1 ∨ kd = 5)))] I2 J2 := by
    refine mj_on (s41_151 _ _ _ ?_)
    refine if_tf (fun _ => ?_) (fun z => absurd hkd z)
    rw [nI_clamp (by omega), f3, if_neg pne]
    refine ⟨vp, ?_⟩
    refine mj_on (s41_248 _ _ _ ?_)
    refine if_tf (fun _ => ?_) (fun z => absurd hkd z)
    refine ⟨trivial, _, _, _, wd_r (w := 9) h1 (by decide), if_tf (fun _ => e272) (fun z => ?_)⟩
    exact ⟨trivial, _, _, _, wd_r (w := 8) h1 (by decide), if_tf (fun _ => e272) (fun y => absurd (o8 z).2.2 y)⟩
  have c41 : C2 (E + 5) 41 [.ref 0] I2 J2 (.int 1) (mj_up Ra 0 45 0) Sa := by
    refine mj_mk (e41 ?_)
    rw [f1, nI_pred, nI_clamp (by omega), f2]
    refine ⟨vp, trivial, _, _, _, r_isTest f10, vp, ?_⟩
    rw [f3, show (2 : Int32) = nI 2 from rfl]
    refine if_le (by decide) (by omega) (fun _ => e151) (fun _ => ?_)
    refine ⟨trivial, _, _, _, sg (c' := 43) (by decide), if_tf (fun z => absurd z.1 n1) (fun _ => ?_)⟩
    refine ⟨trivial, _, _, _, sg (c' := 45) (by decide), if_tf (fun z => absurd z.1 n1) (fun _ => ?_)⟩
    refine ⟨trivial, _, _, _, sg (c' := 42) (by decide), if_tf (fun z => absurd z.1 n1) (fun _ => ?_)⟩
    exact ⟨trivial, _, _, _, sg (c' := 47) (by decide), if_tf (fun z => absurd z.1 n1) (fun _ => e151)⟩
  refine ⟨Ia, mj_up Ra 0 45 0, Sa, k1, k4, ?_⟩
  rcases k5 with ⟨p', a', t', v', l', o', w1, w2, -⟩ | ⟨w1, -⟩
  · exact Or.inr ⟨g_go h45 c41 (by rw [up_n (by omega)]; exact w1.1.2.2.2.2.2.2.2.2.2.2.2.2.2.1), up_s, p', a', t', v', l', o', TS_45 w1, w2⟩
  · exact Or.inl ⟨g_goD h45 c41 (Or.inl (by rw [up_n (by omega)]; exact (DD_8 w1).1)), DD_45 w1⟩
end Sa8g
end
section
/-! reading a test: products and sums on both sides -/
section Sa8h
variable {n d s0 f0 W H : Nat} {x : Nat → Nat} {B1 B2 : Nat → Nat → Int32} {BJ : Nat → Nat → Int64}
variable {D D' E op kd ph bs p a t v u : Nat} {l : List Nat} {o : Int} {bg : Int32} {K : List Nat} {A1 A2 : List (Nat × Nat)} {L I1 I2 : Nat → Nat → Int32} {J1 J2 : Nat → Nat → Int64}
theorem tk_v (h : tkR n x p a t v l o I1 I2 J2) (ht : t = 1) : I1 11 6 = nI v := by
  rcases h.2.2.2.2.2.2.2.2.2.2.2.2.2.2.2.2 with ⟨q, -⟩ | ⟨-, -, -, -, -, -, q, -⟩ | ⟨q, -⟩ | ⟨q, -⟩
  · omega
  · exact q
  · omega
  · omega
theorem lpD_prod {Q : mj_R → Prop} {y : Int32} (h : DD d s0 f0 B1 B2 BJ I1 I2 J2) (hQ : Q (.null, (I1, J1, mj_R1))) : E1 165 (D + 1) Q 6 [(0, .ref 11), (1, .int y)] I1 J1 := by
  refine mj_on (s165_6 _ ?_)
  refine if_i (fun _ => hQ) (fun _ => ?_)
  refine ⟨trivial, _, _, _, sg_d (d_tok h).1, if_tf (fun z => z.elim) (fun _ => ?_)⟩
  exact ⟨trivial, _, _, _, sg_d (d_tok h).1, if_tf (fun z => z.elim) (fun _ => hQ)⟩
set_option maxHeartbeats 16000000 in
theorem lp_prod {F p0 : Nat} {I0 : (Nat → Nat → Int32)} {J0 : (Nat → Nat → Int64)} (hS : stc d W H B1 B2 BJ) (IH : ∀ w, u = w + 1 → SumOK n x d s0 f0 W H B1 B2 BJ J1 E w) (hF : 4 * u ≤ F) (hu : op + u = 8) (hph : ph < 2) (hK : ∀ c ∈ K, rnk c < 6) (b3 : 3 * (bs + K.length) ≤ 18 * op + 13 + p0) : ∀ (m i : Nat) (x1 x2 : (List (Nat × Nat))) (kk : List Nat) (p a t v : Nat) (l : List Nat) (o : Int) (I1 I2 : (Nat → Nat → Int32)) (J2 : (Nat → Nat → Int64)), n - p ≤ m → i ≤ p → p0 < p → gA E I0 J0 I2 J2 → TS n x d s0 f0 B1 B2 BJ op kd ph bs 0 (K ++ kk) L (A1 ++ x1) (A2 ++ x2) p a t v l o I1 I2 J2 → I2 0 45 = 1 → I1 11 9 = nI op → fr2 W H false (3 * u + 2) x1 (x2 ++ pops kk) → (∀ c ∈ kk, 6 ≤ rnk c) → s0 + (A1 ++ x1).length ≤ p → f0 + (A2 ++ x2).length + (bs + (K ++ kk).length) ≤ p → 3 * (bs + (K ++ kk).length) ≤ 18 * op + 18 + p → x1.length + p0 ≤ p → True → ∀ Q : mj_R → Prop, (∀ I1', LN n x d s0 f0 W H B1 B2 BJ E 6 (3 * u + 2) nx6 op kd ph bs K L A1 A2 p0 I1' I0 J0 → Q (.null, (I1', J1, mj_R1))) → E1 165 (F + 10) Q 6 [(0, .ref 11), (1, .int (nI i))] I1 J1 := by
    intro m
    induction m using Nat.strongRecOn with
    | _ m ih =>
    intro i x1 x2 kk p a t v l o I1 I2 J2 hm hi hp hg h h45 h9 hf hk q1 q2 q3 q0 hx Q hQ
    have hn := tk_n h.1
    have ex : nx6 t v → Q (.null, (I1, J1, mj_R1)) := fun nx => hQ I1 (Or.inl ⟨p, a, t, v, l, o, x1, x2, kk, I2, J2, hg, h, h45, h9, hf, hk, hp, q0, q2, q3, nx⟩)
    have go : ∀ (c : Nat), (v = 42 ∧ c = 7) ∨ (v = 47 ∧ c = 8) → t = 1 → E1 165 (F + 10) Q 31 [(0, .ref 11), (1, .int (nI i))] I1 J1 := fun c hc ht => by
      have hc4 : (v = 43 ∧ c = 5 ∧ 6 = 5) ∨ (v = 45 ∧ c = 6 ∧ 6 = 5) ∨ (v = 42 ∧ c = 7 ∧ 6 = 6) ∨ (v = 47 ∧ c = 8 ∧ 6 = 6) := by omega
      have hv := tk_v h.1 ht
      have hcc : nI (opc c) = nI v ∧ 5 ≤ c ∧ c ≤ 10 ∧ rnk c = 6 := by
        rcases hc with ⟨rfl, rfl⟩ | ⟨rfl, rfl⟩
        · exact ⟨rfl, by decide, by decide, rfl⟩
        · exact ⟨rfl, by decide, by decide, rfl⟩
      have hpn : p < n := hn.2.2.1 (by omega)
      obtain ⟨m0, hm0⟩ : ∃ m', m = m' + 1 := ⟨m - 1, by omega⟩
      have hkl : bs + (K ++ kk).length < 499 := by omega
      have e0 : (K ++ kk).length = K.length + kk.length := List.length_append
      have e1 : (A2 ++ x2 ++ pops kk).length = (A2 ++ x2).length + kk.length := by rw [List.length_append, pops_len]
      have e2 : (K ++ [c]).length = K.length + 1 := by rw [List.length_append]; rfl
      obtain ⟨Ia, Ra, Sa, k1, k9, k2⟩ := ts_arith (D := F + 7) (E := E) (J1 := J1) (c := c) (r := 6) hS hc4 ht hph h h45 hK hk q1 q2 hkl
      refine mj_on (s165_31 _ ?_)
      rw [hv, nI_1]
      rcases k2 with ⟨g2, d2⟩ | ⟨g2, z45, p1, a1, t1, v1, l1, o1, w1, w2⟩
      · obtain ⟨Ib, a2, b2⟩ := d_part (D := F + 7) (J1 := J1) d2
        obtain ⟨Ic, a3, b3⟩ := d_add (D := F + 8) (J1 := J1) (y := nI v) (z := 0) b2
        exact ⟨trivial, _, _, k1, trivial, _, _, a2, trivial, _, _, a3, lpD_prod b3 (hQ Ic (Or.inr ⟨Ra, Sa, gA_D hg g2, b3⟩))⟩
      · have hn1 := tk_n w1.1
        obtain ⟨Ib, c2, n2⟩ := lv_part (D := F + 10) (E := E) (J1 := J1) hS IH (by omega) hu w1 z45 (by rw [k9, h9]) hph (fun z => absurd z.2 (by decide)) (by omega) (by rw [e1, e2]; omega) (by rw [e2]; omega)
        rcases n2 with ⟨p2, a2, t2, v2, l2, o2, y1, y2, k', Rb, Sb, m1, m2, m3, m4, m5, m6, m7, m8, m9, m10, m11⟩ | ⟨Rb, Sb, m1, m2⟩
        · have hn2 := tk_n m2.1
          have e3 : (K ++ [c] ++ k').length = K.length + 1 + k'.length := by rw [List.length_append, e2]
          have e4 : (A2 ++ x2 ++ pops kk ++ y2).length = (A2 ++ x2).length + kk.length + y2.length := by rw [List.length_append, e1]
          have e5 : (A1 ++ x1 ++ y1).length = (A1 ++ x1).length + y1.length := List.length_append
          rw [e3, e4] at m9
          rw [e3] at m10
          obtain ⟨Ic, c3, w3, w4⟩ := ts_addC (D := F + 8) (J1 := J1) (c := c) (y := 0) m2 (by rw [e5]; omega) (by decide)
          rw [hcc.1] at c3
          refine ⟨trivial, _, _, k1, trivial, _, _, c2, trivial, _, _, c3, ?_⟩
          refine ih m0 (by omega) (i + 1) (x1 ++ (y1 ++ [(c, 0)])) (x2 ++ pops kk ++ y2) ([c] ++ k') p2 a2 t2 v2 l2 o2 Ic Rb Sb (by omega) (by omega) (by omega) (gA_tr hg (gA_tr g2 m1)) ?_ m3 (by rw [w4, m4]) ?_ ?_ ?_ ?_ ?_ ?_ trivial Q hQ
          · simp only [List.append_assoc] at w3 ⊢
            exact w3
          · have q := fr2_num (op := c) (h3 := 3 * u + 2) hcc.2.1 hcc.2.2.1 hf m5 (by omega) (by omega)
            rw [pops_app, pops_one]
            simp only [List.append_assoc] at q ⊢
            exact q
          · intro e he
            rcases List.mem_append.mp he with z | z
            · rw [List.mem_singleton.mp z, hcc.2.2.2]; exact Nat.le_refl _
            · have := m6 e z; omega
          · rw [← List.append_assoc, List.length_append, List.length_append, List.length_append]
            show s0 + ((A1.length + x1.length) + (y1.length + 1)) ≤ p2
            rw [List.length_append] at q1
            omega
          · rw [← List.append_assoc, ← List.append_assoc, e4, ← List.append_assoc, e3]; omega
          · rw [← List.append_assoc, e3]; omega
          · rw [List.length_append, List.length_append]; show x1.length + (y1.length + 1) + p0 ≤ p2; omega
        · obtain ⟨Ic, a3, b3⟩ := d_add (D := F + 8) (J1 := J1) (y := nI v) (z := 0) m2
          exact ⟨trivial, _, _, k1, trivial, _, _, c2, trivial, _, _, a3, lpD_prod b3 (hQ Ic (Or.inr ⟨Rb, Sb, gA_D hg (gA_D g2 m1), b3⟩))⟩
    refine mj_on (s165_6 _ ?_)
    rw [show (900 : Int32) = nI 900 from rfl]
    refine if_le (by decide) (by omega) (fun z => ex (fun y => ?_)) (fun z => ?_)
    · have := hn.2.2.1 (by omega)
      omega
    refine ⟨trivial, _, _, _, sg_c (c := 42) h.1 (by decide), if_tf (fun y => go 7 (Or.inl ⟨y.2, rfl⟩) y.1) (fun y1 => ?_)⟩
    refine ⟨trivial, _, _, _, sg_c (c := 47) h.1 (by decide), if_tf (fun y => go 8 (Or.inr ⟨y.2, rfl⟩) y.1) (fun y2 => ex ?_)⟩
    exact fun y => y.2.elim (fun z => y1 ⟨y.1, z⟩) (fun z => y2 ⟨y.1, z⟩)
set_option maxHeartbeats 4000000 in
theorem lv_prod (hS : stc d W H B1 B2 BJ) (IH : ∀ w, u = w + 1 → SumOK n x d s0 f0 W H B1 B2 BJ J1 E w) (hD : 4 * u + 11 ≤ D) (hu : op + u = 8) (h : TS n x d s0 f0 B1 B2 BJ op kd ph bs bg K L A1 A2 p a t v l o I1 I2 J2) (h45 : I2 0 45 = 0) (h9 : I1 11 9 = nI op) (hph : ph < 2) (hb : fst1 kd bg → ¬ spcl t v o) (hK : ∀ c ∈ K, rnk c < 6) (q1 : s0 + A1.length ≤ p) (q2 : f0 + A2.length + (bs + K.length) ≤ p) (q3 : 3 * (bs + K.length) ≤ 18 * op + 13 + p) :
    ∃ I1', C1 D 165 [.ref 11] I1 J1 .null I1' J1 ∧ LN n x d s0 f0 W H B1 B2 BJ E 6 (3 * u + 2) nx6 op kd ph bs K L A1 A2 p I1' I2 J2 := by
  obtain ⟨F, rfl⟩ : ∃ F, D = F + 11 := ⟨D - 11, by omega⟩
  obtain ⟨Ia, c1, n1⟩ := lv_part (D := F + 10) (E := E) (J1 := J1) hS IH (by omega) hu h h45 h9 hph hb q1 q2 (by omega)
  have key : ∀ Q : mj_R → Prop, (∀ I1', LN n x d s0 f0 W H B1 B2 BJ E 6 (3 * u + 2) nx6 op kd ph bs K L A1 A2 p I1' I2 J2 → Q (.null, (I1', J1, mj_R1))) → E1 165 (F + 10) Q 6 [(0, .ref 11), (1, .int 0)] Ia J1 := fun Q hQ => by
    rcases n1 with ⟨p2, a2, t2, v2, l2, o2, y1, y2, k', Rb, Sb, m1, m2, m3, m4, m5, m6, m7, m8, m9, m10, m11⟩ | ⟨Rb, Sb, m1, m2⟩
    · exact lp_prod hS IH (by omega) hu hph hK q3 (n - p2) 0 y1 y2 k' p2 a2 t2 v2 l2 o2 Ia Rb Sb (Nat.le_refl _) (by omega) m7 m1 m2 m3 m4 (fr2_up m5 (by omega)) (fun e he => by have := m6 e he; omega) (by rw [List.length_append]; omega) m9 m10 m8 trivial Q hQ
    · exact lpD_prod m2 (hQ Ia (Or.inr ⟨Rb, Sb, m1, m2⟩))
  obtain ⟨I', J', hc, rfl, hL⟩ := mj_cN (S := mj_S1) (CD := mj_CD) (D := F + 10) (z := 165) (as := [.ref 11]) (h := (I1, J1, mj_R1)) (R := mj_R1) (P := fun I' J' => J' = J1 ∧ LN n x d s0 f0 W H B1 B2 BJ E 6 (3 * u + 2) nx6 op kd ph bs K L A1 A2 p I' I2 J2) (e165 ⟨trivial, _, _, c1, key _ (fun I3 q => ⟨_, _, rfl, rfl, q⟩)⟩)
  exact ⟨I', hc, hL⟩
theorem lpD_sum {Q : mj_R → Prop} {y : Int32} (h : DD d s0 f0 B1 B2 BJ I1 I2 J2) (hQ : Q (.null, (I1, J1, mj_R1))) : E1 164 (D + 1) Q 6 [(0, .ref 11), (1, .int y)] I1 J1 := by
  refine mj_on (s164_6 _ ?_)
  refine if_i (fun _ => hQ) (fun _ => ?_)
  refine ⟨trivial, _, _, _, sg_d (d_tok h).1, if_tf (fun z => z.elim) (fun _ => ?_)⟩
  exact ⟨trivial, _, _, _, sg_d (d_tok h).1, if_tf (fun z => z.elim) (fun _ => hQ)⟩
set_option maxHeartbeats 16000000 in
theorem lp_sum {F p0 : Nat} {I0 : (Nat → Nat → Int32)} {J0 : (Nat → Nat → Int64)} (hS : stc d W H B1 B2 BJ) (IH : ∀ w, u = w + 1 → SumOK n x d s0 f0 W H B1 B2 BJ J1 E w) (hF : 4 * u ≤ F) (hu : op + u = 8) (hph : ph < 2) (hK : ∀ c ∈ K, rnk c < 5) (b3 : 3 * (bs + K.length) ≤ 18 * op + 12 + p0) : ∀ (m i : Nat) (x1 x2 : (List (Nat × Nat))) (kk : List Nat) (p a t v : Nat) (l : List Nat) (o : Int) (I1 I2 : (Nat → Nat → Int32)) (J2 : (Nat → Nat → Int64)), n - p ≤ m → i ≤ p → p0 < p → gA E I0 J0 I2 J2 → TS n x d s0 f0 B1 B2 BJ op kd ph bs 0 (K ++ kk) L (A1 ++ x1) (A2 ++ x2) p a t v l o I1 I2 J2 → I2 0 45 = 1 → I1 11 9 = nI op → fr2 W H false (3 * u + 3) x1 (x2 ++ pops kk) → (∀ c ∈ kk, 5 ≤ rnk c) → s0 + (A1 ++ x1).length ≤ p → f0 + (A2 ++ x2).length + (bs + (K ++ kk).length) ≤ p → 3 * (bs + (K ++ kk).length) ≤ 18 * op + 18 + p → x1.length + p0 ≤ p → nx6 t v → ∀ Q : mj_R → Prop, (∀ I1', LN n x d s0 f0 W H B1 B2 BJ E 5 (3 * u + 3) nx5 op kd ph bs K L A1 A2 p0 I1' I0 J0 → Q (.null, (I1', J1, mj_R1))) → E1 164 (F + 11) Q 6 [(0, .ref 11), (1, .int (nI i))] I1 J1 := by
    intro m
    induction m using Nat.strongRecOn with
    | _ m ih =>
    intro i x1 x2 kk p a t v l o I1 I2 J2 hm hi hp hg h h45 h9 hf hk q1 q2 q3 q0 hx Q hQ
    have hn := tk_n h.1
    have ex : nx5 t v → Q (.null, (I1, J1, mj_R1)) := fun nx => hQ I1 (Or.inl ⟨p, a, t, v, l, o, x1, x2, kk, I2, J2, hg, h, h45, h9, hf, hk, hp, q0, q2, q3, nx⟩)
    have go : ∀ (c : Nat), (v = 43 ∧ c = 5) ∨ (v = 45 ∧ c = 6) → t = 1 → E1 164 (F + 11) Q 31 [(0, .ref 11), (1, .int (nI i))] I1 J1 := fun c hc ht => by
      have hc4 : (v = 43 ∧ c = 5 ∧ 5 = 5) ∨ (v = 45 ∧ c = 6 ∧ 5 = 5) ∨ (v = 42 ∧ c = 7 ∧ 5 = 6) ∨ (v = 47 ∧ c = 8 ∧ 5 = 6) := by omega
      have hv := tk_v h.1 ht
      have hcc : nI (opc c) = nI v ∧ 5 ≤ c ∧ c ≤ 10 ∧ rnk c = 5 := by
        rcases hc with ⟨rfl, rfl⟩ | ⟨rfl, rfl⟩
        · exact ⟨rfl, by decide, by decide, rfl⟩
        · exact ⟨rfl, by decide, by decide, rfl⟩
      have hpn : p < n := hn.2.2.1 (by omega)
      obtain ⟨m0, hm0⟩ : ∃ m', m = m' + 1 := ⟨m - 1, by omega⟩
      have hkl : bs + (K ++ kk).length < 499 := by omega
      have e0 : (K ++ kk).length = K.length + kk.length := List.length_append
      have e1 : (A2 ++ x2 ++ pops kk).length = (A2 ++ x2).length + kk.length := by rw [List.length_append, pops_len]
      have e2 : (K ++ [c]).length = K.length + 1 := by rw [List.length_append]; rfl
      obtain ⟨Ia, Ra, Sa, k1, k9, k2⟩ := ts_arith (D := F + 8) (E := E) (J1 := J1) (c := c) (r := 5) hS hc4 ht hph h h45 hK hk q1 q2 hkl
      refine mj_on (s164_31 _ ?_)
      rw [hv, nI_1]
      rcases k2 with ⟨g2, d2⟩ | ⟨g2, z45, p1, a1, t1, v1, l1, o1, w1, w2⟩
      · obtain ⟨Ib, a2, b2⟩ := d_prod (D := F + 7) (J1 := J1) d2
        obtain ⟨Ic, a3, b3⟩ := d_add (D := F + 9) (J1 := J1) (y := nI v) (z := 0) b2
        exact ⟨trivial, _, _, k1, trivial, _, _, a2, trivial, _, _, a3, lpD_sum b3 (hQ Ic (Or.inr ⟨Ra, Sa, gA_D hg g2, b3⟩))⟩
      · have hn1 := tk_n w1.1
        obtain ⟨Ib, c2, n2⟩ := lv_prod (D := F + 11) (E := E) (J1 := J1) hS IH (by omega) hu w1 z45 (by rw [k9, h9]) hph (fun z => absurd z.2 (by decide)) (fun e he => by
          rcases List.mem_append.mp he with z | z
          · have := hK e z; omega
          · rw [List.mem_singleton.mp z, hcc.2.2.2]; omega) (by omega) (by rw [e1, e2]; omega) (by rw [e2]; omega)
        rcases n2 with ⟨p2, a2, t2, v2, l2, o2, y1, y2, k', Rb, Sb, m1, m2, m3, m4, m5, m6, m7, m8, m9, m10, m11⟩ | ⟨Rb, Sb, m1, m2⟩
        · have hn2 := tk_n m2.1
          have e3 : (K ++ [c] ++ k').length = K.length + 1 + k'.length := by rw [List.length_append, e2]
          have e4 : (A2 ++ x2 ++ pops kk ++ y2).length = (A2 ++ x2).length + kk.length + y2.length := by rw [List.length_append, e1]
          have e5 : (A1 ++ x1 ++ y1).length = (A1 ++ x1).length + y1.length := List.length_append
          rw [e3, e4] at m9
          rw [e3] at m10
          obtain ⟨Ic, c3, w3, w4⟩ := ts_addC (D := F + 9) (J1 := J1) (c := c) (y := 0) m2 (by rw [e5]; omega) (by decide)
          rw [hcc.1] at c3
          refine ⟨trivial, _, _, k1, trivial, _, _, c2, trivial, _, _, c3, ?_⟩
          refine ih m0 (by omega) (i + 1) (x1 ++ (y1 ++ [(c, 0)])) (x2 ++ pops kk ++ y2) ([c] ++ k') p2 a2 t2 v2 l2 o2 Ic Rb Sb (by omega) (by omega) (by omega) (gA_tr hg (gA_tr g2 m1)) ?_ m3 (by rw [w4, m4]) ?_ ?_ ?_ ?_ ?_ ?_ m11 Q hQ
          · simp only [List.append_assoc] at w3 ⊢
            exact w3
          · have q := fr2_num (op := c) (h3 := 3 * u + 3) hcc.2.1 hcc.2.2.1 hf m5 (by omega) (by omega)
            rw [pops_app, pops_one]
            simp only [List.append_assoc] at q ⊢
            exact q
          · intro e he
            rcases List.mem_append.mp he with z | z
            · rw [List.mem_singleton.mp z, hcc.2.2.2]; exact Nat.le_refl _
            · have := m6 e z; omega
          · rw [← List.append_assoc, List.length_append, List.length_append, List.length_append]
            show s0 + ((A1.length + x1.length) + (y1.length + 1)) ≤ p2
            rw [List.length_append] at q1
            omega
          · rw [← List.append_assoc, ← List.append_assoc, e4, ← List.append_assoc, e3]; omega
          · rw [← List.append_assoc, e3]; omega
          · rw [List.length_append, List.length_append]; show x1.length + (y1.length + 1) + p0 ≤ p2; omega
        · obtain ⟨Ic, a3, b3⟩ := d_add (D := F + 9) (J1 := J1) (y := nI v) (z := 0) m2
          exact ⟨trivial, _, _, k1, trivial, _, _, c2, trivial, _, _, a3, lpD_sum b3 (hQ Ic (Or.inr ⟨Rb, Sb, gA_D hg (gA_D g2 m1), b3⟩))⟩
    refine mj_on (s164_6 _ ?_)
    rw [show (900 : Int32) = nI 900 from rfl]
    refine if_le (by decide) (by omega) (fun z => ex (fun y => ?_)) (fun z => ?_)
    · have := hn.2.2.1 (by omega)
      omega
    refine ⟨trivial, _, _, _, sg_c (c := 43) h.1 (by decide), if_tf (fun y => go 5 (Or.inl ⟨y.2, rfl⟩) y.1) (fun y1 => ?_)⟩
    refine ⟨trivial, _, _, _, sg_c (c := 45) h.1 (by decide), if_tf (fun y => go 6 (Or.inr ⟨y.2, rfl⟩) y.1) (fun y2 => ex ?_)⟩
    intro y
    rcases y.2 with z | z | z | z
    · exact y1 ⟨y.1, z⟩
    · exact y2 ⟨y.1, z⟩
    · exact hx ⟨y.1, Or.inl z⟩
    · exact hx ⟨y.1, Or.inr z⟩
set_option maxHeartbeats 4000000 in
theorem lv_sum (hS : stc d W H B1 B2 BJ) (IH : ∀ w, u = w + 1 → SumOK n x d s0 f0 W H B1 B2 BJ J1 E w) (hD : 4 * u + 12 ≤ D) (hu : op + u = 8) (h : TS n x d s0 f0 B1 B2 BJ op kd ph bs bg K L A1 A2 p a t v l o I1 I2 J2) (h45 : I2 0 45 = 0) (h9 : I1 11 9 = nI op) (hph : ph < 2) (hb : fst1 kd bg → ¬ spcl t v o) (hK : ∀ c ∈ K, rnk c < 5) (q1 : s0 + A1.length ≤ p) (q2 : f0 + A2.length + (bs + K.length) ≤ p) (q3 : 3 * (bs + K.length) ≤ 18 * op + 12 + p) :
    ∃ I1', C1 D 164 [.ref 11] I1 J1 .null I1' J1 ∧ LN n x d s0 f0 W H B1 B2 BJ E 5 (3 * u + 3) nx5 op kd ph bs K L A1 A2 p I1' I2 J2 := by
  obtain ⟨F, rfl⟩ : ∃ F, D = F + 12 := ⟨D - 12, by omega⟩
  obtain ⟨Ia, c1, n1⟩ := lv_prod (D := F + 11) (E := E) (J1 := J1) hS IH (by omega) hu h h45 h9 hph hb (fun e he => by have := hK e he; omega) q1 q2 (by omega)
  have key : ∀ Q : mj_R → Prop, (∀ I1', LN n x d s0 f0 W H B1 B2 BJ E 5 (3 * u + 3) nx5 op kd ph bs K L A1 A2 p I1' I2 J2 → Q (.null, (I1', J1, mj_R1))) → E1 164 (F + 11) Q 6 [(0, .ref 11), (1, .int 0)] Ia J1 := fun Q hQ => by
    rcases n1 with ⟨p2, a2, t2, v2, l2, o2, y1, y2, k', Rb, Sb, m1, m2, m3, m4, m5, m6, m7, m8, m9, m10, m11⟩ | ⟨Rb, Sb, m1, m2⟩
    · exact lp_sum hS IH (by omega) hu hph hK q3 (n - p2) 0 y1 y2 k' p2 a2 t2 v2 l2 o2 Ia Rb Sb (Nat.le_refl _) (by omega) m7 m1 m2 m3 m4 (fr2_up m5 (by omega)) (fun e he => by have := m6 e he; omega) (by rw [List.length_append]; omega) m9 m10 m8 m11 Q hQ
    · exact lpD_sum m2 (hQ Ia (Or.inr ⟨Rb, Sb, m1, m2⟩))
  obtain ⟨I', J', hc, rfl, hL⟩ := mj_cN (S := mj_S1) (CD := mj_CD) (D := F + 11) (z := 164) (as := [.ref 11]) (h := (I1, J1, mj_R1)) (R := mj_R1) (P := fun I' J' => J' = J1 ∧ LN n x d s0 f0 W H B1 B2 BJ E 5 (3 * u + 3) nx5 op kd ph bs K L A1 A2 p I' I2 J2) (e164 ⟨trivial, _, _, c1, key _ (fun I3 q => ⟨_, _, rfl, rfl, q⟩)⟩)
  exact ⟨I', hc, hL⟩
theorem sum_all (hS : stc d W H B1 B2 BJ) : ∀ u, SumOK n x d s0 f0 W H B1 B2 BJ J1 E u
  | 0 => fun D op kd ph bs bg K L A1 A2 p a t v l o I1 I2 J2 hD hu h h45 h9 hph hb hK q1 q2 q3 => lv_sum hS (fun w q => by omega) hD hu h h45 h9 hph hb hK q1 q2 q3
  | u + 1 => fun D op kd ph bs bg K L A1 A2 p a t v l o I1 I2 J2 hD hu h h45 h9 hph hb hK q1 q2 q3 => lv_sum hS (fun w q => by
      obtain rfl : w = u := by omega
      exact sum_all hS w) hD hu h h45 h9 hph hb hK q1 q2 q3
end Sa8h
end
