/-! reading a test: one part of a product, on both sides -/
/-- what comes of reading a number: the same number is laid down on both sides, or a fault is found -/
def LN (n : Nat) (x : Nat → Nat) (d s0 f0 W H : Nat) (B1 B2 : (Nat → Nat → Int32)) (BJ : (Nat → Nat → Int64)) (E : Nat) (r h : Nat) (nx : Nat → Nat → Prop) (op kd ph bs : Nat) (K : List Nat) (L : (Nat → Nat → Int32)) (A1 A2 : (List (Nat × Nat))) (p : Nat) (I1' I2 : (Nat → Nat → Int32)) (J2 : (Nat → Nat → Int64)) : Prop :=
  (∃ p' a' t' v' l' o' c1 c2 kk I2' J2', gA E I2 J2 I2' J2' ∧ TS n x d s0 f0 B1 B2 BJ op kd ph bs 0 (K ++ kk) L (A1 ++ c1) (A2 ++ c2) p' a' t' v' l' o' I1' I2' J2' ∧ I2' 0 45 = 1 ∧ I1' 11 9 = nI op ∧ fr2 W H false h c1 (c2 ++ pops kk) ∧ (∀ c ∈ kk, r ≤ rnk c) ∧ p < p' ∧ c1.length + p ≤ p' ∧ f0 + (A2 ++ c2).length + (bs + (K ++ kk).length) ≤ p' ∧ 3 * (bs + (K ++ kk).length) ≤ 18 * op + 18 + p' ∧ nx t' v') ∨
  (∃ I2' J2', gD E I2 J2 I2' J2' ∧ DD d s0 f0 B1 B2 BJ I1' I2' J2')
def nx5 (t v : Nat) : Prop := ¬ (t = 1 ∧ (v = 43 ∨ v = 45 ∨ v = 42 ∨ v = 47))
def nx6 (t v : Nat) : Prop := ¬ (t = 1 ∧ (v = 42 ∨ v = 47))
/-- sums are read alike, with u more brackets to open -/
def SumOK (n : Nat) (x : Nat → Nat) (d s0 f0 W H : Nat) (B1 B2 : (Nat → Nat → Int32)) (BJ : (Nat → Nat → Int64)) (J1 : (Nat → Nat → Int64)) (E u : Nat) : Prop := ∀ (D op kd ph bs : Nat) (bg : Int32) (K : List Nat) (L : (Nat → Nat → Int32)) (A1 A2 : (List (Nat × Nat))) (p a t v : Nat) (l : List Nat) (o : Int) (I1 I2 : (Nat → Nat → Int32)) (J2 : (Nat → Nat → Int64)), 4 * u + 12 ≤ D → op + u = 8 → TS n x d s0 f0 B1 B2 BJ op kd ph bs bg K L A1 A2 p a t v l o I1 I2 J2 → I2 0 45 = 0 → I1 11 9 = nI op → ph < 2 → (fst1 kd bg → ¬ spcl t v o) → (∀ c ∈ K, rnk c < 5) → s0 + A1.length ≤ p → f0 + A2.length + (bs + K.length) ≤ p → 3 * (bs + K.length) ≤ 18 * op + 12 + p →
  ∃ I1', C1 D 164 [.ref 11] I1 J1 .null I1' J1 ∧ LN n x d s0 f0 W H B1 B2 BJ E 5 (3 * u + 3) nx5 op kd ph bs K L A1 A2 p I1' I2 J2
section Sa8f
variable {n d s0 f0 W H : Nat} {x : Nat → Nat} {B1 B2 : Nat → Nat → Int32} {BJ : Nat → Nat → Int64}
variable {D D' E op kd ph bs p a t v u : Nat} {l : List Nat} {o : Int} {bg : Int32} {K : List Nat} {A1 A2 : List (Nat × Nat)} {L I1 I2 : Nat → Nat → Int32} {J1 J2 : Nat → Nat → Int64}
theorem part_in {r : Value} {I' : (Nat → Nat → Int32)} {J' : (Nat → Nat → Int64)} (h : TS n x d s0 f0 B1 B2 BJ op kd ph bs bg K L A1 A2 p a t v l o I1 I2 J2) (hq : E2 35 (D + 1) (fun y => y = (r, (I', J', mj_R2))) 34 [(0, .ref 0), (1, .int (nI op)), (2, .int (tf (fst1 kd bg)))] I2 J2) : mj_Cl mj_S2 mj_CD (D + 2) 35 [.ref 0] (I2, J2, mj_R2) (r, (I', J', mj_R2)) := by
  obtain ⟨-, -, -, -, ⟨-, -, -, -, a5, -, -⟩, ⟨f1, f2, f3, f4, -, -, -, -, -, f10, -, f12, -⟩⟩ := h
  have vp : vp_in (nI op) 20 := vp_in_nI (by omega) (by decide)
  refine mj_mk (e35 ?_)
  rw [f1, nI_pred, nI_clamp (by omega), f2]
  refine ⟨vp, trivial, _, _, _, r_isTest f10, if_tf (fun z => ⟨vp, ?_⟩) (fun z => ?_)⟩
  · rw [f4]
    rcases f12 with rfl | rfl
    · rw [tf_f (show ¬ fst1 kd 0 from fun q => absurd q.2 (by decide))] at hq
      rw [if_pos rfl]; exact hq
    · rw [tf_t (show fst1 kd 1 from ⟨z, rfl⟩)] at hq
      rw [if_neg (by decide)]; exact hq
  · rw [tf_f (show ¬ fst1 kd bg from fun q => z q.1)] at hq
    exact hq
/-- no word or bracket of a test: on to the operands -/
theorem part_148 {Q : mj_R → Prop} (h : TS n x d s0 f0 B1 B2 BJ op kd ph bs bg K L A1 A2 p a t v l o I1 I2 J2) (hb : fst1 kd bg → ¬ spcl t v o) (hq : E2 35 (D + 1) Q 148 [(0, .ref 0)] (mj_up I2 25 op 0) J2) : E2 35 (D + 1) Q 34 [(0, .ref 0), (1, .int (nI op)), (2, .int (tf (fst1 kd bg)))] I2 J2 := by
  have a5 := h.2.2.2.2.1.2.2.2.2.1
  have vp : vp_in (nI op) 20 := vp_in_nI (by omega) (by decide)
  have h' := (TS_bg (y := 0) h (Or.inl rfl)).1
  have e60 : E2 35 (D + 1) Q 60 [(0, .ref 0), (1, .int (nI op)), (2, .int (tf (fst1 kd bg)))] I2 J2 := by
    have e87 : E2 35 (D + 1) Q 87 [(0, .ref 0), (1, .int (nI op)), (2, .int (tf (fst1 kd bg)))] (mj_up I2 25 op 0) J2 := by
      have e120 : E2 35 (D + 1) Q 120 [(0, .ref 0), (1, .int (nI op)), (2, .int (tf (fst1 kd bg)))] (mj_up I2 25 op 0) J2 := by
        refine mj_on (s35_120 _ _ ?_)
        refine if_tf (fun z => ?_) (fun _ => hq)
        exact ⟨trivial, _, _, _, wd_r (w := 12) h' (by decide), if_tf (fun y => absurd (Or.inr (Or.inr (Or.inr y))) (hb z)) (fun _ => hq)⟩
      refine mj_on (s35_87 _ _ ?_)
      refine if_tf (fun z => ?_) (fun _ => e120)
      exact ⟨trivial, _, _, _, wd_r (w := 11) h' (by decide), if_tf (fun y => absurd (Or.inr (Or.inr (Or.inl y))) (hb z)) (fun _ => e120)⟩
    refine mj_on (s35_60 _ _ ?_)
    rw [nI_clamp (by omega)]
    refine ⟨vp, if_tf (fun z => ?_) (fun _ => e87)⟩
    exact ⟨trivial, _, _, _, sg_r (c := 91) h' (by decide), if_tf (fun y => absurd (Or.inl y) (hb z)) (fun _ => e87)⟩
  refine mj_on (s35_34 _ _ ?_)
  refine if_tf (fun z => ?_) (fun _ => e60)
  exact ⟨trivial, _, _, _, wd_r (w := 10) h.1 (by decide), if_tf (fun y => absurd (Or.inr (Or.inl y)) (hb z)) (fun _ => e60)⟩
/-- one step that stands for one token -/
theorem lv_leaf {c y u : Nat} {Ia Ib : (Nat → Nat → Int32)} {Jb : (Nat → Nat → Int64)} (hc : c ≤ 2) (hv : (c = 0 → y ≤ 9999) ∧ (c = 2 → y < W) ∧ (c = 4 → y < H) ∧ (c = 1 ∨ c = 3 → y = 0)) (hg : gA E I2 J2 Ib Jb) {p' a' t' v' : Nat} {l' : List Nat} {o' : Int} (h : TS n x d s0 f0 B1 B2 BJ op kd ph bs 0 K L (A1 ++ [(c, y)]) (A2 ++ [(c, y)]) p' a' t' v' l' o' Ia Ib Jb) (h45 : Ib 0 45 = 1) (h9 : Ia 11 9 = nI op) (hp : p < p') (q1 : s0 + A1.length ≤ p) (q2 : f0 + A2.length + (bs + K.length) ≤ p) (q3 : 3 * (bs + K.length) ≤ 18 * op + 15 + p) : LN n x d s0 f0 W H B1 B2 BJ E 6 (3 * u + 1) (fun _ _ => True) op kd ph bs K L A1 A2 p Ia I2 J2 := by
  refine Or.inl ⟨p', a', t', v', l', o', [(c, y)], [(c, y)], [], Ib, Jb, hg, by rw [List.append_nil]; exact h, h45, h9, ?_, fun c hc => (by cases hc), hp, ?_, ?_, ?_, trivial⟩
  · rw [pops_nil, List.append_nil]
    have q := fr2_leaf (W := W) (H := H) (c := c) (v := y) (by omega) hv
    rw [decide_eq_false (by omega)] at q
    exact fr2_up q (by omega)
  · show 1 + p ≤ p'; omega
  · rw [List.length_append, List.append_nil]; show f0 + (A2.length + 1) + (bs + K.length) ≤ p'; omega
  · rw [List.append_nil]; omega
theorem TS_pr {y : Int32} (h : TS n x d s0 f0 B1 B2 BJ op kd ph bs bg K L A1 A2 p a t v l o I1 I2 J2) : TS n x d s0 f0 B1 B2 BJ op kd ph bs bg K (mj_up I2 26 op y) A1 A2 p a t v l o I1 (mj_up I2 26 op y) J2 := by
  obtain ⟨h1, h2, h3, h4, h5, ⟨f1, f2, f3, f4, f5, f6, f7, f8, f9, f10⟩⟩ := h
  refine ⟨tkR_cg h1 (fun _ _ _ => rfl) (fun q j z => up_n (by omega)) rfl, h2, fun q j z1 z2 z3 => by rw [up_n (by omega)]; exact h3 q j z1 z2 z3, h4, tsA_cg h5 rfl (fun _ => rfl) (up_n (by omega)) (fun j => ⟨up_n (by omega), up_n (by omega)⟩) (up_n (by omega)) (up_n (by omega)), ⟨?_, ?_, ?_, ?_, ?_, fun i z zz => ?_, fun _ _ _ _ _ => rfl, rfl, fun _ _ => rfl, f10⟩⟩
  · rw [up_n (by omega)]; exact f1
  · rw [up_n (by omega)]; exact f2
  · rw [up_n (by omega)]; exact f3
  · rw [up_n (by omega)]; exact f4
  · rw [up_n (by omega)]; exact f5
  · rw [up_n (by omega)]; exact f6 i z zz
theorem TS_119 {y : Int32} (h : TS n x d s0 f0 B1 B2 BJ op kd ph bs bg K L A1 A2 p a t v l o I1 I2 J2) : TS n x d s0 f0 B1 B2 BJ op kd ph bs bg K L A1 A2 p a t v l o (mj_up I1 11 9 y) I2 J2 := by
  obtain ⟨h1, h2, h3, h4, h5, h6⟩ := h
  refine ⟨tkR_cg h1 (fun q j z => up_n (by omega)) (fun _ _ _ => rfl) rfl, fun q j z1 z2 z3 => by rw [up_n (by omega)]; exact h2 q j z1 z2 z3, h3, h4, tsA_cg h5 (up_n (by omega)) (fun j => up_n (by omega)) rfl (fun _ => ⟨rfl, rfl⟩) rfl rfl, h6⟩
/-- opens does nothing behind a fault -/
theorem r38_D {k : Nat} (h : DD d s0 f0 B1 B2 BJ I1 I2 J2) : C2 (D + 2) 38 [.ref 0, .int (nI k)] I2 J2 .null I2 J2 := by
  obtain ⟨j, j1, j2, j3⟩ := DD_k h
  have e18 : E2 38 (D + 1) (fun y => y = (.null, (I2, J2, mj_R2))) 18 [(0, .ref 0), (1, .int (nI k))] I2 J2 := by
    refine mj_on (s38_18 _ ?_)
    rw [if_neg (DD_8 h).2]
  refine mj_mk (e38 _ ?_)
  exact if_i (fun _ => ⟨trivial, _, _, r_blD j3 j1 j2, e18⟩) (fun _ => e18)
theorem r224_D {Q : mj_R → Prop} {y : Int32} (h : DD d s0 f0 B1 B2 BJ I1 I2 J2) (hQ : Q (.int 0, (I2, J2, mj_R2))) : E2 35 (E + 4) Q 224 [(0, .ref 0), (3, .int y)] I2 J2 := by
  refine mj_on (s35_224 _ ?_)
  refine ⟨trivial, _, _, r38_D (k := 3) (D := E + 2) h, ?_⟩
  rw [if_neg (DD_8 h).1]
  exact ⟨Or.inl rfl, hQ⟩
theorem tk_n2 (h : tkR n x p a t v l o I1 I2 J2) : p ≤ n ∧ n ≤ 900 := ⟨(tk_n h).1, (tk_n h).2.1⟩
end Sa8f
