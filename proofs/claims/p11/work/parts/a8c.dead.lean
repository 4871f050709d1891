/-! reading a test: next on both sides; the class behind a fault; the reference's loop -/
section Sa8c
variable {n d s0 f0 W H : Nat} {x : Nat → Nat} {B1 B2 : Nat → Nat → Int32} {BJ : Nat → Nat → Int64}
variable {D D' E op kd ph bs p a t v u : Nat} {l : List Nat} {o : Int} {bg : Int32} {K : List Nat} {A1 A2 : List (Nat × Nat)} {L I1 I2 : Nat → Nat → Int32} {J1 J2 : Nat → Nat → Int64}
theorem adv_ta (h : tkR n x p a t v l o I1 I2 J2) (h0 : t ≠ 0) : ∃ I1' I2' J2', C1 (D + 3) 139 [.ref 11] I1 J1 .null I1' J1 ∧ C2 (D' + 2) 13 [.ref 0] I2 J2 .null I2' J2' ∧ lxf I1 I1' ∧ lxg I2 I2' ∧ lxgJ J2 J2' ∧ ((∃ p' a' t' v' l' o', tkR n x p' a' t' v' l' o' I1' I2' J2' ∧ p < p' ∧ (t = 3 → p + l.length ≤ p')) ∨ ∃ p', tkD 1 p' I1' I2') := by
  have hA := tkR_A h h0
  obtain ⟨h1, h2, hO, c2, r2, c8, r4, c4, r5, c5, r3, c7, w0, r8, r9, hpn, hS⟩ := h
  have key : t ≤ 4 ∧ a ≤ n ∧ p < a ∧ (t = 3 → p + l.length ≤ a) := by
    rcases hS with ⟨q, -⟩ | ⟨q1, q2, q3, -⟩ | ⟨q1, q2, q3, -⟩ | ⟨q1, q2, q3, -, ⟨q5, -⟩, -⟩
    · exact absurd q h0
    · exact ⟨by omega, by omega, by omega, fun q => by omega⟩
    · exact ⟨by omega, by omega, by omega, fun q => by omega⟩
    · exact ⟨by omega, by omega, by omega, fun _ => q2⟩
  obtain ⟨I1', J1', I2', J2', k1, k2, rfl, k4, k5, k6, k7⟩ := adv_both (D := D) (D' := D') (J1 := J1) (J2 := J2) h1 h2 hO c2 r2 c4 r5 c5 key.1 w0 r8 r9 key.2.1 hA
  refine ⟨I1', I2', J2', k1, k2, k4, k5, k6, k7.imp (fun ⟨p', a', t', v', l', o', q1, q2⟩ => ⟨p', a', t', v', l', o', q1, by omega, fun q => ?_⟩) id⟩
  have := key.2.2.2 q
  omega
theorem tk_o (h : tkR n x p a t v l o I1 I2 J2) (ht : t ≠ 3) : o = -1 := by
  obtain ⟨-, -, -, -, -, -, -, -, -, -, -, -, -, -, -, -, hS⟩ := h
  rcases hS with ⟨q1, -, -, q⟩ | ⟨q1, -, -, -, -, -, -, -, q⟩ | ⟨q1, -, -, -, -, -, -, q⟩ | ⟨q1, -⟩
  · exact q
  · exact q
  · exact q
  · exact absurd q1 ht
theorem tk_n (h : tkR n x p a t v l o I1 I2 J2) : p ≤ n ∧ n ≤ 900 ∧ (t ≠ 0 → p < n) ∧ (t = 2 → v ≤ 9999) ∧ t ≤ 3 := by
  have h3 := tkS_t h.2.2.2.2.2.2.2.2.2.2.2.2.2.2.2.2
  have hn := h.1.1
  obtain ⟨-, -, -, -, -, -, -, -, -, -, -, -, -, -, -, hp, hS⟩ := h
  refine ⟨hp, hn, fun h0 => ?_, fun h2 => ?_, h3⟩
  · rcases hS with ⟨q, -⟩ | ⟨q1, q2, q3, -⟩ | ⟨q1, q2, q3, -⟩ | ⟨q1, q2, q3, -, ⟨q5, -⟩, -⟩
    · exact absurd q h0
    · omega
    · omega
    · omega
  · rcases hS with ⟨q, -⟩ | ⟨q, -⟩ | ⟨q1, -, -, -, q, -⟩ | ⟨q, -⟩
    · omega
    · omega
    · exact q
    · omega
/-- the word of the language that stands there is as long as it is -/
theorem tk_w (h : tkR n x p a t v l o I1 I2 J2) {w : Nat} (hw : w < 17) (ho : o = w) : t = 3 ∧ l = owL.getD w [] := by
  have h3 : t = 3 := Classical.byContradiction fun q => by have := tk_o h q; omega
  refine ⟨h3, ?_⟩
  obtain ⟨-, -, -, -, -, -, -, -, -, -, -, -, -, -, -, -, hS⟩ := h
  rcases hS with ⟨q, -⟩ | ⟨q, -⟩ | ⟨q, -⟩ | ⟨-, -, -, -, -, -, -, q⟩
  · omega
  · omega
  · omega
  · exact ((lxo_at q hw).mp ho).symm
theorem ts_adv (h : TS n x d s0 f0 B1 B2 BJ op kd ph bs bg K L A1 A2 p a t v l o I1 I2 J2) (h0 : t ≠ 0) (hs : s0 + A1.length ≤ 900) : ∃ I1' I2' J2', C1 (D + 3) 139 [.ref 11] I1 J1 .null I1' J1 ∧ C2 (D' + 2) 13 [.ref 0] I2 J2 .null I2' J2' ∧ I2' 0 45 = I2 0 45 ∧ I1' 11 9 = I1 11 9 ∧ ((∃ p' a' t' v' l' o', TS n x d s0 f0 B1 B2 BJ op kd ph bs bg K L A1 A2 p' a' t' v' l' o' I1' I2' J2' ∧ p < p' ∧ (t = 3 → p + l.length ≤ p')) ∨ (DD d s0 f0 B1 B2 BJ I1' I2' J2' ∧ I2' 0 8 = nI 1)) := by
  obtain ⟨h1, h2, h3, h4, h5, h6⟩ := h
  obtain ⟨I1', I2', J2', k1, k2, k4, k5, k6, k7⟩ := adv_ta (D := D) (D' := D') (J1 := J1) h1 h0
  refine ⟨I1', I2', J2', k1, k2, k5 0 45 (by omega), k4 11 9 (by omega), ?_⟩
  have t2 : tsC s0 B1 I1' := fun q j z1 z2 z3 => by rw [k4 q j (by omega)]; exact h2 q j z1 z2 z3
  have t3 : tsR d f0 B2 I2' := fun q j z1 z2 z3 => by rw [k5 q j (by unfold tsl at z1; omega)]; exact h3 q j z1 z2 z3
  have t4 : lxgJ BJ J2' := fun q j z => by rw [k6 q j z]; exact h4 q j z
  rcases k7 with ⟨p', a', t', v', l', o', q1, q2, q3⟩ | ⟨p', q1⟩
  · exact Or.inl ⟨p', a', t', v', l', o', ⟨q1, t2, t3, t4, tsA_cg h5 (k4 14 9 (by omega)) (fun j => k4 22 j (by omega)) (k5 0 34 (by omega)) (fun j => ⟨k5 21 j (by omega), k5 22 j (by omega)⟩) (k5 0 42 (by omega)) (k5 0 44 (by omega)), tsF_cg h6 (k5 0 41 (by omega)) (fun q j z1 z2 => k5 q j (by omega))⟩, q2, q3⟩
  · exact Or.inr ⟨⟨⟨1, p', q1⟩, t2, t3, t4, _, Nat.le_add_right _ _, hs, by rw [k4 14 9 (by omega)]; exact h5.1⟩, q1.2.2.2.2.2.2.1⟩
/-- a fault on both sides at the token at hand -/
theorem ts_bl {k : Nat} (h : TS n x d s0 f0 B1 B2 BJ op kd ph bs bg K L A1 A2 p a t v l o I1 I2 J2) (hk : 1 ≤ k) (hk6 : k ≤ 6) (hs : s0 + A1.length ≤ 900) : ∃ I1' I2', C1 (D + 1) 144 [.ref 11, .int (nI k)] I1 J1 .null I1' J1 ∧ C2 (D' + 1) 16 [.ref 0, .int (nI k), .int (I2 0 4)] I2 J2 .null I2' J2 ∧ DD d s0 f0 B1 B2 BJ I1' I2' J2 ∧ I2' 0 8 = nI k ∧ I2' 0 45 = I2 0 45 ∧ I1' 11 9 = I1 11 9 ∧ ∀ q j, (q ≠ 0 ∨ (j ≠ 8 ∧ j ≠ 9)) → I2' q j = I2 q j := by
  obtain ⟨h1, h2, h3, h4, h5, h6⟩ := h
  obtain ⟨I1', I2', k1, k2, k3, k4, k5⟩ := bl_both (D := D) (D' := D') (J1 := J1) (J2 := J2) h1 hk hk6
  refine ⟨I1', I2', k1, k2, ⟨⟨k, p, k5⟩, fun q j z1 z2 z3 => ?_, fun q j z1 z2 z3 => ?_, h4, _, Nat.le_add_right _ _, hs, ?_⟩, k5.2.2.2.2.2.2.1, k4 0 45 (by omega), k3 11 9 (by omega), k4⟩
  · rw [k3 q j (by omega)]; exact h2 q j z1 z2 z3
  · rw [k4 q j (by unfold tsl at z1; omega)]; exact h3 q j z1 z2 z3
  · rw [k3 14 9 (by omega)]; exact h5.1
theorem r_blD {y z : Int32} {k : Nat} (h8 : I2 0 8 = nI k) (hk : 1 ≤ k) (hk6 : k ≤ 6) : C2 (D + 1) 16 [.ref 0, .int y, .int z] I2 J2 .null I2 J2 := r_blame1 (by
  rw [h8]
  intro q
  have q : nI k ≤ nI 0 := q
  have := (nI_leI (by omega) (by decide)).mp q
  omega)
theorem DD_k (h : DD d s0 f0 B1 B2 BJ I1 I2 J2) : ∃ k, 1 ≤ k ∧ k ≤ 6 ∧ I2 0 8 = nI k := by
  obtain ⟨⟨k, p, q⟩, -⟩ := h
  exact ⟨k, q.1, q.2.1, q.2.2.2.2.2.2.1⟩
theorem DD_8 (h : DD d s0 f0 B1 B2 BJ I1 I2 J2) : ¬ I2 0 8 = 0 ∧ ¬ I2 0 8 ≤ 0 := by
  obtain ⟨k, h1, h2, h3⟩ := DD_k h
  rw [h3]
  refine ⟨nI_ne0 (by omega) (by omega), fun q => ?_⟩
  have q : nI k ≤ nI 0 := q
  have := (nI_leI (by omega) (by decide)).mp q
  omega
-- the class behind a fault
theorem DD_lxh {I1' : (Nat → Nat → Int32)} (h : DD d s0 f0 B1 B2 BJ I1 I2 J2) (hh : lxh I1 I1') (hd : ∃ k p, tkD k p I1' I2) : DD d s0 f0 B1 B2 BJ I1' I2 J2 := by
  obtain ⟨-, h2, h3, h4, c, h5, h6, h7⟩ := h
  exact ⟨hd, fun q j z1 z2 z3 => by rw [hh q j (by omega)]; exact h2 q j z1 z2 z3, h3, h4, c, h5, h6, by rw [hh 14 9 (by omega)]; exact h7⟩
theorem d_tok (h : DD d s0 f0 B1 B2 BJ I1 I2 J2) : I1 11 5 = nI 4 ∧ I1 11 7 = -1 := by
  obtain ⟨⟨k, p, q⟩, -⟩ := h
  exact ⟨q.2.2.2.1, q.2.2.2.2.1⟩
theorem d_add {y z : Int32} (h : DD d s0 f0 B1 B2 BJ I1 I2 J2) : ∃ I1', C1 (D + 2) 163 [.ref 14, .int y, .int z] I1 J1 .null I1' J1 ∧ DD d s0 f0 B1 B2 BJ I1' I2 J2 := by
  obtain ⟨⟨k, p, b1, b2, b3, b4, b5, b6, b7, b8⟩, h2, h3, h4, c, h5, h6, h7⟩ := h
  obtain ⟨I1', k1, k2, e, e1, e2, e3⟩ := c_addD (D := D) (J1 := J1) (y := y) (z := z) h7 h6
  refine ⟨I1', k1, ⟨k, p, b1, b2, b3, ?_, ?_, ?_, b7, b8⟩, fun q j z1 z2 z3 => ?_, h3, h4, e, by omega, e2, e3⟩
  · rw [k2 11 5 (by omega) (by omega)]; exact b4
  · rw [k2 11 7 (by omega) (by omega)]; exact b5
  · rw [k2 11 10 (by omega) (by omega), k2 11 8 (by omega) (by omega), k2 11 11 (by omega) (by omega)]; exact b6
  · rw [k2 q j z2 (by omega)]; exact h2 q j z1 z2 z3
theorem d_bl (h : DD d s0 f0 B1 B2 BJ I1 I2 J2) : ∃ I1', C1 (D + 1) 144 [.ref 11, .int 1] I1 J1 .null I1' J1 ∧ DD d s0 f0 B1 B2 BJ I1' I2 J2 := by
  obtain ⟨⟨k, p, q⟩, -⟩ := id h
  obtain ⟨I1', J1', k1, rfl, k2, k3, -⟩ := dd_blame (D := D) (J1 := J1) q
  exact ⟨I1', k1, DD_lxh h k2 ⟨k, p, k3⟩⟩
theorem d_take {c : Int32} (h : DD d s0 f0 B1 B2 BJ I1 I2 J2) : ∃ I1', C1 (D + 2) 162 [.ref 11, .int c] I1 J1 .null I1' J1 ∧ DD d s0 f0 B1 B2 BJ I1' I2 J2 := by
  obtain ⟨⟨k, p, q⟩, -⟩ := id h
  obtain ⟨I1', J1', k1, rfl, k2, k3, -⟩ := dd_take (D := D) (J1 := J1) (c := c) q
  exact ⟨I1', k1, DD_lxh h k2 ⟨k, p, k3⟩⟩
theorem d_open {c : Int32} (h : DD d s0 f0 B1 B2 BJ I1 I2 J2) : ∃ I1', C1 (D + 2) 161 [.ref 11, .int c] I1 J1 (.int 0) I1' J1 ∧ DD d s0 f0 B1 B2 BJ I1' I2 J2 := by
  obtain ⟨⟨k, p, q⟩, -⟩ := id h
  obtain ⟨I1', J1', k1, rfl, k2, k3, -⟩ := dd_open (D := D) (J1 := J1) (c := c) q
  exact ⟨I1', k1, DD_lxh h k2 ⟨k, p, k3⟩⟩
theorem d_ask {c e : Int32} (h : DD d s0 f0 B1 B2 BJ I1 I2 J2) : ∃ I1', C1 (D + 2) 153 [.ref 11, .int c, .int e] I1 J1 (.int (-1)) I1' J1 ∧ DD d s0 f0 B1 B2 BJ I1' I2 J2 := by
  obtain ⟨⟨k, p, q⟩, -⟩ := id h
  obtain ⟨I1', J1', k1, rfl, k2, k3, -⟩ := dd_ask (D := D) (J1 := J1) (c := c) (e := e) q
  exact ⟨I1', k1, DD_lxh h k2 ⟨k, p, k3⟩⟩
theorem d_cmp (h : DD d s0 f0 B1 B2 BJ I1 I2 J2) : ∃ I1', C1 (D + 2) 168 [.ref 11] I1 J1 (.int (-1)) I1' J1 ∧ DD d s0 f0 B1 B2 BJ I1' I2 J2 := by
  obtain ⟨⟨k, p, q⟩, -⟩ := id h
  obtain ⟨I1', J1', k1, rfl, k2, k3, -⟩ := dd_cmp (D := D) (J1 := J1) q
  exact ⟨I1', k1, DD_lxh h k2 ⟨k, p, k3⟩⟩
theorem DD_119 {y : Int32} (h : DD d s0 f0 B1 B2 BJ I1 I2 J2) : DD d s0 f0 B1 B2 BJ (mj_up I1 11 9 y) I2 J2 := by
  obtain ⟨⟨k, p, b1, b2, b3, b4, b5, b6, b7, b8⟩, h2, h3, h4, c, h5, h6, h7⟩ := h
  refine ⟨⟨k, p, b1, b2, b3, ?_, ?_, ?_, b7, b8⟩, fun q j z1 z2 z3 => ?_, h3, h4, c, h5, h6, ?_⟩
  · rw [up_n (by omega)]; exact b4
  · rw [up_n (by omega)]; exact b5
  · rw [up_n (by omega), up_n (by omega), up_n (by omega)]; exact b6
  · rw [up_n (by omega)]; exact h2 q j z1 z2 z3
  · rw [up_n (by omega)]; exact h7
theorem d_part (h : DD d s0 f0 B1 B2 BJ I1 I2 J2) : ∃ I1', C1 (D + 3) 166 [.ref 11] I1 J1 .null I1' J1 ∧ DD d s0 f0 B1 B2 BJ I1' I2 J2 := by
  obtain ⟨e1, e2⟩ := d_tok h
  obtain ⟨Ia, ca, ha⟩ := d_open (D := D) (J1 := J1) (c := 40) h
  refine ⟨Ia, mj_mk (e166 ?_), ha⟩
  rw [e1, e2, if_neg (by decide), if_neg (by decide), if_neg (by decide), if_neg (by decide), if_neg (by decide)]
  refine ⟨trivial, _, _, _, ca, ?_⟩
  rw [if_pos rfl]
theorem d_prod (h : DD d s0 f0 B1 B2 BJ I1 I2 J2) : ∃ I1', C1 (D + 4) 165 [.ref 11] I1 J1 .null I1' J1 ∧ DD d s0 f0 B1 B2 BJ I1' I2 J2 := by
  obtain ⟨Ia, ca, ha⟩ := d_part (D := D) (J1 := J1) h
  refine ⟨Ia, mj_mk (e165 ?_), ha⟩
  refine ⟨trivial, _, _, ca, ?_⟩
  refine mj_on (s165_6 _ ?_)
  rw [if_neg (by decide)]
  refine ⟨trivial, _, _, _, sg_d (d_tok ha).1, if_tf (fun z => z.elim) (fun _ => ?_)⟩
  refine ⟨trivial, _, _, _, sg_d (d_tok ha).1, if_tf (fun z => z.elim) (fun _ => rfl)⟩
theorem d_sum (h : DD d s0 f0 B1 B2 BJ I1 I2 J2) : ∃ I1', C1 (D + 5) 164 [.ref 11] I1 J1 .null I1' J1 ∧ DD d s0 f0 B1 B2 BJ I1' I2 J2 := by
  obtain ⟨Ia, ca, ha⟩ := d_prod (D := D) (J1 := J1) h
  refine ⟨Ia, mj_mk (e164 ?_), ha⟩
  refine ⟨trivial, _, _, ca, ?_⟩
  refine mj_on (s164_6 _ ?_)
  rw [if_neg (by decide)]
  refine ⟨trivial, _, _, _, sg_d (d_tok ha).1, if_tf (fun z => z.elim) (fun _ => ?_)⟩
  refine ⟨trivial, _, _, _, sg_d (d_tok ha).1, if_tf (fun z => z.elim) (fun _ => rfl)⟩
/-- the end of a fact -/
theorem d_fact160 {Q : mj_R → Prop} {y : Int32} (h : DD d s0 f0 B1 B2 BJ I1 I2 J2) (hQ : ∀ I1', DD d s0 f0 B1 B2 BJ I1' I2 J2 → Q (.null, (I1', J1, mj_R1))) : E1 159 (D + 2) Q 160 [(0, .ref 11), (1, .int y)] I1 J1 := by
  refine mj_on (s159_160 _ ?_)
  refine if_i (fun _ => hQ I1 h) (fun _ => ?_)
  obtain ⟨Ia, ca, ha⟩ := d_add (D := D) (J1 := J1) (y := 10) (z := 0) h
  exact ⟨trivial, _, _, ca, hQ Ia ha⟩
theorem d_fact4 {Q : mj_R → Prop} {y z : Int32} (h : DD d s0 f0 B1 B2 BJ I1 I2 J2) (hQ : ∀ I1', DD d s0 f0 B1 B2 BJ I1' I2 J2 → Q (.null, (I1', J1, mj_R1))) : E1 159 (D + 5) Q 4 [(0, .ref 11), (1, .int y), (2, .int z)] I1 J1 := by
  have e40 : E1 159 (D + 5) Q 40 [(0, .ref 11), (1, .int y)] I1 J1 := by
    obtain ⟨e1, e2⟩ := d_tok h
    refine mj_on (s159_40 _ ?_)
    refine ⟨trivial, _, _, _, sg_d e1, if_tf (fun z => z.elim) (fun _ => ?_)⟩
    rw [e2, if_neg (by decide), if_neg (by decide)]
    obtain ⟨Ia, ca, ha⟩ := d_sum (D := D) (J1 := J1) h
    obtain ⟨Ib, cb, hb⟩ := d_cmp (D := D + 3) (J1 := J1) ha
    obtain ⟨Ic, cc, hc⟩ := d_sum (D := D) (J1 := J1) hb
    obtain ⟨Id, cd, hd⟩ := d_add (D := D + 3) (J1 := J1) (y := -1) (z := 0) hc
    exact ⟨trivial, _, _, ca, trivial, _, _, _, cb, trivial, _, _, cc, trivial, _, _, cd, d_fact160 (D := D + 3) hd hQ⟩
  refine mj_on (s159_4 _ _ ?_)
  rw [(d_tok h).2]
  exact if_i (fun _ => e40) (fun _ => by rw [if_neg (by decide)]; exact e40)
theorem d_fact (h : DD d s0 f0 B1 B2 BJ I1 I2 J2) : ∃ I1', C1 (D + 6) 159 [.ref 11] I1 J1 .null I1' J1 ∧ DD d s0 f0 B1 B2 BJ I1' I2 J2 := by
  obtain ⟨I', J', hc, h1, rfl⟩ := mj_cN (S := mj_S1) (CD := mj_CD) (D := D + 5) (z := 159) (as := [.ref 11]) (h := (I1, J1, mj_R1)) (R := mj_R1) (P := fun I' J' => DD d s0 f0 B1 B2 BJ I' I2 J2 ∧ J' = J1) (e159 (d_fact4 h (fun I3 q => ⟨_, _, rfl, q, rfl⟩)))
  exact ⟨I', hc, h1⟩
theorem d_both (h : DD d s0 f0 B1 B2 BJ I1 I2 J2) : ∃ I1', C1 (D + 7) 158 [.ref 11] I1 J1 .null I1' J1 ∧ DD d s0 f0 B1 B2 BJ I1' I2 J2 := by
  obtain ⟨Ia, ca, ha⟩ := d_fact (D := D) (J1 := J1) h
  refine ⟨Ia, mj_mk (e158 ?_), ha⟩
  refine ⟨trivial, _, _, ca, ?_⟩
  refine mj_on (s158_6 _ ?_)
  rw [if_neg (by decide), (d_tok ha).2, if_neg (by decide)]
theorem d_test (h : DD d s0 f0 B1 B2 BJ I1 I2 J2) : ∃ I1', C1 (D + 8) 157 [.ref 11] I1 J1 .null I1' J1 ∧ DD d s0 f0 B1 B2 BJ I1' I2 J2 := by
  obtain ⟨Ia, ca, ha⟩ := d_both (D := D) (J1 := J1) h
  refine ⟨Ia, mj_mk (e157 ?_), ha⟩
  refine ⟨trivial, _, _, ca, ?_⟩
  refine mj_on (s157_6 _ ?_)
  rw [if_neg (by decide), (d_tok ha).2, if_neg (by decide)]
-- the reference's loop
def gA (E : Nat) (I2 : (Nat → Nat → Int32)) (J2 : (Nat → Nat → Int64)) (I2' : (Nat → Nat → Int32)) (J2' : (Nat → Nat → Int64)) : Prop := ∀ Q : mj_R → Prop, E2 33 (E + 5) Q 35 [(0, .ref 0), (1, .int 1)] I2' J2' → E2 33 (E + 5) Q 35 [(0, .ref 0), (1, .int 1)] I2 J2
def gD (E : Nat) (I2 : (Nat → Nat → Int32)) (J2 : (Nat → Nat → Int64)) (I2' : (Nat → Nat → Int32)) (J2' : (Nat → Nat → Int64)) : Prop := ∀ Q : mj_R → Prop, Q (.null, (I2', J2', mj_R2)) → E2 33 (E + 5) Q 35 [(0, .ref 0), (1, .int 1)] I2 J2
theorem g_end {Q : mj_R → Prop} {I : (Nat → Nat → Int32)} {J : (Nat → Nat → Int64)} (h : Q (.null, (I, J, mj_R2))) : E2 33 (E + 5) Q 35 [(0, .ref 0), (1, .int 0)] I J := by
  refine mj_on (s33_35 _ ?_)
  rw [if_pos rfl]
  exact h
theorem g_part {r : Int32} {I' : (Nat → Nat → Int32)} {J' : (Nat → Nat → Int64)} (h45 : I2 0 45 = 0) (hc : C2 (E + 5) 35 [.ref 0] I2 J2 (.int r) I' J') (hr : r = 0 ∨ r = 1) (h8 : I' 0 8 = 0) : gA E I2 J2 (mj_up I' 0 45 r) J' := fun Q h => by
  refine mj_on (s33_35 _ ?_)
  rw [if_neg (by decide), if_pos h45]
  refine ⟨trivial, _, _, _, hc, hr, ?_⟩
  refine mj_on (s33_62 _ ?_)
  rw [if_neg (by decide), if_pos (by rw [up_n (by decide)]; exact h8)]
  exact h
theorem g_partD {r : Int32} {I' : (Nat → Nat → Int32)} {J' : (Nat → Nat → Int64)} (h45 : I2 0 45 = 0) (hc : C2 (E + 5) 35 [.ref 0] I2 J2 (.int r) I' J') (hr : r = 0 ∨ r = 1) (h8 : ¬ I' 0 8 = 0) : gD E I2 J2 (mj_up I' 0 45 r) J' := fun Q h => by
  refine mj_on (s33_35 _ ?_)
  rw [if_neg (by decide), if_pos h45]
  refine ⟨trivial, _, _, _, hc, hr, ?_⟩
  refine mj_on (s33_62 _ ?_)
  rw [if_neg (by decide), if_neg (by rw [up_n (by decide)]; exact h8)]
  exact g_end h
theorem g_go {I' : (Nat → Nat → Int32)} {J' : (Nat → Nat → Int64)} (h45 : I2 0 45 = 1) (hc : C2 (E + 5) 41 [.ref 0] I2 J2 (.int 1) I' J') (h8 : I' 0 8 = 0) : gA E I2 J2 I' J' := fun Q h => by
  refine mj_on (s33_35 _ ?_)
  rw [if_neg (by decide), h45, if_neg (by decide)]
  refine ⟨trivial, _, _, _, hc, ?_⟩
  refine mj_on (s33_62 _ ?_)
  rw [if_neg (by decide), if_pos h8]
  exact h
theorem g_goD {r : Int32} {I' : (Nat → Nat → Int32)} {J' : (Nat → Nat → Int64)} (h45 : I2 0 45 = 1) (hc : C2 (E + 5) 41 [.ref 0] I2 J2 (.int r) I' J') (h8 : ¬ I' 0 8 = 0 ∨ r = 0) : gD E I2 J2 I' J' := fun Q h => by
  refine mj_on (s33_35 _ ?_)
  rw [if_neg (by decide), h45, if_neg (by decide)]
  refine ⟨trivial, _, _, _, hc, ?_⟩
  refine mj_on (s33_62 _ ?_)
  refine if_i (fun _ => g_end h) (fun z => ?_)
  rw [if_neg (h8.resolve_right z)]
  exact g_end h
theorem gA_tr {Ia Ib : (Nat → Nat → Int32)} {Ja Jb : (Nat → Nat → Int64)} (h : gA E I2 J2 Ia Ja) (h' : gA E Ia Ja Ib Jb) : gA E I2 J2 Ib Jb := fun Q q => h Q (h' Q q)
theorem gA_D {Ia Ib : (Nat → Nat → Int32)} {Ja Jb : (Nat → Nat → Int64)} (h : gA E I2 J2 Ia Ja) (h' : gD E Ia Ja Ib Jb) : gD E I2 J2 Ib Jb := fun Q q => h Q (h' Q q)
theorem gA_rf : gA E I2 J2 I2 J2 := fun _ q => q
end Sa8c
