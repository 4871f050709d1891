/-! a fault told on both sides; the class behind it -/
def lxh (I I' : Nat → Nat → Int32) : Prop := ∀ q j, (q ≠ 11 ∨ (j ≠ 5 ∧ j ≠ 7 ∧ j ≠ 10 ∧ j ≠ 11)) → I' q j = I q j
theorem lxh_tr {I I' I'' : Nat → Nat → Int32} (h : lxh I I') (h' : lxh I' I'') : lxh I I'' := fun q j z => by rw [h' q j z, h q j z]
section Sa5
variable {D D' n a p t v k : Nat} {x : Nat → Nat} {l : List Nat} {o : Int} {I1 I2 : Nat → Nat → Int32} {J1 J2 : Nat → Nat → Int64}
theorem bl_both (h : tkR n x p a t v l o I1 I2 J2) (hk : 1 ≤ k) (hk6 : k ≤ 6) : ∃ I1' I2', C1 (D + 1) 144 [.ref 11, .int (nI k)] I1 J1 .null I1' J1 ∧ C2 (D' + 1) 16 [.ref 0, .int (nI k), .int (I2 0 4)] I2 J2 .null I2' J2 ∧ lxh I1 I1' ∧ (∀ q j, (q ≠ 0 ∨ (j ≠ 8 ∧ j ≠ 9)) → I2' q j = I2 q j) ∧ tkD k p I1' I2' := by
  obtain ⟨h1, -, -, -, -, c8, r4, -, -, -, -, -, w0, r8, -, hpn, -⟩ := h
  have hn := h1.1
  refine ⟨_, _, c_bl0 w0.1, r_blame0 r8, fun q j z => ?_, fun q j z => ?_, hk, hk6, by omega, ?_, up_s, Or.inr ⟨?_, ?_⟩, ?_, ?_⟩
  · rw [up_n (by omega), up_n (by omega), up_n (by omega), up_n (by omega)]
  · rw [up_n (by omega), up_n (by omega)]
  · rw [up_n (by decide), up_s]; rfl
  · rw [up_n (by decide), up_n (by decide), up_n (by decide), up_s]
  · rw [up_n (by decide), up_n (by decide), up_s, c8]
  · rw [up_n (by decide), up_s]
  · rw [up_s, r4]
/-- told by the class too -/
def tkT (k p : Nat) (I : Nat → Nat → Int32) : Prop := I 11 10 = nI k ∧ I 11 11 = nI p
theorem dd_blame (h : tkD k p I1 I2) : ∃ I1' J1', C1 (D + 1) 144 [.ref 11, .int 1] I1 J1 .null I1' J1' ∧ J1' = J1 ∧ lxh I1 I1' ∧ tkD k p I1' I2 ∧ tkT k p I1' := by
  obtain ⟨h1, h2, h3, h4, h5, h6, h7, h8⟩ := h
  rcases h6 with ⟨w0, rfl, c8⟩ | ⟨w0, c11⟩
  · refine ⟨_, _, c_bl0 w0, rfl, fun q j z => ?_, ⟨h1, h2, h3, ?_, up_s, Or.inr ⟨?_, ?_⟩, h7, h8⟩, ?_, ?_⟩
    · rw [up_n (by omega), up_n (by omega), up_n (by omega), up_n (by omega)]
    · rw [up_n (by decide), up_s]; rfl
    · rw [up_n (by decide), up_n (by decide), up_n (by decide), up_s]; rfl
    · rw [up_n (by decide), up_n (by decide), up_s, c8]
    · rw [up_n (by decide), up_n (by decide), up_n (by decide), up_s]; rfl
    · rw [up_n (by decide), up_n (by decide), up_s, c8]
  · have hw : ¬ I1 11 10 = 0 := by rw [w0]; exact nI_ne0 (by omega) (by omega)
    refine ⟨_, _, c_bl1 hw, rfl, fun q j z => ?_, ⟨h1, h2, h3, ?_, up_s, Or.inr ⟨?_, ?_⟩, h7, h8⟩, ?_, ?_⟩
    · rw [up_n (by omega), up_n (by omega)]
    · rw [up_n (by decide), up_s]; rfl
    · rw [up_n (by decide), up_n (by decide)]; exact w0
    · rw [up_n (by decide), up_n (by decide)]; exact c11
    · rw [up_n (by decide), up_n (by decide)]; exact w0
    · rw [up_n (by decide), up_n (by decide)]; exact c11
theorem dd_take {c : Int32} (h : tkD k p I1 I2) : ∃ I1' J1', C1 (D + 2) 162 [.ref 11, .int c] I1 J1 .null I1' J1' ∧ J1' = J1 ∧ lxh I1 I1' ∧ tkD k p I1' I2 ∧ tkT k p I1' := by
  obtain ⟨Ia, Ja, ca, rfl, a1, a2, a3⟩ := dd_blame (D := D) (J1 := J1) h
  refine ⟨Ia, Ja, mj_mk (e162 _ ?_), rfl, a1, a2, a3⟩
  refine ⟨trivial, _, _, _, sg_d h.2.2.2.1, if_tf (fun z => z.elim) (fun _ => ?_)⟩
  exact ⟨trivial, _, _, ca, rfl⟩
theorem dd_open {c : Int32} (h : tkD k p I1 I2) : ∃ I1' J1', C1 (D + 2) 161 [.ref 11, .int c] I1 J1 (.int 0) I1' J1' ∧ J1' = J1 ∧ lxh I1 I1' ∧ tkD k p I1' I2 ∧ tkT k p I1' := by
  obtain ⟨Ia, Ja, ca, rfl, a1, a2, a3⟩ := dd_blame (D := D) (J1 := J1) h
  refine ⟨Ia, Ja, mj_mk (e161 _ ?_), rfl, a1, a2, a3⟩
  refine ⟨trivial, _, _, _, sg_d h.2.2.2.1, if_tf (fun z => z.elim) (fun _ => ?_)⟩
  exact ⟨trivial, _, _, ca, Or.inl rfl, rfl⟩
theorem dd_name {c : Int32} (h : tkD k p I1 I2) : ∃ I1' J1', C1 (D + 2) 147 [.ref 11, .int c] I1 J1 .null I1' J1' ∧ J1' = J1 ∧ lxh I1 I1' ∧ tkD k p I1' I2 ∧ tkT k p I1' := by
  obtain ⟨Ia, Ja, ca, rfl, a1, a2, a3⟩ := dd_blame (D := D) (J1 := J1) h
  refine ⟨Ia, Ja, mj_mk (e147 _ ?_), rfl, a1, a2, a3⟩
  refine ⟨trivial, _, _, _, nm_d h.2.2.2.1, if_tf (fun z => z.elim) (fun _ => ?_)⟩
  exact ⟨trivial, _, _, ca, rfl⟩
theorem dd_ask {c e : Int32} (h : tkD k p I1 I2) : ∃ I1' J1', C1 (D + 2) 153 [.ref 11, .int c, .int e] I1 J1 (.int (-1)) I1' J1' ∧ J1' = J1 ∧ lxh I1 I1' ∧ tkD k p I1' I2 ∧ tkT k p I1' := by
  obtain ⟨Ia, Ja, ca, rfl, a1, a2, a3⟩ := dd_blame (D := D) (J1 := J1) h
  refine ⟨Ia, Ja, mj_mk (e153 _ _ ?_), rfl, a1, a2, a3⟩
  refine ⟨trivial, _, _, _, nm_d h.2.2.2.1, if_tf (fun z => z.elim) (fun _ => ?_)⟩
  exact ⟨trivial, _, _, ca, rfl⟩
theorem dd_num (h : tkD k p I1 I2) : ∃ I1' J1', C1 (D + 2) 156 [.ref 11] I1 J1 (.int 0) I1' J1' ∧ J1' = J1 ∧ lxh I1 I1' ∧ tkD k p I1' I2 ∧ tkT k p I1' := by
  obtain ⟨Ia, Ja, ca, rfl, a1, a2, a3⟩ := dd_blame (D := D) (J1 := J1) h
  refine ⟨Ia, Ja, mj_mk (e156 ?_), rfl, a1, a2, a3⟩
  rw [h.2.2.2.1, if_neg (by decide)]
  exact ⟨trivial, _, _, ca, rfl⟩
theorem dd_cmp (h : tkD k p I1 I2) : ∃ I1' J1', C1 (D + 2) 168 [.ref 11] I1 J1 (.int (-1)) I1' J1' ∧ J1' = J1 ∧ lxh I1 I1' ∧ tkD k p I1' I2 ∧ tkT k p I1' := by
  obtain ⟨Ia, Ja, ca, rfl, a1, a2, a3⟩ := dd_blame (D := D) (J1 := J1) h
  refine ⟨Ia, Ja, mj_mk (e168 ?_), rfl, a1, a2, a3⟩
  refine ⟨trivial, _, _, _, sg_d h.2.2.2.1, if_tf (fun z => z.elim) (fun _ => ?_)⟩
  refine ⟨trivial, _, _, _, sg_d h.2.2.2.1, if_tf (fun z => z.elim) (fun _ => ?_)⟩
  refine ⟨trivial, _, _, _, sg_d h.2.2.2.1, if_tf (fun z => z.elim) (fun _ => ?_)⟩
  exact ⟨trivial, _, _, ca, rfl⟩
/-- the reference's sign that must stand there: fault or next -/
theorem take_both (h : tkR n x p a t v l o I1 I2 J2) {c : Nat} (hc : c < 256) : ∃ I1' J1' I2' J2', C1 (D + 4) 162 [.ref 11, .int (nI c)] I1 J1 .null I1' J1' ∧ C2 (D' + 3) 44 [.ref 0, .int (nI c)] I2 J2 .null I2' J2' ∧ J1' = J1 ∧ (∀ q j, (q ≠ 11 ∨ (j ≠ 4 ∧ j ≠ 5 ∧ j ≠ 6 ∧ j ≠ 7 ∧ j ≠ 8 ∧ j ≠ 10 ∧ j ≠ 11)) → I1' q j = I1 q j) ∧ lxg I2 I2' ∧ lxgJ J2 J2' ∧ ((t = 1 ∧ v = c ∧ ∃ p' a' t' v' l' o', tkR n x p' a' t' v' l' o' I1' I2' J2' ∧ p < p') ∨ ∃ k' p', tkD k' p' I1' I2') := by
  rcases Classical.em (t = 1 ∧ v = c) with e | e
  · obtain ⟨I1', J1', I2', J2', k1, k2, k3, k4, k5, k6, k7⟩ := adv_tk (D := D) (D' := D') (J1 := J1) h (by omega)
    refine ⟨I1', J1', I2', J2', mj_mk (e162 _ ?_), mj_mk (e44 _ ?_), k3, fun q j z => k4 q j (by omega), k5, k6, ?_⟩
    · exact ⟨trivial, _, _, _, sg_c h hc, if_tf (fun _ => ⟨trivial, _, _, k1, rfl⟩) (fun z => absurd e z)⟩
    · refine ⟨trivial, _, _, _, sg_r h hc, if_tf (fun _ => ?_) (fun z => absurd e z)⟩
      refine mj_on (s44_17 ?_)
      rw [if_pos h.2.2.2.2.2.2.2.2.2.2.2.2.2.1]
      exact ⟨trivial, _, _, k2, rfl⟩
    · rcases k7 with z | ⟨p', z⟩
      · exact Or.inl ⟨e.1, e.2, z⟩
      · exact Or.inr ⟨1, p', z⟩
  · obtain ⟨I1', I2', k1, k2, k3, k4, k5⟩ := bl_both (D := D + 2) (D' := D' + 1) (J1 := J1) (k := 1) h (by decide) (by decide)
    refine ⟨I1', J1, I2', J2, mj_mk (e162 _ ?_), mj_mk (e44 _ ?_), rfl, fun q j z => k3 q j (by omega), fun q j z => k4 q j (by omega), fun _ _ _ => rfl, Or.inr ⟨1, p, k5⟩⟩
    · exact ⟨trivial, _, _, _, sg_c h hc, if_tf (fun z => absurd z e) (fun _ => ⟨trivial, _, _, k1, rfl⟩)⟩
    · refine ⟨trivial, _, _, _, sg_r h hc, if_tf (fun z => absurd z e) (fun _ => ⟨trivial, _, _, k2, ?_⟩)⟩
      refine mj_on (s44_17 ?_)
      rw [k5.2.2.2.2.2.2.1, if_neg (by decide)]
end Sa5
