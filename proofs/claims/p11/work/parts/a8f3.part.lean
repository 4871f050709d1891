section Sa8f
variable {n d s0 f0 W H : Nat} {x : Nat → Nat} {B1 B2 : Nat → Nat → Int32} {BJ : Nat → Nat → Int64}
variable {D D' E op kd ph bs p a t v u : Nat} {l : List Nat} {o : Int} {bg : Int32} {K : List Nat} {A1 A2 : List (Nat × Nat)} {L I1 I2 : Nat → Nat → Int32} {J1 J2 : Nat → Nat → Int64}
set_option maxHeartbeats 16000000 in
theorem lv_part (hS : stc d W H B1 B2 BJ) (IH : ∀ w, u = w + 1 → SumOK n x d s0 f0 W H B1 B2 BJ J1 E w) (hD : 4 * u + 10 ≤ D) (hu : op + u = 8) (h : TS n x d s0 f0 B1 B2 BJ op kd ph bs bg K L A1 A2 p a t v l o I1 I2 J2) (h45 : I2 0 45 = 0) (h9 : I1 11 9 = nI op) (hph : ph < 2) (hb : fst1 kd bg → ¬ spcl t v o) (q1 : s0 + A1.length ≤ p) (q2 : f0 + A2.length + (bs + K.length) ≤ p) (q3 : 3 * (bs + K.length) ≤ 18 * op + 15 + p) :
    ∃ I1', C1 D 166 [.ref 11] I1 J1 .null I1' J1 ∧ LN n x d s0 f0 W H B1 B2 BJ E 6 (3 * u + 1) (fun _ _ => True) op kd ph bs K L A1 A2 p I1' I2 J2 := by
  obtain ⟨F, rfl⟩ : ∃ F, D = F + 10 := ⟨D - 10, by omega⟩
  have hn := tk_n h.1
  have h' := TS_bg (y := 0) h (Or.inl rfl)
  obtain ⟨Ib, hIb⟩ : ∃ Ib, Ib = mj_up I2 25 op 0 := ⟨_, rfl⟩
  rw [← hIb] at h'
  have hd := TS_d h' hS
  have h8 := h'.1.2.2.2.2.2.2.2.2.2.2.2.2.2.1
  have b45 : Ib 0 45 = 0 := by rw [hIb, up_n (by omega)]; exact h45
  have r35 : ∀ {r : Value} {I' : (Nat → Nat → Int32)} {J' : (Nat → Nat → Int64)}, E2 35 (E + 4) (fun y => y = (r, (I', J', mj_R2))) 148 [(0, .ref 0)] Ib J2 → mj_Cl mj_S2 mj_CD (E + 5) 35 [.ref 0] (I2, J2, mj_R2) (r, (I', J', mj_R2)) := fun {r I' J'} q => part_in (D := E + 3) h (part_148 (D := E + 3) h hb (by rw [← hIb]; exact q))
  have hbM : bs + K.length < 500 := by omega
  have sg : t ≠ 1 → ∀ {T1 T2 : Prop}, T1 → (if tf (t = 1 ∧ v = 40) = 0 then T1 else T2) := fun q T1 T2 y => if_tf (fun z => absurd z.1 q) (fun _ => y)
  by_cases t2 : t = 2
  · -- a number
    obtain ⟨Ic, m1, m2, m3⟩ := ts_addR (D := E + 3) (c := 0) (y := v) hS h' (by omega)
    obtain ⟨Ia, Ra, Sa, k1, k2, k3, k4, k5⟩ := ts_adv (D := F + 5) (D' := E + 2) (J1 := J1) m2 (by omega) (by omega)
    have hv : v ≤ 9999 := (tk_n h.1).2.2.2.1 t2
    have vv : I1 11 6 = nI v ∧ Ib 0 6 = nI v := by
      rcases h'.1.2.2.2.2.2.2.2.2.2.2.2.2.2.2.2.2 with ⟨q, -⟩ | ⟨q, -⟩ | ⟨-, -, -, -, -, w1, w2, -⟩ | ⟨q, -⟩
      · omega
      · omega
      · exact ⟨w1, w2⟩
      · omega
    have o1 : o = -1 := tk_o h.1 (by omega)
    have c35 : C2 (E + 5) 35 [.ref 0] I2 J2 (.int 1) Ra Sa := r35 (by
      refine mj_on (s35_148 ?_)
      refine ⟨trivial, _, _, _, sg_r (c := 40) h'.1 (by decide), sg (by omega) ?_⟩
      refine ⟨trivial, _, _, _, wd_r (w := 15) h'.1 (by decide), if_tf (fun z => by omega) (fun _ => ?_)⟩
      refine ⟨trivial, _, _, _, wd_r (w := 16) h'.1 (by decide), if_tf (fun z => by omega) (fun _ => ?_)⟩
      refine ⟨trivial, _, _, _, wd_r (w := 14) h'.1 (by decide), if_tf (fun z => by omega) (fun _ => ?_)⟩
      rw [if_pos ((rtk_eq (y := 2) h'.1 (k := 2) (by decide) (by decide) rfl).mpr t2), vv.2]
      refine ⟨trivial, _, _, m1, ?_⟩
      refine mj_on (s35_315 ?_)
      rw [if_pos m2.1.2.2.2.2.2.2.2.2.2.2.2.2.2.1]
      exact ⟨trivial, _, _, k2, Or.inr rfl, rfl⟩)
    have c166 : ∀ {Id : (Nat → Nat → Int32)}, C1 (F + 9) 163 [.ref 14, .int 17, .int (nI v)] Ia J1 .null Id J1 → C1 (F + 10) 166 [.ref 11] I1 J1 .null Id J1 := fun {Id} q => by
      refine mj_mk (e166 ?_)
      rw [if_pos ((tok_eq (y := 2) h.1 (k := 2) (by decide) rfl).mpr t2)]
      refine ⟨trivial, _, _, _, mj_mk (r := (.int (nI v), (Ia, J1, mj_R1))) (e156 ?_), trivial, _, _, q, rfl⟩
      rw [if_pos ((tok_eq (y := 2) h.1 (k := 2) (by decide) rfl).mpr t2), vv.1]
      exact ⟨trivial, _, _, k1, rfl⟩
    rcases k5 with ⟨p', a', t', v', l', o', w1, w2, -⟩ | ⟨w1, -⟩
    · obtain ⟨Id, g1, g2, g3⟩ := ts_addC (D := F + 7) (J1 := J1) (c := 0) (y := v) w1 (by have := tk_n w1.1; omega) hv
      exact ⟨Id, c166 g1, lv_leaf (by decide) ⟨fun _ => hv, fun z => by omega, fun z => by omega, fun z => by omega⟩ (g_part h45 c35 (Or.inr rfl) w1.1.2.2.2.2.2.2.2.2.2.2.2.2.2.1) (TS_45 g2) up_s (by rw [g3, k4, h9]) w2 q1 q2 q3⟩
    · obtain ⟨Id, g1, g2⟩ := d_add (D := F + 7) (J1 := J1) (y := 17) (z := nI v) w1
      exact ⟨Id, c166 g1, Or.inr ⟨_, _, g_partD h45 c35 (Or.inr rfl) (DD_8 w1).1, DD_45 g2⟩⟩
  have nt2 : ¬ I1 11 5 = 2 := fun z => t2 ((tok_eq (y := 2) h.1 (k := 2) (by decide) rfl).mp z)
  have rt2 : ¬ Ib 0 3 = 2 := fun z => t2 ((rtk_eq (y := 2) h'.1 (k := 2) (by decide) (by decide) rfl).mp z)
  by_cases o13 : o = (13 : Nat)
  · -- many
    have t3 : t = 3 := (tk_w h.1 (by decide) o13).1
    obtain ⟨Ic, m1, m2, m3⟩ := ts_addR (D := E + 3) (c := 1) (y := 0) hS h' (by omega)
    obtain ⟨Id, g1, g2, g3⟩ := ts_addC (D := F + 7) (J1 := J1) (c := 1) (y := 0) m2 (by omega) (by decide)
    obtain ⟨Ia, Ra, Sa, k1, k2, k3, k4, k5⟩ := ts_adv (D := F + 6) (D' := E + 2) (J1 := J1) g2 (by omega) (by rw [List.length_append]; show s0 + (A1.length + 1) ≤ 900; omega)
    have c35 : C2 (E + 5) 35 [.ref 0] I2 J2 (.int 1) Ra Sa := r35 (by
      refine mj_on (s35_148 ?_)
      refine ⟨trivial, _, _, _, sg_r (c := 40) h'.1 (by decide), sg (by omega) ?_⟩
      refine ⟨trivial, _, _, _, wd_r (w := 15) h'.1 (by decide), if_tf (fun z => by omega) (fun _ => ?_)⟩
      refine ⟨trivial, _, _, _, wd_r (w := 16) h'.1 (by decide), if_tf (fun z => by omega) (fun _ => ?_)⟩
      refine ⟨trivial, _, _, _, wd_r (w := 14) h'.1 (by decide), if_tf (fun z => by omega) (fun _ => ?_)⟩
      rw [if_neg rt2]
      refine ⟨trivial, _, _, _, wd_r (w := 13) h'.1 (by decide), if_tf (fun _ => ?_) (fun z => absurd o13 z)⟩
      refine ⟨trivial, _, _, m1, ?_⟩
      refine mj_on (s35_315 ?_)
      rw [if_pos m2.1.2.2.2.2.2.2.2.2.2.2.2.2.2.1]
      exact ⟨trivial, _, _, k2, Or.inr rfl, rfl⟩)
    have c166 : C1 (F + 10) 166 [.ref 11] I1 J1 .null Ia J1 := by
      refine mj_mk (e166 ?_)
      rw [if_neg nt2, if_pos ((own_eq (y := 13) h.1 (w := 13) (by decide) rfl).mpr o13)]
      exact ⟨trivial, _, _, g1, trivial, _, _, k1, rfl⟩
    rcases k5 with ⟨p', a', t', v', l', o', w1, w2, -⟩ | ⟨w1, -⟩
    · exact ⟨Ia, c166, lv_leaf (by decide) ⟨fun z => by omega, fun z => by omega, fun z => by omega, fun _ => rfl⟩ (g_part h45 c35 (Or.inr rfl) w1.1.2.2.2.2.2.2.2.2.2.2.2.2.2.1) (TS_45 w1) up_s (by rw [k4, g3, h9]) w2 q1 q2 q3⟩
    · exact ⟨Ia, c166, Or.inr ⟨_, _, g_partD h45 c35 (Or.inr rfl) (DD_8 w1).1, DD_45 w1⟩⟩
  have n13 : ¬ I1 11 7 = 13 := fun z => o13 ((own_eq (y := 13) h.1 (w := 13) (by decide) rfl).mp z)
  by_cases o14 : o = (14 : Nat)
  · -- of
    have t3 : t = 3 := (tk_w h.1 (by decide) o14).1
    obtain ⟨Ia, r, Ic, Id, Ra, Sa, k1, k2, k3, k4, k5⟩ := ts_named (D := F + 4) (E := E) (J1 := J1) (c := 2) (i := 0) hS (Or.inl ⟨rfl, rfl⟩) h' (by omega) q1 (by omega)
    have c35 : C2 (E + 5) 35 [.ref 0] I2 J2 (.int 1) Ra Sa := r35 (by
      refine mj_on (s35_148 ?_)
      refine ⟨trivial, _, _, _, sg_r (c := 40) h'.1 (by decide), sg (by omega) ?_⟩
      refine ⟨trivial, _, _, _, wd_r (w := 15) h'.1 (by decide), if_tf (fun z => by omega) (fun _ => ?_)⟩
      refine ⟨trivial, _, _, _, wd_r (w := 16) h'.1 (by decide), if_tf (fun z => by omega) (fun _ => ?_)⟩
      refine ⟨trivial, _, _, _, wd_r (w := 14) h'.1 (by decide), if_tf (fun _ => ?_) (fun z => absurd o14 z)⟩
      exact ⟨trivial, _, _, k4, Or.inr rfl, rfl⟩)
    have c166 : C1 (F + 10) 166 [.ref 11] I1 J1 .null Id J1 := by
      refine mj_mk (e166 ?_)
      rw [if_neg nt2, if_neg n13, if_pos ((own_eq (y := 14) h.1 (w := 14) (by decide) rfl).mpr o14)]
      exact ⟨trivial, _, _, k1, trivial, _, _, _, k2, trivial, _, _, k3, rfl⟩
    rcases k5 with ⟨k, p', a', t', v', l', o', w1, w2, w3, w4, w5, w6, -⟩ | w1
    · exact ⟨Id, c166, lv_leaf (by decide) ⟨fun z => by omega, fun _ => w6 rfl, fun z => by omega, fun z => by omega⟩ (g_part h45 c35 (Or.inr rfl) w1.1.2.2.2.2.2.2.2.2.2.2.2.2.2.1) (TS_45 w1) up_s (by rw [w5, h9]) w2 q1 q2 q3⟩
    · exact ⟨Id, c166, Or.inr ⟨_, _, g_partD h45 c35 (Or.inr rfl) (DD_8 w1).1, DD_45 w1⟩⟩
  have n14 : ¬ I1 11 7 = 14 := fun z => o14 ((own_eq (y := 14) h.1 (w := 14) (by decide) rfl).mp z)
  by_cases om : o = (15 : Nat) ∨ o = (16 : Nat)
  · -- min, max
    obtain ⟨w, pr, hw, ow, hpr⟩ : ∃ w pr : Nat, (w = 15 ∧ pr = 9 ∨ w = 16 ∧ pr = 10) ∧ o = (w : Nat) ∧ opc pr = w := by
      rcases om with e | e
      · exact ⟨15, 9, Or.inl ⟨rfl, rfl⟩, e, rfl⟩
      · exact ⟨16, 10, Or.inr ⟨rfl, rfl⟩, e, rfl⟩
    have t3 : t = 3 := (tk_w h.1 (w := w) (by omega) ow).1
    have w7 : I1 11 7 = nI w := (own_eq h.1 (w := w) (by omega) rfl).mpr ow
    obtain ⟨Ia, Ra, Sa, k1, k2, k3, k4, k5⟩ := ts_adv (D := F + 6) (D' := E + 2) (J1 := J1) h' (by omega) (by omega)
    -- the reference up to what is behind the word
    have r202 : ∀ {r : Value} {I' : (Nat → Nat → Int32)} {J' : (Nat → Nat → Int64)}, E2 35 (E + 4) (fun y => y = (r, (I', J', mj_R2))) 202 [(0, .ref 0), (3, .int (nI pr))] Ib J2 → mj_Cl mj_S2 mj_CD (E + 5) 35 [.ref 0] (I2, J2, mj_R2) (r, (I', J', mj_R2)) := fun {r I' J'} q => r35 (by
      refine mj_on (s35_148 ?_)
      refine ⟨trivial, _, _, _, sg_r (c := 40) h'.1 (by decide), sg (by omega) ?_⟩
      have e184 : E2 35 (E + 4) (fun y => y = (r, (I', J', mj_R2))) 184 [(0, .ref 0)] Ib J2 := by
        refine mj_on (s35_184 ?_)
        refine ⟨trivial, _, _, _, wd_r (w := 15) h'.1 (by decide), if_tf (fun z => ?_) (fun z => ?_)⟩
        · rcases hw with ⟨rfl, rfl⟩ | ⟨rfl, rfl⟩
          · exact q
          · exact absurd (z.symm.trans ow) (by decide)
        · rcases hw with ⟨rfl, rfl⟩ | ⟨rfl, rfl⟩
          · exact absurd ow z
          · exact q
      refine ⟨trivial, _, _, _, wd_r (w := 15) h'.1 (by decide), if_tf (fun _ => e184) (fun z1 => ?_)⟩
      exact ⟨trivial, _, _, _, wd_r (w := 16) h'.1 (by decide), if_tf (fun _ => e184) (fun z2 => om.elim (fun y => absurd y z1) (fun y => absurd y z2))⟩)
    have c166 : ∀ {Id : (Nat → Nat → Int32)}, C1 (F + 9) 167 [.ref 11, .int (nI w)] Ia J1 .null Id J1 → C1 (F + 10) 166 [.ref 11] I1 J1 .null Id J1 := fun {Id} q => by
      have e92 : E1 166 (F + 9) (fun y => y = (.null, (Id, J1, mj_R1))) 92 [(0, .ref 11), (1, .int (nI w))] I1 J1 := mj_on (s166_92 _ ⟨trivial, _, _, k1, trivial, _, _, q, rfl⟩)
      refine mj_mk (e166 ?_)
      rw [if_neg nt2, if_neg n13, if_neg n14, w7]
      refine if_i (fun _ => e92) (fun z1 => if_i (fun _ => e92) (fun z2 => ?_))
      rcases hw with ⟨rfl, -⟩ | ⟨rfl, -⟩
      · exact absurd rfl z1
      · exact absurd rfl z2
    rcases k5 with ⟨p1, a1, t1, v1, l1, o1, ha, hp1, -⟩ | ⟨hda, -⟩
    · obtain ⟨Id, g1, g2⟩ := lv_pair (F := F) (w := w) (pr := pr) (p0 := p) (I0 := I2) (J0 := J2) hS IH hw (by omega) hu ha (by rw [k4, h9]) hp1 (by omega) (by omega) (by omega) h45 (fun {r I' J' Rz} y1 y2 hh => r202 (by
        refine mj_on (s35_202 _ ?_)
        refine ⟨trivial, _, _, k2, trivial, _, _, _, sg_r (c := 40) ha.1 (by decide), if_tf (fun z => by rw [← y1 z]; exact hh) (fun z => ⟨trivial, _, _, y2 z, hh⟩)⟩))
      exact ⟨Id, c166 g1, g2⟩
    · obtain ⟨Id, g1, g2⟩ := d_open (D := F + 6) (J1 := J1) (c := 40) hda
      obtain ⟨j, j1, j2, j3⟩ := DD_k hda
      refine ⟨Id, c166 (mj_mk (e167 _ ⟨trivial, _, _, _, g1, by rw [if_pos rfl]⟩)), Or.inr ⟨_, _, g_partD h45 (r202 (I' := Ra) (J' := Sa) (r := .int 0) ?_) (Or.inl rfl) (DD_8 g2).1, DD_45 g2⟩⟩
      obtain ⟨y, hy⟩ := sg_any (D := E + 3) (I2 := Ra) (J2 := Sa) (y := 40)
      refine mj_on (s35_202 _ ?_)
      refine ⟨trivial, _, _, k2, trivial, _, _, _, hy, if_i (fun _ => ?_) (fun _ => r224_D hda rfl)⟩
      exact ⟨trivial, _, _, r_blD j3 j1 j2, r224_D hda rfl⟩
  have n15 : ¬ I1 11 7 = 15 := fun z => om (Or.inl ((own_eq (y := 15) h.1 (w := 15) (by decide) rfl).mp z))
  have n16 : ¬ I1 11 7 = 16 := fun z => om (Or.inr ((own_eq (y := 16) h.1 (w := 16) (by decide) rfl).mp z))
  by_cases e : t = 1 ∧ v = 40
  · -- a bracket
    obtain ⟨r, Ic, Rc, Sc, k1, k2, k3⟩ := ts_open (D := F + 5) (E := E) (J1 := J1) (c := 40) (k := 2) (by decide) (by decide) h' e.1 e.2 h9 q1 hbM
    have c35 : C2 (E + 5) 35 [.ref 0] I2 J2 (.int 0) Rc Sc := r35 (by
      refine mj_on (s35_148 ?_)
      exact ⟨trivial, _, _, _, sg_r (c := 40) h'.1 (by decide), if_tf (fun _ => ⟨trivial, _, _, k2, Or.inl rfl, rfl⟩) (fun z => absurd e z)⟩)
    rcases k3 with ⟨rfl, k3⟩ | ⟨rfl, k3⟩ | ⟨rfl, k3, k4, k5, k6, k7, p2, a2, t2', v2, l2, o2, k8, k9⟩
    · refine ⟨Ic, mj_mk (e166 ?_), Or.inr ⟨_, _, g_partD h45 c35 (Or.inl rfl) (DD_8 k3).1, DD_45 k3⟩⟩
      rw [if_neg nt2, if_neg n13, if_neg n14, if_neg n15, if_neg n16]
      exact ⟨trivial, _, _, _, k1, by rw [if_pos rfl]⟩
    · obtain ⟨Ia, a1, b1⟩ := d_sum (D := F + 4) (J1 := J1) k3
      obtain ⟨Id, a2, b2⟩ := d_take (D := F + 7) (J1 := J1) (c := 41) b1
      refine ⟨mj_up Id 11 9 (Id 11 9 - 1), mj_mk (e166 ?_), Or.inr ⟨_, _, g_partD h45 c35 (Or.inl rfl) (DD_8 b2).1, DD_45 (DD_119 b2)⟩⟩
      rw [if_neg nt2, if_neg n13, if_neg n14, if_neg n15, if_neg n16]
      refine ⟨trivial, _, _, _, k1, ?_⟩
      rw [if_neg (by decide)]
      exact ⟨trivial, _, _, a1, trivial, _, _, a2, rfl⟩
    · obtain ⟨y, rfl⟩ : ∃ y, u = y + 1 := ⟨u - 1, by omega⟩
      have hn2 := tk_n2 k8.1
      have g0 : gA E I2 J2 (mj_up Rc 0 45 0) Sc := g_part h45 c35 (Or.inl rfl) k8.1.2.2.2.2.2.2.2.2.2.2.2.2.2.1
      obtain ⟨I3, c3, n3⟩ := IH y rfl (F + 9) (op + 1) 2 0 (bs + K.length) 1 [] Rc A1 A2 p2 a2 t2' v2 l2 o2 Ic (mj_up Rc 0 45 0) Sc (by omega) (by omega) (TS_45 k8) up_s k5 (by decide) (fun z => absurd z.1 (by omega)) (fun c hc => by cases hc) (by omega) (by show f0 + A2.length + (bs + K.length + 0) ≤ p2; omega) (by show 3 * (bs + K.length + 0) ≤ 18 * (op + 1) + 12 + p2; omega)
      have c166 : ∀ {Iz : (Nat → Nat → Int32)}, C1 (F + 9) 162 [.ref 11, .int (nI 41)] I3 J1 .null Iz J1 → C1 (F + 10) 166 [.ref 11] I1 J1 .null (mj_up Iz 11 9 (Iz 11 9 - 1)) J1 := fun {Iz} q => by
        refine mj_mk (e166 ?_)
        rw [if_neg nt2, if_neg n13, if_neg n14, if_neg n15, if_neg n16]
        refine ⟨trivial, _, _, _, k1, ?_⟩
        rw [if_neg (by decide)]
        exact ⟨trivial, _, _, c3, trivial, _, _, q, rfl⟩
      rcases n3 with ⟨p3, a3, t3, v3, l3, o3, x1, x2, kk, R3, S3, m1, m2, m3, m4, m5, m6, m7, m8, m9, m10, m11⟩ | ⟨R3, S3, m1, m2⟩
      · have hn3 := tk_n2 m2.1
        have e00 : ([] ++ kk).length = kk.length := rfl
        rw [e00] at m9 m10
        obtain ⟨I6, R6, S6, c6, c69, n6⟩ := ts_close (D := F + 5) (E := E) (J1 := J1) (k := 2) (c := 41) (pr := 0) hS (Or.inl ⟨Or.inl rfl, rfl⟩) m2 m3 (Or.inr m11) (fun z => by omega) h'.2.2.2.2.2 k6 (fun i _ => k7 i) (fun z => by omega) (by rw [List.length_append]; omega) m9 (by omega)
        rcases n6 with ⟨g6, d6⟩ | ⟨g6, z46, p6, a6, t6, v6, l6, o6, m14, m15⟩
        · exact ⟨_, c166 c6, Or.inr ⟨R6, S6, gA_D g0 (gA_D m1 g6), DD_119 d6⟩⟩
        · rw [if_neg (by decide), if_neg (by decide), List.append_nil] at m14
          have hn6 := tk_n2 m14.1
          refine ⟨_, c166 c6, Or.inl ⟨p6, a6, t6, v6, l6, o6, x1, x2 ++ pops kk, [], R6, S6, gA_tr g0 (gA_tr m1 g6), ?_, z46, ?_, ?_, fun c hc => (by cases hc), by omega, by omega, ?_, ?_, trivial⟩⟩
          · rw [List.append_nil, ← List.append_assoc]
            exact TS_119 m14
          · rw [up_s, c69, m4, nI_pred]
          · rw [pops_nil, List.append_nil]
            exact fr2_up m5 (by omega)
          · simp only [List.length_append, pops_len, List.append_nil] at m9 ⊢
            omega
          · simp only [List.append_nil]
            omega
      · obtain ⟨Id, a2, b2⟩ := d_take (D := F + 7) (J1 := J1) (c := nI 41) m2
        exact ⟨_, c166 a2, Or.inr ⟨R3, S3, gA_D g0 m1, DD_119 b2⟩⟩
  · -- nothing that a part begins with
    obtain ⟨Id, Rb, m1, m2, m3, m4, m5, m6, m7⟩ := ts_bl (D := F + 7) (D' := E + 3) (J1 := J1) (k := 1) h' (by decide) (by decide) (by omega)
    refine ⟨Id, mj_mk (e166 ?_), Or.inr ⟨_, _, g_partD h45 (r35 (I' := Rb) (J' := J2) (r := .int 1) ?_) (Or.inr rfl) (DD_8 m3).1, DD_45 m3⟩⟩
    · rw [if_neg nt2, if_neg n13, if_neg n14, if_neg n15, if_neg n16]
      exact ⟨trivial, _, _, _, mj_mk (r := (.int 0, (Id, J1, mj_R1))) (e161 _ ⟨trivial, _, _, _, sg_c h.1 (c := 40) (by decide), if_tf (fun z => absurd z e) (fun _ => ⟨trivial, _, _, m1, Or.inl rfl, rfl⟩)⟩), by rw [if_pos rfl]⟩
    · refine mj_on (s35_148 ?_)
      refine ⟨trivial, _, _, _, sg_r (c := 40) h'.1 (by decide), if_tf (fun z => absurd z e) (fun _ => ?_)⟩
      refine ⟨trivial, _, _, _, wd_r (w := 15) h'.1 (by decide), if_tf (fun z => absurd (Or.inl z) om) (fun _ => ?_)⟩
      refine ⟨trivial, _, _, _, wd_r (w := 16) h'.1 (by decide), if_tf (fun z => absurd (Or.inr z) om) (fun _ => ?_)⟩
      refine ⟨trivial, _, _, _, wd_r (w := 14) h'.1 (by decide), if_tf (fun z => absurd z o14) (fun _ => ?_)⟩
      rw [if_neg rt2]
      refine ⟨trivial, _, _, _, wd_r (w := 13) h'.1 (by decide), if_tf (fun z => absurd z o13) (fun _ => ?_)⟩
      refine ⟨trivial, _, _, m2, ?_⟩
      refine mj_on (s35_315 ?_)
      rw [if_neg (DD_8 m3).1]
      exact ⟨Or.inr rfl, rfl⟩
end Sa8f
