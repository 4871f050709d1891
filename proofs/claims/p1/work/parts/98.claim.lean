/-! the claim: one call at most, on two new objects -/
theorem AI.lw {z1 z2 : Nat} {as : List Value} {I1 I2 : Nat → Nat → Int32} {J1 J2 : Nat → Nat → Int64} {P : (Nat → Nat → Int32) → (Nat → Nat → Int64) → (Nat → Nat → Int32) → (Nat → Nat → Int64) → Prop} {G : mj_H → mj_H → Prop} (h : AI z1 z2 as I1 J1 I2 J2 P) (hG : ∀ f1 h1 f2 h2, P f1 h1 f2 h2 → G (f1, h1, mj_R1) (f2, h2, mj_R2)) : lw_PI z1 z2 as (I1, J1, mj_R1) (I2, J2, mj_R2) G := by
  obtain ⟨r, f1, h1, f2, h2, a, b, c⟩ := h
  exact ⟨r, _, _, a, b, hG _ _ _ _ c⟩
theorem AJ.lw {z1 z2 : Nat} {as : List Value} {I1 I2 : Nat → Nat → Int32} {J1 J2 : Nat → Nat → Int64} {P : (Nat → Nat → Int32) → (Nat → Nat → Int64) → (Nat → Nat → Int32) → (Nat → Nat → Int64) → Prop} {G : mj_H → mj_H → Prop} (h : AJ z1 z2 as I1 J1 I2 J2 P) (hG : ∀ f1 h1 f2 h2, P f1 h1 f2 h2 → G (f1, h1, mj_R1) (f2, h2, mj_R2)) : lw_PJ z1 z2 as (I1, J1, mj_R1) (I2, J2, mj_R2) G := by
  obtain ⟨r, f1, h1, f2, h2, a, b, c⟩ := h
  exact ⟨r, _, _, a, b, hG _ _ _ _ c⟩
theorem lw_text0 : lw_PI 136 12 [] h1_0 h2_0 (fun _ _ => True) := by
  obtain ⟨g, hc⟩ := c_text0 (I := h1_I) (J := fun _ _ => 0) rfl rfl
  obtain ⟨I', J', hr⟩ := r_text0 (I := h2_I) (J := fun _ _ => 0) rfl rfl
  exact ⟨0, _, _, hc, hr, trivial⟩
theorem lw_all0 : lw_All h1_0 h2_0 (fun _ _ => True) := ⟨fun _ _ _ _ _ => (al_feed Rl_0).lw (fun _ _ _ _ _ => trivial),
  fun _ => (al_end Rl_0).lw (fun _ _ _ _ _ => trivial),
  lw_text0,
  fun _ => (al_fault Rl_0).lw (fun _ _ _ _ _ => trivial),
  fun _ => (al_has Rl_0).lw (fun _ _ _ _ _ => trivial),
  fun _ _ _ => (al_letter Rl_0).lw (fun _ _ _ _ _ => trivial),
  fun _ _ _ => (al_price Rl_0).lw (fun _ _ _ _ _ => trivial),
  fun _ _ => (al_beats Rl_0).lw (fun _ _ _ _ _ => trivial),
  fun _ => (al_leads Rl_0).lw (fun _ _ _ _ _ => trivial),
  fun _ _ _ => (al_change Rl_0).lw (fun _ _ _ _ _ => trivial),
  fun _ => (al_changed Rl_0).lw (fun _ _ _ _ _ => trivial),
  (al_rows Rl_0).lw (fun _ _ _ _ _ => trivial),
  fun _ => (al_unsure Rl_0).lw (fun _ _ _ _ _ => trivial),
  fun _ _ => (al_maybe Rl_0).lw (fun _ _ _ _ _ => trivial),
  fun _ _ _ => (al_front0 Rl_0 (Or.inr rfl)).lw (fun _ _ _ _ _ => trivial),
  fun _ _ => (al_loss Rl_0).lw (fun _ _ _ _ _ => trivial),
  fun _ => (al_who Rl_0).lw (fun _ _ _ _ _ => trivial),
  fun _ _ => (al_knot Rl_0).lw (fun _ _ _ _ _ => trivial),
  fun _ => (al_grid Rl_0).lw (fun _ _ _ _ _ => trivial),
  fun _ => (al_corner Rl_0).lw (fun _ _ _ _ _ => trivial),
  fun _ _ => (al_weight Rl_0).lw (fun _ _ _ _ _ => trivial),
  fun _ => (al_near Rl_0).lw (fun _ _ _ _ _ => trivial),
  fun _ => (al_standIns Rl_0).lw (fun _ _ _ _ _ => trivial),
  fun _ => (al_kept Rl_0).lw (fun _ _ _ _ _ => trivial),
  fun _ _ _ _ => (al_cost Rl_0).lw (fun _ _ _ _ _ => trivial),
  fun _ => (al_hole Rl_0).lw (fun _ _ _ _ _ => trivial),
  fun _ _ => (al_rather Rl_0).lw (fun _ _ _ _ _ => trivial),
  (al_unsay Rl_0).lw (fun _ _ _ _ _ => trivial),
  (al_agree Rl_0).lw (fun _ _ _ _ _ => trivial),
  (al_could Rl_0).lw (fun _ _ _ _ _ => trivial),
  fun _ => (al_question Rl_0).lw (fun _ _ _ _ _ => trivial),
  (al_quarrel Rl_0).lw (fun _ _ _ _ _ => trivial),
  fun _ => (al_stop Rl_0).lw (fun _ _ _ _ _ => trivial),
  fun _ _ _ _ _ => (al_person Rl_0).lw (fun _ _ _ _ _ => trivial),
  fun _ _ _ => (al_bar Rl_0).lw (fun _ _ _ _ _ => trivial),
  fun _ => (al_choose Rl_0).lw (fun _ _ _ _ _ => trivial),
  fun _ => (al_breaks Rl_0).lw (fun _ _ _ _ _ => trivial),
  fun _ _ => (al_place Rl_0).lw (fun _ _ _ _ _ => trivial)⟩
theorem lw_mono {g1 g2 : mj_H} {G : mj_H → mj_H → Prop} (h : lw_All g1 g2 (fun _ _ => True)) (hG : ∀ f1 f2, G f1 f2) : lw_All g1 g2 G := by
  have e : G = fun _ _ => True := by
    funext a b
    exact propext ⟨fun _ => trivial, fun _ => hG a b⟩
  rw [e]
  exact h
theorem whole_start {p : Program} {e : Env} {s : State} {m : MethodId} {below : List Frame} {meth : Method} {c : Code} (l : Launch) (hflags : l.flags = flags0) {b L : Nat} {xs : Nat → Int32} (hL : L ≤ 6) (C0 : lw_At p s m meth c b L xs) : W p l e room_1 s m #[Value.ref b] below meth c s.heap [] 0 0 (lw_Z below #[Value.ref b] s) (entryFrame m ([Value.ref b] : List Value).toArray 4) := by
  refine lw_begin l C0 (fun Dg T3 ad1 ad2 hK hAd => ?_)
  exact lw_loop C0 (by omega) hK (Inv := fun n g1 g2 => n = 0 → g1 = h1_0 ∧ g2 = h2_0) (fun n g1 g2 _ h => absurd h (by omega)) (fun n g1 g2 hn hI => by
    obtain rfl : n = 0 := by omega
    obtain ⟨rfl, rfl⟩ := hI rfl
    exact lw_mono lw_all0 (fun _ _ => Or.inl fun h => absurd h (by omega))) 2 0 (by omega) (by omega) ad1 ad2 hAd rfl h1_0 h2_0 (fun _ => ⟨rfl, rfl⟩)
