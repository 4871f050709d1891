/-! the claim: every call is answered alike, so every run of calls is -/
theorem AI.lw {z1 z2 : Nat} {as : List Value} {I1 I2 : Nat → Nat → Int32} {J1 J2 : Nat → Nat → Int64} {P : (Nat → Nat → Int32) → (Nat → Nat → Int64) → (Nat → Nat → Int32) → (Nat → Nat → Int64) → Prop} {G : mj_H → mj_H → Prop} (h : AI z1 z2 as I1 J1 I2 J2 P) (hG : ∀ f1 h1 f2 h2, P f1 h1 f2 h2 → G (f1, h1, mj_R1) (f2, h2, mj_R2)) : lw_PI z1 z2 as (I1, J1, mj_R1) (I2, J2, mj_R2) G := by
  obtain ⟨r, f1, h1, f2, h2, a, b, c⟩ := h
  exact ⟨r, _, _, a, b, hG _ _ _ _ c⟩
theorem AJ.lw {z1 z2 : Nat} {as : List Value} {I1 I2 : Nat → Nat → Int32} {J1 J2 : Nat → Nat → Int64} {P : (Nat → Nat → Int32) → (Nat → Nat → Int64) → (Nat → Nat → Int32) → (Nat → Nat → Int64) → Prop} {G : mj_H → mj_H → Prop} (h : AJ z1 z2 as I1 J1 I2 J2 P) (hG : ∀ f1 h1 f2 h2, P f1 h1 f2 h2 → G (f1, h1, mj_R1) (f2, h2, mj_R2)) : lw_PJ z1 z2 as (I1, J1, mj_R1) (I2, J2, mj_R2) G := by
  obtain ⟨r, f1, h1, f2, h2, a, b, c⟩ := h
  exact ⟨r, _, _, a, b, hG _ _ _ _ c⟩
theorem AQ.lw {z1 z2 : Nat} {as : List Value} {I1 I2 : Nat → Nat → Int32} {J1 J2 : Nat → Nat → Int64} {P : (Nat → Nat → Int32) → (Nat → Nat → Int64) → (Nat → Nat → Int32) → (Nat → Nat → Int64) → Prop} {G : mj_H → mj_H → Prop} (h : AQ z1 z2 as I1 J1 I2 J2 P) (hG : ∀ f1 h1 f2 h2, P f1 h1 f2 h2 → G (f1, h1, mj_R1) (f2, h2, mj_R2)) : lw_QI z1 z2 as (I1, J1, mj_R1) (I2, J2, mj_R2) G := by
  obtain ⟨r, r2, f1, h1, f2, h2, a, b, c⟩ := h
  exact ⟨r, r2, _, _, a, b, hG _ _ _ _ c⟩
theorem lw_all {n : Nat} {g1 g2 : mj_H} (h : Inv n g1 g2) : lw_All g1 g2 (fun f1 f2 => Inv (n + 1) f1 f2 ∨ Inv (n + 1) (mj_swp f1) f2) := by
  obtain ⟨I1, J1, R1⟩ := g1
  obtain ⟨I2, J2, R2⟩ := g2
  obtain ⟨e1, e2, b, W, Rn, Kn, Tn, Hn, Un, g, h⟩ := h
  have e1 : R1 = mj_R1 := e1
  have e2 : R2 = mj_R2 := e2
  have h : Rl b W Rn Kn Tn Hn Un g I1 J1 I2 J2 := h
  rw [e1, e2]
  have fin : ∀ {g' : Nat} {f1 : Nat → Nat → Int32} {h1 : Nat → Nat → Int64} {f2 : Nat → Nat → Int32} {h2 : Nat → Nat → Int64}, Rl b W Rn Kn Tn Hn Un g' f1 h1 f2 h2 → (Inv (n + 1) (f1, h1, mj_R1) (f2, h2, mj_R2) ∨ Inv (n + 1) (mj_swp (f1, h1, mj_R1)) (f2, h2, mj_R2)) := fun {g' _ _ _ _} q => Or.inl ⟨rfl, rfl, b, W, Rn, Kn, Tn, Hn, Un, g', q⟩
  exact ⟨fun _ _ _ _ _ => (al_feed h).lw (fun _ _ _ _ q => fin q),
    fun _ => (al_end h).lw (fun _ _ _ _ q => fin q),
    al_text h,
    fun _ => (al_fault h).lw (fun _ _ _ _ q => fin q),
    fun _ => (al_has h).lw (fun _ _ _ _ q => fin q),
    fun _ _ _ => (al_letter h).lw (fun _ _ _ _ q => fin q),
    fun _ _ _ => (al_price h).lw (fun _ _ _ _ q => fin q),
    fun _ _ => (al_beats h).lw (fun _ _ _ _ q => fin q),
    fun _ => (al_leads h).lw (fun _ _ _ _ q => fin q),
    fun _ _ _ => (al_change h).lw (fun _ _ _ _ q => fin q),
    fun _ => (al_changed h).lw (fun _ _ _ _ q => fin q),
    (al_rows h).lw (fun _ _ _ _ q => fin q),
    fun _ => (al_unsure h).lw (fun _ _ _ _ q => fin q),
    fun _ _ => (al_maybe h).lw (fun _ _ _ _ q => fin q),
    fun _ _ _ => (al_front h).lw (fun _ _ _ _ q => fin q),
    fun _ _ => (al_loss h).lw (fun _ _ _ _ q => fin q),
    fun _ => (al_who h).lw (fun _ _ _ _ q => fin q),
    fun _ _ => (al_knot h).lw (fun _ _ _ _ q => fin q),
    fun _ => (al_grid h).lw (fun _ _ _ _ ⟨_, q⟩ => fin q),
    fun _ => (al_corner h).lw (fun _ _ _ _ q => fin q),
    fun _ _ => (al_weight h).lw (fun _ _ _ _ q => fin q),
    fun _ => (al_near h).lw (fun _ _ _ _ q => fin q),
    fun _ => (al_standIns h).lw (fun _ _ _ _ q => fin q),
    fun _ => (al_kept h).lw (fun _ _ _ _ q => fin q),
    fun _ _ _ _ => (al_cost h).lw (fun _ _ _ _ q => fin q),
    fun _ => (al_hole h).lw (fun _ _ _ _ q => fin q),
    fun _ _ => (al_rather h).lw (fun _ _ _ _ q => fin q),
    (al_unsay h).lw (fun _ _ _ _ q => fin q),
    (al_agree h).lw (fun _ _ _ _ q => fin q),
    (al_could h).lw (fun _ _ _ _ q => fin q),
    fun _ => (al_question h).lw (fun _ _ _ _ q => fin q),
    (al_quarrel h).lw (fun _ _ _ _ q => fin q),
    fun _ => (al_stop h).lw (fun _ _ _ _ q => fin q),
    fun _ _ _ _ _ => (al_person h).lw (fun _ _ _ _ q => fin q),
    fun _ _ _ => (al_bar h).lw (fun _ _ _ _ q => fin q),
    fun _ => (al_choose h).lw (fun _ _ _ _ q => fin q),
    fun _ => (al_breaks h).lw (fun _ _ _ _ q => fin q),
    fun _ _ => (al_place h).lw (fun _ _ _ _ q => fin q)⟩
theorem whole_start {p : Program} {e : Env} {s : State} {m : MethodId} {below : List Frame} {meth : Method} {c : Code} (l : Launch) (hflags : l.flags = flags0) {b L : Nat} {xs : Nat → Int32} (hL : L ≤ 3072) (C0 : lw_At p s m meth c b L xs) : W p l e room_1 s m #[Value.ref b] below meth c s.heap [] 0 0 (lw_Z below #[Value.ref b] s) (entryFrame m ([Value.ref b] : List Value).toArray 4) := by
  refine lw_begin l C0 (fun Dg T3 ad1 ad2 hK hAd => ?_)
  exact lw_loop C0 hL hK (Inv := Inv) (fun _ _ _ h => h) (fun n g1 g2 _ h => lw_all h) 513 0 (by omega) (by omega) ad1 ad2 hAd rfl h1_0 h2_0 ⟨rfl, rfl, 0, 0, 0, 0, 0, 0, 0, 4, Rl_0⟩
