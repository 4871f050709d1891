/-! two Tales change places: the same heap, its cells numbered otherwise; the law's loop -/
def mj_pm (k : Nat) : Nat := if 1 ≤ k ∧ k ≤ 10 then k + 13 else if 14 ≤ k ∧ k ≤ 23 then k - 13 else k
theorem mj_pm_pm (k : Nat) : mj_pm (mj_pm k) = k := by
  unfold mj_pm
  repeat' split
  all_goals omega
def mj_swp (h : mj_H) : mj_H := (fun q k => h.1 (mj_pm q) k, fun q k => h.2.1 (mj_pm q) k, fun q k => mj_pm (h.2.2 (mj_pm q) k))
theorem mj_pm_S : ∀ q, q < 63 → mj_S1[mj_pm q]? = mj_S1[q]? := by decide +kernel
theorem mj_pm_lt {q : Nat} (h : q < mj_S1.length) : mj_pm q < mj_S1.length := by
  have h : q < 63 := h
  show mj_pm q < 63
  unfold mj_pm
  repeat' split
  all_goals omega
theorem mj_ce_sw {T3 : Nat × Nat × Nat} {ad : Nat → Nat} {h : mj_H} {q : Nat} (z : Nat × Nat) : mj_ce mj_TY T3 (fun k => ad (mj_pm k)) (mj_swp h) q z = mj_ce mj_TY T3 ad h (mj_pm q) z := by
  obtain ⟨t, n⟩ := z
  match t with
  | 0 => rfl
  | 1 => rfl
  | 2 => rfl
  | t + 3 =>
    simp only [mj_ce, Sum.inr.injEq, Prod.mk.injEq, true_and]
    refine List.map_congr_left fun i _ => ?_
    unfold mj_fv
    split
    · rfl
    · simp only [mj_swp, mj_pm_pm]
    · rfl
theorem lw_swp {Dg : va_G} {T3 : Nat × Nat × Nat} {ad : Nat → Nat} {h : mj_H} {H : Heap} (hP : va_P Dg mj_CL (mj_W mj_S1 mj_TY T3 ad h) H) : va_P Dg mj_CL (mj_W mj_S1 mj_TY T3 (fun k => ad (mj_pm k)) (mj_swp h)) H := by
  intro q e hq
  obtain ⟨h1, rfl⟩ := mj_W_inv hq
  have h2 : mj_S1[q]? = some (mj_S1.getD q (0, 0)) := by
    rw [List.getD_eq_getElem?_getD, List.getElem?_eq_getElem h1]
    rfl
  have h3 : mj_S1[mj_pm q]? = some (mj_S1.getD q (0, 0)) := by rw [mj_pm_S q h1, h2]
  have h4 := hP _ _ (mj_W_at (TY := mj_TY) (T3 := T3) (ad := ad) (h := h) h3)
  rw [mj_ce_sw]
  exact h4
theorem lw_Ad_sw {s : State} {ad1 ad2 : Nat → Nat} (h : lw_Ad s ad1 ad2) : lw_Ad s (fun k => ad1 (mj_pm k)) ad2 := by
  obtain ⟨a1, a2, a3, a4, a5, a6, a7⟩ := h
  refine ⟨fun i j hi hj e => ?_, a2, fun i j hi hj => a3 _ j (mj_pm_lt hi) hj, fun i hi => a4 _ (mj_pm_lt hi), a5, a6, a7⟩
  have h1 := a1 _ _ (mj_pm_lt hi) (mj_pm_lt hj) e
  have h2 := congrArg mj_pm h1
  rwa [mj_pm_pm, mj_pm_pm] at h2
section LWM
variable {p : Program} {l : Launch} {e : Env} {s : State} {m : MethodId} {below : List Frame} {meth : Method} {c : Code} {b L : Nat} {xs : Nat → Int32}
variable {Dg : va_G} {T3 : Nat × Nat × Nat}
set_option maxHeartbeats 4000000 in
theorem lw_loop (C0 : lw_At p s m meth c b L xs) (hL : L ≤ 3072) (hK : va_K Dg mj_CL (mj_tys T3) s) {Inv : Nat → mj_H → mj_H → Prop} (hdef : ∀ n g1 g2, Inv n g1 g2 → Inv (n + 1) g1 g2)
    (hall : ∀ n g1 g2, 6 * n + 6 ≤ L → Inv n g1 g2 → lw_All g1 g2 (fun f1 f2 => Inv (n + 1) f1 f2 ∨ Inv (n + 1) (mj_swp f1) f2)) :
    ∀ (k n : Nat), L < 6 * n + 6 * k → 6 * n ≤ L → ∀ (ad1 ad2 : Nat → Nat), lw_Ad s ad1 ad2 → ad1 0 = ad1 0 → ∀ (g1 g2 : mj_H), Inv n g1 g2 →
      lw_St p l e s m b below meth c Dg T3 ad1 ad2 18 [(0, .ref b), (1, .ref (ad1 0)), (2, .ref (ad2 0)), (3, .int (nI (6 * n)))] [] g1 g2 := by
  obtain ⟨hx, hb, hr, hml, hown, hts, hX, hbl, hlocks, hgv⟩ := id C0
  have hbA : ¬ (fun q : Nat => s.heap.size ≤ q) b := Nat.not_le.mpr hbl
  intro k
  induction k with
  | zero => intro n hk hn4; omega
  | succ k ih =>
    intro n hk hn4 ad1 ad2 hAd _ g1 g2 hI H locs ls hP1 hP2 hS hl
    refine lv_iload_n hx hb d_law_18 rfl (lv_at hl 3 rfl) ?_
    refine lv_aload_n hx hb d_law_19 rfl (lv_at hl 0 rfl) ?_
    refine va_slen hx hb hX hbl hbA hS d_law_20 ?_
    refine lv_bipush (v := 6) hx hb d_law_21 (by decide) ?_
    refine lv_isub hx hb d_law_23 ?_
    have e6 : (Int32.ofNat L - 6).toInt = (L : Int) - 6 := by
      have h1 := pk_sub_toInt (a := L) (b := 6) (by omega) (by omega)
      exact h1
    have en : (nI (6 * n)).toInt = ((6 * n : Nat) : Int) := nI_toInt (by omega)
    refine lv_icmp_gt (tgt := 1380) hx hb d_law_24 (by decide) (fun q => ?_) (fun q => ?_)
    · refine lv_iconst (v := 1) hx hb d_law_1380 (by decide) ?_
      refine W.widen (k := 600000) (n := 7302250) (Nat.le_of_ble_eq_true rfl) (Nat.le_of_ble_eq_true rfl) ?_
      exact va_forget (fun q hq => hS.2.2 q hq) (lw_ret hx hb hr hlocks d_law_1381)
    · have hle : 6 * n + 6 ≤ L := by
        rw [Int32.lt_iff_toInt_lt, e6, en] at q
        omega
      have hin : ∀ j, j < 6 → vp_in (nI (6 * n) + nI j) L := fun j hj => lw_in rfl hle hL hj
      have h0 : vp_in (nI (6 * n)) L := vp_in_nI (by omega) (by omega)
      have hsw := lw_switch (l := l) (e := e) (below := below) (G := fun f1 f2 => Inv (n + 1) f1 f2 ∨ Inv (n + 1) (mj_swp f1) f2) C0 hK hAd h0 (hin 1 (by omega)) (hin 2 (by omega)) (hin 3 (by omega)) (hin 4 (by omega)) (hin 5 (by omega)) (Or.inl (hdef n g1 g2 hI)) (hall n g1 g2 hle hI) (fun f1 f2 hG => ?_)
      · exact hsw H locs ls hP1 hP2 hS hl
      · intro H locs ls hP1 hP2 hS hl
        refine lv_iinc (k := 3) (v := nI (6 * (n + 1))) (lv' := [(3, .int (nI (6 * (n + 1)))), (0, .ref b), (1, .ref (ad1 0)), (2, .ref (ad2 0))]) hx hb d_law_1374 hl rfl ?_ (by decide) rfl (fun ls hl => ?_)
        · show nI (6 * n) + nI 6 = _
          rw [nI_add]
          rfl
        · refine lv_goto (tgt := 18) hx hb d_law_1377 (by decide) ?_
          have hl2 := lv_sub (l' := [(0, .ref b), (1, .ref (ad1 0)), (2, .ref (ad2 0)), (3, .int (nI (6 * (n + 1))))]) hl [1, 2, 3, 0] rfl
          rcases hG with hG | hG
          · exact ih (n + 1) (by omega) (by omega) ad1 ad2 hAd rfl f1 f2 hG H locs ls hP1 hP2 hS hl2
          · exact ih (n + 1) (by omega) (by omega) (fun k => ad1 (mj_pm k)) ad2 (lw_Ad_sw hAd) rfl (mj_swp f1) f2 hG H locs ls (lw_swp hP1) hP2 hS hl2
end LWM
