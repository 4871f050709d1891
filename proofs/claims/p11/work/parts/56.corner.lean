/-! loss, who, knot, corner, weight, grid -/
theorem wfst_c {F F' : Nat → Nat → Int32} {W m k : Nat} (hk : k < m) (h : ∀ i, i < m → ∀ w, w < W → F i w = F' i w) : wfst F W m k = wfst F' W m k := by
  funext r
  apply propext
  unfold wfst
  refine forall_congr' fun i => forall_congr' fun hi => ?_
  rw [wo_c (h k hk), wo_c (h i hi)]
section S56
variable {D b W Rn Kn Tn Hn Un g : Nat} {I I1 I2 : Nat → Nat → Int32} {J J1 J2 : Nat → Nat → Int64}
theorem Rl.G (h : Rl b W Rn Kn Tn Hn Un g I1 J1 I2 J2) : rG I2 g ∧ 1 ≤ g ∧ I1 51 0 = nI g ∧ I1 51 1 = nI W ∧ I1 51 2 = nI (wl W g).length ∧ (wl W g).length ≤ 455 := by
  obtain ⟨q1, q2, q3, q4, q5, q6, -⟩ := h.2.2.2.2.2.2.1
  obtain ⟨-, -, -, c2, -⟩ := h.rB
  exact ⟨⟨q4, q2⟩, q1, q3, q5, q6, (wl_ok q2 c2).2.1⟩
theorem rB_k {I' : Nat → Nat → Int32} (h : rB I b W Rn) (e : k2 I' = k2 I) : rB I' b W Rn := by
  obtain ⟨h1, h2, h3, h4, h5, h6⟩ := h
  exact ⟨by rw [k2_at e rfl]; exact h1, h2, by rw [k2_at e rfl]; exact h3, h4, by rw [k2_at e rfl]; exact h5, h6⟩
theorem rG_k {I' : Nat → Nat → Int32} (h : rG I g) (e : k2 I' = k2 I) : rG I' g := ⟨by rw [k2_at e rfl]; exact h.1, h.2⟩
theorem k2_40 {I' : Nat → Nat → Int32} (h : ∀ q, q ≠ 40 → I' q = I q) : k2 I' = k2 I := by
  funext q j
  unfold k2
  by_cases e : q = 40
  · rw [e]; rfl
  · rw [h q e]
theorem al_loss {x y : Int32} (h : Rl b W Rn Kn Tn Hn Un g I1 J1 I2 J2) : AI 230 84 [.int x, .int y] I1 J1 I2 J2 (Rl b W Rn Kn Tn Hn Un g) := by
  obtain ⟨a1, a2, -⟩ := h.N
  obtain ⟨b1, b2, b3, b4, b5, b6⟩ := id h.rB
  obtain ⟨m, hm, f1, f2, f3, f4⟩ := h.fr
  rcases Classical.em (∃ j, j < m ∧ x = nI j) with p | p
  · rcases Classical.em (∃ j, j < W ∧ y = nI j) with q | q
    · obtain ⟨k, hk, rfl⟩ := p
      obtain ⟨w, hw, rfl⟩ := q
      refine AI.same (I1 39 (4 * k + w)) (mj_mk (D := 899) (e230 _ _ ?_)) (mj_mk (D := 899) (e84 _ _ ?_)) h
      · refine ⟨trivial, _, _, _, c_fthere f1 hm, if_tf (fun _ => ?_) (fun f => absurd ⟨k, hk, rfl⟩ f)⟩
        refine ⟨trivial, _, _, _, c_there (k := 0) a1 (by omega) (by omega), if_tf (fun _ => ?_) (fun f => absurd ⟨w, hw, rfl⟩ f)⟩
        rw [ix4, nI_clamp (by omega)]
        exact ⟨vp_in_nI (by omega) (by decide), rfl⟩
      · refine ⟨trivial, _, _, _, f2 898 J2 I2 _ rfl, if_tf (fun _ => ?_) (fun f => absurd ⟨k, hk, rfl⟩ f)⟩
        refine ⟨trivial, _, _, _, r_isWish h.rB, if_tf (fun _ => ?_) (fun f => absurd ⟨w, hw, rfl⟩ f)⟩
        rw [ix4', nI_clamp (by omega), f3 k hk w hw]
        exact ⟨vp_in_nI (by omega) (by decide), rfl⟩
    · refine AI.same (-2000000000) (mj_mk (D := 899) (e230 _ _ ?_)) (mj_mk (D := 899) (e84 _ _ ?_)) h
      · refine ⟨trivial, _, _, _, c_fthere f1 hm, if_tf (fun _ => ?_) (fun f => absurd p f)⟩
        exact ⟨trivial, _, _, _, c_there (k := 0) a1 (by omega) (by omega), if_tf (fun f => absurd f q) (fun _ => rfl)⟩
      · refine ⟨trivial, _, _, _, f2 898 J2 I2 _ rfl, if_tf (fun _ => ?_) (fun f => absurd p f)⟩
        exact ⟨trivial, _, _, _, r_isWish h.rB, if_tf (fun f => absurd f q) (fun _ => rfl)⟩
  · refine AI.same (-2000000000) (mj_mk (D := 899) (e230 _ _ ?_)) (mj_mk (D := 899) (e84 _ _ ?_)) h
    · exact ⟨trivial, _, _, _, c_fthere f1 hm, if_tf (fun f => absurd f p) (fun _ => rfl)⟩
    · exact ⟨trivial, _, _, _, f2 898 J2 I2 _ rfl, if_tf (fun f => absurd f p) (fun _ => rfl)⟩
-- corner, weight
theorem al_corner {x : Int32} (h : Rl b W Rn Kn Tn Hn Un g I1 J1 I2 J2) : AI 237 89 [.int x] I1 J1 I2 J2 (Rl b W Rn Kn Tn Hn Un g) := by
  obtain ⟨m, hm, f1, f2, f3, f4⟩ := h.fr
  obtain ⟨hG, g1, g2, g3, g4, g5⟩ := h.G
  have hB := h.rB
  rcases Classical.em (∃ j, j < m ∧ x = nI j) with p | p
  · obtain ⟨k, hk, rfl⟩ := p
    obtain ⟨f5, f6⟩ := f4 (by omega)
    obtain ⟨P, hP⟩ : ∃ P, P = wfst (fun k w => I1 39 (4 * k + w)) W m k := ⟨_, rfl⟩
    have hP2 : ∀ I, k2 I = k2 I2 → wfst (fun k w => I 37 (4 * k + w)) W m k = P := fun I e => by
      rw [hP]
      exact wfst_c hk fun i hi w hw => by rw [← f3 i hi w hw]; exact k2_at e rfl
    obtain ⟨v, hv⟩ : ∃ v, v = lct P (wl W g) := ⟨_, rfl⟩
    have cl : C1 900 237 [.ref 0, .int (nI k)] I1 J1 (.int (nI v)) I1 J1 := by
      refine mj_mk (D := 899) (e237 _ ?_)
      refine ⟨trivial, _, _, _, c_fthere f1 hm, if_tf (fun _ => ?_) (fun f => absurd ⟨k, hk, rfl⟩ f)⟩
      refine lp_up (n := (wl W g).length) (fun n => E1 237 899 (fun q => q = (.int (nI v), (I1, J1, mj_R1))) 17 [(0, .ref 0), (1, .int (nI k)), (2, .int (nI (lct P ((wl W g).take n)))), (3, .int (nI n))] I1 J1) (fun n hn ih => ?_) 0 (Nat.zero_le _)
      refine mj_on (s237_17 _ _ _ ?_)
      rw [g4, nI_1, nI_1]
      refine if_le (by omega) (by omega) (fun c => ?_) (fun c => ?_)
      · rw [tk_e c, hv]
      · obtain ⟨r, hr, -, -⟩ := gt_of c
        have hs := ih c
        rw [tk_s hr] at hs
        refine ⟨trivial, _, _, _, c_first g3 hB.2.2.2.1 (by omega) f1 hm hk (h.wr hr), if_tf (fun d => ?_) (fun d => ?_)⟩
        · rw [← hP] at d
          rw [lct_t d] at hs
          exact hs
        · rw [← hP] at d
          rw [lct_f d] at hs
          exact hs
    have hN : wnum g W ≤ 2197 := wnum_le hG.2 hB.2.2.2.1
    have rf : ∃ r I2' J2', C2 900 89 [.ref 0, .int (nI k)] I2 J2 (.int r) I2' J2' ∧ (r = nI v ∧ k2 I2' = k2 I2 ∧ J2' = J2) := by
      refine mj_cI (D := 899) (e89 _ ?_)
      refine ⟨trivial, _, _, _, f2 898 J2 I2 _ rfl, if_tf (fun _ => ?_) (fun f => absurd ⟨k, hk, rfl⟩ f)⟩
      refine lp_up (n := wnum g W) (fun n => ∀ I, k2 I = k2 I2 → E2 89 899 (qI mj_R2 (fun r I' J' => r = nI v ∧ k2 I' = k2 I2 ∧ J' = J2)) 14 [(0, .ref 0), (1, .int (nI k)), (2, .int (nI (lct P (wpre g W n)))), (3, .int (nI n))] I J2) (fun n hn ih I hI => ?_) 0 (Nat.zero_le _) I2 rfl
      refine mj_on (s89_14 _ _ _ ?_)
      rw [show (0 : Int32) = nI 0 from rfl, nI_add, Nat.add_zero, nI_1, nI_1]
      refine ⟨trivial, _, _, _, r_numbers (rB_k hB hI) (rG_k hG hI), if_le (by omega) (by omega) (fun c => ?_) (fun c => ?_)⟩
      · obtain rfl : n = wnum g W := by omega
        refine ⟨_, _, _, rfl, ?_, hI, rfl⟩
        rw [hv]
        unfold wpre
        rw [(wl_ok hG.2 hB.2.2.2.1).1]
      · obtain ⟨I', hc, q1, q2⟩ := r_isWeighing (D := 898) (J := J2) (rB_k hB hI) (rG_k hG hI) f6 (show n < 2197 by omega)
        have hI' : k2 I' = k2 I2 := (k2_40 q1).trans hI
        refine ⟨trivial, _, _, _, hc, if_tf (fun d => ?_) (fun d => ?_)⟩
        · obtain ⟨r, hr⟩ := Option.ne_none_iff_exists'.mp d
          have hs := ih c I' hI'
          rw [wpre_t hr] at hs
          refine ⟨trivial, _, _, _, r_isFirst (rB_k hB hI') (by rw [k2_at hI' rfl]; exact f5) hm hk (q2 r hr), if_tf (fun d => ?_) (fun d => ?_)⟩
          · rw [hP2 I' hI'] at d
            rw [lct_t d] at hs
            exact hs
          · rw [hP2 I' hI'] at d
            rw [lct_f d] at hs
            exact hs
        · have d : wval g W n = none := Classical.byContradiction fun q => d q
          have hs := ih c I' hI'
          rw [wpre_f d] at hs
          exact hs
    obtain ⟨r, I2', J2', hc, rfl, e1, rfl⟩ := rf
    exact ⟨_, I1, J1, I2', J2', cl, hc, Rl_same h rfl rfl e1 rfl⟩
  · refine AI.same (-1) (mj_mk (D := 899) (e237 _ ?_)) (mj_mk (D := 899) (e89 _ ?_)) h
    · exact ⟨trivial, _, _, _, c_fthere f1 hm, if_tf (fun f => absurd f p) (fun _ => rfl)⟩
    · exact ⟨trivial, _, _, _, f2 898 J2 I2 _ rfl, if_tf (fun f => absurd f p) (fun _ => rfl)⟩
theorem al_weight {x y : Int32} (h : Rl b W Rn Kn Tn Hn Un g I1 J1 I2 J2) : AI 240 94 [.int x, .int y] I1 J1 I2 J2 (Rl b W Rn Kn Tn Hn Un g) := by
  obtain ⟨m, hm, f1, f2, f3, f4⟩ := h.fr
  obtain ⟨hG, g1, g2, g3, g4, g5⟩ := h.G
  obtain ⟨a1, a2, -⟩ := h.N
  have hB := h.rB
  have hW4 := hB.2.2.2.1
  rcases Classical.em (∃ j, j < m ∧ x = nI j) with p | p
  · rcases Classical.em (∃ j, j < W ∧ y = nI j) with q | q
    · obtain ⟨k, hk, rfl⟩ := p
      obtain ⟨w, hw, rfl⟩ := q
      obtain ⟨f5, f6⟩ := f4 (by omega)
      obtain ⟨P, hP⟩ : ∃ P, P = wfst (fun k w => I1 39 (4 * k + w)) W m k := ⟨_, rfl⟩
      have hP2 : ∀ I, k2 I = k2 I2 → wfst (fun k w => I 37 (4 * k + w)) W m k = P := fun I e => by
        rw [hP]
        exact wfst_c hk fun i hi w hw => by rw [← f3 i hi w hw]; exact k2_at e rfl
      obtain ⟨v, hv⟩ : ∃ v, v = lfi P w (wl W g) := ⟨_, rfl⟩
      have cl : C1 900 240 [.ref 0, .int (nI k), .int (nI w)] I1 J1 (.int v) I1 J1 := by
        refine mj_mk (D := 899) (e240 _ _ ?_)
        refine ⟨trivial, _, _, _, c_fthere f1 hm, if_tf (fun _ => ?_) (fun f => absurd ⟨k, hk, rfl⟩ f)⟩
        refine ⟨trivial, _, _, _, c_there (k := 0) a1 (by omega) (by omega), if_tf (fun _ => ?_) (fun f => absurd ⟨w, hw, rfl⟩ f)⟩
        refine lp_up (n := (wl W g).length) (fun n => lfi P w ((wl W g).drop n) = v → E1 240 899 (fun q => q = (.int v, (I1, J1, mj_R1))) 27 [(0, .ref 0), (1, .int (nI k)), (2, .int (nI w)), (3, .int (nI n))] I1 J1) (fun n hn ih hs => ?_) 0 (Nat.zero_le _) (by rw [hv]; rfl)
        refine mj_on (s240_27 _ _ _ ?_)
        rw [g4, nI_1, ix4]
        refine if_le (by omega) (by omega) (fun c => ?_) (fun c => ?_)
        · rw [List.drop_eq_nil_of_le c] at hs
          rw [← hs]
          rfl
        · obtain ⟨r, hr, -, hd⟩ := gt_of c
          rw [hd] at hs
          refine ⟨trivial, _, _, _, c_first g3 hB.2.2.2.1 (by omega) f1 hm hk (h.wr hr), if_tf (fun d => ?_) (fun d => ?_)⟩
          · rw [← hP] at d
            rw [lfi_t d] at hs
            rw [nI_clamp (by omega), h.wr hr w hw, hs]
            exact ⟨vp_in_nI (by omega) (by decide), rfl⟩
          · rw [← hP] at d
            rw [lfi_f d] at hs
            exact ih c hs
      have hN : wnum g W ≤ 2197 := wnum_le hG.2 hB.2.2.2.1
      have rf : ∃ r I2' J2', C2 900 94 [.ref 0, .int (nI k), .int (nI w)] I2 J2 (.int r) I2' J2' ∧ (r = v ∧ k2 I2' = k2 I2 ∧ J2' = J2) := by
        refine mj_cI (D := 899) (e94 _ _ ?_)
        refine ⟨trivial, _, _, _, f2 898 J2 I2 _ rfl, if_tf (fun _ => ?_) (fun f => absurd ⟨k, hk, rfl⟩ f)⟩
        refine ⟨trivial, _, _, _, r_isWish hB, if_tf (fun _ => ?_) (fun f => absurd ⟨w, hw, rfl⟩ f)⟩
        have hs0 : lfi P w (wsuf g W 0 (wnum g W - 0)) = v := by
          rw [hv]
          unfold wsuf
          rw [Nat.sub_zero, ← List.range_eq_range', (wl_ok hG.2 hB.2.2.2.1).1]
        refine lp_up (n := wnum g W) (fun n => lfi P w (wsuf g W n (wnum g W - n)) = v → ∀ I, k2 I = k2 I2 → E2 94 899 (qI mj_R2 (fun r I' J' => r = v ∧ k2 I' = k2 I2 ∧ J' = J2)) 20 [(0, .ref 0), (1, .int (nI k)), (2, .int (nI w)), (3, .int (nI n))] I J2) (fun n hn ih hs I hI => ?_) 0 (Nat.zero_le _) hs0 I2 rfl
        refine mj_on (s94_20 _ _ _ ?_)
        rw [nI_1]
        refine ⟨trivial, _, _, _, r_numbers (rB_k hB hI) (rG_k hG hI), if_le (by omega) (by omega) (fun c => ?_) (fun c => ?_)⟩
        · refine ⟨_, _, _, rfl, ?_, hI, rfl⟩
          rw [← hs, show wnum g W - n = 0 by omega]
          rfl
        · obtain ⟨k', hk'⟩ : ∃ k', wnum g W - n = k' + 1 := ⟨wnum g W - n - 1, by omega⟩
          have hk2 : wnum g W - (n + 1) = k' := by omega
          rw [hk2] at ih
          rw [hk'] at hs
          obtain ⟨I', hc, q1, q2⟩ := r_isWeighing (D := 898) (J := J2) (rB_k hB hI) (rG_k hG hI) f6 (show n < 2197 by omega)
          have hI' : k2 I' = k2 I2 := (k2_40 q1).trans hI
          refine ⟨trivial, _, _, _, hc, if_tf (fun d => ?_) (fun d => ?_)⟩
          · obtain ⟨r, hr⟩ := Option.ne_none_iff_exists'.mp d
            rw [wsuf_t hr] at hs
            refine ⟨trivial, _, _, _, r_isFirst (rB_k hB hI') (by rw [k2_at hI' rfl]; exact f5) hm hk (q2 r hr), if_tf (fun d => ?_) (fun d => ?_)⟩
            · rw [hP2 I' hI'] at d
              rw [lfi_t d] at hs
              refine ⟨vp_in_nI (by omega) (by decide), _, _, _, rfl, ?_, hI', rfl⟩
              rw [nI_clamp (by omega), q2 r hr w hw, hs]
            · rw [hP2 I' hI'] at d
              rw [lfi_f d] at hs
              exact ih c hs I' hI'
          · have d : wval g W n = none := Classical.byContradiction fun q => d q
            rw [wsuf_f d] at hs
            exact ih c hs I' hI'
      obtain ⟨r, I2', J2', hc, rfl, e1, rfl⟩ := rf
      exact ⟨_, I1, J1, I2', J2', cl, hc, Rl_same h rfl rfl e1 rfl⟩
    · refine AI.same (-1) (mj_mk (D := 899) (e240 _ _ ?_)) (mj_mk (D := 899) (e94 _ _ ?_)) h
      · refine ⟨trivial, _, _, _, c_fthere f1 hm, if_tf (fun _ => ?_) (fun f => absurd p f)⟩
        exact ⟨trivial, _, _, _, c_there (k := 0) a1 (by omega) (by omega), if_tf (fun f => absurd f q) (fun _ => rfl)⟩
      · refine ⟨trivial, _, _, _, f2 898 J2 I2 _ rfl, if_tf (fun _ => ?_) (fun f => absurd p f)⟩
        exact ⟨trivial, _, _, _, r_isWish hB, if_tf (fun f => absurd f q) (fun _ => rfl)⟩
  · refine AI.same (-1) (mj_mk (D := 899) (e240 _ _ ?_)) (mj_mk (D := 899) (e94 _ _ ?_)) h
    · exact ⟨trivial, _, _, _, c_fthere f1 hm, if_tf (fun f => absurd f p) (fun _ => rfl)⟩
    · exact ⟨trivial, _, _, _, f2 898 J2 I2 _ rfl, if_tf (fun f => absurd f p) (fun _ => rfl)⟩
end S56
