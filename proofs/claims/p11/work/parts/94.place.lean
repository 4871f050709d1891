/-! the reference shows its kept rows by their ranks -/
section S94p
theorem ct_lt2 {p q : Nat → Prop} (hpq : ∀ i, p i → q i) : ∀ {n : Nat}, (∃ i, i < n ∧ q i ∧ ¬ p i) → ct n p < ct n q
  | 0, ⟨i, h, _⟩ => absurd h (by omega)
  | n + 1, ⟨i, h, hq, hp⟩ => by
    have le : ∀ m, ct m p ≤ ct m q := by
      intro m
      induction m with
      | zero => exact Nat.le_refl _
      | succ m ih =>
        rcases Classical.em (p m) with c | c
        · rw [ct_t c, ct_t (hpq m c)]; omega
        · rw [ct_f c]
          rcases Classical.em (q m) with d | d
          · rw [ct_t d]; omega
          · rw [ct_f d]; exact ih
    by_cases e : i = n
    · subst e
      rw [ct_f hp, ct_t hq]
      have := le i
      omega
    · have ih := ct_lt2 hpq (n := n) ⟨i, by omega, hq, hp⟩
      rcases Classical.em (p n) with c | c
      · rw [ct_t c, ct_t (hpq n c)]; omega
      · rw [ct_f c]
        rcases Classical.em (q n) with d | d
        · rw [ct_t d]; omega
        · rw [ct_f d]; exact ih
theorem ct_all : ∀ n, ct n (fun _ => True) = n
  | 0 => rfl
  | n + 1 => by rw [ct_t trivial, ct_all n]
theorem php : ∀ (n : Nat) (f : Nat → Nat), (∀ i, i < n → f i < n) → (∀ i j, i < n → j < n → f i = f j → i = j) → ∀ k, k < n → ∃ i, i < n ∧ f i = k
  | 0, _, _, _, k, hk => absurd hk (by omega)
  | n + 1, f, h1, h2, k, hk => by
    by_cases ha : f n = n
    · have ih := php n f (fun i hi => by
        have q1 := h1 i (by omega)
        have q2 : f i ≠ n := fun e => absurd (h2 i n (by omega) (by omega) (e.trans ha.symm)) (by omega)
        omega) (fun i j hi hj => h2 i j (by omega) (by omega))
      by_cases e : k = n
      · exact ⟨n, by omega, by rw [ha, e]⟩
      · obtain ⟨i, hi, e2⟩ := ih k (by omega)
        exact ⟨i, by omega, e2⟩
    · have hal : f n < n := by have := h1 n (by omega); omega
      have ih := php n (fun i => if f i = n then f n else f i) (fun i hi => by
        show (if f i = n then f n else f i) < n
        split
        · exact hal
        · have := h1 i (by omega); omega) (fun i j hi hj e => by
        have e : (if f i = n then f n else f i) = if f j = n then f n else f j := e
        split at e
        · rename_i c1
          split at e
          · rename_i c2
            exact h2 i j (by omega) (by omega) (c1.trans c2.symm)
          · exact absurd (h2 n j (by omega) (by omega) e) (by omega)
        · split at e
          · exact absurd (h2 i n (by omega) (by omega) e) (by omega)
          · exact h2 i j (by omega) (by omega) e)
      by_cases e : k = n
      · obtain ⟨i, hi, e2⟩ := ih (f n) hal
        have e2 : (if f i = n then f n else f i) = f n := e2
        split at e2
        · rename_i c
          exact ⟨i, by omega, by rw [c, e]⟩
        · exact absurd (h2 i n (by omega) (by omega) e2) (by omega)
      · obtain ⟨i, hi, e2⟩ := ih k (by omega)
        have e2 : (if f i = n then f n else f i) = k := e2
        split at e2
        · exact ⟨n, by omega, e2⟩
        · exact ⟨i, by omega, e2⟩
variable {W : Nat} {R : List (Nat → Int32)}
def rwR (R : List (Nat → Int32)) (i : Nat) : Nat → Int32 := R.getD i (fun _ => 0)
theorem rwR_at {k : Nat} {r : Nat → Int32} (h : R[k]? = some r) : rwR R k = r := by
  unfold rwR
  rw [List.getD_eq_getElem?_getD, h]
  rfl
theorem rwR_of {k : Nat} (h : k < R.length) : R[k]? = some (rwR R k) := by
  unfold rwR
  rw [List.getD_eq_getElem?_getD, List.getElem?_eq_getElem h]
  rfl
noncomputable def rkk (W : Nat) (R : List (Nat → Int32)) (i : Nat) : Nat := ct R.length (fun j => lexlt W (rwR R j) (rwR R i))
/-- no two rows of R are alike -/
def unl (W : Nat) (R : List (Nat → Int32)) : Prop := ∀ i j, i < R.length → j < R.length → i ≠ j → ¬ ∀ w, w < W → rwR R i w = rwR R j w
theorem unl_of {S : (Nat → Int32) → Prop} (h : mnR W S R) : unl W R := by
  have key : ∀ i j, i < j → j < R.length → ¬ nm W (rwR R i) (rwR R j) := fun i j hij hj => by
    have := List.pairwise_iff_getElem.mp h.2.1 i j (by omega) hj hij
    have e1 : R[i] = rwR R i := Option.some.inj ((List.getElem?_eq_getElem (by omega)).symm.trans (rwR_of (by omega)))
    have e2 : R[j] = rwR R j := Option.some.inj ((List.getElem?_eq_getElem hj).symm.trans (rwR_of hj))
    rw [e1, e2] at this
    exact this.1
  intro i j hi hj hne e
  rcases Nat.lt_or_gt_of_ne hne with c | c
  · exact key i j c hj (nm_eq e)
  · exact key j i c hi (nm_eq fun w hw => (e w hw).symm)
theorem rkk_lt {i : Nat} (hi : i < R.length) : rkk W R i < R.length := by
  have h := ct_lt2 (p := fun j => lexlt W (rwR R j) (rwR R i)) (q := fun _ => True) (fun _ _ => trivial) (n := R.length) ⟨i, hi, trivial, lex_ir⟩
  rwa [ct_all] at h
theorem rkk_mono {i j : Nat} (hi : i < R.length) (h : lexlt W (rwR R i) (rwR R j)) : rkk W R i < rkk W R j := ct_lt2 (fun k hk => lex_tr hk h) ⟨i, hi, h, lex_ir⟩
theorem rkk_inj (hu : unl W R) {i j : Nat} (hi : i < R.length) (hj : j < R.length) (e : rkk W R i = rkk W R j) : i = j := by
  by_cases c : i = j
  · exact c
  · rcases lex_tri (W := W) (f := rwR R i) (g := rwR R j) with q | q | q
    · have := rkk_mono hi q; omega
    · exact absurd q (hu i j hi hj c)
    · have := rkk_mono hj q; omega
theorem rkk_at (hu : unl W R) : ∃ σ : Nat → Nat, ∀ k, k < R.length → σ k < R.length ∧ rkk W R (σ k) = k := by
  have h : ∀ k, ∃ i, k < R.length → i < R.length ∧ rkk W R i = k := fun k => by
    by_cases c : k < R.length
    · obtain ⟨i, hi, e⟩ := php R.length (rkk W R) (fun i hi => rkk_lt hi) (fun i j hi hj e => rkk_inj hu hi hj e) k c
      exact ⟨i, fun _ => ⟨hi, e⟩⟩
    · exact ⟨0, fun q => absurd q c⟩
  exact Classical.axiomOfChoice h
theorem rkk_lex (hu : unl W R) {i j : Nat} (hi : i < R.length) (hj : j < R.length) (h : rkk W R i < rkk W R j) : lexlt W (rwR R i) (rwR R j) := by
  rcases lex_tri (W := W) (f := rwR R i) (g := rwR R j) with q | q | q
  · exact q
  · by_cases c : i = j
    · subst c; omega
    · exact absurd q (hu i j hi hj c)
  · have := rkk_mono hj q; omega
/-- candidates, whatever their keys -/
def cdT (W : Nat) (mo : Nat → Int32) (T : (Nat → Nat) → Prop) (f : Nat → Int32) (k : Nat) : Prop := k = 0 ∧ ∃ v, T v ∧ ∀ w, w < W → f w = rho mo v w
theorem fr_ref {mo : Nat → Int32} {T : (Nat → Nat) → Prop} {σ : Nat → Nat} (h : mnR W (rS mo T) R) (hs : ∀ k, k < R.length → σ k < R.length ∧ rkk W R (σ k) = k) : FR W (cdT W mo T) R.length (fun k => rwR R (σ k)) (fun _ => 0) := by
  have hu := unl_of h
  have mem : ∀ i, i < R.length → rwR R i ∈ R := fun i hi => List.mem_of_getElem? (rwR_of hi)
  refine ⟨fun i j hij hj => rkk_lex hu (hs i (by omega)).1 (hs j hj).1 (by rw [(hs i (by omega)).2, (hs j hj).2]; exact hij), fun i hi => ?_, fun i hi f k hf hn => ?_, fun i hi f k hf _ => Nat.zero_le _, fun f k hf => ?_⟩
  · obtain ⟨v, hv, e⟩ := h.1 _ (mem _ (hs i hi).1)
    exact ⟨rfl, v, hv, fun w _ => by show rwR R (σ i) w = _; rw [e]⟩
  · obtain ⟨-, v, hv, e⟩ := hf
    obtain ⟨r, hr, hq⟩ := h.2.2 (rho mo v) ⟨v, hv, rfl⟩
    have hrf : nm W r f := fun w hw => by rw [e w hw]; exact hq w hw
    obtain ⟨j, hj⟩ := List.getElem?_of_mem hr
    have hjl := (List.getElem?_eq_some_iff.mp hj).1
    have ej := rwR_at hj
    have hij : j = σ i := by
      by_cases c : j = σ i
      · exact c
      · have hp : nm W (rwR R j) (rwR R (σ i)) := by rw [ej]; exact nm_tr hrf hn
        have pw := h.2.1
        rw [List.pairwise_iff_getElem] at pw
        have g : ∀ x (hx : x < R.length), R[x] = rwR R x := fun x hx => Option.some.inj ((List.getElem?_eq_getElem hx).symm.trans (rwR_of hx))
        rcases Nat.lt_or_gt_of_ne c with q | q
        · have := pw j (σ i) hjl (hs i hi).1 q
          rw [g, g] at this
          exact absurd hp this.1
        · have := pw (σ i) j (hs i hi).1 hjl q
          rw [g, g] at this
          exact absurd hp this.2
    show nm W (rwR R (σ i)) f
    rw [← hij, ej]
    exact hrf
  · obtain ⟨-, v, hv, e⟩ := hf
    obtain ⟨r, hr, hq⟩ := h.2.2 (rho mo v) ⟨v, hv, rfl⟩
    obtain ⟨j, hj⟩ := List.getElem?_of_mem hr
    have hjl := (List.getElem?_eq_some_iff.mp hj).1
    have ej := rwR_at hj
    refine ⟨rkk W R j, rkk_lt hjl, ?_⟩
    have h1 := hs _ (rkk_lt (W := W) hjl)
    have e2 : σ (rkk W R j) = j := rkk_inj hu h1.1 hjl h1.2
    show nm W (rwR R (σ (rkk W R j))) f
    rw [e2, ej]
    exact fun w hw => by rw [e w hw]; exact hq w hw
theorem fr_cla {mo : Nat → Int32} {T : (Nat → Nat) → Prop} {C : (Nat → Int32) → Nat → Prop} {n : Nat} {F : Nat → Nat → Int32} {key : Nat → Nat} (h : FR W C n F key) (h1 : ∀ f k, C f k → ∃ v, T v ∧ ∀ w, w < W → f w = rho mo v w) (h2 : ∀ v, T v → ∃ f k, C f k ∧ ∀ w, w < W → f w = rho mo v w) : FR W (cdT W mo T) n F (fun _ => 0) := by
  obtain ⟨a1, a2, a3, a4, a5⟩ := h
  refine ⟨a1, fun i hi => ⟨rfl, h1 _ _ (a2 i hi)⟩, fun i hi f k hf hn => ?_, fun _ _ _ _ _ _ => Nat.zero_le _, fun f k hf => ?_⟩
  · obtain ⟨-, v, hv, e⟩ := hf
    obtain ⟨g, k2, hg, e2⟩ := h2 v hv
    have q := a3 i hi g k2 hg (nm_tr (nm_eq fun w hw => by rw [e2 w hw, e w hw]) hn)
    exact nm_tr q (nm_eq fun w hw => by rw [e2 w hw, e w hw])
  · obtain ⟨-, v, hv, e⟩ := hf
    obtain ⟨g, k2, hg, e2⟩ := h2 v hv
    obtain ⟨i, hi, q⟩ := a5 g k2 hg
    exact ⟨i, hi, nm_tr q (nm_eq fun w hw => by rw [e2 w hw, e w hw])⟩
end S94p
theorem nI_z (n : Nat) : nI n + (0 : Int32) = nI n := by rw [show (0 : Int32) = nI 0 from rfl, nI_add, Nat.add_zero]
section S94
variable {D b W Rn : Nat} {I : Nat → Nat → Int32} {J : Nat → Nat → Int64} {R : List (Nat → Int32)} {Wb : Nat → Prop}
theorem r_frAhead {i j : Nat} (hB : rB I b W Rn) (hg : gaL W Wb R I) (hl : R.length ≤ 100) (hi : i < R.length) (hj : j < R.length) : C2 (D + 1) 83 [.ref 0, .int (nI i), .int (nI j)] I J (.int (tf (lexlt W (rwR R i) (rwR R j)))) I J := by
  obtain ⟨h1, h2, h3, h4, h5, h6⟩ := id hB
  have gi := (hg.2 i _ (rwR_of hi)).1
  have gj := (hg.2 j _ (rwR_of hj)).1
  refine mj_mk (e83 _ _ ?_)
  have lp := lp_up (n := W) (fun w => (∀ u, u < w → rwR R i u = rwR R j u) → E2 83 D (fun x => x = (.int (tf (lexlt W (rwR R i) (rwR R j))), (I, J, mj_R2))) 2 [(0, .ref 0), (1, .int (nI i)), (2, .int (nI j)), (3, .int (nI w))] I J) (fun w hw ih hu => ?_) 0 (by omega) (fun u hu => by omega)
  · exact lp
  refine mj_on (s83_2 _ _ _ ?_)
  rw [h1, nI_clamp (by omega), h3]
  refine ⟨vp_in_nI h2 (by decide), if_le (by omega) (by omega) (fun c => ?_) (fun c => ?_)⟩
  · obtain rfl : w = W := by omega
    refine mzF ?_
    rintro ⟨u, hu1, hu2, -⟩
    rw [hu u hu1] at hu2
    exact absurd hu2 (Int32.lt_irrefl)
  · rw [ix4', ix4', nI_clamp (by omega), nI_clamp (by omega), gi w c, gj w c, nI_1]
    refine ⟨vp_in_nI (by omega) (by decide), vp_in_nI (by omega) (by decide), if_i (fun d => ih c (fun u hu2 => ?_)) (fun d => ⟨vp_in_nI (by omega) (by decide), vp_in_nI (by omega) (by decide), if_i (fun e => mzF ?_) (fun e => mzT ⟨w, c, Int32.not_le.mp e, hu⟩)⟩)⟩
    · by_cases e : u = w
      · subst e; exact d
      · exact hu u (by omega)
    · rintro ⟨u, hu1, hu2, hu3⟩
      rcases Nat.lt_trichotomy u w with q | q | q
      · rw [hu u q] at hu2
        exact absurd hu2 (Int32.lt_irrefl)
      · subst q
        exact absurd hu2 (Int32.not_lt.mpr e)
      · exact d (hu3 w q)
theorem r_placeF {kd : Nat} {Q : mj_R → Prop} (hB : rB I b W Rn) (hg : gaL W Wb R I) (hu : unl W R) (hl : R.length ≤ 100) (hk1 : 1 ≤ kd) (hk2 : kd ≤ 2) {σ : Nat → Nat} (hs : ∀ k, k < R.length → σ k < R.length ∧ rkk W R (σ k) = k)
    (hQ : ∀ I', (∀ k, k < R.length → (∀ w, w < W → I' 37 (4 * k + w) = rwR R (σ k) w) ∧ ∃ y, Wb y ∧ I' 38 k = nI y) → (∀ q, q ≠ 37 → q ≠ 38 → q ≠ 39 → I' q = I q) → Q (.int (nI R.length), (I', J, mj_R2))) :
    E2 70 (D + 1) Q 240 [(0, .ref 0), (1, .int (nI kd)), (4, .int (nI 0))] I J := by
  have lp := lp_up (n := R.length) (fun k => ∀ I0, (∀ i, i < k → (∀ w, w < W → I0 37 (4 * i + w) = rwR R (σ i) w) ∧ ∃ y, Wb y ∧ I0 38 i = nI y) → (∀ q, q ≠ 37 → q ≠ 38 → q ≠ 39 → I0 q = I q) → E2 70 (D + 1) Q 240 [(0, .ref 0), (1, .int (nI kd)), (4, .int (nI k))] I0 J) (fun k hk ih I0 h1 h2 => ?_) 0 (by omega) I (fun i hi => by omega) (fun _ _ _ _ => rfl)
  · exact lp
  have a48 : I0 0 48 = nI R.length := by rw [h2 0 (by decide) (by decide) (by decide)]; exact hg.1
  have hB0 : rB I0 b W Rn := by
    unfold rB at hB ⊢
    rw [h2 0 (by decide) (by decide) (by decide), h2 2 (by decide) (by decide) (by decide), h2 3 (by decide) (by decide) (by decide)]
    exact hB
  have hg0 : gaL W Wb R I0 := gaL_cg hg (by rw [h2 0 (by decide) (by decide) (by decide)]) (h2 29 (by decide) (by decide) (by decide)) (h2 30 (by decide) (by decide) (by decide))
  refine mj_on (s70_240 _ _ ?_)
  rw [a48]
  refine if_le (by omega) (by omega) (fun c => ?_) (fun c => ?_)
  · obtain rfl : k = R.length := by omega
    exact hQ I0 h1 h2
  obtain ⟨hs1, hs2⟩ := hs k c
  have fin : E2 70 (D + 1) Q 336 [(0, .ref 0), (1, .int (nI kd)), (4, .int (nI k)), (5, .int (nI (σ k))), (6, .int 0)] I0 J := by
    refine r_placeRow hB0 (by omega) (by omega) (fun I' hp => ?_)
    obtain ⟨p1, p2, p3, p4, p5, p6, p7⟩ := hp
    obtain ⟨g1, g2⟩ := hg0.2 _ _ (rwR_of hs1)
    refine ih c I' (fun i hi => ?_) (fun q q1 q2 q3 => by rw [p1 q q1 q2 q3, h2 q q1 q2 q3])
    by_cases e : i = k
    · subst e
      exact ⟨fun w hw => by rw [p2 w hw, g1 w hw], by rw [p4]; exact g2⟩
    · obtain ⟨q1, q2⟩ := h1 i (by omega)
      exact ⟨fun w hw => by rw [p3 _ (by have := hB.2.2.2.1; omega)]; exact q1 w hw, by rw [p5 i e]; exact q2⟩
  have lp2 := lp_up (n := R.length) (fun i => ∀ x, ((x = σ k ∧ σ k < i) ∨ (i ≤ σ k)) → E2 70 (D + 1) Q 256 [(0, .ref 0), (1, .int (nI kd)), (4, .int (nI k)), (5, .int (nI x)), (6, .int (nI i))] I0 J) (fun i hi ih2 x hx => ?_) 0 (by omega) k (Or.inr (Nat.zero_le _))
  · exact lp2
  refine mj_on (s70_256 _ _ _ _ ?_)
  rw [a48]
  refine if_le (by omega) (by omega) (fun d => ?_) (fun d => ?_)
  · obtain ⟨rfl, -⟩ : x = σ k ∧ σ k < i := by
      rcases hx with hx | hx
      · exact hx
      · omega
    exact fin
  rw [if_neg (show ¬ nI kd ≤ 0 from fun z => by
    rw [Int32.le_iff_toInt_le, nI_toInt (by omega)] at z
    have : (0 : Int32).toInt = 0 := by decide
    omega)]
  have lp3 := lp_up (n := R.length) (fun j => E2 70 (D + 1) Q 275 [(0, .ref 0), (1, .int (nI kd)), (4, .int (nI k)), (5, .int (nI x)), (6, .int (nI i)), (7, .int (nI (ct j (fun j => lexlt W (rwR R j) (rwR R i))))), (8, .int (nI j))] I0 J) (fun j hj ih3 => ?_) 0 (by omega)
  · exact lp3
  refine mj_on (s70_275 _ _ _ _ _ _ ?_)
  rw [a48]
  have cl := ct_le (p := fun j => lexlt W (rwR R j) (rwR R i)) (n := j)
  refine if_le (by omega) (by omega) (fun e => ?_) (fun e => ?_)
  · obtain rfl : j = R.length := by omega
    rw [nI_1]
    refine if_eq (by omega) (by omega) (fun z => ih2 d i (Or.inl ?_)) (fun z => ih2 d x ?_)
    · have e2 : i = σ k := rkk_inj hu d hs1 (by rw [hs2]; exact z)
      exact ⟨e2, by omega⟩
    · rcases hx with hx | hx
      · exact Or.inl ⟨hx.1, by omega⟩
      · by_cases e2 : i = σ k
        · exact absurd (by rw [e2]; exact hs2) z
        · exact Or.inr (by omega)
  · refine ⟨trivial, _, _, _, r_frAhead (D := D) hB0 hg0 hl e d, ?_⟩
    simp only [nI_z, nI_1]
    refine if_tf (fun q => ?_) (fun q => ?_)
    · have := ih3 e
      rw [ct_t q] at this
      exact this
    · have := ih3 e
      rw [ct_f q] at this
      exact this
end S94
