section S58_17
variable {D W g : Nat} {I : Nat → Nat → Int32} {J : Nat → Nat → Int64}
theorem c_make (hW : W ≤ 4) (hg : g ≤ 12) : ∃ I', C1 (D + 3) 186 [.ref 51, .int (nI g), .int (nI W)] I J .null I' J ∧ wAr g W (wl W g) I' ∧ ∀ q, q ≠ 51 → q ≠ 52 → I' q = I q := by
  suffices hs : ∃ I' J', C1 (D + 3) 186 [.ref 51, .int (nI g), .int (nI W)] I J .null I' J' ∧ (J' = J ∧ wAr g W (wl W g) I' ∧ ∀ q, q ≠ 51 → q ≠ 52 → I' q = I q) by
    obtain ⟨I', J', h1, rfl, h2, h3⟩ := hs
    exact ⟨I', h1, h2, h3⟩
  refine mj_cN (e186 _ _ ?_)
  obtain ⟨I0, hI0⟩ : ∃ I0, I0 = mj_up (mj_up (mj_up I 51 0 (nI g)) 51 1 (nI W)) 51 2 (0 : Int32) := ⟨_, rfl⟩
  rw [← hI0]
  have a0 : wAr g W [] I0 := by
    rw [hI0]
    refine ⟨?_, ?_, ?_, fun n r hr => by cases hr⟩
    · rw [up_j (by decide), up_j (by decide), up_s]
    · rw [up_j (by decide), up_s]
    · rw [up_s]; rfl
  have aF : ∀ q, q ≠ 51 → q ≠ 52 → I0 q = I q := fun q q1 _ => by rw [hI0, up_c q1, up_c q1, up_c q1]
  obtain ⟨Q, hQ⟩ : ∃ Q, Q = qN mj_R1 (fun I' J' => J' = J ∧ wAr g W (wl W g) I' ∧ ∀ q, q ≠ 51 → q ≠ 52 → I' q = I q) := ⟨_, rfl⟩
  rw [← hQ]
  have hlen : ∀ {L R : List (List Nat)}, L ++ R = wl W g → L.length ≤ 455 := fun {L R} e => by
    have h1 := (wl_ok hg hW).2.1
    rw [← e, List.length_append] at h1
    omega
  -- the innermost loop
  have lC : ∀ x y (R : List (List Nat)), x + y ≤ g → (∀ I1 L, wAr g W L I1 → L ++ R = wl W g → (∀ q, q ≠ 51 → q ≠ 52 → I1 q = I q) → E1 186 (D + 2) Q 65 [(0, .ref 51), (3, .int (nI (mA g W))), (4, .int (nI x)), (5, .int (nI (mB g W x))), (6, .int (nI (y + 1)))] I1 J) →
      ∀ z, z ≤ mC g W x y + 1 → ∀ I1 L, wAr g W L I1 → L ++ (rmC g W x y z ++ R) = wl W g → (∀ q, q ≠ 51 → q ≠ 52 → I1 q = I q) → E1 186 (D + 2) Q 99 [(0, .ref 51), (3, .int (nI (mA g W))), (4, .int (nI x)), (5, .int (nI (mB g W x))), (6, .int (nI y)), (7, .int (nI (mC g W x y))), (8, .int (nI z))] I1 J := by
    intro x y R hxy K
    have hmC : mC g W x y ≤ g - x - y := by unfold mC; split <;> omega
    refine lp_up (n := mC g W x y + 1) (fun z => ∀ I1 L, wAr g W L I1 → L ++ (rmC g W x y z ++ R) = wl W g → (∀ q, q ≠ 51 → q ≠ 52 → I1 q = I q) → E1 186 (D + 2) Q 99 [(0, .ref 51), (3, .int (nI (mA g W))), (4, .int (nI x)), (5, .int (nI (mB g W x))), (6, .int (nI y)), (7, .int (nI (mC g W x y))), (8, .int (nI z))] I1 J) (fun z hz ih I1 L hA hE hF => ?_)
    refine mj_on (s186_99 _ _ _ _ _ _ ?_)
    rw [hA.1, nI_1, nI_1]
    refine if_lt (by omega) (by omega) (fun c => ?_) (fun c => ?_)
    · refine K I1 L hA ?_ hF
      rw [rmC_e c] at hE
      exact hE
    · rw [pk_sub (by omega), pk_sub (by omega), pk_sub (by omega)]
      rw [rmC_s c] at hE
      obtain ⟨I2, hc, hA2, hF2⟩ := c_wadd (D := D) (J := J) (x := x) (y := y) (z := z) hW hA (fun hW0 => by
        have h1 := hlen (L := L ++ wtl g W x y z) (R := rmC g W x y (z + 1) ++ R) (by rw [← hE]; simp)
        rw [List.length_append] at h1
        have : (wtl g W x y z).length = 1 := by unfold wtl; rw [if_neg (by omega)]; rfl
        omega)
      refine ⟨trivial, _, _, hc, ?_⟩
      refine ih (by omega) I2 _ hA2 ?_ (fun q q1 q2 => by rw [hF2 q q1 q2, hF q q1 q2])
      rw [← hE]
      simp
  have lB : ∀ x (R : List (List Nat)), x ≤ g → (∀ I1 L, wAr g W L I1 → L ++ R = wl W g → (∀ q, q ≠ 51 → q ≠ 52 → I1 q = I q) → E1 186 (D + 2) Q 35 [(0, .ref 51), (3, .int (nI (mA g W))), (4, .int (nI (x + 1)))] I1 J) →
      ∀ y, y ≤ mB g W x + 1 → ∀ I1 L, wAr g W L I1 → L ++ (rmB g W x y ++ R) = wl W g → (∀ q, q ≠ 51 → q ≠ 52 → I1 q = I q) → E1 186 (D + 2) Q 65 [(0, .ref 51), (3, .int (nI (mA g W))), (4, .int (nI x)), (5, .int (nI (mB g W x))), (6, .int (nI y))] I1 J := by
    intro x R hx K
    have hmB : mB g W x ≤ g - x := by unfold mB; split <;> omega
    refine lp_up (n := mB g W x + 1) (fun y => ∀ I1 L, wAr g W L I1 → L ++ (rmB g W x y ++ R) = wl W g → (∀ q, q ≠ 51 → q ≠ 52 → I1 q = I q) → E1 186 (D + 2) Q 65 [(0, .ref 51), (3, .int (nI (mA g W))), (4, .int (nI x)), (5, .int (nI (mB g W x))), (6, .int (nI y))] I1 J) (fun y hy ih I1 L hA hE hF => ?_)
    refine mj_on (s186_65 _ _ _ _ ?_)
    rw [hA.1, hA.2.1, nI_1]
    refine if_lt (by omega) (by omega) (fun c => ?_) (fun c => ?_)
    · refine K I1 L hA ?_ hF
      rw [rmB_e c] at hE
      exact hE
    · rw [rmB_s c] at hE
      have hmC : mC g W x y ≤ g - x - y := by unfold mC; split <;> omega
      have go : E1 186 (D + 2) Q 96 [(0, .ref 51), (3, .int (nI (mA g W))), (4, .int (nI x)), (5, .int (nI (mB g W x))), (6, .int (nI y)), (7, .int (nI (mC g W x y)))] I1 J := by
        refine mj_on (s186_96 _ _ _ _ _ ?_)
        exact lC x y (rmB g W x (y + 1) ++ R) (by omega) (fun I2 L2 hA2 hE2 hF2 => ih (by omega) I2 L2 hA2 hE2 hF2) 0 (Nat.zero_le _) I1 L hA (by rw [← hE]; simp) hF
      refine if_le (b := 1) (by omega) (by decide) (fun d => ?_) (fun d => ?_)
      · rw [show mC g W x y = 0 by unfold mC; rw [if_neg (by omega)]] at go
        exact go
      · rw [show mC g W x y = g - x - y by unfold mC; rw [if_pos d]] at go
        rw [pk_sub (by omega), pk_sub (by omega)]
        exact go
  have lA : ∀ x, x ≤ mA g W + 1 → ∀ I1 L, wAr g W L I1 → L ++ rmA g W x = wl W g → (∀ q, q ≠ 51 → q ≠ 52 → I1 q = I q) → E1 186 (D + 2) Q 35 [(0, .ref 51), (3, .int (nI (mA g W))), (4, .int (nI x))] I1 J := by
    have hmA : mA g W ≤ g := by unfold mA; split <;> omega
    refine lp_up (n := mA g W + 1) (fun x => ∀ I1 L, wAr g W L I1 → L ++ rmA g W x = wl W g → (∀ q, q ≠ 51 → q ≠ 52 → I1 q = I q) → E1 186 (D + 2) Q 35 [(0, .ref 51), (3, .int (nI (mA g W))), (4, .int (nI x))] I1 J) (fun x hx ih I1 L hA hE hF => ?_)
    refine mj_on (s186_35 _ _ ?_)
    rw [hA.1, hA.2.1]
    refine if_lt (by omega) (by omega) (fun c => ?_) (fun c => ?_)
    · rw [rmA_e c, List.append_nil] at hE
      rw [hQ]
      subst hE
      exact ⟨_, _, rfl, rfl, hA, hF⟩
    · rw [rmA_s c] at hE
      have go : E1 186 (D + 2) Q 62 [(0, .ref 51), (3, .int (nI (mA g W))), (4, .int (nI x)), (5, .int (nI (mB g W x)))] I1 J := by
        refine mj_on (s186_62 _ _ _ ?_)
        exact lB x (rmA g W (x + 1)) (by omega) (fun I2 L2 hA2 hE2 hF2 => ih (by omega) I2 L2 hA2 hE2 hF2) 0 (Nat.zero_le _) I1 L hA hE hF
      refine if_le (b := 2) (by omega) (by decide) (fun d => ?_) (fun d => ?_)
      · rw [show mB g W x = 0 by unfold mB; rw [if_neg (by omega)]] at go
        exact go
      · rw [show mB g W x = g - x by unfold mB; rw [if_pos d]] at go
        rw [pk_sub (by omega)]
        exact go
  have st : E1 186 (D + 2) Q 32 [(0, .ref 51), (3, .int (nI (mA g W)))] I0 J := by
    refine mj_on (s186_32 _ ?_)
    exact lA 0 (Nat.zero_le _) I0 [] a0 (rm_all g (by omega) W (by omega)) aF
  refine if_le (b := 3) (by omega) (by decide) (fun d => ?_) (fun d => ?_)
  · rw [show mA g W = 0 by unfold mA; rw [if_neg (by omega)]] at st
    exact st
  · rw [show mA g W = g by unfold mA; rw [if_pos d]] at st
    exact st
end S58_17

