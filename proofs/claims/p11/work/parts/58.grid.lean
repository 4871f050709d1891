/-! grid: the weighings made anew -/
/-- one weighing out of three loops' numbers -/
def wtl (g W x y z : Nat) : List (List Nat) := if W = 0 then [] else [([x, y, z, g - x - y - z] : List Nat).drop (4 - W)]
def mB (g W x : Nat) : Nat := if 2 < W then g - x else 0
def mC (g W x y : Nat) : Nat := if 1 < W then g - x - y else 0
def mA (g W : Nat) : Nat := if 3 < W then g else 0
def rmC (g W x y z : Nat) : List (List Nat) := (List.range' z (mC g W x y + 1 - z)).flatMap (wtl g W x y)
def rmB (g W x y : Nat) : List (List Nat) := (List.range' y (mB g W x + 1 - y)).flatMap (fun y => rmC g W x y 0)
def rmA (g W x : Nat) : List (List Nat) := (List.range' x (mA g W + 1 - x)).flatMap (fun x => rmB g W x 0)
theorem rm_all : ∀ g, g < 13 → ∀ W, W < 5 → rmA g W 0 = wl W g := by decide +kernel
theorem rmC_s {g W x y z : Nat} (h : z ≤ mC g W x y) : rmC g W x y z = wtl g W x y z ++ rmC g W x y (z + 1) := by
  unfold rmC
  rw [show mC g W x y + 1 - z = (mC g W x y + 1 - (z + 1)) + 1 by omega, List.range'_succ, List.flatMap_cons]
theorem rmC_e {g W x y z : Nat} (h : mC g W x y < z) : rmC g W x y z = [] := by
  unfold rmC
  rw [show mC g W x y + 1 - z = 0 by omega]
  rfl
theorem rmB_s {g W x y : Nat} (h : y ≤ mB g W x) : rmB g W x y = rmC g W x y 0 ++ rmB g W x (y + 1) := by
  unfold rmB
  rw [show mB g W x + 1 - y = (mB g W x + 1 - (y + 1)) + 1 by omega, List.range'_succ, List.flatMap_cons]
theorem rmB_e {g W x y : Nat} (h : mB g W x < y) : rmB g W x y = [] := by
  unfold rmB
  rw [show mB g W x + 1 - y = 0 by omega]
  rfl
theorem rmA_s {g W x : Nat} (h : x ≤ mA g W) : rmA g W x = rmB g W x 0 ++ rmA g W (x + 1) := by
  unfold rmA
  rw [show mA g W + 1 - x = (mA g W + 1 - (x + 1)) + 1 by omega, List.range'_succ, List.flatMap_cons]
theorem rmA_e {g W x : Nat} (h : mA g W < x) : rmA g W x = [] := by
  unfold rmA
  rw [show mA g W + 1 - x = 0 by omega]
  rfl
/-- the class' rows hold the list L -/
def wAr (g W : Nat) (L : List (List Nat)) (I : Nat → Nat → Int32) : Prop := I 51 0 = nI g ∧ I 51 1 = nI W ∧ I 51 2 = nI L.length ∧ ∀ n r, L[n]? = some r → ∀ w, w < W → I 52 (4 * n + w) = nI (r.getD w 0)
section S58
variable {D W g : Nat} {I : Nat → Nat → Int32} {J : Nat → Nat → Int64}
theorem c_wput {c : Nat} {z : Int} {v : Int32} (hc : I 51 2 = nI c) (hc2 : c < 455) (hz : -10 ≤ z) (hz2 : z < 1820) : C1 (D + 1) 188 [.ref 51, .int (iI z), .int v] I J .null (if z < 4 * c then I else mj_up I 52 z.toNat v) J := by
  refine mj_mk (e188 _ _ ?_)
  rw [hc, ix4m]
  have e : (iI z < nI (4 * c)) ↔ z < 4 * c := by
    rw [Int32.lt_iff_toInt_lt, iI_toInt (by omega) (by omega), nI_toInt (by omega)]
    omega
  by_cases h : z < 4 * c
  · rw [if_pos (e.mpr h), if_pos h]
  · rw [if_neg (fun q => h (e.mp q)), if_neg h]
    obtain ⟨n, rfl⟩ : ∃ n : Nat, z = n := ⟨z.toNat, by omega⟩
    rw [iI_nI, nI_clamp (by omega)]
    exact ⟨vp_in_nI (by omega) (by decide), rfl⟩
theorem c_wadd {x y z : Nat} {L : List (List Nat)} (hW : W ≤ 4) (hL : wAr g W L I) (hlen : 0 < W → L.length < 455) : ∃ I', C1 (D + 2) 187 [.ref 51, .int (nI x), .int (nI y), .int (nI z), .int (nI (g - x - y - z))] I J .null I' J ∧ wAr g W (L ++ wtl g W x y z) I' ∧ ∀ q, q ≠ 51 → q ≠ 52 → I' q = I q := by
  obtain ⟨h0, h1, h2, h3⟩ := hL
  by_cases hW0 : W = 0
  · subst hW0
    refine ⟨I, mj_mk (e187 _ _ _ _ ?_), ?_, fun _ _ _ => rfl⟩
    · rw [h1, if_pos (show nI 0 = 0 from rfl)]
    · rw [show wtl g 0 x y z = [] from rfl, List.append_nil]
      exact ⟨h0, h1, h2, h3⟩
  have hl := hlen (by omega)
  obtain ⟨c, hc⟩ : ∃ c, c = L.length := ⟨_, rfl⟩
  rw [← hc] at h2 hl
  obtain ⟨d, hd⟩ : ∃ d, d = g - x - y - z := ⟨_, rfl⟩
  have ea : ((((nI c * (4 : Int32)) + nI W) - 1) : Int32) = iI (4 * c + W - 1) := by
    rw [ix4m, nI_add, ← iI_nI, show (1 : Int32) = iI 1 from rfl, iI_sub]
    congr 1
  have s3 : iI (4 * (c : Int) + W - 1) - (3 : Int32) = iI (4 * c + W - 4) := by
    rw [show (3 : Int32) = iI 3 from rfl, iI_sub]; congr 1; omega
  have s2 : iI (4 * (c : Int) + W - 1) - (2 : Int32) = iI (4 * c + W - 3) := by
    rw [show (2 : Int32) = iI 2 from rfl, iI_sub]; congr 1; omega
  have s1 : iI (4 * (c : Int) + W - 1) - (1 : Int32) = iI (4 * c + W - 2) := by
    rw [show (1 : Int32) = iI 1 from rfl, iI_sub]; congr 1; omega
  obtain ⟨Ia, hIa⟩ : ∃ Ia, Ia = if (4 * (c : Int) + W - 4) < 4 * c then I else mj_up I 52 (4 * (c : Int) + W - 4).toNat (nI x) := ⟨_, rfl⟩
  obtain ⟨Ib, hIb⟩ : ∃ Ib, Ib = if (4 * (c : Int) + W - 3) < 4 * c then Ia else mj_up Ia 52 (4 * (c : Int) + W - 3).toNat (nI y) := ⟨_, rfl⟩
  obtain ⟨Ic, hIc⟩ : ∃ Ic, Ic = if (4 * (c : Int) + W - 2) < 4 * c then Ib else mj_up Ib 52 (4 * (c : Int) + W - 2).toNat (nI z) := ⟨_, rfl⟩
  obtain ⟨Id, hId⟩ : ∃ Id, Id = if (4 * (c : Int) + W - 1) < 4 * c then Ic else mj_up Ic 52 (4 * (c : Int) + W - 1).toNat (nI d) := ⟨_, rfl⟩
  have f1 : ∀ q, q ≠ 52 → Ia q = I q := fun q hq => by rw [hIa]; split <;> first | rfl | rw [up_c hq]
  have f2 : ∀ q, q ≠ 52 → Ib q = I q := fun q hq => by rw [hIb]; split <;> first | exact f1 q hq | rw [up_c hq, f1 q hq]
  have f3 : ∀ q, q ≠ 52 → Ic q = I q := fun q hq => by rw [hIc]; split <;> first | exact f2 q hq | rw [up_c hq, f2 q hq]
  have f4 : ∀ q, q ≠ 52 → Id q = I q := fun q hq => by rw [hId]; split <;> first | exact f3 q hq | rw [up_c hq, f3 q hq]
  refine ⟨mj_up Id 51 2 (nI (c + 1)), mj_mk (e187 _ _ _ _ ?_), ⟨?_, ?_, ?_, ?_⟩, fun q q1 q2 => ?_⟩
  · rw [h1, h2]
    rw [if_neg (nI_ne0 (by omega) (by omega))]
    refine if_lt (b := 455) (by omega) (by decide) (fun _ => ?_) (fun q => absurd q (by omega))
    rw [ea, s3]
    refine ⟨trivial, _, _, c_wput h2 hl (by omega) (by omega), ?_⟩
    rw [← hIa, s2]
    refine ⟨trivial, _, _, c_wput (by rw [f1 51 (by decide)]; exact h2) hl (by omega) (by omega), ?_⟩
    rw [← hIb, s1]
    refine ⟨trivial, _, _, c_wput (by rw [f2 51 (by decide)]; exact h2) hl (by omega) (by omega), ?_⟩
    rw [← hIc, ← hd]
    refine ⟨trivial, _, _, c_wput (by rw [f3 51 (by decide)]; exact h2) hl (by omega) (by omega), ?_⟩
    rw [← hId, f4 51 (by decide), h2, nI_1]
  · rw [up_j (by decide), f4 51 (by decide)]; exact h0
  · rw [up_j (by decide), f4 51 (by decide)]; exact h1
  · have : (L ++ wtl g W x y z).length = c + 1 := by
      rw [List.length_append, ← hc]
      unfold wtl
      rw [if_neg hW0]
      rfl
    rw [up_s, this]
  · intro n r hr w hw
    rw [up_c (by decide)]
    by_cases hn : n < c
    · rw [List.getElem?_append_left (by omega)] at hr
      rw [← h3 n r hr w hw]
      have t4 : Id 52 (4 * n + w) = Ic 52 (4 * n + w) := by rw [hId]; split <;> first | rfl | rw [up_j (by omega)]
      have t3 : Ic 52 (4 * n + w) = Ib 52 (4 * n + w) := by rw [hIc]; split <;> first | rfl | rw [up_j (by omega)]
      have t2 : Ib 52 (4 * n + w) = Ia 52 (4 * n + w) := by rw [hIb]; split <;> first | rfl | rw [up_j (by omega)]
      have t1 : Ia 52 (4 * n + w) = I 52 (4 * n + w) := by rw [hIa]; split <;> first | rfl | rw [up_j (by omega)]
      rw [t4, t3, t2, t1]
    · rw [List.getElem?_append_right (by omega), ← hc] at hr
      have e : n = c ∧ r = ([x, y, z, g - x - y - z] : List Nat).drop (4 - W) := by
        unfold wtl at hr
        rw [if_neg hW0] at hr
        cases hk : n - c with
        | zero => rw [hk] at hr; cases hr; exact ⟨by omega, rfl⟩
        | succ k => rw [hk] at hr; cases hr
      obtain ⟨rfl, rfl⟩ := e
      rw [← hd]
      match W, hW, hW0, hw with
      | 1, _, _, hw =>
        obtain rfl : w = 0 := by omega
        rw [hId, if_neg (by omega), show (4 * (n : Int) + (1 : Nat) - 1).toNat = 4 * n + 0 by omega, up_s]; rfl
      | 2, _, _, hw =>
        rw [hId, if_neg (by omega), show (4 * (n : Int) + (2 : Nat) - 1).toNat = 4 * n + 1 by omega]
        rw [hIc, if_neg (by omega), show (4 * (n : Int) + (2 : Nat) - 2).toNat = 4 * n + 0 by omega]
        match w, hw with
        | 0, _ => rw [up_j (by omega), up_s]; rfl
        | 1, _ => rw [up_s]; rfl
      | 3, _, _, hw =>
        rw [hId, if_neg (by omega), show (4 * (n : Int) + (3 : Nat) - 1).toNat = 4 * n + 2 by omega]
        rw [hIc, if_neg (by omega), show (4 * (n : Int) + (3 : Nat) - 2).toNat = 4 * n + 1 by omega]
        rw [hIb, if_neg (by omega), show (4 * (n : Int) + (3 : Nat) - 3).toNat = 4 * n + 0 by omega]
        match w, hw with
        | 0, _ => rw [up_j (by omega), up_j (by omega), up_s]; rfl
        | 1, _ => rw [up_j (by omega), up_s]; rfl
        | 2, _ => rw [up_s]; rfl
      | 4, _, _, hw =>
        rw [hId, if_neg (by omega), show (4 * (n : Int) + (4 : Nat) - 1).toNat = 4 * n + 3 by omega]
        rw [hIc, if_neg (by omega), show (4 * (n : Int) + (4 : Nat) - 2).toNat = 4 * n + 2 by omega]
        rw [hIb, if_neg (by omega), show (4 * (n : Int) + (4 : Nat) - 3).toNat = 4 * n + 1 by omega]
        rw [hIa, if_neg (by omega), show (4 * (n : Int) + (4 : Nat) - 4).toNat = 4 * n + 0 by omega]
        match w, hw with
        | 0, _ => rw [up_j (by omega), up_j (by omega), up_j (by omega), up_s]; rfl
        | 1, _ => rw [up_j (by omega), up_j (by omega), up_s]; rfl
        | 2, _ => rw [up_j (by omega), up_s]; rfl
        | 3, _ => rw [up_s]; rfl
  · rw [up_c q1, f4 q q2]
theorem c_make (hW : W ≤ 4) (hg : g ≤ 12) : ∃ I', C1 (D + 3) 186 [.ref 51, .int (nI g), .int (nI W)] I J .null I' J ∧ wAr g W (wl W g) I' ∧ ∀ q, q ≠ 51 → q ≠ 52 → I' q = I q := by
  suffices hs : ∃ I' J', C1 (D + 3) 186 [.ref 51, .int (nI g), .int (nI W)] I J .null I' J' ∧ (J' = J ∧ wAr g W (wl W g) I' ∧ ∀ q, q ≠ 51 → q ≠ 52 → I' q = I q) by
    obtain ⟨I', J', h1, rfl, h2, h3⟩ := hs
    exact ⟨I', h1, h2, h3⟩
  refine mj_cN (e186 _ _ ?_)
  obtain ⟨I0, hI0⟩ : ∃ I0, I0 = mj_up (mj_up (mj_up I 51 0 (nI g)) 51 1 (nI W)) 51 2 (0 : Int32) := ⟨_, rfl⟩
  rw [← hI0]
  have a0 : wAr g W [] I0 := by
    rw [hI0]
    refine ⟨?_, ?_, ?_, fun n r hr => by cases hr⟩
    · rw [up_j (by decide), up_j (by decide), up_s]
    · rw [up_j (by decide), up_s]
    · rw [up_s]; rfl
  have aF : ∀ q, q ≠ 51 → q ≠ 52 → I0 q = I q := fun q q1 _ => by rw [hI0, up_c q1, up_c q1, up_c q1]
  obtain ⟨Q, hQ⟩ : ∃ Q, Q = qN mj_R1 (fun I' J' => J' = J ∧ wAr g W (wl W g) I' ∧ ∀ q, q ≠ 51 → q ≠ 52 → I' q = I q) := ⟨_, rfl⟩
  rw [← hQ]
  have hlen : ∀ {L R : List (List Nat)}, L ++ R = wl W g → L.length ≤ 455 := fun {L R} e => by
    have h1 := (wl_ok hg hW).2.1
    rw [← e, List.length_append] at h1
    omega
  -- the innermost loop
  have lC : ∀ x y (R : List (List Nat)), x + y ≤ g → (∀ I1 L, wAr g W L I1 → L ++ R = wl W g → (∀ q, q ≠ 51 → q ≠ 52 → I1 q = I q) → E1 186 (D + 2) Q 65 [(0, .ref 51), (3, .int (nI (mA g W))), (4, .int (nI x)), (5, .int (nI (mB g W x))), (6, .int (nI (y + 1)))] I1 J) →
      ∀ z, z ≤ mC g W x y + 1 → ∀ I1 L, wAr g W L I1 → L ++ (rmC g W x y z ++ R) = wl W g → (∀ q, q ≠ 51 → q ≠ 52 → I1 q = I q) → E1 186 (D + 2) Q 99 [(0, .ref 51), (3, .int (nI (mA g W))), (4, .int (nI x)), (5, .int (nI (mB g W x))), (6, .int (nI y)), (7, .int (nI (mC g W x y))), (8, .int (nI z))] I1 J := by
    intro x y R hxy K
    have hmC : mC g W x y ≤ g - x - y := by unfold mC; split <;> omega
    refine lp_up (n := mC g W x y + 1) (fun z => ∀ I1 L, wAr g W L I1 → L ++ (rmC g W x y z ++ R) = wl W g → (∀ q, q ≠ 51 → q ≠ 52 → I1 q = I q) → E1 186 (D + 2) Q 99 [(0, .ref 51), (3, .int (nI (mA g W))), (4, .int (nI x)), (5, .int (nI (mB g W x))), (6, .int (nI y)), (7, .int (nI (mC g W x y))), (8, .int (nI z))] I1 J) (fun z hz ih I1 L hA hE hF => ?_)
    refine mj_on (s186_99 _ _ _ _ _ _ ?_)
    rw [hA.1, nI_1, nI_1]
    refine if_lt (by omega) (by omega) (fun c => ?_) (fun c => ?_)
    · refine K I1 L hA ?_ hF
      rw [rmC_e c] at hE
      exact hE
    · rw [pk_sub (by omega), pk_sub (by omega), pk_sub (by omega)]
      rw [rmC_s c] at hE
      obtain ⟨I2, hc, hA2, hF2⟩ := c_wadd (D := D) (J := J) (x := x) (y := y) (z := z) hW hA (fun hW0 => by
        have h1 := hlen (L := L ++ wtl g W x y z) (R := rmC g W x y (z + 1) ++ R) (by rw [← hE]; simp)
        rw [List.length_append] at h1
        have : (wtl g W x y z).length = 1 := by unfold wtl; rw [if_neg (by omega)]; rfl
        omega)
      refine ⟨trivial, _, _, hc, ?_⟩
      refine ih (by omega) I2 _ hA2 ?_ (fun q q1 q2 => by rw [hF2 q q1 q2, hF q q1 q2])
      rw [← hE]
      simp
  have lB : ∀ x (R : List (List Nat)), x ≤ g → (∀ I1 L, wAr g W L I1 → L ++ R = wl W g → (∀ q, q ≠ 51 → q ≠ 52 → I1 q = I q) → E1 186 (D + 2) Q 35 [(0, .ref 51), (3, .int (nI (mA g W))), (4, .int (nI (x + 1)))] I1 J) →
      ∀ y, y ≤ mB g W x + 1 → ∀ I1 L, wAr g W L I1 → L ++ (rmB g W x y ++ R) = wl W g → (∀ q, q ≠ 51 → q ≠ 52 → I1 q = I q) → E1 186 (D + 2) Q 65 [(0, .ref 51), (3, .int (nI (mA g W))), (4, .int (nI x)), (5, .int (nI (mB g W x))), (6, .int (nI y))] I1 J := by
    intro x R hx K
    have hmB : mB g W x ≤ g - x := by unfold mB; split <;> omega
    refine lp_up (n := mB g W x + 1) (fun y => ∀ I1 L, wAr g W L I1 → L ++ (rmB g W x y ++ R) = wl W g → (∀ q, q ≠ 51 → q ≠ 52 → I1 q = I q) → E1 186 (D + 2) Q 65 [(0, .ref 51), (3, .int (nI (mA g W))), (4, .int (nI x)), (5, .int (nI (mB g W x))), (6, .int (nI y))] I1 J) (fun y hy ih I1 L hA hE hF => ?_)
    refine mj_on (s186_65 _ _ _ _ ?_)
    rw [hA.1, hA.2.1, nI_1]
    refine if_lt (by omega) (by omega) (fun c => ?_) (fun c => ?_)
    · refine K I1 L hA ?_ hF
      rw [rmB_e c] at hE
      exact hE
    · rw [rmB_s c] at hE
      have hmC : mC g W x y ≤ g - x - y := by unfold mC; split <;> omega
      have go : E1 186 (D + 2) Q 96 [(0, .ref 51), (3, .int (nI (mA g W))), (4, .int (nI x)), (5, .int (nI (mB g W x))), (6, .int (nI y)), (7, .int (nI (mC g W x y)))] I1 J := by
        refine mj_on (s186_96 _ _ _ _ _ ?_)
        exact lC x y (rmB g W x (y + 1) ++ R) (by omega) (fun I2 L2 hA2 hE2 hF2 => ih (by omega) I2 L2 hA2 hE2 hF2) 0 (Nat.zero_le _) I1 L hA (by rw [← hE]; simp) hF
      refine if_le (b := 1) (by omega) (by decide) (fun d => ?_) (fun d => ?_)
      · rw [show mC g W x y = 0 by unfold mC; rw [if_neg (by omega)]] at go
        exact go
      · rw [show mC g W x y = g - x - y by unfold mC; rw [if_pos d]] at go
        rw [pk_sub (by omega), pk_sub (by omega)]
        exact go
  have lA : ∀ x, x ≤ mA g W + 1 → ∀ I1 L, wAr g W L I1 → L ++ rmA g W x = wl W g → (∀ q, q ≠ 51 → q ≠ 52 → I1 q = I q) → E1 186 (D + 2) Q 35 [(0, .ref 51), (3, .int (nI (mA g W))), (4, .int (nI x))] I1 J := by
    have hmA : mA g W ≤ g := by unfold mA; split <;> omega
    refine lp_up (n := mA g W + 1) (fun x => ∀ I1 L, wAr g W L I1 → L ++ rmA g W x = wl W g → (∀ q, q ≠ 51 → q ≠ 52 → I1 q = I q) → E1 186 (D + 2) Q 35 [(0, .ref 51), (3, .int (nI (mA g W))), (4, .int (nI x))] I1 J) (fun x hx ih I1 L hA hE hF => ?_)
    refine mj_on (s186_35 _ _ ?_)
    rw [hA.1, hA.2.1]
    refine if_lt (by omega) (by omega) (fun c => ?_) (fun c => ?_)
    · rw [rmA_e c, List.append_nil] at hE
      rw [hQ]
      subst hE
      exact ⟨_, _, rfl, rfl, hA, hF⟩
    · rw [rmA_s c] at hE
      have go : E1 186 (D + 2) Q 62 [(0, .ref 51), (3, .int (nI (mA g W))), (4, .int (nI x)), (5, .int (nI (mB g W x)))] I1 J := by
        refine mj_on (s186_62 _ _ _ ?_)
        exact lB x (rmA g W (x + 1)) (by omega) (fun I2 L2 hA2 hE2 hF2 => ih (by omega) I2 L2 hA2 hE2 hF2) 0 (Nat.zero_le _) I1 L hA hE hF
      refine if_le (b := 2) (by omega) (by decide) (fun d => ?_) (fun d => ?_)
      · rw [show mB g W x = 0 by unfold mB; rw [if_neg (by omega)]] at go
        exact go
      · rw [show mB g W x = g - x by unfold mB; rw [if_pos d]] at go
        rw [pk_sub (by omega)]
        exact go
  have st : E1 186 (D + 2) Q 32 [(0, .ref 51), (3, .int (nI (mA g W)))] I0 J := by
    refine mj_on (s186_32 _ ?_)
    exact lA 0 (Nat.zero_le _) I0 [] a0 (rm_all g (by omega) W (by omega)) aF
  refine if_le (b := 3) (by omega) (by decide) (fun d => ?_) (fun d => ?_)
  · rw [show mA g W = 0 by unfold mA; rw [if_neg (by omega)]] at st
    exact st
  · rw [show mA g W = g by unfold mA; rw [if_pos d]] at st
    exact st
end S58
