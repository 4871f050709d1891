section S58_16
variable {D W g : Nat} {I : Nat → Nat → Int32} {J : Nat → Nat → Int64}
theorem c_wadd {x y z : Nat} {L : List (List Nat)} (hW : W ≤ 4) (hL : wAr g W L I) (hlen : 0 < W → L.length < 455) : ∃ I', C1 (D + 2) 187 [.ref 51, .int (nI x), .int (nI y), .int (nI z), .int (nI (g - x - y - z))] I J .null I' J ∧ wAr g W (L ++ wtl g W x y z) I' ∧ ∀ q, q ≠ 51 → q ≠ 52 → I' q = I q := by
  obtain ⟨h0, h1, h2, h3⟩ := hL
  by_cases hW0 : W = 0
  · subst hW0
    refine ⟨I, mj_mk (e187 _ _ _ _ ?_), ?_, fun _ _ _ => rfl⟩
    · rw [h1, if_pos (show nI 0 = 0 from rfl)]
    · rw [show wtl g 0 x y z = [] from rfl, List.append_nil]
      exact ⟨h0, h1, h2, h3⟩
  have hl := hlen (by omega)
  obtain ⟨c, hc⟩ : ∃ c, c = L.length := ⟨_, rfl⟩
  rw [← hc] at h2 hl
  obtain ⟨d, hd⟩ : ∃ d, d = g - x - y - z := ⟨_, rfl⟩
  have ea : ((((nI c * (4 : Int32)) + nI W) - 1) : Int32) = iI (4 * c + W - 1) := by
    rw [ix4m, nI_add, ← iI_nI, show (1 : Int32) = iI 1 from rfl, iI_sub]
    congr 1
  have s3 : iI (4 * (c : Int) + W - 1) - (3 : Int32) = iI (4 * c + W - 4) := by
    rw [show (3 : Int32) = iI 3 from rfl, iI_sub]; congr 1; omega
  have s2 : iI (4 * (c : Int) + W - 1) - (2 : Int32) = iI (4 * c + W - 3) := by
    rw [show (2 : Int32) = iI 2 from rfl, iI_sub]; congr 1; omega
  have s1 : iI (4 * (c : Int) + W - 1) - (1 : Int32) = iI (4 * c + W - 2) := by
    rw [show (1 : Int32) = iI 1 from rfl, iI_sub]; congr 1; omega
  obtain ⟨Ia, hIa⟩ : ∃ Ia, Ia = if (4 * (c : Int) + W - 4) < 4 * c then I else mj_up I 52 (4 * (c : Int) + W - 4).toNat (nI x) := ⟨_, rfl⟩
  obtain ⟨Ib, hIb⟩ : ∃ Ib, Ib = if (4 * (c : Int) + W - 3) < 4 * c then Ia else mj_up Ia 52 (4 * (c : Int) + W - 3).toNat (nI y) := ⟨_, rfl⟩
  obtain ⟨Ic, hIc⟩ : ∃ Ic, Ic = if (4 * (c : Int) + W - 2) < 4 * c then Ib else mj_up Ib 52 (4 * (c : Int) + W - 2).toNat (nI z) := ⟨_, rfl⟩
  obtain ⟨Id, hId⟩ : ∃ Id, Id = if (4 * (c : Int) + W - 1) < 4 * c then Ic else mj_up Ic 52 (4 * (c : Int) + W - 1).toNat (nI d) := ⟨_, rfl⟩
  have f1 : ∀ q, q ≠ 52 → Ia q = I q := fun q hq => by rw [hIa]; split <;> first | rfl | rw [up_c hq]
  have f2 : ∀ q, q ≠ 52 → Ib q = I q := fun q hq => by rw [hIb]; split <;> first | exact f1 q hq | rw [up_c hq, f1 q hq]
  have f3 : ∀ q, q ≠ 52 → Ic q = I q := fun q hq => by rw [hIc]; split <;> first | exact f2 q hq | rw [up_c hq, f2 q hq]
  have f4 : ∀ q, q ≠ 52 → Id q = I q := fun q hq => by rw [hId]; split <;> first | exact f3 q hq | rw [up_c hq, f3 q hq]
  refine ⟨mj_up Id 51 2 (nI (c + 1)), mj_mk (e187 _ _ _ _ ?_), ⟨?_, ?_, ?_, ?_⟩, fun q q1 q2 => ?_⟩
  · rw [h1, h2]
    rw [if_neg (nI_ne0 (by omega) (by omega))]
    refine if_lt (b := 455) (by omega) (by decide) (fun _ => ?_) (fun q => absurd q (by omega))
    rw [ea, s3]
    refine ⟨trivial, _, _, c_wput h2 hl (by omega) (by omega), ?_⟩
    rw [← hIa, s2]
    refine ⟨trivial, _, _, c_wput (by rw [f1 51 (by decide)]; exact h2) hl (by omega) (by omega), ?_⟩
    rw [← hIb, s1]
    refine ⟨trivial, _, _, c_wput (by rw [f2 51 (by decide)]; exact h2) hl (by omega) (by omega), ?_⟩
    rw [← hIc, ← hd]
    refine ⟨trivial, _, _, c_wput (by rw [f3 51 (by decide)]; exact h2) hl (by omega) (by omega), ?_⟩
    rw [← hId, f4 51 (by decide), h2, nI_1]
  · rw [up_j (by decide), f4 51 (by decide)]; exact h0
  · rw [up_j (by decide), f4 51 (by decide)]; exact h1
  · have : (L ++ wtl g W x y z).length = c + 1 := by
      rw [List.length_append, ← hc]
      unfold wtl
      rw [if_neg hW0]
      rfl
    rw [up_s, this]
  · intro n r hr w hw
    rw [up_c (by decide)]
    by_cases hn : n < c
    · rw [List.getElem?_append_left (by omega)] at hr
      rw [← h3 n r hr w hw]
      have t4 : Id 52 (4 * n + w) = Ic 52 (4 * n + w) := by rw [hId]; split <;> first | rfl | rw [up_j (by omega)]
      have t3 : Ic 52 (4 * n + w) = Ib 52 (4 * n + w) := by rw [hIc]; split <;> first | rfl | rw [up_j (by omega)]
      have t2 : Ib 52 (4 * n + w) = Ia 52 (4 * n + w) := by rw [hIb]; split <;> first | rfl | rw [up_j (by omega)]
      have t1 : Ia 52 (4 * n + w) = I 52 (4 * n + w) := by rw [hIa]; split <;> first | rfl | rw [up_j (by omega)]
      rw [t4, t3, t2, t1]
    · rw [List.getElem?_append_right (by omega), ← hc] at hr
      have e : n = c ∧ r = ([x, y, z, g - x - y - z] : List Nat).drop (4 - W) := by
        unfold wtl at hr
        rw [if_neg hW0] at hr
        cases hk : n - c with
        | zero => rw [hk] at hr; cases hr; exact ⟨by omega, rfl⟩
        | succ k => rw [hk] at hr; cases hr
      obtain ⟨rfl, rfl⟩ := e
      rw [← hd]
      match W, hW, hW0, hw with
      | 1, _, _, hw =>
        obtain rfl : w = 0 := by omega
        rw [hId, if_neg (by omega), show (4 * (n : Int) + (1 : Nat) - 1).toNat = 4 * n + 0 by omega, up_s]; rfl
      | 2, _, _, hw =>
        rw [hId, if_neg (by omega), show (4 * (n : Int) + (2 : Nat) - 1).toNat = 4 * n + 1 by omega]
        rw [hIc, if_neg (by omega), show (4 * (n : Int) + (2 : Nat) - 2).toNat = 4 * n + 0 by omega]
        match w, hw with
        | 0, _ => rw [up_j (by omega), up_s]; rfl
        | 1, _ => rw [up_s]; rfl
      | 3, _, _, hw =>
        rw [hId, if_neg (by omega), show (4 * (n : Int) + (3 : Nat) - 1).toNat = 4 * n + 2 by omega]
        rw [hIc, if_neg (by omega), show (4 * (n : Int) + (3 : Nat) - 2).toNat = 4 * n + 1 by omega]
        rw [hIb, if_neg (by omega), show (4 * (n : Int) + (3 : Nat) - 3).toNat = 4 * n + 0 by omega]
        match w, hw with
        | 0, _ => rw [up_j (by omega), up_j (by omega), up_s]; rfl
        | 1, _ => rw [up_j (by omega), up_s]; rfl
        | 2, _ => rw [up_s]; rfl
      | 4, _, _, hw =>
        rw [hId, if_neg (by omega), show (4 * (n : Int) + (4 : Nat) - 1).toNat = 4 * n + 3 by omega]
        rw [hIc, if_neg (by omega), show (4 * (n : Int) + (4 : Nat) - 2).toNat = 4 * n + 2 by omega]
        rw [hIb, if_neg (by omega), show (4 * (n : Int) + (4 : Nat) - 3).toNat = 4 * n + 1 by omega]
        rw [hIa, if_neg (by omega), show (4 * (n : Int) + (4 : Nat) - 4).toNat = 4 * n + 0 by omega]
        match w, hw with
        | 0, _ => rw [up_j (by omega), up_j (by omega), up_j (by omega), up_s]; rfl
        | 1, _ => rw [up_j (by omega), up_j (by omega), up_s]; rfl
        | 2, _ => rw [up_j (by omega), up_s]; rfl
        | 3, _ => rw [up_s]; rfl
  · rw [up_c q1, f4 q q2]
end S58_16

