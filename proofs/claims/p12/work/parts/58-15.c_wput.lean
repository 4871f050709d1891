section S58_15
variable {D W g : Nat} {I : Nat → Nat → Int32} {J : Nat → Nat → Int64}
theorem c_wput {c : Nat} {z : Int} {v : Int32} (hc : I 51 2 = nI c) (hc2 : c < 455) (hz : -10 ≤ z) (hz2 : z < 1820) : C1 (D + 1) 188 [.ref 51, .int (iI z), .int v] I J .null (if z < 4 * c then I else mj_up I 52 z.toNat v) J := by
  refine mj_mk (e188 _ _ ?_)
  rw [hc, ix4m]
  have e : (iI z < nI (4 * c)) ↔ z < 4 * c := by
    rw [Int32.lt_iff_toInt_lt, iI_toInt (by omega) (by omega), nI_toInt (by omega)]
    omega
  by_cases h : z < 4 * c
  · rw [if_pos (e.mpr h), if_pos h]
  · rw [if_neg (fun q => h (e.mp q)), if_neg h]
    obtain ⟨n, rfl⟩ : ∃ n : Nat, z = n := ⟨z.toNat, by omega⟩
    rw [iI_nI, nI_clamp (by omega)]
    exact ⟨vp_in_nI (by omega) (by decide), rfl⟩
end S58_15

