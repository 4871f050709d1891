section Sa9a_20
variable {n d W Rn Kn Tn Hn Un S F mc : Nat} {x : Nat → Nat} {B1 B2 : Nat → Nat → Int32} {BJ : Nat → Nat → Int64}
variable {D D' E p a t v : Nat} {l : List Nat} {o : Int} {I1 I2 : Nat → Nat → Int32} {J1 J2 : Nat → Nat → Int64}
theorem TDo_up {I1' I2' : (Nat → Nat → Int32)} {J2' : (Nat → Nat → Int64)} (h : TDo d W Rn Kn Tn Hn Un S F I1 I2 J2) (hW : W ≤ 4) (cC : ∀ q j, inC W Rn Kn Tn Hn Un S q j → I1' q j = I1 q j) (cR : ∀ q j, inR d W Rn Tn Hn Un F q j → I2' q j = I2 q j) (cJ : ∀ q j, inJ d W Rn Kn Hn q j → J2' q j = J2 q j) : TDo d W Rn Kn Tn Hn Un S F I1' I2' J2' := by
  obtain ⟨hM, hR, hT, hH, ⟨a1, a2, a3, a4⟩, hV⟩ := h
  refine ⟨fun w hw => ?_, fun r hr w hw => ?_, fun t ht => ?_, fun k hk w hw => ?_, ⟨fun k hk => ?_, fun k hk => ?_, fun k hk => ?_, fun k hk => ?_⟩, ?_⟩
  · have e1 : I1' (14 + 3) w = I1 (14 + 3) w := cC 17 w (by unfold inC; omega)
    rw [e1, cR 9 _ (by unfold inR; omega)]
    exact hM w hw
  · have e1 : I1' (14 + 4) (160 + 4 * r + w) = I1 (14 + 4) (160 + 4 * r + w) := cC 18 _ (by unfold inC; omega)
    have e2 : I1' (14 + 5) (4 * r + w) = I1 (14 + 5) (4 * r + w) := cC 19 _ (by unfold inC; omega)
    rw [e1, e2, cR 11 _ (by unfold inR; omega), cR 12 _ (by unfold inR; omega)]
    exact hR r hr w hw
  · have e1 : I1' (14 + 6) t = I1 (14 + 6) t := cC 20 _ (by unfold inC; omega)
    have e2 : I1' (14 + 7) t = I1 (14 + 7) t := cC 21 _ (by unfold inC; omega)
    obtain ⟨g1, g2, g3, g4⟩ := hT t ht
    rw [e1, e2, cR 14 _ (by unfold inR; omega), cR 15 _ (by unfold inR; omega)]
    refine ⟨g1, g2, g3, fun w hw => ?_⟩
    have e3 : I1' (14 + 4) (480 + 4 * t + w) = I1 (14 + 4) (480 + 4 * t + w) := cC 18 _ (by unfold inC; omega)
    rw [e3, cR 16 _ (by unfold inR; omega)]
    exact g4 w hw
  · have e1 : I1' (14 + 4) (640 + 4 * k + w) = I1 (14 + 4) (640 + 4 * k + w) := cC 18 _ (by unfold inC; omega)
    rw [e1, cR 18 _ (by unfold inR; omega)]
    exact hH k hk w hw
  · have e1 : I1' (14 + 2) k = I1 (14 + 2) k := cC 16 _ (by unfold inC; omega)
    rw [e1, cJ 8 _ (by unfold inJ; omega)]
    exact a1 k hk
  · have e1 : I1' (14 + 2) (40 + k) = I1 (14 + 2) (40 + k) := cC 16 _ (by unfold inC; omega)
    rw [e1, cJ 10 _ (by unfold inJ; omega)]
    exact a2 k hk
  · have e1 : I1' (14 + 2) (80 + k) = I1 (14 + 2) (80 + k) := cC 16 _ (by unfold inC; omega)
    rw [e1, cJ 13 _ (by unfold inJ; omega)]
    exact a3 k hk
  · have e1 : I1' (14 + 2) (160 + k) = I1 (14 + 2) (160 + k) := cC 16 _ (by unfold inC; omega)
    rw [e1, cJ 17 _ (by unfold inJ; omega)]
    exact a4 k hk
  · exact tlV_up hV (Nat.le_refl _) (Nat.le_refl _) (Nat.le_refl _) (Nat.le_refl _) (fun q j z => cC q j (by unfold inC; omega)) (fun q j z => cR q j (by unfold inR; omega))
end Sa9a_20

