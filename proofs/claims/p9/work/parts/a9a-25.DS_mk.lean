section Sa9a_25
variable {n d W Rn Kn Tn Hn Un S F mc : Nat} {x : Nat → Nat} {B1 B2 : Nat → Nat → Int32} {BJ : Nat → Nat → Int64}
variable {D D' E p a t v : Nat} {l : List Nat} {o : Int} {I1 I2 : Nat → Nat → Int32} {J1 J2 : Nat → Nat → Int64}
theorem DS_mk {I1' I2' : (Nat → Nat → Int32)} {J2' : (Nat → Nat → Int64)} (h : tfA d B1 B2 BJ I1 I2 J2) (hb : DSB I1) (e1 : lxF I1 I1') (e2 : lxg I2 I2') (e3 : lxgJ J2 J2') (hd : ∃ k p, tkD k p I1' I2') : DS d B1 B2 BJ I1' I2' J2' := by
  refine ⟨hd, tfA_lx h e1 e2 e3, ?_⟩
  obtain ⟨⟨c, c1, c2⟩, ⟨w, w1, w2⟩, ⟨u, u1, u2⟩⟩ := hb
  exact ⟨⟨c, c1, by rw [e1 14 9 (by decide)]; exact c2⟩, ⟨w, w1, by rw [e1 15 0 (by decide)]; exact w2⟩, ⟨u, u1, by rw [e1 15 5 (by decide)]; exact u2⟩⟩
end Sa9a_25

