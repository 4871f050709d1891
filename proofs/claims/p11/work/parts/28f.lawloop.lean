/-! the law's loop -/
def lw_PI (z1 z2 : Nat) (as : List Value) (g1 g2 : mj_H) (G : mj_H → mj_H → Prop) : Prop := ∃ (r : Int32) (f1 f2 : mj_H), mj_Cl mj_S1 mj_CD 900 z1 (.ref 0 :: as) g1 (.int r, f1) ∧ mj_Cl mj_S2 mj_CD 900 z2 (.ref 0 :: as) g2 (.int r, f2) ∧ G f1 f2
def lw_PJ (z1 z2 : Nat) (as : List Value) (g1 g2 : mj_H) (G : mj_H → mj_H → Prop) : Prop := ∃ (r : Int64) (f1 f2 : mj_H), mj_Cl mj_S1 mj_CD 900 z1 (.ref 0 :: as) g1 (.long r, f1) ∧ mj_Cl mj_S2 mj_CD 900 z2 (.ref 0 :: as) g2 (.long r, f2) ∧ G f1 f2
def lw_QI (z1 z2 : Nat) (as : List Value) (g1 g2 : mj_H) (G : mj_H → mj_H → Prop) : Prop := ∃ (r r2 : Int32) (f1 f2 : mj_H), mj_Cl mj_S1 mj_CD 900 z1 (.ref 0 :: as) g1 (.int r, f1) ∧ mj_Cl mj_S2 mj_CD 900 z2 (.ref 0 :: as) g2 (.int r2, f2) ∧ G f1 f2
theorem lw_two {α : Type} {P : α → α → mj_H → mj_H → Prop} (h : ∃ (r : α) (f1 f2 : mj_H), P r r f1 f2) : ∃ (r r2 : α) (f1 f2 : mj_H), P r r2 f1 f2 := by
  obtain ⟨r, f1, f2, h⟩ := h
  exact ⟨r, r, f1, f2, h⟩
/-- every call answers alike, and leaves what G says -/
def lw_All (g1 g2 : mj_H) (G : mj_H → mj_H → Prop) : Prop :=
  (∀ a1 a2 a3 a4 a5 : Int32, lw_PI 133 9 [.int a1, .int a2, .int a3, .int a4, .int a5] g1 g2 G) ∧
  (∀ a1 : Int32, lw_PI 135 11 [.int a1] g1 g2 G) ∧
  (lw_PI 136 12 [] g1 g2 G) ∧
  (∀ a1 : Int32, lw_PI 189 45 [.int a1] g1 g2 G) ∧
  (∀ a1 : Int32, lw_PI 190 46 [.int a1] g1 g2 G) ∧
  (∀ a1 a2 a3 : Int32, lw_PI 191 47 [.int a1, .int a2, .int a3] g1 g2 G) ∧
  (∀ a1 a2 a3 : Int32, lw_PI 194 52 [.int a1, .int a2, .int (if a3 = 0 then 0 else 1)] g1 g2 G) ∧
  (∀ a1 a2 : Int32, lw_PI 195 54 [.int a1, .int a2] g1 g2 G) ∧
  (∀ a1 : Int32, lw_PI 197 61 [.int a1] g1 g2 G) ∧
  (∀ a1 a2 a3 : Int32, lw_PI 198 62 [.int a1, .int a2, .int a3] g1 g2 G) ∧
  (∀ a1 : Int32, lw_PJ 199 64 [.int (if a1 = 0 then 0 else 1)] g1 g2 G) ∧
  (lw_PJ 200 59 [] g1 g2 G) ∧
  (∀ a1 : Int32, lw_PJ 201 69 [.int (if a1 = 0 then 0 else 1)] g1 g2 G) ∧
  (∀ a1 a2 : Int32, lw_PI 202 65 [.int a1, .int a2] g1 g2 G) ∧
  (∀ a1 a2 a3 : Int32, lw_PI 203 70 [.int a1, .int a2, .int a3] g1 g2 G) ∧
  (∀ a1 a2 : Int32, lw_PI 230 84 [.int a1, .int a2] g1 g2 G) ∧
  (∀ a1 : Int32, lw_QI 232 86 [.int a1] g1 g2 G) ∧
  (∀ a1 a2 : Int32, lw_QI 234 87 [.int a1, .int a2] g1 g2 G) ∧
  (∀ a1 : Int32, lw_PI 236 88 [.int a1] g1 g2 G) ∧
  (∀ a1 : Int32, lw_PI 237 89 [.int a1] g1 g2 G) ∧
  (∀ a1 a2 : Int32, lw_PI 240 94 [.int a1, .int a2] g1 g2 G) ∧
  (∀ a1 : Int32, lw_PI 241 95 [.int a1] g1 g2 G) ∧
  (∀ a1 : Int32, lw_PI 249 100 [.int a1] g1 g2 G) ∧
  (∀ a1 : Int32, lw_PI 251 101 [.int a1] g1 g2 G) ∧
  (∀ a1 a2 a3 a4 : Int32, lw_PI 252 102 [.int a1, .int a2, .int a3, .int (if a4 = 0 then 0 else 1)] g1 g2 G) ∧
  (∀ a1 : Int32, lw_PI 254 104 [.int a1] g1 g2 G) ∧
  (∀ a1 a2 : Int32, lw_PI 256 105 [.int a1, .int a2] g1 g2 G) ∧
  (lw_PI 258 106 [] g1 g2 G) ∧
  (lw_PI 259 107 [] g1 g2 G) ∧
  (lw_PJ 262 111 [] g1 g2 G) ∧
  (∀ a1 : Int32, lw_PI 264 113 [.int a1] g1 g2 G) ∧
  (lw_PI 268 115 [] g1 g2 G) ∧
  (∀ a1 : Int32, lw_PI 273 117 [.int a1] g1 g2 G) ∧
  (∀ a1 a2 a3 a4 a5 : Int32, lw_PI 274 118 [.int a1, .int a2, .int a3, .int a4, .int a5] g1 g2 G) ∧
  (∀ a1 a2 a3 : Int32, lw_PI 277 120 [.int a1, .int a2, .int (if a3 = 0 then 0 else 1)] g1 g2 G) ∧
  (∀ a1 : Int32, lw_PI 278 121 [.int a1] g1 g2 G) ∧
  (∀ a1 : Int32, lw_PI 287 131 [.int a1] g1 g2 G) ∧
  (∀ a1 a2 : Int32, lw_PI 291 132 [.int a1, .int a2] g1 g2 G)
theorem lw_in {n j L : Nat} {x3 : Int32} (hx : x3 = nI (6 * n)) (h : 6 * n + 6 ≤ L) (hL : L ≤ 3072) (hj : j < 6) : vp_in (x3 + nI j) L := by
  rw [hx, nI_add]
  exact vp_in_nI (by omega) (by omega)
section LWL
variable {p : Program} {l : Launch} {e : Env} {s : State} {m : MethodId} {below : List Frame} {meth : Method} {c : Code} {b L : Nat} {xs : Nat → Int32}
variable {Dg : va_G} {T3 : Nat × Nat × Nat}
set_option maxHeartbeats 8000000 in
theorem lw_switch (C0 : lw_At p s m meth c b L xs) (hK : va_K Dg mj_CL (mj_tys T3) s) {ad1 ad2 : Nat → Nat} (hAd : lw_Ad s ad1 ad2) {x3 : Int32} (h0 : vp_in x3 L) (h1 : vp_in (x3 + 1) L) (h2 : vp_in (x3 + 2) L) (h3 : vp_in (x3 + 3) L) (h4 : vp_in (x3 + 4) L) (h5 : vp_in (x3 + 5) L) {g1 g2 : mj_H} {G : mj_H → mj_H → Prop} (hG0 : G g1 g2)
    (hp : lw_All g1 g2 G)
    (kk : ∀ f1 f2, G f1 f2 → lw_St p l e s m b below meth c Dg T3 ad1 ad2 1374 [(0, .ref b), (1, .ref (ad1 0)), (2, .ref (ad2 0)), (3, .int x3)] [] f1 f2) :
    lw_St p l e s m b below meth c Dg T3 ad1 ad2 27 [(0, .ref b), (1, .ref (ad1 0)), (2, .ref (ad2 0)), (3, .int x3)] [] g1 g2 := by
  obtain ⟨hx, hb, hr, hml, hown, hts, hX, hbl, hlocks, hgv⟩ := id C0
  have hbA : ¬ (fun q : Nat => s.heap.size ≤ q) b := Nat.not_le.mpr hbl
  intro H locs ls hP1 hP2 hS hl
  refine lv_aload_n hx hb d_law_27 rfl (lv_at hl 0 rfl) ?_
  refine lv_iload_n hx hb d_law_28 rfl (lv_at hl 3 rfl) ?_
  refine va_sld hx hb hX hbl hbA hS h0 d_law_29 ?_
  refine lv_bipush (v := 63) hx hb d_law_30 (by decide) ?_
  refine lv_iand hx hb d_law_32 ?_
  obtain ⟨j, hj, ej⟩ := pk_andE (xs x3.toNatClampNeg) (m := 63) 6 (by decide)
  rw [ej]
  have hjt : (nI j).toInt = (j : Int) := nI_toInt (by omega)
  by_cases hj38 : 38 ≤ j
  · refine lv_tableOut (tgt := 1374) hx hb d_law_33 (Or.inr (by rw [hjt]; omega)) (by decide) ?_
    exact kk g1 g2 hG0 H locs ls hP1 hP2 hS hl
  have hin : ∀ (off : Int) (tgt : Nat), (#[167, 230, 253, 266, 289, 312, 355, 414, 447, 470, 513, 552, 565, 604, 637, 680, 713, 736, 769, 792, 815, 848, 871, 894, 917, 986, 1009, 1042, 1055, 1068, 1081, 1104, 1117, 1140, 1203, 1262, 1285, 1308] : Array Int)[((nI j).toInt - 0).toNat]? = some off → (33 : Int) + off = (tgt : Int) → lw_St p l e s m b below meth c Dg T3 ad1 ad2 tgt [(0, .ref b), (1, .ref (ad1 0)), (2, .ref (ad2 0)), (3, .int x3)] [] g1 g2 → W p l e room_1 s m #[Value.ref b] below meth c H locs 200 300000 (lw_Z below #[Value.ref b] s) (F0 m 33 ls [.int (nI j)]) := by
    intro off tgt ho ht hs
    exact lv_tableIn hx hb d_law_33 (by rw [hjt]; omega) (by rw [hjt]; omega) ho ht (hs H locs ls hP1 hP2 hS hl)
  rw [hjt] at hin
  obtain ⟨p0, p1, p2, p3, p4, p5, p6, p7, p8, p9, p10, p11, p12, p13, p14, p15, p16, p17, p18, p19, p20, p21, p22, p23, p24, p25, p26, p27, p28, p29, p30, p31, p32, p33, p34, p35, p36, p37⟩ := hp
  match j, hj38, hin with
  | 0, _, hin => exact hin 167 200 rfl (by decide) (lw_c0 C0 hK hAd h1 h2 h3 h4 h5 (lw_two (p0 _ _ _ _ _)) kk)
  | 1, _, hin => exact hin 230 263 rfl (by decide) (lw_c1 C0 hK hAd h1 (lw_two (p1 _)) kk)
  | 2, _, hin => exact hin 253 286 rfl (by decide) (lw_c2 C0 hK hAd  (lw_two (p2 )) kk)
  | 3, _, hin => exact hin 266 299 rfl (by decide) (lw_c3 C0 hK hAd h1 (lw_two (p3 _)) kk)
  | 4, _, hin => exact hin 289 322 rfl (by decide) (lw_c4 C0 hK hAd h1 (lw_two (p4 _)) kk)
  | 5, _, hin => exact hin 312 345 rfl (by decide) (lw_c5 C0 hK hAd h1 h2 h3 (lw_two (p5 _ _ _)) kk)
  | 6, _, hin => exact hin 355 388 rfl (by decide) (lw_c6 C0 hK hAd h1 h2 h3 (lw_two (p6 _ _ _)) kk)
  | 7, _, hin => exact hin 414 447 rfl (by decide) (lw_c7 C0 hK hAd h1 h2 (lw_two (p7 _ _)) kk)
  | 8, _, hin => exact hin 447 480 rfl (by decide) (lw_c8 C0 hK hAd h1 (lw_two (p8 _)) kk)
  | 9, _, hin => exact hin 470 503 rfl (by decide) (lw_c9 C0 hK hAd h1 h2 h3 (p9 _ _ _) kk)
  | 10, _, hin => exact hin 513 546 rfl (by decide) (lw_c10 C0 hK hAd h1 (lw_two (p10 _)) kk)
  | 11, _, hin => exact hin 552 585 rfl (by decide) (lw_c11 C0 hK hAd  (lw_two (p11 )) kk)
  | 12, _, hin => exact hin 565 598 rfl (by decide) (lw_c12 C0 hK hAd h1 (lw_two (p12 _)) kk)
  | 13, _, hin => exact hin 604 637 rfl (by decide) (lw_c13 C0 hK hAd h1 h2 (lw_two (p13 _ _)) kk)
  | 14, _, hin => exact hin 637 670 rfl (by decide) (lw_c14 C0 hK hAd h1 h2 h3 (lw_two (p14 _ _ _)) kk)
  | 15, _, hin => exact hin 680 713 rfl (by decide) (lw_c15 C0 hK hAd h1 h2 (lw_two (p15 _ _)) kk)
  | 16, _, hin => exact hin 713 746 rfl (by decide) (lw_c16 C0 hK hAd h1 (p16 _) kk)
  | 17, _, hin => exact hin 736 769 rfl (by decide) (lw_c17 C0 hK hAd h1 h2 (p17 _ _) kk)
  | 18, _, hin => exact hin 769 802 rfl (by decide) (lw_c18 C0 hK hAd h1 (lw_two (p18 _)) kk)
  | 19, _, hin => exact hin 792 825 rfl (by decide) (lw_c19 C0 hK hAd h1 (lw_two (p19 _)) kk)
  | 20, _, hin => exact hin 815 848 rfl (by decide) (lw_c20 C0 hK hAd h1 h2 (lw_two (p20 _ _)) kk)
  | 21, _, hin => exact hin 848 881 rfl (by decide) (lw_c21 C0 hK hAd h1 (lw_two (p21 _)) kk)
  | 22, _, hin => exact hin 871 904 rfl (by decide) (lw_c22 C0 hK hAd h1 (lw_two (p22 _)) kk)
  | 23, _, hin => exact hin 894 927 rfl (by decide) (lw_c23 C0 hK hAd h1 (lw_two (p23 _)) kk)
  | 24, _, hin => exact hin 917 950 rfl (by decide) (lw_c24 C0 hK hAd h1 h2 h3 h4 (lw_two (p24 _ _ _ _)) kk)
  | 25, _, hin => exact hin 986 1019 rfl (by decide) (lw_c25 C0 hK hAd h1 (lw_two (p25 _)) kk)
  | 26, _, hin => exact hin 1009 1042 rfl (by decide) (lw_c26 C0 hK hAd h1 h2 (lw_two (p26 _ _)) kk)
  | 27, _, hin => exact hin 1042 1075 rfl (by decide) (lw_c27 C0 hK hAd  (lw_two (p27 )) kk)
  | 28, _, hin => exact hin 1055 1088 rfl (by decide) (lw_c28 C0 hK hAd  (lw_two (p28 )) kk)
  | 29, _, hin => exact hin 1068 1101 rfl (by decide) (lw_c29 C0 hK hAd  (lw_two (p29 )) kk)
  | 30, _, hin => exact hin 1081 1114 rfl (by decide) (lw_c30 C0 hK hAd h1 (lw_two (p30 _)) kk)
  | 31, _, hin => exact hin 1104 1137 rfl (by decide) (lw_c31 C0 hK hAd  (lw_two (p31 )) kk)
  | 32, _, hin => exact hin 1117 1150 rfl (by decide) (lw_c32 C0 hK hAd h1 (lw_two (p32 _)) kk)
  | 33, _, hin => exact hin 1140 1173 rfl (by decide) (lw_c33 C0 hK hAd h1 h2 h3 h4 h5 (lw_two (p33 _ _ _ _ _)) kk)
  | 34, _, hin => exact hin 1203 1236 rfl (by decide) (lw_c34 C0 hK hAd h1 h2 h3 (lw_two (p34 _ _ _)) kk)
  | 35, _, hin => exact hin 1262 1295 rfl (by decide) (lw_c35 C0 hK hAd h1 (lw_two (p35 _)) kk)
  | 36, _, hin => exact hin 1285 1318 rfl (by decide) (lw_c36 C0 hK hAd h1 (lw_two (p36 _)) kk)
  | 37, _, hin => exact hin 1308 1341 rfl (by decide) (lw_c37 C0 hK hAd h1 h2 (lw_two (p37 _ _)) kk)
  | j + 38, h, _ => exact absurd (Nat.le_add_left 38 j) h
end LWL
