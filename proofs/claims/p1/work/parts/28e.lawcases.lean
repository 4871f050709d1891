/-! a case of the law: a call of the class, the same call of the reference, and the two answers held against each other -/
def lw_Ad (s : State) (ad1 ad2 : Nat → Nat) : Prop := (∀ i j, i < mj_S1.length → j < mj_S1.length → ad1 i = ad1 j → i = j) ∧ (∀ i j, i < mj_S2.length → j < mj_S2.length → ad2 i = ad2 j → i = j) ∧ (∀ i j, i < mj_S1.length → j < mj_S2.length → ad1 i ≠ ad2 j) ∧ (∀ i, i < mj_S1.length → s.heap.size ≤ ad1 i) ∧ (∀ i, i < mj_S2.length → s.heap.size ≤ ad2 i) ∧ mj_MO ad1 (fun q => s.heap.size ≤ q) s s.heap ∧ mj_MO ad2 (fun q => s.heap.size ≤ q) s s.heap
def lw_St (p : Program) (l : Launch) (e : Env) (s : State) (m : MethodId) (b : Nat) (below : List Frame) (meth : Method) (c : Code) (Dg : va_G) (T3 : Nat × Nat × Nat) (ad1 ad2 : Nat → Nat) (pc : Nat) (lc : List (Nat × Value)) (st : List Value) (g1 g2 : mj_H) : Prop :=
  ∀ (H : Heap) (locs : List Loc) (ls : Array Slot), va_P Dg mj_CL (mj_W mj_S1 mj_TY T3 ad1 g1) H → va_P Dg mj_CL (mj_W mj_S2 mj_TY T3 ad2 g2) H → va_S (fun q : Nat => s.heap.size ≤ q) s.heap H locs → lv_has ls 4 lc →
    W p l e room_1 s m #[Value.ref b] below meth c H locs 200 300000 (lw_Z below #[Value.ref b] s) (F0 m pc ls st)
section LWC
variable {p : Program} {l : Launch} {e : Env} {s : State} {m : MethodId} {below : List Frame} {meth : Method} {c : Code} {b L : Nat} {xs : Nat → Int32}
variable {Dg : va_G} {T3 : Nat × Nat × Nat} {ad1 ad2 : Nat → Nat}
theorem lw_arg {H : Heap} {locs : List Loc} {ls : Array Slot} {st : List Value} {x3 j : Int32} {jn : Int} {pc CC SS : Nat} {lc : List (Nat × Value)} (C0 : lw_At p s m meth c b L xs) (hl : lv_has ls 4 lc) (h0 : lc[0]? = some (0, .ref b)) (h3 : lc[3]? = some (3, .int x3))
    (hS : va_S (fun q : Nat => s.heap.size ≤ q) s.heap H locs) (hin : vp_in (x3 + j) L) (d0 : decode code pc = .ok (.aload_n 0, 1)) (d1 : decode code (pc + 1) = .ok (.iload_n 3, 1)) (d2 : decode code (pc + 1 + 1) = .ok (.iconst jn, 1)) (hj : Int32.ofInt jn = j) (d3 : decode code (pc + 1 + 1 + 1) = .ok (.iadd, 1)) (d4 : decode code (pc + 1 + 1 + 1 + 1) = .ok (.iaload, 1))
    (kk : W p l e room_1 s m #[Value.ref b] below meth c H locs CC SS (lw_Z below #[Value.ref b] s) (F0 m (pc + 1 + 1 + 1 + 1 + 1) ls (.int (xs (x3 + j).toNatClampNeg) :: st))) : W p l e room_1 s m #[Value.ref b] below meth c H locs CC SS (lw_Z below #[Value.ref b] s) (F0 m pc ls st) := by
  obtain ⟨hx, hb, hr, hml, hown, hts, hX, hbl, hlocks, hgv⟩ := id C0
  have hbA : ¬ (fun q : Nat => s.heap.size ≤ q) b := Nat.not_le.mpr hbl
  refine lv_aload_n hx hb d0 rfl (lv_at hl 0 h0) ?_
  refine lv_iload_n hx hb d1 rfl (lv_at hl 3 h3) ?_
  refine lv_iconst (v := j) hx hb d2 hj ?_
  refine lv_iadd hx hb d3 ?_
  exact va_sld hx hb hX hbl hbA hS hin d4 kk
theorem lw_cmp0 (x : Int64) : lg_cmp x x = 0 := by unfold lg_cmp; simp
set_option maxHeartbeats 4000000 in
/-- case 0: feed -/
theorem lw_c0 (C0 : lw_At p s m meth c b L xs) (hK : va_K Dg mj_CL (mj_tys T3) s) (hAd : lw_Ad s ad1 ad2) {x3 : Int32} (h1 : vp_in (x3 + 1) L) (h2 : vp_in (x3 + 2) L) (h3 : vp_in (x3 + 3) L) (h4 : vp_in (x3 + 4) L) (h5 : vp_in (x3 + 5) L) {g1 g2 : mj_H} {G : mj_H → mj_H → Prop}
    (hp : ∃ (r : Int32) (f1 f2 : mj_H), mj_Cl mj_S1 mj_CD 900 133 (.ref 0 :: [.int (xs (x3 + 1).toNatClampNeg), .int (xs (x3 + 2).toNatClampNeg), .int (xs (x3 + 3).toNatClampNeg), .int (xs (x3 + 4).toNatClampNeg), .int (xs (x3 + 5).toNatClampNeg)]) g1 (.int r, f1) ∧ mj_Cl mj_S2 mj_CD 900 9 (.ref 0 :: [.int (xs (x3 + 1).toNatClampNeg), .int (xs (x3 + 2).toNatClampNeg), .int (xs (x3 + 3).toNatClampNeg), .int (xs (x3 + 4).toNatClampNeg), .int (xs (x3 + 5).toNatClampNeg)]) g2 (.int r, f2) ∧ G f1 f2)
    (kk : ∀ f1 f2, G f1 f2 → lw_St p l e s m b below meth c Dg T3 ad1 ad2 1378 [(0, .ref b), (1, .ref (ad1 0)), (2, .ref (ad2 0)), (3, .int x3)] [] f1 f2) :
    lw_St p l e s m b below meth c Dg T3 ad1 ad2 200 [(0, .ref b), (1, .ref (ad1 0)), (2, .ref (ad2 0)), (3, .int x3)] [] g1 g2 := by
  obtain ⟨hx, hb, hr, hml, hown, hts, hX, hbl, hlocks, hgv⟩ := id C0
  obtain ⟨a1, a2, a3, a4, a5, a6, a7⟩ := id hAd
  obtain ⟨r, f1, f2, hc1, hc2, hG⟩ := hp
  have hM1 := mj_sound (l := l) (T3 := T3) (Dg := Dg) a1 (mj_Cs_of mj_Sok1) mj_hM 900 133 _ _ _ hc1
  have hM2 := mj_sound (l := l) (T3 := T3) (Dg := Dg) a2 (mj_Cs_of mj_Sok2) mj_hM 900 9 _ _ _ hc2
  have kk := kk f1 f2 hG
  intro H locs ls hP1 hP2 hS hl
  refine lv_aload_n hx hb d_law_200 rfl (lv_at hl 1 rfl) ?_
  refine lw_arg C0 hl rfl rfl hS h1 d_law_201 d_law_202 d_law_203 (by decide) d_law_204 d_law_205 ?_
  refine lw_arg C0 hl rfl rfl hS h2 d_law_206 d_law_207 d_law_208 (by decide) d_law_209 d_law_210 ?_
  refine lw_arg C0 hl rfl rfl hS h3 d_law_211 d_law_212 d_law_213 (by decide) d_law_214 d_law_215 ?_
  refine lw_arg C0 hl rfl rfl hS h4 d_law_216 d_law_217 d_law_218 (by decide) d_law_219 d_law_220 ?_
  refine lw_arg C0 hl rfl rfl hS h5 d_law_221 d_law_222 d_law_223 (by decide) d_law_224 d_law_225 ?_
  refine lw_call (as := [.int (xs (x3 + 1).toNatClampNeg), .int (xs (x3 + 2).toNatClampNeg), .int (xs (x3 + 3).toNatClampNeg), .int (xs (x3 + 4).toNatClampNeg), .int (xs (x3 + 5).toNatClampNeg)]) (rest := []) (CC := 200) (SS := 300000) (q := (.int r, f1)) (ad := ad1) (ad' := ad2) hx hb hml hown hts hK a6 a3 a4 lwV_13 trivial hM1 rfl (Nat.le_of_ble_eq_true rfl) d_law_226 ⟨by decide, by decide⟩ hP1 hP2 hS hl.1 (fun H locs hP1 hP2 hS => ?_)
  refine lv_aload_n hx hb d_law_229 rfl (lv_at hl 2 rfl) ?_
  refine lw_arg C0 hl rfl rfl hS h1 d_law_230 d_law_231 d_law_232 (by decide) d_law_233 d_law_234 ?_
  refine lw_arg C0 hl rfl rfl hS h2 d_law_235 d_law_236 d_law_237 (by decide) d_law_238 d_law_239 ?_
  refine lw_arg C0 hl rfl rfl hS h3 d_law_240 d_law_241 d_law_242 (by decide) d_law_243 d_law_244 ?_
  refine lw_arg C0 hl rfl rfl hS h4 d_law_245 d_law_246 d_law_247 (by decide) d_law_248 d_law_249 ?_
  refine lw_arg C0 hl rfl rfl hS h5 d_law_250 d_law_251 d_law_252 (by decide) d_law_253 d_law_254 ?_
  refine lw_call (as := [.int (xs (x3 + 1).toNatClampNeg), .int (xs (x3 + 2).toNatClampNeg), .int (xs (x3 + 3).toNatClampNeg), .int (xs (x3 + 4).toNatClampNeg), .int (xs (x3 + 5).toNatClampNeg)]) (rest := [.int r]) (CC := 200) (SS := 300000) (q := (.int r, f2)) (ad := ad2) (ad' := ad1) hx hb hml hown hts hK a7 (fun i j hi hj => (a3 j i hj hi).symm) a5 lwV_17 trivial hM2 rfl (Nat.le_of_ble_eq_true rfl) d_law_255 ⟨by decide, by decide⟩ hP2 hP1 hS hl.1 (fun H locs hP2 hP1 hS => ?_)
  refine lv_icmp_eq (tgt := 1378) hx hb d_law_258 (by decide) (fun _ => ?_) (fun q => absurd rfl q)
  exact kk H locs ls hP1 hP2 hS hl
set_option maxHeartbeats 4000000 in
/-- case 1: end -/
theorem lw_c1 (C0 : lw_At p s m meth c b L xs) (hK : va_K Dg mj_CL (mj_tys T3) s) (hAd : lw_Ad s ad1 ad2) {x3 : Int32} (h1 : vp_in (x3 + 1) L) {g1 g2 : mj_H} {G : mj_H → mj_H → Prop}
    (hp : ∃ (r : Int32) (f1 f2 : mj_H), mj_Cl mj_S1 mj_CD 900 135 (.ref 0 :: [.int (xs (x3 + 1).toNatClampNeg)]) g1 (.int r, f1) ∧ mj_Cl mj_S2 mj_CD 900 11 (.ref 0 :: [.int (xs (x3 + 1).toNatClampNeg)]) g2 (.int r, f2) ∧ G f1 f2)
    (kk : ∀ f1 f2, G f1 f2 → lw_St p l e s m b below meth c Dg T3 ad1 ad2 1378 [(0, .ref b), (1, .ref (ad1 0)), (2, .ref (ad2 0)), (3, .int x3)] [] f1 f2) :
    lw_St p l e s m b below meth c Dg T3 ad1 ad2 263 [(0, .ref b), (1, .ref (ad1 0)), (2, .ref (ad2 0)), (3, .int x3)] [] g1 g2 := by
  obtain ⟨hx, hb, hr, hml, hown, hts, hX, hbl, hlocks, hgv⟩ := id C0
  obtain ⟨a1, a2, a3, a4, a5, a6, a7⟩ := id hAd
  obtain ⟨r, f1, f2, hc1, hc2, hG⟩ := hp
  have hM1 := mj_sound (l := l) (T3 := T3) (Dg := Dg) a1 (mj_Cs_of mj_Sok1) mj_hM 900 135 _ _ _ hc1
  have hM2 := mj_sound (l := l) (T3 := T3) (Dg := Dg) a2 (mj_Cs_of mj_Sok2) mj_hM 900 11 _ _ _ hc2
  have kk := kk f1 f2 hG
  intro H locs ls hP1 hP2 hS hl
  refine lv_aload_n hx hb d_law_263 rfl (lv_at hl 1 rfl) ?_
  refine lw_arg C0 hl rfl rfl hS h1 d_law_264 d_law_265 d_law_266 (by decide) d_law_267 d_law_268 ?_
  refine lw_call (as := [.int (xs (x3 + 1).toNatClampNeg)]) (rest := []) (CC := 200) (SS := 300000) (q := (.int r, f1)) (ad := ad1) (ad' := ad2) hx hb hml hown hts hK a6 a3 a4 lwV_18 trivial hM1 rfl (Nat.le_of_ble_eq_true rfl) d_law_269 ⟨by decide, by decide⟩ hP1 hP2 hS hl.1 (fun H locs hP1 hP2 hS => ?_)
  refine lv_aload_n hx hb d_law_272 rfl (lv_at hl 2 rfl) ?_
  refine lw_arg C0 hl rfl rfl hS h1 d_law_273 d_law_274 d_law_275 (by decide) d_law_276 d_law_277 ?_
  refine lw_call (as := [.int (xs (x3 + 1).toNatClampNeg)]) (rest := [.int r]) (CC := 200) (SS := 300000) (q := (.int r, f2)) (ad := ad2) (ad' := ad1) hx hb hml hown hts hK a7 (fun i j hi hj => (a3 j i hj hi).symm) a5 lwV_22 trivial hM2 rfl (Nat.le_of_ble_eq_true rfl) d_law_278 ⟨by decide, by decide⟩ hP2 hP1 hS hl.1 (fun H locs hP2 hP1 hS => ?_)
  refine lv_icmp_eq (tgt := 1378) hx hb d_law_281 (by decide) (fun _ => ?_) (fun q => absurd rfl q)
  exact kk H locs ls hP1 hP2 hS hl
set_option maxHeartbeats 4000000 in
/-- case 2: text -/
theorem lw_c2 (C0 : lw_At p s m meth c b L xs) (hK : va_K Dg mj_CL (mj_tys T3) s) (hAd : lw_Ad s ad1 ad2) {x3 : Int32} {g1 g2 : mj_H} {G : mj_H → mj_H → Prop}
    (hp : ∃ (r : Int32) (f1 f2 : mj_H), mj_Cl mj_S1 mj_CD 900 136 (.ref 0 :: []) g1 (.int r, f1) ∧ mj_Cl mj_S2 mj_CD 900 12 (.ref 0 :: []) g2 (.int r, f2) ∧ G f1 f2)
    (kk : ∀ f1 f2, G f1 f2 → lw_St p l e s m b below meth c Dg T3 ad1 ad2 1378 [(0, .ref b), (1, .ref (ad1 0)), (2, .ref (ad2 0)), (3, .int x3)] [] f1 f2) :
    lw_St p l e s m b below meth c Dg T3 ad1 ad2 286 [(0, .ref b), (1, .ref (ad1 0)), (2, .ref (ad2 0)), (3, .int x3)] [] g1 g2 := by
  obtain ⟨hx, hb, hr, hml, hown, hts, hX, hbl, hlocks, hgv⟩ := id C0
  obtain ⟨a1, a2, a3, a4, a5, a6, a7⟩ := id hAd
  obtain ⟨r, f1, f2, hc1, hc2, hG⟩ := hp
  have hM1 := mj_sound (l := l) (T3 := T3) (Dg := Dg) a1 (mj_Cs_of mj_Sok1) mj_hM 900 136 _ _ _ hc1
  have hM2 := mj_sound (l := l) (T3 := T3) (Dg := Dg) a2 (mj_Cs_of mj_Sok2) mj_hM 900 12 _ _ _ hc2
  have kk := kk f1 f2 hG
  intro H locs ls hP1 hP2 hS hl
  refine lv_aload_n hx hb d_law_286 rfl (lv_at hl 1 rfl) ?_
  refine lw_call (as := []) (rest := []) (CC := 200) (SS := 300000) (q := (.int r, f1)) (ad := ad1) (ad' := ad2) hx hb hml hown hts hK a6 a3 a4 lwV_23 trivial hM1 rfl (Nat.le_of_ble_eq_true rfl) d_law_287 ⟨by decide, by decide⟩ hP1 hP2 hS hl.1 (fun H locs hP1 hP2 hS => ?_)
  refine lv_aload_n hx hb d_law_290 rfl (lv_at hl 2 rfl) ?_
  refine lw_call (as := []) (rest := [.int r]) (CC := 200) (SS := 300000) (q := (.int r, f2)) (ad := ad2) (ad' := ad1) hx hb hml hown hts hK a7 (fun i j hi hj => (a3 j i hj hi).symm) a5 lwV_27 trivial hM2 rfl (Nat.le_of_ble_eq_true rfl) d_law_291 ⟨by decide, by decide⟩ hP2 hP1 hS hl.1 (fun H locs hP2 hP1 hS => ?_)
  refine lv_icmp_eq (tgt := 1378) hx hb d_law_294 (by decide) (fun _ => ?_) (fun q => absurd rfl q)
  exact kk H locs ls hP1 hP2 hS hl
set_option maxHeartbeats 4000000 in
/-- case 3: fault -/
theorem lw_c3 (C0 : lw_At p s m meth c b L xs) (hK : va_K Dg mj_CL (mj_tys T3) s) (hAd : lw_Ad s ad1 ad2) {x3 : Int32} (h1 : vp_in (x3 + 1) L) {g1 g2 : mj_H} {G : mj_H → mj_H → Prop}
    (hp : ∃ (r : Int32) (f1 f2 : mj_H), mj_Cl mj_S1 mj_CD 900 189 (.ref 0 :: [.int (xs (x3 + 1).toNatClampNeg)]) g1 (.int r, f1) ∧ mj_Cl mj_S2 mj_CD 900 45 (.ref 0 :: [.int (xs (x3 + 1).toNatClampNeg)]) g2 (.int r, f2) ∧ G f1 f2)
    (kk : ∀ f1 f2, G f1 f2 → lw_St p l e s m b below meth c Dg T3 ad1 ad2 1378 [(0, .ref b), (1, .ref (ad1 0)), (2, .ref (ad2 0)), (3, .int x3)] [] f1 f2) :
    lw_St p l e s m b below meth c Dg T3 ad1 ad2 299 [(0, .ref b), (1, .ref (ad1 0)), (2, .ref (ad2 0)), (3, .int x3)] [] g1 g2 := by
  obtain ⟨hx, hb, hr, hml, hown, hts, hX, hbl, hlocks, hgv⟩ := id C0
  obtain ⟨a1, a2, a3, a4, a5, a6, a7⟩ := id hAd
  obtain ⟨r, f1, f2, hc1, hc2, hG⟩ := hp
  have hM1 := mj_sound (l := l) (T3 := T3) (Dg := Dg) a1 (mj_Cs_of mj_Sok1) mj_hM 900 189 _ _ _ hc1
  have hM2 := mj_sound (l := l) (T3 := T3) (Dg := Dg) a2 (mj_Cs_of mj_Sok2) mj_hM 900 45 _ _ _ hc2
  have kk := kk f1 f2 hG
  intro H locs ls hP1 hP2 hS hl
  refine lv_aload_n hx hb d_law_299 rfl (lv_at hl 1 rfl) ?_
  refine lw_arg C0 hl rfl rfl hS h1 d_law_300 d_law_301 d_law_302 (by decide) d_law_303 d_law_304 ?_
  refine lw_call (as := [.int (xs (x3 + 1).toNatClampNeg)]) (rest := []) (CC := 200) (SS := 300000) (q := (.int r, f1)) (ad := ad1) (ad' := ad2) hx hb hml hown hts hK a6 a3 a4 lwV_28 trivial hM1 rfl (Nat.le_of_ble_eq_true rfl) d_law_305 ⟨by decide, by decide⟩ hP1 hP2 hS hl.1 (fun H locs hP1 hP2 hS => ?_)
  refine lv_aload_n hx hb d_law_308 rfl (lv_at hl 2 rfl) ?_
  refine lw_arg C0 hl rfl rfl hS h1 d_law_309 d_law_310 d_law_311 (by decide) d_law_312 d_law_313 ?_
  refine lw_call (as := [.int (xs (x3 + 1).toNatClampNeg)]) (rest := [.int r]) (CC := 200) (SS := 300000) (q := (.int r, f2)) (ad := ad2) (ad' := ad1) hx hb hml hown hts hK a7 (fun i j hi hj => (a3 j i hj hi).symm) a5 lwV_32 trivial hM2 rfl (Nat.le_of_ble_eq_true rfl) d_law_314 ⟨by decide, by decide⟩ hP2 hP1 hS hl.1 (fun H locs hP2 hP1 hS => ?_)
  refine lv_icmp_eq (tgt := 1378) hx hb d_law_317 (by decide) (fun _ => ?_) (fun q => absurd rfl q)
  exact kk H locs ls hP1 hP2 hS hl
set_option maxHeartbeats 4000000 in
/-- case 4: has -/
theorem lw_c4 (C0 : lw_At p s m meth c b L xs) (hK : va_K Dg mj_CL (mj_tys T3) s) (hAd : lw_Ad s ad1 ad2) {x3 : Int32} (h1 : vp_in (x3 + 1) L) {g1 g2 : mj_H} {G : mj_H → mj_H → Prop}
    (hp : ∃ (r : Int32) (f1 f2 : mj_H), mj_Cl mj_S1 mj_CD 900 190 (.ref 0 :: [.int (xs (x3 + 1).toNatClampNeg)]) g1 (.int r, f1) ∧ mj_Cl mj_S2 mj_CD 900 46 (.ref 0 :: [.int (xs (x3 + 1).toNatClampNeg)]) g2 (.int r, f2) ∧ G f1 f2)
    (kk : ∀ f1 f2, G f1 f2 → lw_St p l e s m b below meth c Dg T3 ad1 ad2 1378 [(0, .ref b), (1, .ref (ad1 0)), (2, .ref (ad2 0)), (3, .int x3)] [] f1 f2) :
    lw_St p l e s m b below meth c Dg T3 ad1 ad2 322 [(0, .ref b), (1, .ref (ad1 0)), (2, .ref (ad2 0)), (3, .int x3)] [] g1 g2 := by
  obtain ⟨hx, hb, hr, hml, hown, hts, hX, hbl, hlocks, hgv⟩ := id C0
  obtain ⟨a1, a2, a3, a4, a5, a6, a7⟩ := id hAd
  obtain ⟨r, f1, f2, hc1, hc2, hG⟩ := hp
  have hM1 := mj_sound (l := l) (T3 := T3) (Dg := Dg) a1 (mj_Cs_of mj_Sok1) mj_hM 900 190 _ _ _ hc1
  have hM2 := mj_sound (l := l) (T3 := T3) (Dg := Dg) a2 (mj_Cs_of mj_Sok2) mj_hM 900 46 _ _ _ hc2
  have kk := kk f1 f2 hG
  intro H locs ls hP1 hP2 hS hl
  refine lv_aload_n hx hb d_law_322 rfl (lv_at hl 1 rfl) ?_
  refine lw_arg C0 hl rfl rfl hS h1 d_law_323 d_law_324 d_law_325 (by decide) d_law_326 d_law_327 ?_
  refine lw_call (as := [.int (xs (x3 + 1).toNatClampNeg)]) (rest := []) (CC := 200) (SS := 300000) (q := (.int r, f1)) (ad := ad1) (ad' := ad2) hx hb hml hown hts hK a6 a3 a4 lwV_33 trivial hM1 rfl (Nat.le_of_ble_eq_true rfl) d_law_328 ⟨by decide, by decide⟩ hP1 hP2 hS hl.1 (fun H locs hP1 hP2 hS => ?_)
  refine lv_aload_n hx hb d_law_331 rfl (lv_at hl 2 rfl) ?_
  refine lw_arg C0 hl rfl rfl hS h1 d_law_332 d_law_333 d_law_334 (by decide) d_law_335 d_law_336 ?_
  refine lw_call (as := [.int (xs (x3 + 1).toNatClampNeg)]) (rest := [.int r]) (CC := 200) (SS := 300000) (q := (.int r, f2)) (ad := ad2) (ad' := ad1) hx hb hml hown hts hK a7 (fun i j hi hj => (a3 j i hj hi).symm) a5 lwV_36 trivial hM2 rfl (Nat.le_of_ble_eq_true rfl) d_law_337 ⟨by decide, by decide⟩ hP2 hP1 hS hl.1 (fun H locs hP2 hP1 hS => ?_)
  refine lv_icmp_eq (tgt := 1378) hx hb d_law_340 (by decide) (fun _ => ?_) (fun q => absurd rfl q)
  exact kk H locs ls hP1 hP2 hS hl
set_option maxHeartbeats 4000000 in
/-- case 5: letter -/
theorem lw_c5 (C0 : lw_At p s m meth c b L xs) (hK : va_K Dg mj_CL (mj_tys T3) s) (hAd : lw_Ad s ad1 ad2) {x3 : Int32} (h1 : vp_in (x3 + 1) L) (h2 : vp_in (x3 + 2) L) (h3 : vp_in (x3 + 3) L) {g1 g2 : mj_H} {G : mj_H → mj_H → Prop}
    (hp : ∃ (r : Int32) (f1 f2 : mj_H), mj_Cl mj_S1 mj_CD 900 191 (.ref 0 :: [.int (xs (x3 + 1).toNatClampNeg), .int (xs (x3 + 2).toNatClampNeg), .int (xs (x3 + 3).toNatClampNeg)]) g1 (.int r, f1) ∧ mj_Cl mj_S2 mj_CD 900 47 (.ref 0 :: [.int (xs (x3 + 1).toNatClampNeg), .int (xs (x3 + 2).toNatClampNeg), .int (xs (x3 + 3).toNatClampNeg)]) g2 (.int r, f2) ∧ G f1 f2)
    (kk : ∀ f1 f2, G f1 f2 → lw_St p l e s m b below meth c Dg T3 ad1 ad2 1378 [(0, .ref b), (1, .ref (ad1 0)), (2, .ref (ad2 0)), (3, .int x3)] [] f1 f2) :
    lw_St p l e s m b below meth c Dg T3 ad1 ad2 345 [(0, .ref b), (1, .ref (ad1 0)), (2, .ref (ad2 0)), (3, .int x3)] [] g1 g2 := by
  obtain ⟨hx, hb, hr, hml, hown, hts, hX, hbl, hlocks, hgv⟩ := id C0
  obtain ⟨a1, a2, a3, a4, a5, a6, a7⟩ := id hAd
  obtain ⟨r, f1, f2, hc1, hc2, hG⟩ := hp
  have hM1 := mj_sound (l := l) (T3 := T3) (Dg := Dg) a1 (mj_Cs_of mj_Sok1) mj_hM 900 191 _ _ _ hc1
  have hM2 := mj_sound (l := l) (T3 := T3) (Dg := Dg) a2 (mj_Cs_of mj_Sok2) mj_hM 900 47 _ _ _ hc2
  have kk := kk f1 f2 hG
  intro H locs ls hP1 hP2 hS hl
  refine lv_aload_n hx hb d_law_345 rfl (lv_at hl 1 rfl) ?_
  refine lw_arg C0 hl rfl rfl hS h1 d_law_346 d_law_347 d_law_348 (by decide) d_law_349 d_law_350 ?_
  refine lw_arg C0 hl rfl rfl hS h2 d_law_351 d_law_352 d_law_353 (by decide) d_law_354 d_law_355 ?_
  refine lw_arg C0 hl rfl rfl hS h3 d_law_356 d_law_357 d_law_358 (by decide) d_law_359 d_law_360 ?_
  refine lw_call (as := [.int (xs (x3 + 1).toNatClampNeg), .int (xs (x3 + 2).toNatClampNeg), .int (xs (x3 + 3).toNatClampNeg)]) (rest := []) (CC := 200) (SS := 300000) (q := (.int r, f1)) (ad := ad1) (ad' := ad2) hx hb hml hown hts hK a6 a3 a4 lwV_37 trivial hM1 rfl (Nat.le_of_ble_eq_true rfl) d_law_361 ⟨by decide, by decide⟩ hP1 hP2 hS hl.1 (fun H locs hP1 hP2 hS => ?_)
  refine lv_aload_n hx hb d_law_364 rfl (lv_at hl 2 rfl) ?_
  refine lw_arg C0 hl rfl rfl hS h1 d_law_365 d_law_366 d_law_367 (by decide) d_law_368 d_law_369 ?_
  refine lw_arg C0 hl rfl rfl hS h2 d_law_370 d_law_371 d_law_372 (by decide) d_law_373 d_law_374 ?_
  refine lw_arg C0 hl rfl rfl hS h3 d_law_375 d_law_376 d_law_377 (by decide) d_law_378 d_law_379 ?_
  refine lw_call (as := [.int (xs (x3 + 1).toNatClampNeg), .int (xs (x3 + 2).toNatClampNeg), .int (xs (x3 + 3).toNatClampNeg)]) (rest := [.int r]) (CC := 200) (SS := 300000) (q := (.int r, f2)) (ad := ad2) (ad' := ad1) hx hb hml hown hts hK a7 (fun i j hi hj => (a3 j i hj hi).symm) a5 lwV_41 trivial hM2 rfl (Nat.le_of_ble_eq_true rfl) d_law_380 ⟨by decide, by decide⟩ hP2 hP1 hS hl.1 (fun H locs hP2 hP1 hS => ?_)
  refine lv_icmp_eq (tgt := 1378) hx hb d_law_383 (by decide) (fun _ => ?_) (fun q => absurd rfl q)
  exact kk H locs ls hP1 hP2 hS hl
set_option maxHeartbeats 4000000 in
/-- case 6: price -/
theorem lw_c6 (C0 : lw_At p s m meth c b L xs) (hK : va_K Dg mj_CL (mj_tys T3) s) (hAd : lw_Ad s ad1 ad2) {x3 : Int32} (h1 : vp_in (x3 + 1) L) (h2 : vp_in (x3 + 2) L) (h3 : vp_in (x3 + 3) L) {g1 g2 : mj_H} {G : mj_H → mj_H → Prop}
    (hp : ∃ (r : Int32) (f1 f2 : mj_H), mj_Cl mj_S1 mj_CD 900 194 (.ref 0 :: [.int (xs (x3 + 1).toNatClampNeg), .int (xs (x3 + 2).toNatClampNeg), .int (if (xs (x3 + 3).toNatClampNeg) = 0 then 0 else 1)]) g1 (.int r, f1) ∧ mj_Cl mj_S2 mj_CD 900 52 (.ref 0 :: [.int (xs (x3 + 1).toNatClampNeg), .int (xs (x3 + 2).toNatClampNeg), .int (if (xs (x3 + 3).toNatClampNeg) = 0 then 0 else 1)]) g2 (.int r, f2) ∧ G f1 f2)
    (kk : ∀ f1 f2, G f1 f2 → lw_St p l e s m b below meth c Dg T3 ad1 ad2 1378 [(0, .ref b), (1, .ref (ad1 0)), (2, .ref (ad2 0)), (3, .int x3)] [] f1 f2) :
    lw_St p l e s m b below meth c Dg T3 ad1 ad2 388 [(0, .ref b), (1, .ref (ad1 0)), (2, .ref (ad2 0)), (3, .int x3)] [] g1 g2 := by
  obtain ⟨hx, hb, hr, hml, hown, hts, hX, hbl, hlocks, hgv⟩ := id C0
  obtain ⟨a1, a2, a3, a4, a5, a6, a7⟩ := id hAd
  obtain ⟨r, f1, f2, hc1, hc2, hG⟩ := hp
  have hM1 := mj_sound (l := l) (T3 := T3) (Dg := Dg) a1 (mj_Cs_of mj_Sok1) mj_hM 900 194 _ _ _ hc1
  have hM2 := mj_sound (l := l) (T3 := T3) (Dg := Dg) a2 (mj_Cs_of mj_Sok2) mj_hM 900 52 _ _ _ hc2
  have kk := kk f1 f2 hG
  intro H locs ls hP1 hP2 hS hl
  by_cases e3 : (xs (x3 + 3).toNatClampNeg) = 0
  · simp only [e3, if_true] at hM1 hM2
    refine lv_aload_n hx hb d_law_388 rfl (lv_at hl 1 rfl) ?_
    refine lw_arg C0 hl rfl rfl hS h1 d_law_389 d_law_390 d_law_391 (by decide) d_law_392 d_law_393 ?_
    refine lw_arg C0 hl rfl rfl hS h2 d_law_394 d_law_395 d_law_396 (by decide) d_law_397 d_law_398 ?_
    refine lw_arg C0 hl rfl rfl hS h3 d_law_399 d_law_400 d_law_401 (by decide) d_law_402 d_law_403 ?_
    refine lv_if_eq (tgt := 411) hx hb d_law_404 (by decide) (fun _ => ?_) (fun q => absurd e3 q)
    refine lv_iconst (v := 0) hx hb d_law_411 (by decide) ?_
    refine lw_call (as := [.int (xs (x3 + 1).toNatClampNeg), .int (xs (x3 + 2).toNatClampNeg), .int 0]) (rest := []) (CC := 200) (SS := 300000) (q := (.int r, f1)) (ad := ad1) (ad' := ad2) hx hb hml hown hts hK a6 a3 a4 lwV_42 trivial hM1 rfl (Nat.le_of_ble_eq_true rfl) d_law_412 ⟨by decide, by decide⟩ hP1 hP2 hS hl.1 (fun H locs hP1 hP2 hS => ?_)
    refine lv_aload_n hx hb d_law_415 rfl (lv_at hl 2 rfl) ?_
    refine lw_arg C0 hl rfl rfl hS h1 d_law_416 d_law_417 d_law_418 (by decide) d_law_419 d_law_420 ?_
    refine lw_arg C0 hl rfl rfl hS h2 d_law_421 d_law_422 d_law_423 (by decide) d_law_424 d_law_425 ?_
    refine lw_arg C0 hl rfl rfl hS h3 d_law_426 d_law_427 d_law_428 (by decide) d_law_429 d_law_430 ?_
    refine lv_if_eq (tgt := 438) hx hb d_law_431 (by decide) (fun _ => ?_) (fun q => absurd e3 q)
    refine lv_iconst (v := 0) hx hb d_law_438 (by decide) ?_
    refine lw_call (as := [.int (xs (x3 + 1).toNatClampNeg), .int (xs (x3 + 2).toNatClampNeg), .int 0]) (rest := [.int r]) (CC := 200) (SS := 300000) (q := (.int r, f2)) (ad := ad2) (ad' := ad1) hx hb hml hown hts hK a7 (fun i j hi hj => (a3 j i hj hi).symm) a5 lwV_46 trivial hM2 rfl (Nat.le_of_ble_eq_true rfl) d_law_439 ⟨by decide, by decide⟩ hP2 hP1 hS hl.1 (fun H locs hP2 hP1 hS => ?_)
    refine lv_icmp_eq (tgt := 1378) hx hb d_law_442 (by decide) (fun _ => ?_) (fun q => absurd rfl q)
    exact kk H locs ls hP1 hP2 hS hl
  · simp only [e3, if_false] at hM1 hM2
    refine lv_aload_n hx hb d_law_388 rfl (lv_at hl 1 rfl) ?_
    refine lw_arg C0 hl rfl rfl hS h1 d_law_389 d_law_390 d_law_391 (by decide) d_law_392 d_law_393 ?_
    refine lw_arg C0 hl rfl rfl hS h2 d_law_394 d_law_395 d_law_396 (by decide) d_law_397 d_law_398 ?_
    refine lw_arg C0 hl rfl rfl hS h3 d_law_399 d_law_400 d_law_401 (by decide) d_law_402 d_law_403 ?_
    refine lv_if_eq (tgt := 411) hx hb d_law_404 (by decide) (fun q => absurd q e3) (fun _ => ?_)
    refine lv_iconst (v := 1) hx hb d_law_407 (by decide) ?_
    refine lv_goto (tgt := 412) hx hb d_law_408 (by decide) ?_
    refine lw_call (as := [.int (xs (x3 + 1).toNatClampNeg), .int (xs (x3 + 2).toNatClampNeg), .int 1]) (rest := []) (CC := 200) (SS := 300000) (q := (.int r, f1)) (ad := ad1) (ad' := ad2) hx hb hml hown hts hK a6 a3 a4 lwV_42 trivial hM1 rfl (Nat.le_of_ble_eq_true rfl) d_law_412 ⟨by decide, by decide⟩ hP1 hP2 hS hl.1 (fun H locs hP1 hP2 hS => ?_)
    refine lv_aload_n hx hb d_law_415 rfl (lv_at hl 2 rfl) ?_
    refine lw_arg C0 hl rfl rfl hS h1 d_law_416 d_law_417 d_law_418 (by decide) d_law_419 d_law_420 ?_
    refine lw_arg C0 hl rfl rfl hS h2 d_law_421 d_law_422 d_law_423 (by decide) d_law_424 d_law_425 ?_
    refine lw_arg C0 hl rfl rfl hS h3 d_law_426 d_law_427 d_law_428 (by decide) d_law_429 d_law_430 ?_
    refine lv_if_eq (tgt := 438) hx hb d_law_431 (by decide) (fun q => absurd q e3) (fun _ => ?_)
    refine lv_iconst (v := 1) hx hb d_law_434 (by decide) ?_
    refine lv_goto (tgt := 439) hx hb d_law_435 (by decide) ?_
    refine lw_call (as := [.int (xs (x3 + 1).toNatClampNeg), .int (xs (x3 + 2).toNatClampNeg), .int 1]) (rest := [.int r]) (CC := 200) (SS := 300000) (q := (.int r, f2)) (ad := ad2) (ad' := ad1) hx hb hml hown hts hK a7 (fun i j hi hj => (a3 j i hj hi).symm) a5 lwV_46 trivial hM2 rfl (Nat.le_of_ble_eq_true rfl) d_law_439 ⟨by decide, by decide⟩ hP2 hP1 hS hl.1 (fun H locs hP2 hP1 hS => ?_)
    refine lv_icmp_eq (tgt := 1378) hx hb d_law_442 (by decide) (fun _ => ?_) (fun q => absurd rfl q)
    exact kk H locs ls hP1 hP2 hS hl
set_option maxHeartbeats 4000000 in
/-- case 7: beats -/
theorem lw_c7 (C0 : lw_At p s m meth c b L xs) (hK : va_K Dg mj_CL (mj_tys T3) s) (hAd : lw_Ad s ad1 ad2) {x3 : Int32} (h1 : vp_in (x3 + 1) L) (h2 : vp_in (x3 + 2) L) {g1 g2 : mj_H} {G : mj_H → mj_H → Prop}
    (hp : ∃ (r : Int32) (f1 f2 : mj_H), mj_Cl mj_S1 mj_CD 900 195 (.ref 0 :: [.int (xs (x3 + 1).toNatClampNeg), .int (xs (x3 + 2).toNatClampNeg)]) g1 (.int r, f1) ∧ mj_Cl mj_S2 mj_CD 900 54 (.ref 0 :: [.int (xs (x3 + 1).toNatClampNeg), .int (xs (x3 + 2).toNatClampNeg)]) g2 (.int r, f2) ∧ G f1 f2)
    (kk : ∀ f1 f2, G f1 f2 → lw_St p l e s m b below meth c Dg T3 ad1 ad2 1378 [(0, .ref b), (1, .ref (ad1 0)), (2, .ref (ad2 0)), (3, .int x3)] [] f1 f2) :
    lw_St p l e s m b below meth c Dg T3 ad1 ad2 447 [(0, .ref b), (1, .ref (ad1 0)), (2, .ref (ad2 0)), (3, .int x3)] [] g1 g2 := by
  obtain ⟨hx, hb, hr, hml, hown, hts, hX, hbl, hlocks, hgv⟩ := id C0
  obtain ⟨a1, a2, a3, a4, a5, a6, a7⟩ := id hAd
  obtain ⟨r, f1, f2, hc1, hc2, hG⟩ := hp
  have hM1 := mj_sound (l := l) (T3 := T3) (Dg := Dg) a1 (mj_Cs_of mj_Sok1) mj_hM 900 195 _ _ _ hc1
  have hM2 := mj_sound (l := l) (T3 := T3) (Dg := Dg) a2 (mj_Cs_of mj_Sok2) mj_hM 900 54 _ _ _ hc2
  have kk := kk f1 f2 hG
  intro H locs ls hP1 hP2 hS hl
  refine lv_aload_n hx hb d_law_447 rfl (lv_at hl 1 rfl) ?_
  refine lw_arg C0 hl rfl rfl hS h1 d_law_448 d_law_449 d_law_450 (by decide) d_law_451 d_law_452 ?_
  refine lw_arg C0 hl rfl rfl hS h2 d_law_453 d_law_454 d_law_455 (by decide) d_law_456 d_law_457 ?_
  refine lw_call (as := [.int (xs (x3 + 1).toNatClampNeg), .int (xs (x3 + 2).toNatClampNeg)]) (rest := []) (CC := 200) (SS := 300000) (q := (.int r, f1)) (ad := ad1) (ad' := ad2) hx hb hml hown hts hK a6 a3 a4 lwV_47 trivial hM1 rfl (Nat.le_of_ble_eq_true rfl) d_law_458 ⟨by decide, by decide⟩ hP1 hP2 hS hl.1 (fun H locs hP1 hP2 hS => ?_)
  refine lv_aload_n hx hb d_law_461 rfl (lv_at hl 2 rfl) ?_
  refine lw_arg C0 hl rfl rfl hS h1 d_law_462 d_law_463 d_law_464 (by decide) d_law_465 d_law_466 ?_
  refine lw_arg C0 hl rfl rfl hS h2 d_law_467 d_law_468 d_law_469 (by decide) d_law_470 d_law_471 ?_
  refine lw_call (as := [.int (xs (x3 + 1).toNatClampNeg), .int (xs (x3 + 2).toNatClampNeg)]) (rest := [.int r]) (CC := 200) (SS := 300000) (q := (.int r, f2)) (ad := ad2) (ad' := ad1) hx hb hml hown hts hK a7 (fun i j hi hj => (a3 j i hj hi).symm) a5 lwV_51 trivial hM2 rfl (Nat.le_of_ble_eq_true rfl) d_law_472 ⟨by decide, by decide⟩ hP2 hP1 hS hl.1 (fun H locs hP2 hP1 hS => ?_)
  refine lv_icmp_eq (tgt := 1378) hx hb d_law_475 (by decide) (fun _ => ?_) (fun q => absurd rfl q)
  exact kk H locs ls hP1 hP2 hS hl
set_option maxHeartbeats 4000000 in
/-- case 8: leads -/
theorem lw_c8 (C0 : lw_At p s m meth c b L xs) (hK : va_K Dg mj_CL (mj_tys T3) s) (hAd : lw_Ad s ad1 ad2) {x3 : Int32} (h1 : vp_in (x3 + 1) L) {g1 g2 : mj_H} {G : mj_H → mj_H → Prop}
    (hp : ∃ (r : Int32) (f1 f2 : mj_H), mj_Cl mj_S1 mj_CD 900 197 (.ref 0 :: [.int (xs (x3 + 1).toNatClampNeg)]) g1 (.int r, f1) ∧ mj_Cl mj_S2 mj_CD 900 61 (.ref 0 :: [.int (xs (x3 + 1).toNatClampNeg)]) g2 (.int r, f2) ∧ G f1 f2)
    (kk : ∀ f1 f2, G f1 f2 → lw_St p l e s m b below meth c Dg T3 ad1 ad2 1378 [(0, .ref b), (1, .ref (ad1 0)), (2, .ref (ad2 0)), (3, .int x3)] [] f1 f2) :
    lw_St p l e s m b below meth c Dg T3 ad1 ad2 480 [(0, .ref b), (1, .ref (ad1 0)), (2, .ref (ad2 0)), (3, .int x3)] [] g1 g2 := by
  obtain ⟨hx, hb, hr, hml, hown, hts, hX, hbl, hlocks, hgv⟩ := id C0
  obtain ⟨a1, a2, a3, a4, a5, a6, a7⟩ := id hAd
  obtain ⟨r, f1, f2, hc1, hc2, hG⟩ := hp
  have hM1 := mj_sound (l := l) (T3 := T3) (Dg := Dg) a1 (mj_Cs_of mj_Sok1) mj_hM 900 197 _ _ _ hc1
  have hM2 := mj_sound (l := l) (T3 := T3) (Dg := Dg) a2 (mj_Cs_of mj_Sok2) mj_hM 900 61 _ _ _ hc2
  have kk := kk f1 f2 hG
  intro H locs ls hP1 hP2 hS hl
  refine lv_aload_n hx hb d_law_480 rfl (lv_at hl 1 rfl) ?_
  refine lw_arg C0 hl rfl rfl hS h1 d_law_481 d_law_482 d_law_483 (by decide) d_law_484 d_law_485 ?_
  refine lw_call (as := [.int (xs (x3 + 1).toNatClampNeg)]) (rest := []) (CC := 200) (SS := 300000) (q := (.int r, f1)) (ad := ad1) (ad' := ad2) hx hb hml hown hts hK a6 a3 a4 lwV_52 trivial hM1 rfl (Nat.le_of_ble_eq_true rfl) d_law_486 ⟨by decide, by decide⟩ hP1 hP2 hS hl.1 (fun H locs hP1 hP2 hS => ?_)
  refine lv_aload_n hx hb d_law_489 rfl (lv_at hl 2 rfl) ?_
  refine lw_arg C0 hl rfl rfl hS h1 d_law_490 d_law_491 d_law_492 (by decide) d_law_493 d_law_494 ?_
  refine lw_call (as := [.int (xs (x3 + 1).toNatClampNeg)]) (rest := [.int r]) (CC := 200) (SS := 300000) (q := (.int r, f2)) (ad := ad2) (ad' := ad1) hx hb hml hown hts hK a7 (fun i j hi hj => (a3 j i hj hi).symm) a5 lwV_55 trivial hM2 rfl (Nat.le_of_ble_eq_true rfl) d_law_495 ⟨by decide, by decide⟩ hP2 hP1 hS hl.1 (fun H locs hP2 hP1 hS => ?_)
  refine lv_icmp_eq (tgt := 1378) hx hb d_law_498 (by decide) (fun _ => ?_) (fun q => absurd rfl q)
  exact kk H locs ls hP1 hP2 hS hl
set_option maxHeartbeats 4000000 in
/-- case 9: change -/
theorem lw_c9 (C0 : lw_At p s m meth c b L xs) (hK : va_K Dg mj_CL (mj_tys T3) s) (hAd : lw_Ad s ad1 ad2) {x3 : Int32} (h1 : vp_in (x3 + 1) L) (h2 : vp_in (x3 + 2) L) (h3 : vp_in (x3 + 3) L) {g1 g2 : mj_H} {G : mj_H → mj_H → Prop}
    (hp : ∃ (r : Int32) (f1 f2 : mj_H), mj_Cl mj_S1 mj_CD 900 198 (.ref 0 :: [.int (xs (x3 + 1).toNatClampNeg), .int (xs (x3 + 2).toNatClampNeg), .int (xs (x3 + 3).toNatClampNeg)]) g1 (.int r, f1) ∧ mj_Cl mj_S2 mj_CD 900 62 (.ref 0 :: [.int (xs (x3 + 1).toNatClampNeg), .int (xs (x3 + 2).toNatClampNeg), .int (xs (x3 + 3).toNatClampNeg)]) g2 (.int r, f2) ∧ G f1 f2)
    (kk : ∀ f1 f2, G f1 f2 → lw_St p l e s m b below meth c Dg T3 ad1 ad2 1378 [(0, .ref b), (1, .ref (ad1 0)), (2, .ref (ad2 0)), (3, .int x3)] [] f1 f2) :
    lw_St p l e s m b below meth c Dg T3 ad1 ad2 503 [(0, .ref b), (1, .ref (ad1 0)), (2, .ref (ad2 0)), (3, .int x3)] [] g1 g2 := by
  obtain ⟨hx, hb, hr, hml, hown, hts, hX, hbl, hlocks, hgv⟩ := id C0
  obtain ⟨a1, a2, a3, a4, a5, a6, a7⟩ := id hAd
  obtain ⟨r, f1, f2, hc1, hc2, hG⟩ := hp
  have hM1 := mj_sound (l := l) (T3 := T3) (Dg := Dg) a1 (mj_Cs_of mj_Sok1) mj_hM 900 198 _ _ _ hc1
  have hM2 := mj_sound (l := l) (T3 := T3) (Dg := Dg) a2 (mj_Cs_of mj_Sok2) mj_hM 900 62 _ _ _ hc2
  have kk := kk f1 f2 hG
  intro H locs ls hP1 hP2 hS hl
  refine lv_aload_n hx hb d_law_503 rfl (lv_at hl 1 rfl) ?_
  refine lw_arg C0 hl rfl rfl hS h1 d_law_504 d_law_505 d_law_506 (by decide) d_law_507 d_law_508 ?_
  refine lw_arg C0 hl rfl rfl hS h2 d_law_509 d_law_510 d_law_511 (by decide) d_law_512 d_law_513 ?_
  refine lw_arg C0 hl rfl rfl hS h3 d_law_514 d_law_515 d_law_516 (by decide) d_law_517 d_law_518 ?_
  refine lw_call (as := [.int (xs (x3 + 1).toNatClampNeg), .int (xs (x3 + 2).toNatClampNeg), .int (xs (x3 + 3).toNatClampNeg)]) (rest := []) (CC := 200) (SS := 300000) (q := (.int r, f1)) (ad := ad1) (ad' := ad2) hx hb hml hown hts hK a6 a3 a4 lwV_56 trivial hM1 rfl (Nat.le_of_ble_eq_true rfl) d_law_519 ⟨by decide, by decide⟩ hP1 hP2 hS hl.1 (fun H locs hP1 hP2 hS => ?_)
  refine lv_aload_n hx hb d_law_522 rfl (lv_at hl 2 rfl) ?_
  refine lw_arg C0 hl rfl rfl hS h1 d_law_523 d_law_524 d_law_525 (by decide) d_law_526 d_law_527 ?_
  refine lw_arg C0 hl rfl rfl hS h2 d_law_528 d_law_529 d_law_530 (by decide) d_law_531 d_law_532 ?_
  refine lw_arg C0 hl rfl rfl hS h3 d_law_533 d_law_534 d_law_535 (by decide) d_law_536 d_law_537 ?_
  refine lw_call (as := [.int (xs (x3 + 1).toNatClampNeg), .int (xs (x3 + 2).toNatClampNeg), .int (xs (x3 + 3).toNatClampNeg)]) (rest := [.int r]) (CC := 200) (SS := 300000) (q := (.int r, f2)) (ad := ad2) (ad' := ad1) hx hb hml hown hts hK a7 (fun i j hi hj => (a3 j i hj hi).symm) a5 lwV_59 trivial hM2 rfl (Nat.le_of_ble_eq_true rfl) d_law_538 ⟨by decide, by decide⟩ hP2 hP1 hS hl.1 (fun H locs hP2 hP1 hS => ?_)
  refine lv_icmp_eq (tgt := 1378) hx hb d_law_541 (by decide) (fun _ => ?_) (fun q => absurd rfl q)
  exact kk H locs ls hP1 hP2 hS hl
set_option maxHeartbeats 4000000 in
/-- case 10: changed -/
theorem lw_c10 (C0 : lw_At p s m meth c b L xs) (hK : va_K Dg mj_CL (mj_tys T3) s) (hAd : lw_Ad s ad1 ad2) {x3 : Int32} (h1 : vp_in (x3 + 1) L) {g1 g2 : mj_H} {G : mj_H → mj_H → Prop}
    (hp : ∃ (r : Int64) (f1 f2 : mj_H), mj_Cl mj_S1 mj_CD 900 199 (.ref 0 :: [.int (if (xs (x3 + 1).toNatClampNeg) = 0 then 0 else 1)]) g1 (.long r, f1) ∧ mj_Cl mj_S2 mj_CD 900 64 (.ref 0 :: [.int (if (xs (x3 + 1).toNatClampNeg) = 0 then 0 else 1)]) g2 (.long r, f2) ∧ G f1 f2)
    (kk : ∀ f1 f2, G f1 f2 → lw_St p l e s m b below meth c Dg T3 ad1 ad2 1378 [(0, .ref b), (1, .ref (ad1 0)), (2, .ref (ad2 0)), (3, .int x3)] [] f1 f2) :
    lw_St p l e s m b below meth c Dg T3 ad1 ad2 546 [(0, .ref b), (1, .ref (ad1 0)), (2, .ref (ad2 0)), (3, .int x3)] [] g1 g2 := by
  obtain ⟨hx, hb, hr, hml, hown, hts, hX, hbl, hlocks, hgv⟩ := id C0
  obtain ⟨a1, a2, a3, a4, a5, a6, a7⟩ := id hAd
  obtain ⟨r, f1, f2, hc1, hc2, hG⟩ := hp
  have hM1 := mj_sound (l := l) (T3 := T3) (Dg := Dg) a1 (mj_Cs_of mj_Sok1) mj_hM 900 199 _ _ _ hc1
  have hM2 := mj_sound (l := l) (T3 := T3) (Dg := Dg) a2 (mj_Cs_of mj_Sok2) mj_hM 900 64 _ _ _ hc2
  have kk := kk f1 f2 hG
  intro H locs ls hP1 hP2 hS hl
  by_cases e1 : (xs (x3 + 1).toNatClampNeg) = 0
  · simp only [e1, if_true] at hM1 hM2
    refine lv_aload_n hx hb d_law_546 rfl (lv_at hl 1 rfl) ?_
    refine lw_arg C0 hl rfl rfl hS h1 d_law_547 d_law_548 d_law_549 (by decide) d_law_550 d_law_551 ?_
    refine lv_if_eq (tgt := 559) hx hb d_law_552 (by decide) (fun _ => ?_) (fun q => absurd e1 q)
    refine lv_iconst (v := 0) hx hb d_law_559 (by decide) ?_
    refine lw_call (as := [.int 0]) (rest := []) (CC := 200) (SS := 300000) (q := (.long r, f1)) (ad := ad1) (ad' := ad2) hx hb hml hown hts hK a6 a3 a4 lwV_60 trivial hM1 rfl (Nat.le_of_ble_eq_true rfl) d_law_560 ⟨by decide, by decide⟩ hP1 hP2 hS hl.1 (fun H locs hP1 hP2 hS => ?_)
    refine lv_aload_n hx hb d_law_563 rfl (lv_at hl 2 rfl) ?_
    refine lw_arg C0 hl rfl rfl hS h1 d_law_564 d_law_565 d_law_566 (by decide) d_law_567 d_law_568 ?_
    refine lv_if_eq (tgt := 576) hx hb d_law_569 (by decide) (fun _ => ?_) (fun q => absurd e1 q)
    refine lv_iconst (v := 0) hx hb d_law_576 (by decide) ?_
    refine lw_call (as := [.int 0]) (rest := [.long r]) (CC := 200) (SS := 300000) (q := (.long r, f2)) (ad := ad2) (ad' := ad1) hx hb hml hown hts hK a7 (fun i j hi hj => (a3 j i hj hi).symm) a5 lwV_64 trivial hM2 rfl (Nat.le_of_ble_eq_true rfl) d_law_577 ⟨by decide, by decide⟩ hP2 hP1 hS hl.1 (fun H locs hP2 hP1 hS => ?_)
    refine W.lcmp hx hb d_law_580 ?_
    refine lv_if_eq (tgt := 1378) hx hb d_law_581 (by decide) (fun _ => ?_) (fun q => absurd (lw_cmp0 r) q)
    exact kk H locs ls hP1 hP2 hS hl
  · simp only [e1, if_false] at hM1 hM2
    refine lv_aload_n hx hb d_law_546 rfl (lv_at hl 1 rfl) ?_
    refine lw_arg C0 hl rfl rfl hS h1 d_law_547 d_law_548 d_law_549 (by decide) d_law_550 d_law_551 ?_
    refine lv_if_eq (tgt := 559) hx hb d_law_552 (by decide) (fun q => absurd q e1) (fun _ => ?_)
    refine lv_iconst (v := 1) hx hb d_law_555 (by decide) ?_
    refine lv_goto (tgt := 560) hx hb d_law_556 (by decide) ?_
    refine lw_call (as := [.int 1]) (rest := []) (CC := 200) (SS := 300000) (q := (.long r, f1)) (ad := ad1) (ad' := ad2) hx hb hml hown hts hK a6 a3 a4 lwV_60 trivial hM1 rfl (Nat.le_of_ble_eq_true rfl) d_law_560 ⟨by decide, by decide⟩ hP1 hP2 hS hl.1 (fun H locs hP1 hP2 hS => ?_)
    refine lv_aload_n hx hb d_law_563 rfl (lv_at hl 2 rfl) ?_
    refine lw_arg C0 hl rfl rfl hS h1 d_law_564 d_law_565 d_law_566 (by decide) d_law_567 d_law_568 ?_
    refine lv_if_eq (tgt := 576) hx hb d_law_569 (by decide) (fun q => absurd q e1) (fun _ => ?_)
    refine lv_iconst (v := 1) hx hb d_law_572 (by decide) ?_
    refine lv_goto (tgt := 577) hx hb d_law_573 (by decide) ?_
    refine lw_call (as := [.int 1]) (rest := [.long r]) (CC := 200) (SS := 300000) (q := (.long r, f2)) (ad := ad2) (ad' := ad1) hx hb hml hown hts hK a7 (fun i j hi hj => (a3 j i hj hi).symm) a5 lwV_64 trivial hM2 rfl (Nat.le_of_ble_eq_true rfl) d_law_577 ⟨by decide, by decide⟩ hP2 hP1 hS hl.1 (fun H locs hP2 hP1 hS => ?_)
    refine W.lcmp hx hb d_law_580 ?_
    refine lv_if_eq (tgt := 1378) hx hb d_law_581 (by decide) (fun _ => ?_) (fun q => absurd (lw_cmp0 r) q)
    exact kk H locs ls hP1 hP2 hS hl
set_option maxHeartbeats 4000000 in
/-- case 11: rows -/
theorem lw_c11 (C0 : lw_At p s m meth c b L xs) (hK : va_K Dg mj_CL (mj_tys T3) s) (hAd : lw_Ad s ad1 ad2) {x3 : Int32} {g1 g2 : mj_H} {G : mj_H → mj_H → Prop}
    (hp : ∃ (r : Int64) (f1 f2 : mj_H), mj_Cl mj_S1 mj_CD 900 200 (.ref 0 :: []) g1 (.long r, f1) ∧ mj_Cl mj_S2 mj_CD 900 59 (.ref 0 :: []) g2 (.long r, f2) ∧ G f1 f2)
    (kk : ∀ f1 f2, G f1 f2 → lw_St p l e s m b below meth c Dg T3 ad1 ad2 1378 [(0, .ref b), (1, .ref (ad1 0)), (2, .ref (ad2 0)), (3, .int x3)] [] f1 f2) :
    lw_St p l e s m b below meth c Dg T3 ad1 ad2 586 [(0, .ref b), (1, .ref (ad1 0)), (2, .ref (ad2 0)), (3, .int x3)] [] g1 g2 := by
  obtain ⟨hx, hb, hr, hml, hown, hts, hX, hbl, hlocks, hgv⟩ := id C0
  obtain ⟨a1, a2, a3, a4, a5, a6, a7⟩ := id hAd
  obtain ⟨r, f1, f2, hc1, hc2, hG⟩ := hp
  have hM1 := mj_sound (l := l) (T3 := T3) (Dg := Dg) a1 (mj_Cs_of mj_Sok1) mj_hM 900 200 _ _ _ hc1
  have hM2 := mj_sound (l := l) (T3 := T3) (Dg := Dg) a2 (mj_Cs_of mj_Sok2) mj_hM 900 59 _ _ _ hc2
  have kk := kk f1 f2 hG
  intro H locs ls hP1 hP2 hS hl
  refine lv_aload_n hx hb d_law_586 rfl (lv_at hl 1 rfl) ?_
  refine lw_call (as := []) (rest := []) (CC := 200) (SS := 300000) (q := (.long r, f1)) (ad := ad1) (ad' := ad2) hx hb hml hown hts hK a6 a3 a4 lwV_65 trivial hM1 rfl (Nat.le_of_ble_eq_true rfl) d_law_587 ⟨by decide, by decide⟩ hP1 hP2 hS hl.1 (fun H locs hP1 hP2 hS => ?_)
  refine lv_aload_n hx hb d_law_590 rfl (lv_at hl 2 rfl) ?_
  refine lw_call (as := []) (rest := [.long r]) (CC := 200) (SS := 300000) (q := (.long r, f2)) (ad := ad2) (ad' := ad1) hx hb hml hown hts hK a7 (fun i j hi hj => (a3 j i hj hi).symm) a5 lwV_69 trivial hM2 rfl (Nat.le_of_ble_eq_true rfl) d_law_591 ⟨by decide, by decide⟩ hP2 hP1 hS hl.1 (fun H locs hP2 hP1 hS => ?_)
  refine W.lcmp hx hb d_law_594 ?_
  refine lv_if_eq (tgt := 1378) hx hb d_law_595 (by decide) (fun _ => ?_) (fun q => absurd (lw_cmp0 r) q)
  exact kk H locs ls hP1 hP2 hS hl
set_option maxHeartbeats 4000000 in
/-- case 12: unsure -/
theorem lw_c12 (C0 : lw_At p s m meth c b L xs) (hK : va_K Dg mj_CL (mj_tys T3) s) (hAd : lw_Ad s ad1 ad2) {x3 : Int32} (h1 : vp_in (x3 + 1) L) {g1 g2 : mj_H} {G : mj_H → mj_H → Prop}
    (hp : ∃ (r : Int64) (f1 f2 : mj_H), mj_Cl mj_S1 mj_CD 900 201 (.ref 0 :: [.int (if (xs (x3 + 1).toNatClampNeg) = 0 then 0 else 1)]) g1 (.long r, f1) ∧ mj_Cl mj_S2 mj_CD 900 69 (.ref 0 :: [.int (if (xs (x3 + 1).toNatClampNeg) = 0 then 0 else 1)]) g2 (.long r, f2) ∧ G f1 f2)
    (kk : ∀ f1 f2, G f1 f2 → lw_St p l e s m b below meth c Dg T3 ad1 ad2 1378 [(0, .ref b), (1, .ref (ad1 0)), (2, .ref (ad2 0)), (3, .int x3)] [] f1 f2) :
    lw_St p l e s m b below meth c Dg T3 ad1 ad2 600 [(0, .ref b), (1, .ref (ad1 0)), (2, .ref (ad2 0)), (3, .int x3)] [] g1 g2 := by
  obtain ⟨hx, hb, hr, hml, hown, hts, hX, hbl, hlocks, hgv⟩ := id C0
  obtain ⟨a1, a2, a3, a4, a5, a6, a7⟩ := id hAd
  obtain ⟨r, f1, f2, hc1, hc2, hG⟩ := hp
  have hM1 := mj_sound (l := l) (T3 := T3) (Dg := Dg) a1 (mj_Cs_of mj_Sok1) mj_hM 900 201 _ _ _ hc1
  have hM2 := mj_sound (l := l) (T3 := T3) (Dg := Dg) a2 (mj_Cs_of mj_Sok2) mj_hM 900 69 _ _ _ hc2
  have kk := kk f1 f2 hG
  intro H locs ls hP1 hP2 hS hl
  by_cases e1 : (xs (x3 + 1).toNatClampNeg) = 0
  · simp only [e1, if_true] at hM1 hM2
    refine lv_aload_n hx hb d_law_600 rfl (lv_at hl 1 rfl) ?_
    refine lw_arg C0 hl rfl rfl hS h1 d_law_601 d_law_602 d_law_603 (by decide) d_law_604 d_law_605 ?_
    refine lv_if_eq (tgt := 613) hx hb d_law_606 (by decide) (fun _ => ?_) (fun q => absurd e1 q)
    refine lv_iconst (v := 0) hx hb d_law_613 (by decide) ?_
    refine lw_call (as := [.int 0]) (rest := []) (CC := 200) (SS := 300000) (q := (.long r, f1)) (ad := ad1) (ad' := ad2) hx hb hml hown hts hK a6 a3 a4 lwV_70 trivial hM1 rfl (Nat.le_of_ble_eq_true rfl) d_law_614 ⟨by decide, by decide⟩ hP1 hP2 hS hl.1 (fun H locs hP1 hP2 hS => ?_)
    refine lv_aload_n hx hb d_law_617 rfl (lv_at hl 2 rfl) ?_
    refine lw_arg C0 hl rfl rfl hS h1 d_law_618 d_law_619 d_law_620 (by decide) d_law_621 d_law_622 ?_
    refine lv_if_eq (tgt := 630) hx hb d_law_623 (by decide) (fun _ => ?_) (fun q => absurd e1 q)
    refine lv_iconst (v := 0) hx hb d_law_630 (by decide) ?_
    refine lw_call (as := [.int 0]) (rest := [.long r]) (CC := 200) (SS := 300000) (q := (.long r, f2)) (ad := ad2) (ad' := ad1) hx hb hml hown hts hK a7 (fun i j hi hj => (a3 j i hj hi).symm) a5 lwV_73 trivial hM2 rfl (Nat.le_of_ble_eq_true rfl) d_law_631 ⟨by decide, by decide⟩ hP2 hP1 hS hl.1 (fun H locs hP2 hP1 hS => ?_)
    refine W.lcmp hx hb d_law_634 ?_
    refine lv_if_eq (tgt := 1378) hx hb d_law_635 (by decide) (fun _ => ?_) (fun q => absurd (lw_cmp0 r) q)
    exact kk H locs ls hP1 hP2 hS hl
  · simp only [e1, if_false] at hM1 hM2
    refine lv_aload_n hx hb d_law_600 rfl (lv_at hl 1 rfl) ?_
    refine lw_arg C0 hl rfl rfl hS h1 d_law_601 d_law_602 d_law_603 (by decide) d_law_604 d_law_605 ?_
    refine lv_if_eq (tgt := 613) hx hb d_law_606 (by decide) (fun q => absurd q e1) (fun _ => ?_)
    refine lv_iconst (v := 1) hx hb d_law_609 (by decide) ?_
    refine lv_goto (tgt := 614) hx hb d_law_610 (by decide) ?_
    refine lw_call (as := [.int 1]) (rest := []) (CC := 200) (SS := 300000) (q := (.long r, f1)) (ad := ad1) (ad' := ad2) hx hb hml hown hts hK a6 a3 a4 lwV_70 trivial hM1 rfl (Nat.le_of_ble_eq_true rfl) d_law_614 ⟨by decide, by decide⟩ hP1 hP2 hS hl.1 (fun H locs hP1 hP2 hS => ?_)
    refine lv_aload_n hx hb d_law_617 rfl (lv_at hl 2 rfl) ?_
    refine lw_arg C0 hl rfl rfl hS h1 d_law_618 d_law_619 d_law_620 (by decide) d_law_621 d_law_622 ?_
    refine lv_if_eq (tgt := 630) hx hb d_law_623 (by decide) (fun q => absurd q e1) (fun _ => ?_)
    refine lv_iconst (v := 1) hx hb d_law_626 (by decide) ?_
    refine lv_goto (tgt := 631) hx hb d_law_627 (by decide) ?_
    refine lw_call (as := [.int 1]) (rest := [.long r]) (CC := 200) (SS := 300000) (q := (.long r, f2)) (ad := ad2) (ad' := ad1) hx hb hml hown hts hK a7 (fun i j hi hj => (a3 j i hj hi).symm) a5 lwV_73 trivial hM2 rfl (Nat.le_of_ble_eq_true rfl) d_law_631 ⟨by decide, by decide⟩ hP2 hP1 hS hl.1 (fun H locs hP2 hP1 hS => ?_)
    refine W.lcmp hx hb d_law_634 ?_
    refine lv_if_eq (tgt := 1378) hx hb d_law_635 (by decide) (fun _ => ?_) (fun q => absurd (lw_cmp0 r) q)
    exact kk H locs ls hP1 hP2 hS hl
set_option maxHeartbeats 4000000 in
/-- case 13: maybe -/
theorem lw_c13 (C0 : lw_At p s m meth c b L xs) (hK : va_K Dg mj_CL (mj_tys T3) s) (hAd : lw_Ad s ad1 ad2) {x3 : Int32} (h1 : vp_in (x3 + 1) L) (h2 : vp_in (x3 + 2) L) {g1 g2 : mj_H} {G : mj_H → mj_H → Prop}
    (hp : ∃ (r : Int32) (f1 f2 : mj_H), mj_Cl mj_S1 mj_CD 900 202 (.ref 0 :: [.int (xs (x3 + 1).toNatClampNeg), .int (xs (x3 + 2).toNatClampNeg)]) g1 (.int r, f1) ∧ mj_Cl mj_S2 mj_CD 900 65 (.ref 0 :: [.int (xs (x3 + 1).toNatClampNeg), .int (xs (x3 + 2).toNatClampNeg)]) g2 (.int r, f2) ∧ G f1 f2)
    (kk : ∀ f1 f2, G f1 f2 → lw_St p l e s m b below meth c Dg T3 ad1 ad2 1378 [(0, .ref b), (1, .ref (ad1 0)), (2, .ref (ad2 0)), (3, .int x3)] [] f1 f2) :
    lw_St p l e s m b below meth c Dg T3 ad1 ad2 640 [(0, .ref b), (1, .ref (ad1 0)), (2, .ref (ad2 0)), (3, .int x3)] [] g1 g2 := by
  obtain ⟨hx, hb, hr, hml, hown, hts, hX, hbl, hlocks, hgv⟩ := id C0
  obtain ⟨a1, a2, a3, a4, a5, a6, a7⟩ := id hAd
  obtain ⟨r, f1, f2, hc1, hc2, hG⟩ := hp
  have hM1 := mj_sound (l := l) (T3 := T3) (Dg := Dg) a1 (mj_Cs_of mj_Sok1) mj_hM 900 202 _ _ _ hc1
  have hM2 := mj_sound (l := l) (T3 := T3) (Dg := Dg) a2 (mj_Cs_of mj_Sok2) mj_hM 900 65 _ _ _ hc2
  have kk := kk f1 f2 hG
  intro H locs ls hP1 hP2 hS hl
  refine lv_aload_n hx hb d_law_640 rfl (lv_at hl 1 rfl) ?_
  refine lw_arg C0 hl rfl rfl hS h1 d_law_641 d_law_642 d_law_643 (by decide) d_law_644 d_law_645 ?_
  refine lw_arg C0 hl rfl rfl hS h2 d_law_646 d_law_647 d_law_648 (by decide) d_law_649 d_law_650 ?_
  refine lw_call (as := [.int (xs (x3 + 1).toNatClampNeg), .int (xs (x3 + 2).toNatClampNeg)]) (rest := []) (CC := 200) (SS := 300000) (q := (.int r, f1)) (ad := ad1) (ad' := ad2) hx hb hml hown hts hK a6 a3 a4 lwV_74 trivial hM1 rfl (Nat.le_of_ble_eq_true rfl) d_law_651 ⟨by decide, by decide⟩ hP1 hP2 hS hl.1 (fun H locs hP1 hP2 hS => ?_)
  refine lv_aload_n hx hb d_law_654 rfl (lv_at hl 2 rfl) ?_
  refine lw_arg C0 hl rfl rfl hS h1 d_law_655 d_law_656 d_law_657 (by decide) d_law_658 d_law_659 ?_
  refine lw_arg C0 hl rfl rfl hS h2 d_law_660 d_law_661 d_law_662 (by decide) d_law_663 d_law_664 ?_
  refine lw_call (as := [.int (xs (x3 + 1).toNatClampNeg), .int (xs (x3 + 2).toNatClampNeg)]) (rest := [.int r]) (CC := 200) (SS := 300000) (q := (.int r, f2)) (ad := ad2) (ad' := ad1) hx hb hml hown hts hK a7 (fun i j hi hj => (a3 j i hj hi).symm) a5 lwV_77 trivial hM2 rfl (Nat.le_of_ble_eq_true rfl) d_law_665 ⟨by decide, by decide⟩ hP2 hP1 hS hl.1 (fun H locs hP2 hP1 hS => ?_)
  refine lv_icmp_eq (tgt := 1378) hx hb d_law_668 (by decide) (fun _ => ?_) (fun q => absurd rfl q)
  exact kk H locs ls hP1 hP2 hS hl
set_option maxHeartbeats 4000000 in
/-- case 14: front -/
theorem lw_c14 (C0 : lw_At p s m meth c b L xs) (hK : va_K Dg mj_CL (mj_tys T3) s) (hAd : lw_Ad s ad1 ad2) {x3 : Int32} (h1 : vp_in (x3 + 1) L) (h2 : vp_in (x3 + 2) L) (h3 : vp_in (x3 + 3) L) {g1 g2 : mj_H} {G : mj_H → mj_H → Prop}
    (hp : ∃ (r : Int32) (f1 f2 : mj_H), mj_Cl mj_S1 mj_CD 900 203 (.ref 0 :: [.int (xs (x3 + 1).toNatClampNeg), .int (xs (x3 + 2).toNatClampNeg), .int (xs (x3 + 3).toNatClampNeg)]) g1 (.int r, f1) ∧ mj_Cl mj_S2 mj_CD 900 70 (.ref 0 :: [.int (xs (x3 + 1).toNatClampNeg), .int (xs (x3 + 2).toNatClampNeg), .int (xs (x3 + 3).toNatClampNeg)]) g2 (.int r, f2) ∧ G f1 f2)
    (kk : ∀ f1 f2, G f1 f2 → lw_St p l e s m b below meth c Dg T3 ad1 ad2 1378 [(0, .ref b), (1, .ref (ad1 0)), (2, .ref (ad2 0)), (3, .int x3)] [] f1 f2) :
    lw_St p l e s m b below meth c Dg T3 ad1 ad2 673 [(0, .ref b), (1, .ref (ad1 0)), (2, .ref (ad2 0)), (3, .int x3)] [] g1 g2 := by
  obtain ⟨hx, hb, hr, hml, hown, hts, hX, hbl, hlocks, hgv⟩ := id C0
  obtain ⟨a1, a2, a3, a4, a5, a6, a7⟩ := id hAd
  obtain ⟨r, f1, f2, hc1, hc2, hG⟩ := hp
  have hM1 := mj_sound (l := l) (T3 := T3) (Dg := Dg) a1 (mj_Cs_of mj_Sok1) mj_hM 900 203 _ _ _ hc1
  have hM2 := mj_sound (l := l) (T3 := T3) (Dg := Dg) a2 (mj_Cs_of mj_Sok2) mj_hM 900 70 _ _ _ hc2
  have kk := kk f1 f2 hG
  intro H locs ls hP1 hP2 hS hl
  refine lv_aload_n hx hb d_law_673 rfl (lv_at hl 1 rfl) ?_
  refine lw_arg C0 hl rfl rfl hS h1 d_law_674 d_law_675 d_law_676 (by decide) d_law_677 d_law_678 ?_
  refine lw_arg C0 hl rfl rfl hS h2 d_law_679 d_law_680 d_law_681 (by decide) d_law_682 d_law_683 ?_
  refine lw_arg C0 hl rfl rfl hS h3 d_law_684 d_law_685 d_law_686 (by decide) d_law_687 d_law_688 ?_
  refine lw_call (as := [.int (xs (x3 + 1).toNatClampNeg), .int (xs (x3 + 2).toNatClampNeg), .int (xs (x3 + 3).toNatClampNeg)]) (rest := []) (CC := 200) (SS := 300000) (q := (.int r, f1)) (ad := ad1) (ad' := ad2) hx hb hml hown hts hK a6 a3 a4 lwV_78 trivial hM1 rfl (Nat.le_of_ble_eq_true rfl) d_law_689 ⟨by decide, by decide⟩ hP1 hP2 hS hl.1 (fun H locs hP1 hP2 hS => ?_)
  refine lv_aload_n hx hb d_law_692 rfl (lv_at hl 2 rfl) ?_
  refine lw_arg C0 hl rfl rfl hS h1 d_law_693 d_law_694 d_law_695 (by decide) d_law_696 d_law_697 ?_
  refine lw_arg C0 hl rfl rfl hS h2 d_law_698 d_law_699 d_law_700 (by decide) d_law_701 d_law_702 ?_
  refine lw_arg C0 hl rfl rfl hS h3 d_law_703 d_law_704 d_law_705 (by decide) d_law_706 d_law_707 ?_
  refine lw_call (as := [.int (xs (x3 + 1).toNatClampNeg), .int (xs (x3 + 2).toNatClampNeg), .int (xs (x3 + 3).toNatClampNeg)]) (rest := [.int r]) (CC := 200) (SS := 300000) (q := (.int r, f2)) (ad := ad2) (ad' := ad1) hx hb hml hown hts hK a7 (fun i j hi hj => (a3 j i hj hi).symm) a5 lwV_81 trivial hM2 rfl (Nat.le_of_ble_eq_true rfl) d_law_708 ⟨by decide, by decide⟩ hP2 hP1 hS hl.1 (fun H locs hP2 hP1 hS => ?_)
  refine lv_icmp_eq (tgt := 1378) hx hb d_law_711 (by decide) (fun _ => ?_) (fun q => absurd rfl q)
  exact kk H locs ls hP1 hP2 hS hl
set_option maxHeartbeats 4000000 in
/-- case 15: loss -/
theorem lw_c15 (C0 : lw_At p s m meth c b L xs) (hK : va_K Dg mj_CL (mj_tys T3) s) (hAd : lw_Ad s ad1 ad2) {x3 : Int32} (h1 : vp_in (x3 + 1) L) (h2 : vp_in (x3 + 2) L) {g1 g2 : mj_H} {G : mj_H → mj_H → Prop}
    (hp : ∃ (r : Int32) (f1 f2 : mj_H), mj_Cl mj_S1 mj_CD 900 230 (.ref 0 :: [.int (xs (x3 + 1).toNatClampNeg), .int (xs (x3 + 2).toNatClampNeg)]) g1 (.int r, f1) ∧ mj_Cl mj_S2 mj_CD 900 84 (.ref 0 :: [.int (xs (x3 + 1).toNatClampNeg), .int (xs (x3 + 2).toNatClampNeg)]) g2 (.int r, f2) ∧ G f1 f2)
    (kk : ∀ f1 f2, G f1 f2 → lw_St p l e s m b below meth c Dg T3 ad1 ad2 1378 [(0, .ref b), (1, .ref (ad1 0)), (2, .ref (ad2 0)), (3, .int x3)] [] f1 f2) :
    lw_St p l e s m b below meth c Dg T3 ad1 ad2 716 [(0, .ref b), (1, .ref (ad1 0)), (2, .ref (ad2 0)), (3, .int x3)] [] g1 g2 := by
  obtain ⟨hx, hb, hr, hml, hown, hts, hX, hbl, hlocks, hgv⟩ := id C0
  obtain ⟨a1, a2, a3, a4, a5, a6, a7⟩ := id hAd
  obtain ⟨r, f1, f2, hc1, hc2, hG⟩ := hp
  have hM1 := mj_sound (l := l) (T3 := T3) (Dg := Dg) a1 (mj_Cs_of mj_Sok1) mj_hM 900 230 _ _ _ hc1
  have hM2 := mj_sound (l := l) (T3 := T3) (Dg := Dg) a2 (mj_Cs_of mj_Sok2) mj_hM 900 84 _ _ _ hc2
  have kk := kk f1 f2 hG
  intro H locs ls hP1 hP2 hS hl
  refine lv_aload_n hx hb d_law_716 rfl (lv_at hl 1 rfl) ?_
  refine lw_arg C0 hl rfl rfl hS h1 d_law_717 d_law_718 d_law_719 (by decide) d_law_720 d_law_721 ?_
  refine lw_arg C0 hl rfl rfl hS h2 d_law_722 d_law_723 d_law_724 (by decide) d_law_725 d_law_726 ?_
  refine lw_call (as := [.int (xs (x3 + 1).toNatClampNeg), .int (xs (x3 + 2).toNatClampNeg)]) (rest := []) (CC := 200) (SS := 300000) (q := (.int r, f1)) (ad := ad1) (ad' := ad2) hx hb hml hown hts hK a6 a3 a4 lwV_82 trivial hM1 rfl (Nat.le_of_ble_eq_true rfl) d_law_727 ⟨by decide, by decide⟩ hP1 hP2 hS hl.1 (fun H locs hP1 hP2 hS => ?_)
  refine lv_aload_n hx hb d_law_730 rfl (lv_at hl 2 rfl) ?_
  refine lw_arg C0 hl rfl rfl hS h1 d_law_731 d_law_732 d_law_733 (by decide) d_law_734 d_law_735 ?_
  refine lw_arg C0 hl rfl rfl hS h2 d_law_736 d_law_737 d_law_738 (by decide) d_law_739 d_law_740 ?_
  refine lw_call (as := [.int (xs (x3 + 1).toNatClampNeg), .int (xs (x3 + 2).toNatClampNeg)]) (rest := [.int r]) (CC := 200) (SS := 300000) (q := (.int r, f2)) (ad := ad2) (ad' := ad1) hx hb hml hown hts hK a7 (fun i j hi hj => (a3 j i hj hi).symm) a5 lwV_85 trivial hM2 rfl (Nat.le_of_ble_eq_true rfl) d_law_741 ⟨by decide, by decide⟩ hP2 hP1 hS hl.1 (fun H locs hP2 hP1 hS => ?_)
  refine lv_icmp_eq (tgt := 1378) hx hb d_law_744 (by decide) (fun _ => ?_) (fun q => absurd rfl q)
  exact kk H locs ls hP1 hP2 hS hl
set_option maxHeartbeats 4000000 in
/-- case 16: who -/
theorem lw_c16 (C0 : lw_At p s m meth c b L xs) (hK : va_K Dg mj_CL (mj_tys T3) s) (hAd : lw_Ad s ad1 ad2) {x3 : Int32} (h1 : vp_in (x3 + 1) L) {g1 g2 : mj_H} {G : mj_H → mj_H → Prop}
    (hp : ∃ (r : Int32) (f1 f2 : mj_H), mj_Cl mj_S1 mj_CD 900 232 (.ref 0 :: [.int (xs (x3 + 1).toNatClampNeg)]) g1 (.int r, f1) ∧ mj_Cl mj_S2 mj_CD 900 86 (.ref 0 :: [.int (xs (x3 + 1).toNatClampNeg)]) g2 (.int r, f2) ∧ G f1 f2)
    (kk : ∀ f1 f2, G f1 f2 → lw_St p l e s m b below meth c Dg T3 ad1 ad2 1378 [(0, .ref b), (1, .ref (ad1 0)), (2, .ref (ad2 0)), (3, .int x3)] [] f1 f2) :
    lw_St p l e s m b below meth c Dg T3 ad1 ad2 749 [(0, .ref b), (1, .ref (ad1 0)), (2, .ref (ad2 0)), (3, .int x3)] [] g1 g2 := by
  obtain ⟨hx, hb, hr, hml, hown, hts, hX, hbl, hlocks, hgv⟩ := id C0
  obtain ⟨a1, a2, a3, a4, a5, a6, a7⟩ := id hAd
  obtain ⟨r, f1, f2, hc1, hc2, hG⟩ := hp
  have hM1 := mj_sound (l := l) (T3 := T3) (Dg := Dg) a1 (mj_Cs_of mj_Sok1) mj_hM 900 232 _ _ _ hc1
  have hM2 := mj_sound (l := l) (T3 := T3) (Dg := Dg) a2 (mj_Cs_of mj_Sok2) mj_hM 900 86 _ _ _ hc2
  have kk := kk f1 f2 hG
  intro H locs ls hP1 hP2 hS hl
  refine lv_aload_n hx hb d_law_749 rfl (lv_at hl 1 rfl) ?_
  refine lw_arg C0 hl rfl rfl hS h1 d_law_750 d_law_751 d_law_752 (by decide) d_law_753 d_law_754 ?_
  refine lw_call (as := [.int (xs (x3 + 1).toNatClampNeg)]) (rest := []) (CC := 200) (SS := 300000) (q := (.int r, f1)) (ad := ad1) (ad' := ad2) hx hb hml hown hts hK a6 a3 a4 lwV_86 trivial hM1 rfl (Nat.le_of_ble_eq_true rfl) d_law_755 ⟨by decide, by decide⟩ hP1 hP2 hS hl.1 (fun H locs hP1 hP2 hS => ?_)
  refine lv_aload_n hx hb d_law_758 rfl (lv_at hl 2 rfl) ?_
  refine lw_arg C0 hl rfl rfl hS h1 d_law_759 d_law_760 d_law_761 (by decide) d_law_762 d_law_763 ?_
  refine lw_call (as := [.int (xs (x3 + 1).toNatClampNeg)]) (rest := [.int r]) (CC := 200) (SS := 300000) (q := (.int r, f2)) (ad := ad2) (ad' := ad1) hx hb hml hown hts hK a7 (fun i j hi hj => (a3 j i hj hi).symm) a5 lwV_89 trivial hM2 rfl (Nat.le_of_ble_eq_true rfl) d_law_764 ⟨by decide, by decide⟩ hP2 hP1 hS hl.1 (fun H locs hP2 hP1 hS => ?_)
  refine lv_icmp_eq (tgt := 1378) hx hb d_law_767 (by decide) (fun _ => ?_) (fun q => absurd rfl q)
  exact kk H locs ls hP1 hP2 hS hl
set_option maxHeartbeats 4000000 in
/-- case 17: knot -/
theorem lw_c17 (C0 : lw_At p s m meth c b L xs) (hK : va_K Dg mj_CL (mj_tys T3) s) (hAd : lw_Ad s ad1 ad2) {x3 : Int32} (h1 : vp_in (x3 + 1) L) (h2 : vp_in (x3 + 2) L) {g1 g2 : mj_H} {G : mj_H → mj_H → Prop}
    (hp : ∃ (r : Int32) (f1 f2 : mj_H), mj_Cl mj_S1 mj_CD 900 234 (.ref 0 :: [.int (xs (x3 + 1).toNatClampNeg), .int (xs (x3 + 2).toNatClampNeg)]) g1 (.int r, f1) ∧ mj_Cl mj_S2 mj_CD 900 87 (.ref 0 :: [.int (xs (x3 + 1).toNatClampNeg), .int (xs (x3 + 2).toNatClampNeg)]) g2 (.int r, f2) ∧ G f1 f2)
    (kk : ∀ f1 f2, G f1 f2 → lw_St p l e s m b below meth c Dg T3 ad1 ad2 1378 [(0, .ref b), (1, .ref (ad1 0)), (2, .ref (ad2 0)), (3, .int x3)] [] f1 f2) :
    lw_St p l e s m b below meth c Dg T3 ad1 ad2 772 [(0, .ref b), (1, .ref (ad1 0)), (2, .ref (ad2 0)), (3, .int x3)] [] g1 g2 := by
  obtain ⟨hx, hb, hr, hml, hown, hts, hX, hbl, hlocks, hgv⟩ := id C0
  obtain ⟨a1, a2, a3, a4, a5, a6, a7⟩ := id hAd
  obtain ⟨r, f1, f2, hc1, hc2, hG⟩ := hp
  have hM1 := mj_sound (l := l) (T3 := T3) (Dg := Dg) a1 (mj_Cs_of mj_Sok1) mj_hM 900 234 _ _ _ hc1
  have hM2 := mj_sound (l := l) (T3 := T3) (Dg := Dg) a2 (mj_Cs_of mj_Sok2) mj_hM 900 87 _ _ _ hc2
  have kk := kk f1 f2 hG
  intro H locs ls hP1 hP2 hS hl
  refine lv_aload_n hx hb d_law_772 rfl (lv_at hl 1 rfl) ?_
  refine lw_arg C0 hl rfl rfl hS h1 d_law_773 d_law_774 d_law_775 (by decide) d_law_776 d_law_777 ?_
  refine lw_arg C0 hl rfl rfl hS h2 d_law_778 d_law_779 d_law_780 (by decide) d_law_781 d_law_782 ?_
  refine lw_call (as := [.int (xs (x3 + 1).toNatClampNeg), .int (xs (x3 + 2).toNatClampNeg)]) (rest := []) (CC := 200) (SS := 300000) (q := (.int r, f1)) (ad := ad1) (ad' := ad2) hx hb hml hown hts hK a6 a3 a4 lwV_90 trivial hM1 rfl (Nat.le_of_ble_eq_true rfl) d_law_783 ⟨by decide, by decide⟩ hP1 hP2 hS hl.1 (fun H locs hP1 hP2 hS => ?_)
  refine lv_aload_n hx hb d_law_786 rfl (lv_at hl 2 rfl) ?_
  refine lw_arg C0 hl rfl rfl hS h1 d_law_787 d_law_788 d_law_789 (by decide) d_law_790 d_law_791 ?_
  refine lw_arg C0 hl rfl rfl hS h2 d_law_792 d_law_793 d_law_794 (by decide) d_law_795 d_law_796 ?_
  refine lw_call (as := [.int (xs (x3 + 1).toNatClampNeg), .int (xs (x3 + 2).toNatClampNeg)]) (rest := [.int r]) (CC := 200) (SS := 300000) (q := (.int r, f2)) (ad := ad2) (ad' := ad1) hx hb hml hown hts hK a7 (fun i j hi hj => (a3 j i hj hi).symm) a5 lwV_93 trivial hM2 rfl (Nat.le_of_ble_eq_true rfl) d_law_797 ⟨by decide, by decide⟩ hP2 hP1 hS hl.1 (fun H locs hP2 hP1 hS => ?_)
  refine lv_icmp_eq (tgt := 1378) hx hb d_law_800 (by decide) (fun _ => ?_) (fun q => absurd rfl q)
  exact kk H locs ls hP1 hP2 hS hl
set_option maxHeartbeats 4000000 in
/-- case 18: grid -/
theorem lw_c18 (C0 : lw_At p s m meth c b L xs) (hK : va_K Dg mj_CL (mj_tys T3) s) (hAd : lw_Ad s ad1 ad2) {x3 : Int32} (h1 : vp_in (x3 + 1) L) {g1 g2 : mj_H} {G : mj_H → mj_H → Prop}
    (hp : ∃ (r : Int32) (f1 f2 : mj_H), mj_Cl mj_S1 mj_CD 900 236 (.ref 0 :: [.int (xs (x3 + 1).toNatClampNeg)]) g1 (.int r, f1) ∧ mj_Cl mj_S2 mj_CD 900 88 (.ref 0 :: [.int (xs (x3 + 1).toNatClampNeg)]) g2 (.int r, f2) ∧ G f1 f2)
    (kk : ∀ f1 f2, G f1 f2 → lw_St p l e s m b below meth c Dg T3 ad1 ad2 1378 [(0, .ref b), (1, .ref (ad1 0)), (2, .ref (ad2 0)), (3, .int x3)] [] f1 f2) :
    lw_St p l e s m b below meth c Dg T3 ad1 ad2 805 [(0, .ref b), (1, .ref (ad1 0)), (2, .ref (ad2 0)), (3, .int x3)] [] g1 g2 := by
  obtain ⟨hx, hb, hr, hml, hown, hts, hX, hbl, hlocks, hgv⟩ := id C0
  obtain ⟨a1, a2, a3, a4, a5, a6, a7⟩ := id hAd
  obtain ⟨r, f1, f2, hc1, hc2, hG⟩ := hp
  have hM1 := mj_sound (l := l) (T3 := T3) (Dg := Dg) a1 (mj_Cs_of mj_Sok1) mj_hM 900 236 _ _ _ hc1
  have hM2 := mj_sound (l := l) (T3 := T3) (Dg := Dg) a2 (mj_Cs_of mj_Sok2) mj_hM 900 88 _ _ _ hc2
  have kk := kk f1 f2 hG
  intro H locs ls hP1 hP2 hS hl
  refine lv_aload_n hx hb d_law_805 rfl (lv_at hl 1 rfl) ?_
  refine lw_arg C0 hl rfl rfl hS h1 d_law_806 d_law_807 d_law_808 (by decide) d_law_809 d_law_810 ?_
  refine lw_call (as := [.int (xs (x3 + 1).toNatClampNeg)]) (rest := []) (CC := 200) (SS := 300000) (q := (.int r, f1)) (ad := ad1) (ad' := ad2) hx hb hml hown hts hK a6 a3 a4 lwV_94 trivial hM1 rfl (Nat.le_of_ble_eq_true rfl) d_law_811 ⟨by decide, by decide⟩ hP1 hP2 hS hl.1 (fun H locs hP1 hP2 hS => ?_)
  refine lv_aload_n hx hb d_law_814 rfl (lv_at hl 2 rfl) ?_
  refine lw_arg C0 hl rfl rfl hS h1 d_law_815 d_law_816 d_law_817 (by decide) d_law_818 d_law_819 ?_
  refine lw_call (as := [.int (xs (x3 + 1).toNatClampNeg)]) (rest := [.int r]) (CC := 200) (SS := 300000) (q := (.int r, f2)) (ad := ad2) (ad' := ad1) hx hb hml hown hts hK a7 (fun i j hi hj => (a3 j i hj hi).symm) a5 lwV_97 trivial hM2 rfl (Nat.le_of_ble_eq_true rfl) d_law_820 ⟨by decide, by decide⟩ hP2 hP1 hS hl.1 (fun H locs hP2 hP1 hS => ?_)
  refine lv_icmp_eq (tgt := 1378) hx hb d_law_823 (by decide) (fun _ => ?_) (fun q => absurd rfl q)
  exact kk H locs ls hP1 hP2 hS hl
set_option maxHeartbeats 4000000 in
/-- case 19: corner -/
theorem lw_c19 (C0 : lw_At p s m meth c b L xs) (hK : va_K Dg mj_CL (mj_tys T3) s) (hAd : lw_Ad s ad1 ad2) {x3 : Int32} (h1 : vp_in (x3 + 1) L) {g1 g2 : mj_H} {G : mj_H → mj_H → Prop}
    (hp : ∃ (r : Int32) (f1 f2 : mj_H), mj_Cl mj_S1 mj_CD 900 237 (.ref 0 :: [.int (xs (x3 + 1).toNatClampNeg)]) g1 (.int r, f1) ∧ mj_Cl mj_S2 mj_CD 900 89 (.ref 0 :: [.int (xs (x3 + 1).toNatClampNeg)]) g2 (.int r, f2) ∧ G f1 f2)
    (kk : ∀ f1 f2, G f1 f2 → lw_St p l e s m b below meth c Dg T3 ad1 ad2 1378 [(0, .ref b), (1, .ref (ad1 0)), (2, .ref (ad2 0)), (3, .int x3)] [] f1 f2) :
    lw_St p l e s m b below meth c Dg T3 ad1 ad2 828 [(0, .ref b), (1, .ref (ad1 0)), (2, .ref (ad2 0)), (3, .int x3)] [] g1 g2 := by
  obtain ⟨hx, hb, hr, hml, hown, hts, hX, hbl, hlocks, hgv⟩ := id C0
  obtain ⟨a1, a2, a3, a4, a5, a6, a7⟩ := id hAd
  obtain ⟨r, f1, f2, hc1, hc2, hG⟩ := hp
  have hM1 := mj_sound (l := l) (T3 := T3) (Dg := Dg) a1 (mj_Cs_of mj_Sok1) mj_hM 900 237 _ _ _ hc1
  have hM2 := mj_sound (l := l) (T3 := T3) (Dg := Dg) a2 (mj_Cs_of mj_Sok2) mj_hM 900 89 _ _ _ hc2
  have kk := kk f1 f2 hG
  intro H locs ls hP1 hP2 hS hl
  refine lv_aload_n hx hb d_law_828 rfl (lv_at hl 1 rfl) ?_
  refine lw_arg C0 hl rfl rfl hS h1 d_law_829 d_law_830 d_law_831 (by decide) d_law_832 d_law_833 ?_
  refine lw_call (as := [.int (xs (x3 + 1).toNatClampNeg)]) (rest := []) (CC := 200) (SS := 300000) (q := (.int r, f1)) (ad := ad1) (ad' := ad2) hx hb hml hown hts hK a6 a3 a4 lwV_98 trivial hM1 rfl (Nat.le_of_ble_eq_true rfl) d_law_834 ⟨by decide, by decide⟩ hP1 hP2 hS hl.1 (fun H locs hP1 hP2 hS => ?_)
  refine lv_aload_n hx hb d_law_837 rfl (lv_at hl 2 rfl) ?_
  refine lw_arg C0 hl rfl rfl hS h1 d_law_838 d_law_839 d_law_840 (by decide) d_law_841 d_law_842 ?_
  refine lw_call (as := [.int (xs (x3 + 1).toNatClampNeg)]) (rest := [.int r]) (CC := 200) (SS := 300000) (q := (.int r, f2)) (ad := ad2) (ad' := ad1) hx hb hml hown hts hK a7 (fun i j hi hj => (a3 j i hj hi).symm) a5 lwV_101 trivial hM2 rfl (Nat.le_of_ble_eq_true rfl) d_law_843 ⟨by decide, by decide⟩ hP2 hP1 hS hl.1 (fun H locs hP2 hP1 hS => ?_)
  refine lv_icmp_eq (tgt := 1378) hx hb d_law_846 (by decide) (fun _ => ?_) (fun q => absurd rfl q)
  exact kk H locs ls hP1 hP2 hS hl
set_option maxHeartbeats 4000000 in
/-- case 20: weight -/
theorem lw_c20 (C0 : lw_At p s m meth c b L xs) (hK : va_K Dg mj_CL (mj_tys T3) s) (hAd : lw_Ad s ad1 ad2) {x3 : Int32} (h1 : vp_in (x3 + 1) L) (h2 : vp_in (x3 + 2) L) {g1 g2 : mj_H} {G : mj_H → mj_H → Prop}
    (hp : ∃ (r : Int32) (f1 f2 : mj_H), mj_Cl mj_S1 mj_CD 900 240 (.ref 0 :: [.int (xs (x3 + 1).toNatClampNeg), .int (xs (x3 + 2).toNatClampNeg)]) g1 (.int r, f1) ∧ mj_Cl mj_S2 mj_CD 900 94 (.ref 0 :: [.int (xs (x3 + 1).toNatClampNeg), .int (xs (x3 + 2).toNatClampNeg)]) g2 (.int r, f2) ∧ G f1 f2)
    (kk : ∀ f1 f2, G f1 f2 → lw_St p l e s m b below meth c Dg T3 ad1 ad2 1378 [(0, .ref b), (1, .ref (ad1 0)), (2, .ref (ad2 0)), (3, .int x3)] [] f1 f2) :
    lw_St p l e s m b below meth c Dg T3 ad1 ad2 851 [(0, .ref b), (1, .ref (ad1 0)), (2, .ref (ad2 0)), (3, .int x3)] [] g1 g2 := by
  obtain ⟨hx, hb, hr, hml, hown, hts, hX, hbl, hlocks, hgv⟩ := id C0
  obtain ⟨a1, a2, a3, a4, a5, a6, a7⟩ := id hAd
  obtain ⟨r, f1, f2, hc1, hc2, hG⟩ := hp
  have hM1 := mj_sound (l := l) (T3 := T3) (Dg := Dg) a1 (mj_Cs_of mj_Sok1) mj_hM 900 240 _ _ _ hc1
  have hM2 := mj_sound (l := l) (T3 := T3) (Dg := Dg) a2 (mj_Cs_of mj_Sok2) mj_hM 900 94 _ _ _ hc2
  have kk := kk f1 f2 hG
  intro H locs ls hP1 hP2 hS hl
  refine lv_aload_n hx hb d_law_851 rfl (lv_at hl 1 rfl) ?_
  refine lw_arg C0 hl rfl rfl hS h1 d_law_852 d_law_853 d_law_854 (by decide) d_law_855 d_law_856 ?_
  refine lw_arg C0 hl rfl rfl hS h2 d_law_857 d_law_858 d_law_859 (by decide) d_law_860 d_law_861 ?_
  refine lw_call (as := [.int (xs (x3 + 1).toNatClampNeg), .int (xs (x3 + 2).toNatClampNeg)]) (rest := []) (CC := 200) (SS := 300000) (q := (.int r, f1)) (ad := ad1) (ad' := ad2) hx hb hml hown hts hK a6 a3 a4 lwV_102 trivial hM1 rfl (Nat.le_of_ble_eq_true rfl) d_law_862 ⟨by decide, by decide⟩ hP1 hP2 hS hl.1 (fun H locs hP1 hP2 hS => ?_)
  refine lv_aload_n hx hb d_law_865 rfl (lv_at hl 2 rfl) ?_
  refine lw_arg C0 hl rfl rfl hS h1 d_law_866 d_law_867 d_law_868 (by decide) d_law_869 d_law_870 ?_
  refine lw_arg C0 hl rfl rfl hS h2 d_law_871 d_law_872 d_law_873 (by decide) d_law_874 d_law_875 ?_
  refine lw_call (as := [.int (xs (x3 + 1).toNatClampNeg), .int (xs (x3 + 2).toNatClampNeg)]) (rest := [.int r]) (CC := 200) (SS := 300000) (q := (.int r, f2)) (ad := ad2) (ad' := ad1) hx hb hml hown hts hK a7 (fun i j hi hj => (a3 j i hj hi).symm) a5 lwV_105 trivial hM2 rfl (Nat.le_of_ble_eq_true rfl) d_law_876 ⟨by decide, by decide⟩ hP2 hP1 hS hl.1 (fun H locs hP2 hP1 hS => ?_)
  refine lv_icmp_eq (tgt := 1378) hx hb d_law_879 (by decide) (fun _ => ?_) (fun q => absurd rfl q)
  exact kk H locs ls hP1 hP2 hS hl
set_option maxHeartbeats 4000000 in
/-- case 21: near -/
theorem lw_c21 (C0 : lw_At p s m meth c b L xs) (hK : va_K Dg mj_CL (mj_tys T3) s) (hAd : lw_Ad s ad1 ad2) {x3 : Int32} (h1 : vp_in (x3 + 1) L) {g1 g2 : mj_H} {G : mj_H → mj_H → Prop}
    (hp : ∃ (r : Int32) (f1 f2 : mj_H), mj_Cl mj_S1 mj_CD 900 241 (.ref 0 :: [.int (xs (x3 + 1).toNatClampNeg)]) g1 (.int r, f1) ∧ mj_Cl mj_S2 mj_CD 900 95 (.ref 0 :: [.int (xs (x3 + 1).toNatClampNeg)]) g2 (.int r, f2) ∧ G f1 f2)
    (kk : ∀ f1 f2, G f1 f2 → lw_St p l e s m b below meth c Dg T3 ad1 ad2 1378 [(0, .ref b), (1, .ref (ad1 0)), (2, .ref (ad2 0)), (3, .int x3)] [] f1 f2) :
    lw_St p l e s m b below meth c Dg T3 ad1 ad2 884 [(0, .ref b), (1, .ref (ad1 0)), (2, .ref (ad2 0)), (3, .int x3)] [] g1 g2 := by
  obtain ⟨hx, hb, hr, hml, hown, hts, hX, hbl, hlocks, hgv⟩ := id C0
  obtain ⟨a1, a2, a3, a4, a5, a6, a7⟩ := id hAd
  obtain ⟨r, f1, f2, hc1, hc2, hG⟩ := hp
  have hM1 := mj_sound (l := l) (T3 := T3) (Dg := Dg) a1 (mj_Cs_of mj_Sok1) mj_hM 900 241 _ _ _ hc1
  have hM2 := mj_sound (l := l) (T3 := T3) (Dg := Dg) a2 (mj_Cs_of mj_Sok2) mj_hM 900 95 _ _ _ hc2
  have kk := kk f1 f2 hG
  intro H locs ls hP1 hP2 hS hl
  refine lv_aload_n hx hb d_law_884 rfl (lv_at hl 1 rfl) ?_
  refine lw_arg C0 hl rfl rfl hS h1 d_law_885 d_law_886 d_law_887 (by decide) d_law_888 d_law_889 ?_
  refine lw_call (as := [.int (xs (x3 + 1).toNatClampNeg)]) (rest := []) (CC := 200) (SS := 300000) (q := (.int r, f1)) (ad := ad1) (ad' := ad2) hx hb hml hown hts hK a6 a3 a4 lwV_106 trivial hM1 rfl (Nat.le_of_ble_eq_true rfl) d_law_890 ⟨by decide, by decide⟩ hP1 hP2 hS hl.1 (fun H locs hP1 hP2 hS => ?_)
  refine lv_aload_n hx hb d_law_893 rfl (lv_at hl 2 rfl) ?_
  refine lw_arg C0 hl rfl rfl hS h1 d_law_894 d_law_895 d_law_896 (by decide) d_law_897 d_law_898 ?_
  refine lw_call (as := [.int (xs (x3 + 1).toNatClampNeg)]) (rest := [.int r]) (CC := 200) (SS := 300000) (q := (.int r, f2)) (ad := ad2) (ad' := ad1) hx hb hml hown hts hK a7 (fun i j hi hj => (a3 j i hj hi).symm) a5 lwV_109 trivial hM2 rfl (Nat.le_of_ble_eq_true rfl) d_law_899 ⟨by decide, by decide⟩ hP2 hP1 hS hl.1 (fun H locs hP2 hP1 hS => ?_)
  refine lv_icmp_eq (tgt := 1378) hx hb d_law_902 (by decide) (fun _ => ?_) (fun q => absurd rfl q)
  exact kk H locs ls hP1 hP2 hS hl
set_option maxHeartbeats 4000000 in
/-- case 22: standIns -/
theorem lw_c22 (C0 : lw_At p s m meth c b L xs) (hK : va_K Dg mj_CL (mj_tys T3) s) (hAd : lw_Ad s ad1 ad2) {x3 : Int32} (h1 : vp_in (x3 + 1) L) {g1 g2 : mj_H} {G : mj_H → mj_H → Prop}
    (hp : ∃ (r : Int32) (f1 f2 : mj_H), mj_Cl mj_S1 mj_CD 900 249 (.ref 0 :: [.int (xs (x3 + 1).toNatClampNeg)]) g1 (.int r, f1) ∧ mj_Cl mj_S2 mj_CD 900 100 (.ref 0 :: [.int (xs (x3 + 1).toNatClampNeg)]) g2 (.int r, f2) ∧ G f1 f2)
    (kk : ∀ f1 f2, G f1 f2 → lw_St p l e s m b below meth c Dg T3 ad1 ad2 1378 [(0, .ref b), (1, .ref (ad1 0)), (2, .ref (ad2 0)), (3, .int x3)] [] f1 f2) :
    lw_St p l e s m b below meth c Dg T3 ad1 ad2 907 [(0, .ref b), (1, .ref (ad1 0)), (2, .ref (ad2 0)), (3, .int x3)] [] g1 g2 := by
  obtain ⟨hx, hb, hr, hml, hown, hts, hX, hbl, hlocks, hgv⟩ := id C0
  obtain ⟨a1, a2, a3, a4, a5, a6, a7⟩ := id hAd
  obtain ⟨r, f1, f2, hc1, hc2, hG⟩ := hp
  have hM1 := mj_sound (l := l) (T3 := T3) (Dg := Dg) a1 (mj_Cs_of mj_Sok1) mj_hM 900 249 _ _ _ hc1
  have hM2 := mj_sound (l := l) (T3 := T3) (Dg := Dg) a2 (mj_Cs_of mj_Sok2) mj_hM 900 100 _ _ _ hc2
  have kk := kk f1 f2 hG
  intro H locs ls hP1 hP2 hS hl
  refine lv_aload_n hx hb d_law_907 rfl (lv_at hl 1 rfl) ?_
  refine lw_arg C0 hl rfl rfl hS h1 d_law_908 d_law_909 d_law_910 (by decide) d_law_911 d_law_912 ?_
  refine lw_call (as := [.int (xs (x3 + 1).toNatClampNeg)]) (rest := []) (CC := 200) (SS := 300000) (q := (.int r, f1)) (ad := ad1) (ad' := ad2) hx hb hml hown hts hK a6 a3 a4 lwV_110 trivial hM1 rfl (Nat.le_of_ble_eq_true rfl) d_law_913 ⟨by decide, by decide⟩ hP1 hP2 hS hl.1 (fun H locs hP1 hP2 hS => ?_)
  refine lv_aload_n hx hb d_law_916 rfl (lv_at hl 2 rfl) ?_
  refine lw_arg C0 hl rfl rfl hS h1 d_law_917 d_law_918 d_law_919 (by decide) d_law_920 d_law_921 ?_
  refine lw_call (as := [.int (xs (x3 + 1).toNatClampNeg)]) (rest := [.int r]) (CC := 200) (SS := 300000) (q := (.int r, f2)) (ad := ad2) (ad' := ad1) hx hb hml hown hts hK a7 (fun i j hi hj => (a3 j i hj hi).symm) a5 lwV_113 trivial hM2 rfl (Nat.le_of_ble_eq_true rfl) d_law_922 ⟨by decide, by decide⟩ hP2 hP1 hS hl.1 (fun H locs hP2 hP1 hS => ?_)
  refine lv_icmp_eq (tgt := 1378) hx hb d_law_925 (by decide) (fun _ => ?_) (fun q => absurd rfl q)
  exact kk H locs ls hP1 hP2 hS hl
set_option maxHeartbeats 4000000 in
/-- case 23: kept -/
theorem lw_c23 (C0 : lw_At p s m meth c b L xs) (hK : va_K Dg mj_CL (mj_tys T3) s) (hAd : lw_Ad s ad1 ad2) {x3 : Int32} (h1 : vp_in (x3 + 1) L) {g1 g2 : mj_H} {G : mj_H → mj_H → Prop}
    (hp : ∃ (r : Int32) (f1 f2 : mj_H), mj_Cl mj_S1 mj_CD 900 251 (.ref 0 :: [.int (xs (x3 + 1).toNatClampNeg)]) g1 (.int r, f1) ∧ mj_Cl mj_S2 mj_CD 900 101 (.ref 0 :: [.int (xs (x3 + 1).toNatClampNeg)]) g2 (.int r, f2) ∧ G f1 f2)
    (kk : ∀ f1 f2, G f1 f2 → lw_St p l e s m b below meth c Dg T3 ad1 ad2 1378 [(0, .ref b), (1, .ref (ad1 0)), (2, .ref (ad2 0)), (3, .int x3)] [] f1 f2) :
    lw_St p l e s m b below meth c Dg T3 ad1 ad2 930 [(0, .ref b), (1, .ref (ad1 0)), (2, .ref (ad2 0)), (3, .int x3)] [] g1 g2 := by
  obtain ⟨hx, hb, hr, hml, hown, hts, hX, hbl, hlocks, hgv⟩ := id C0
  obtain ⟨a1, a2, a3, a4, a5, a6, a7⟩ := id hAd
  obtain ⟨r, f1, f2, hc1, hc2, hG⟩ := hp
  have hM1 := mj_sound (l := l) (T3 := T3) (Dg := Dg) a1 (mj_Cs_of mj_Sok1) mj_hM 900 251 _ _ _ hc1
  have hM2 := mj_sound (l := l) (T3 := T3) (Dg := Dg) a2 (mj_Cs_of mj_Sok2) mj_hM 900 101 _ _ _ hc2
  have kk := kk f1 f2 hG
  intro H locs ls hP1 hP2 hS hl
  refine lv_aload_n hx hb d_law_930 rfl (lv_at hl 1 rfl) ?_
  refine lw_arg C0 hl rfl rfl hS h1 d_law_931 d_law_932 d_law_933 (by decide) d_law_934 d_law_935 ?_
  refine lw_call (as := [.int (xs (x3 + 1).toNatClampNeg)]) (rest := []) (CC := 200) (SS := 300000) (q := (.int r, f1)) (ad := ad1) (ad' := ad2) hx hb hml hown hts hK a6 a3 a4 lwV_114 trivial hM1 rfl (Nat.le_of_ble_eq_true rfl) d_law_936 ⟨by decide, by decide⟩ hP1 hP2 hS hl.1 (fun H locs hP1 hP2 hS => ?_)
  refine lv_aload_n hx hb d_law_939 rfl (lv_at hl 2 rfl) ?_
  refine lw_arg C0 hl rfl rfl hS h1 d_law_940 d_law_941 d_law_942 (by decide) d_law_943 d_law_944 ?_
  refine lw_call (as := [.int (xs (x3 + 1).toNatClampNeg)]) (rest := [.int r]) (CC := 200) (SS := 300000) (q := (.int r, f2)) (ad := ad2) (ad' := ad1) hx hb hml hown hts hK a7 (fun i j hi hj => (a3 j i hj hi).symm) a5 lwV_117 trivial hM2 rfl (Nat.le_of_ble_eq_true rfl) d_law_945 ⟨by decide, by decide⟩ hP2 hP1 hS hl.1 (fun H locs hP2 hP1 hS => ?_)
  refine lv_icmp_eq (tgt := 1378) hx hb d_law_948 (by decide) (fun _ => ?_) (fun q => absurd rfl q)
  exact kk H locs ls hP1 hP2 hS hl
set_option maxHeartbeats 4000000 in
/-- case 24: cost -/
theorem lw_c24 (C0 : lw_At p s m meth c b L xs) (hK : va_K Dg mj_CL (mj_tys T3) s) (hAd : lw_Ad s ad1 ad2) {x3 : Int32} (h1 : vp_in (x3 + 1) L) (h2 : vp_in (x3 + 2) L) (h3 : vp_in (x3 + 3) L) (h4 : vp_in (x3 + 4) L) {g1 g2 : mj_H} {G : mj_H → mj_H → Prop}
    (hp : ∃ (r : Int32) (f1 f2 : mj_H), mj_Cl mj_S1 mj_CD 900 252 (.ref 0 :: [.int (xs (x3 + 1).toNatClampNeg), .int (xs (x3 + 2).toNatClampNeg), .int (xs (x3 + 3).toNatClampNeg), .int (if (xs (x3 + 4).toNatClampNeg) = 0 then 0 else 1)]) g1 (.int r, f1) ∧ mj_Cl mj_S2 mj_CD 900 102 (.ref 0 :: [.int (xs (x3 + 1).toNatClampNeg), .int (xs (x3 + 2).toNatClampNeg), .int (xs (x3 + 3).toNatClampNeg), .int (if (xs (x3 + 4).toNatClampNeg) = 0 then 0 else 1)]) g2 (.int r, f2) ∧ G f1 f2)
    (kk : ∀ f1 f2, G f1 f2 → lw_St p l e s m b below meth c Dg T3 ad1 ad2 1378 [(0, .ref b), (1, .ref (ad1 0)), (2, .ref (ad2 0)), (3, .int x3)] [] f1 f2) :
    lw_St p l e s m b below meth c Dg T3 ad1 ad2 953 [(0, .ref b), (1, .ref (ad1 0)), (2, .ref (ad2 0)), (3, .int x3)] [] g1 g2 := by
  obtain ⟨hx, hb, hr, hml, hown, hts, hX, hbl, hlocks, hgv⟩ := id C0
  obtain ⟨a1, a2, a3, a4, a5, a6, a7⟩ := id hAd
  obtain ⟨r, f1, f2, hc1, hc2, hG⟩ := hp
  have hM1 := mj_sound (l := l) (T3 := T3) (Dg := Dg) a1 (mj_Cs_of mj_Sok1) mj_hM 900 252 _ _ _ hc1
  have hM2 := mj_sound (l := l) (T3 := T3) (Dg := Dg) a2 (mj_Cs_of mj_Sok2) mj_hM 900 102 _ _ _ hc2
  have kk := kk f1 f2 hG
  intro H locs ls hP1 hP2 hS hl
  by_cases e4 : (xs (x3 + 4).toNatClampNeg) = 0
  · simp only [e4, if_true] at hM1 hM2
    refine lv_aload_n hx hb d_law_953 rfl (lv_at hl 1 rfl) ?_
    refine lw_arg C0 hl rfl rfl hS h1 d_law_954 d_law_955 d_law_956 (by decide) d_law_957 d_law_958 ?_
    refine lw_arg C0 hl rfl rfl hS h2 d_law_959 d_law_960 d_law_961 (by decide) d_law_962 d_law_963 ?_
    refine lw_arg C0 hl rfl rfl hS h3 d_law_964 d_law_965 d_law_966 (by decide) d_law_967 d_law_968 ?_
    refine lw_arg C0 hl rfl rfl hS h4 d_law_969 d_law_970 d_law_971 (by decide) d_law_972 d_law_973 ?_
    refine lv_if_eq (tgt := 981) hx hb d_law_974 (by decide) (fun _ => ?_) (fun q => absurd e4 q)
    refine lv_iconst (v := 0) hx hb d_law_981 (by decide) ?_
    refine lw_call (as := [.int (xs (x3 + 1).toNatClampNeg), .int (xs (x3 + 2).toNatClampNeg), .int (xs (x3 + 3).toNatClampNeg), .int 0]) (rest := []) (CC := 200) (SS := 300000) (q := (.int r, f1)) (ad := ad1) (ad' := ad2) hx hb hml hown hts hK a6 a3 a4 lwV_118 trivial hM1 rfl (Nat.le_of_ble_eq_true rfl) d_law_982 ⟨by decide, by decide⟩ hP1 hP2 hS hl.1 (fun H locs hP1 hP2 hS => ?_)
    refine lv_aload_n hx hb d_law_985 rfl (lv_at hl 2 rfl) ?_
    refine lw_arg C0 hl rfl rfl hS h1 d_law_986 d_law_987 d_law_988 (by decide) d_law_989 d_law_990 ?_
    refine lw_arg C0 hl rfl rfl hS h2 d_law_991 d_law_992 d_law_993 (by decide) d_law_994 d_law_995 ?_
    refine lw_arg C0 hl rfl rfl hS h3 d_law_996 d_law_997 d_law_998 (by decide) d_law_999 d_law_1000 ?_
    refine lw_arg C0 hl rfl rfl hS h4 d_law_1001 d_law_1002 d_law_1003 (by decide) d_law_1004 d_law_1005 ?_
    refine lv_if_eq (tgt := 1013) hx hb d_law_1006 (by decide) (fun _ => ?_) (fun q => absurd e4 q)
    refine lv_iconst (v := 0) hx hb d_law_1013 (by decide) ?_
    refine lw_call (as := [.int (xs (x3 + 1).toNatClampNeg), .int (xs (x3 + 2).toNatClampNeg), .int (xs (x3 + 3).toNatClampNeg), .int 0]) (rest := [.int r]) (CC := 200) (SS := 300000) (q := (.int r, f2)) (ad := ad2) (ad' := ad1) hx hb hml hown hts hK a7 (fun i j hi hj => (a3 j i hj hi).symm) a5 lwV_122 trivial hM2 rfl (Nat.le_of_ble_eq_true rfl) d_law_1014 ⟨by decide, by decide⟩ hP2 hP1 hS hl.1 (fun H locs hP2 hP1 hS => ?_)
    refine lv_icmp_eq (tgt := 1378) hx hb d_law_1017 (by decide) (fun _ => ?_) (fun q => absurd rfl q)
    exact kk H locs ls hP1 hP2 hS hl
  · simp only [e4, if_false] at hM1 hM2
    refine lv_aload_n hx hb d_law_953 rfl (lv_at hl 1 rfl) ?_
    refine lw_arg C0 hl rfl rfl hS h1 d_law_954 d_law_955 d_law_956 (by decide) d_law_957 d_law_958 ?_
    refine lw_arg C0 hl rfl rfl hS h2 d_law_959 d_law_960 d_law_961 (by decide) d_law_962 d_law_963 ?_
    refine lw_arg C0 hl rfl rfl hS h3 d_law_964 d_law_965 d_law_966 (by decide) d_law_967 d_law_968 ?_
    refine lw_arg C0 hl rfl rfl hS h4 d_law_969 d_law_970 d_law_971 (by decide) d_law_972 d_law_973 ?_
    refine lv_if_eq (tgt := 981) hx hb d_law_974 (by decide) (fun q => absurd q e4) (fun _ => ?_)
    refine lv_iconst (v := 1) hx hb d_law_977 (by decide) ?_
    refine lv_goto (tgt := 982) hx hb d_law_978 (by decide) ?_
    refine lw_call (as := [.int (xs (x3 + 1).toNatClampNeg), .int (xs (x3 + 2).toNatClampNeg), .int (xs (x3 + 3).toNatClampNeg), .int 1]) (rest := []) (CC := 200) (SS := 300000) (q := (.int r, f1)) (ad := ad1) (ad' := ad2) hx hb hml hown hts hK a6 a3 a4 lwV_118 trivial hM1 rfl (Nat.le_of_ble_eq_true rfl) d_law_982 ⟨by decide, by decide⟩ hP1 hP2 hS hl.1 (fun H locs hP1 hP2 hS => ?_)
    refine lv_aload_n hx hb d_law_985 rfl (lv_at hl 2 rfl) ?_
    refine lw_arg C0 hl rfl rfl hS h1 d_law_986 d_law_987 d_law_988 (by decide) d_law_989 d_law_990 ?_
    refine lw_arg C0 hl rfl rfl hS h2 d_law_991 d_law_992 d_law_993 (by decide) d_law_994 d_law_995 ?_
    refine lw_arg C0 hl rfl rfl hS h3 d_law_996 d_law_997 d_law_998 (by decide) d_law_999 d_law_1000 ?_
    refine lw_arg C0 hl rfl rfl hS h4 d_law_1001 d_law_1002 d_law_1003 (by decide) d_law_1004 d_law_1005 ?_
    refine lv_if_eq (tgt := 1013) hx hb d_law_1006 (by decide) (fun q => absurd q e4) (fun _ => ?_)
    refine lv_iconst (v := 1) hx hb d_law_1009 (by decide) ?_
    refine lv_goto (tgt := 1014) hx hb d_law_1010 (by decide) ?_
    refine lw_call (as := [.int (xs (x3 + 1).toNatClampNeg), .int (xs (x3 + 2).toNatClampNeg), .int (xs (x3 + 3).toNatClampNeg), .int 1]) (rest := [.int r]) (CC := 200) (SS := 300000) (q := (.int r, f2)) (ad := ad2) (ad' := ad1) hx hb hml hown hts hK a7 (fun i j hi hj => (a3 j i hj hi).symm) a5 lwV_122 trivial hM2 rfl (Nat.le_of_ble_eq_true rfl) d_law_1014 ⟨by decide, by decide⟩ hP2 hP1 hS hl.1 (fun H locs hP2 hP1 hS => ?_)
    refine lv_icmp_eq (tgt := 1378) hx hb d_law_1017 (by decide) (fun _ => ?_) (fun q => absurd rfl q)
    exact kk H locs ls hP1 hP2 hS hl
set_option maxHeartbeats 4000000 in
/-- case 25: hole -/
theorem lw_c25 (C0 : lw_At p s m meth c b L xs) (hK : va_K Dg mj_CL (mj_tys T3) s) (hAd : lw_Ad s ad1 ad2) {x3 : Int32} (h1 : vp_in (x3 + 1) L) {g1 g2 : mj_H} {G : mj_H → mj_H → Prop}
    (hp : ∃ (r : Int32) (f1 f2 : mj_H), mj_Cl mj_S1 mj_CD 900 254 (.ref 0 :: [.int (xs (x3 + 1).toNatClampNeg)]) g1 (.int r, f1) ∧ mj_Cl mj_S2 mj_CD 900 104 (.ref 0 :: [.int (xs (x3 + 1).toNatClampNeg)]) g2 (.int r, f2) ∧ G f1 f2)
    (kk : ∀ f1 f2, G f1 f2 → lw_St p l e s m b below meth c Dg T3 ad1 ad2 1378 [(0, .ref b), (1, .ref (ad1 0)), (2, .ref (ad2 0)), (3, .int x3)] [] f1 f2) :
    lw_St p l e s m b below meth c Dg T3 ad1 ad2 1022 [(0, .ref b), (1, .ref (ad1 0)), (2, .ref (ad2 0)), (3, .int x3)] [] g1 g2 := by
  obtain ⟨hx, hb, hr, hml, hown, hts, hX, hbl, hlocks, hgv⟩ := id C0
  obtain ⟨a1, a2, a3, a4, a5, a6, a7⟩ := id hAd
  obtain ⟨r, f1, f2, hc1, hc2, hG⟩ := hp
  have hM1 := mj_sound (l := l) (T3 := T3) (Dg := Dg) a1 (mj_Cs_of mj_Sok1) mj_hM 900 254 _ _ _ hc1
  have hM2 := mj_sound (l := l) (T3 := T3) (Dg := Dg) a2 (mj_Cs_of mj_Sok2) mj_hM 900 104 _ _ _ hc2
  have kk := kk f1 f2 hG
  intro H locs ls hP1 hP2 hS hl
  refine lv_aload_n hx hb d_law_1022 rfl (lv_at hl 1 rfl) ?_
  refine lw_arg C0 hl rfl rfl hS h1 d_law_1023 d_law_1024 d_law_1025 (by decide) d_law_1026 d_law_1027 ?_
  refine lw_call (as := [.int (xs (x3 + 1).toNatClampNeg)]) (rest := []) (CC := 200) (SS := 300000) (q := (.int r, f1)) (ad := ad1) (ad' := ad2) hx hb hml hown hts hK a6 a3 a4 lwV_123 trivial hM1 rfl (Nat.le_of_ble_eq_true rfl) d_law_1028 ⟨by decide, by decide⟩ hP1 hP2 hS hl.1 (fun H locs hP1 hP2 hS => ?_)
  refine lv_aload_n hx hb d_law_1031 rfl (lv_at hl 2 rfl) ?_
  refine lw_arg C0 hl rfl rfl hS h1 d_law_1032 d_law_1033 d_law_1034 (by decide) d_law_1035 d_law_1036 ?_
  refine lw_call (as := [.int (xs (x3 + 1).toNatClampNeg)]) (rest := [.int r]) (CC := 200) (SS := 300000) (q := (.int r, f2)) (ad := ad2) (ad' := ad1) hx hb hml hown hts hK a7 (fun i j hi hj => (a3 j i hj hi).symm) a5 lwV_126 trivial hM2 rfl (Nat.le_of_ble_eq_true rfl) d_law_1037 ⟨by decide, by decide⟩ hP2 hP1 hS hl.1 (fun H locs hP2 hP1 hS => ?_)
  refine lv_icmp_eq (tgt := 1378) hx hb d_law_1040 (by decide) (fun _ => ?_) (fun q => absurd rfl q)
  exact kk H locs ls hP1 hP2 hS hl
set_option maxHeartbeats 4000000 in
/-- case 26: rather -/
theorem lw_c26 (C0 : lw_At p s m meth c b L xs) (hK : va_K Dg mj_CL (mj_tys T3) s) (hAd : lw_Ad s ad1 ad2) {x3 : Int32} (h1 : vp_in (x3 + 1) L) (h2 : vp_in (x3 + 2) L) {g1 g2 : mj_H} {G : mj_H → mj_H → Prop}
    (hp : ∃ (r : Int32) (f1 f2 : mj_H), mj_Cl mj_S1 mj_CD 900 256 (.ref 0 :: [.int (xs (x3 + 1).toNatClampNeg), .int (xs (x3 + 2).toNatClampNeg)]) g1 (.int r, f1) ∧ mj_Cl mj_S2 mj_CD 900 105 (.ref 0 :: [.int (xs (x3 + 1).toNatClampNeg), .int (xs (x3 + 2).toNatClampNeg)]) g2 (.int r, f2) ∧ G f1 f2)
    (kk : ∀ f1 f2, G f1 f2 → lw_St p l e s m b below meth c Dg T3 ad1 ad2 1378 [(0, .ref b), (1, .ref (ad1 0)), (2, .ref (ad2 0)), (3, .int x3)] [] f1 f2) :
    lw_St p l e s m b below meth c Dg T3 ad1 ad2 1045 [(0, .ref b), (1, .ref (ad1 0)), (2, .ref (ad2 0)), (3, .int x3)] [] g1 g2 := by
  obtain ⟨hx, hb, hr, hml, hown, hts, hX, hbl, hlocks, hgv⟩ := id C0
  obtain ⟨a1, a2, a3, a4, a5, a6, a7⟩ := id hAd
  obtain ⟨r, f1, f2, hc1, hc2, hG⟩ := hp
  have hM1 := mj_sound (l := l) (T3 := T3) (Dg := Dg) a1 (mj_Cs_of mj_Sok1) mj_hM 900 256 _ _ _ hc1
  have hM2 := mj_sound (l := l) (T3 := T3) (Dg := Dg) a2 (mj_Cs_of mj_Sok2) mj_hM 900 105 _ _ _ hc2
  have kk := kk f1 f2 hG
  intro H locs ls hP1 hP2 hS hl
  refine lv_aload_n hx hb d_law_1045 rfl (lv_at hl 1 rfl) ?_
  refine lw_arg C0 hl rfl rfl hS h1 d_law_1046 d_law_1047 d_law_1048 (by decide) d_law_1049 d_law_1050 ?_
  refine lw_arg C0 hl rfl rfl hS h2 d_law_1051 d_law_1052 d_law_1053 (by decide) d_law_1054 d_law_1055 ?_
  refine lw_call (as := [.int (xs (x3 + 1).toNatClampNeg), .int (xs (x3 + 2).toNatClampNeg)]) (rest := []) (CC := 200) (SS := 300000) (q := (.int r, f1)) (ad := ad1) (ad' := ad2) hx hb hml hown hts hK a6 a3 a4 lwV_127 trivial hM1 rfl (Nat.le_of_ble_eq_true rfl) d_law_1056 ⟨by decide, by decide⟩ hP1 hP2 hS hl.1 (fun H locs hP1 hP2 hS => ?_)
  refine lv_aload_n hx hb d_law_1059 rfl (lv_at hl 2 rfl) ?_
  refine lw_arg C0 hl rfl rfl hS h1 d_law_1060 d_law_1061 d_law_1062 (by decide) d_law_1063 d_law_1064 ?_
  refine lw_arg C0 hl rfl rfl hS h2 d_law_1065 d_law_1066 d_law_1067 (by decide) d_law_1068 d_law_1069 ?_
  refine lw_call (as := [.int (xs (x3 + 1).toNatClampNeg), .int (xs (x3 + 2).toNatClampNeg)]) (rest := [.int r]) (CC := 200) (SS := 300000) (q := (.int r, f2)) (ad := ad2) (ad' := ad1) hx hb hml hown hts hK a7 (fun i j hi hj => (a3 j i hj hi).symm) a5 lwV_130 trivial hM2 rfl (Nat.le_of_ble_eq_true rfl) d_law_1070 ⟨by decide, by decide⟩ hP2 hP1 hS hl.1 (fun H locs hP2 hP1 hS => ?_)
  refine lv_icmp_eq (tgt := 1378) hx hb d_law_1073 (by decide) (fun _ => ?_) (fun q => absurd rfl q)
  exact kk H locs ls hP1 hP2 hS hl
set_option maxHeartbeats 4000000 in
/-- case 27: unsay -/
theorem lw_c27 (C0 : lw_At p s m meth c b L xs) (hK : va_K Dg mj_CL (mj_tys T3) s) (hAd : lw_Ad s ad1 ad2) {x3 : Int32} {g1 g2 : mj_H} {G : mj_H → mj_H → Prop}
    (hp : ∃ (r : Int32) (f1 f2 : mj_H), mj_Cl mj_S1 mj_CD 900 258 (.ref 0 :: []) g1 (.int r, f1) ∧ mj_Cl mj_S2 mj_CD 900 106 (.ref 0 :: []) g2 (.int r, f2) ∧ G f1 f2)
    (kk : ∀ f1 f2, G f1 f2 → lw_St p l e s m b below meth c Dg T3 ad1 ad2 1378 [(0, .ref b), (1, .ref (ad1 0)), (2, .ref (ad2 0)), (3, .int x3)] [] f1 f2) :
    lw_St p l e s m b below meth c Dg T3 ad1 ad2 1078 [(0, .ref b), (1, .ref (ad1 0)), (2, .ref (ad2 0)), (3, .int x3)] [] g1 g2 := by
  obtain ⟨hx, hb, hr, hml, hown, hts, hX, hbl, hlocks, hgv⟩ := id C0
  obtain ⟨a1, a2, a3, a4, a5, a6, a7⟩ := id hAd
  obtain ⟨r, f1, f2, hc1, hc2, hG⟩ := hp
  have hM1 := mj_sound (l := l) (T3 := T3) (Dg := Dg) a1 (mj_Cs_of mj_Sok1) mj_hM 900 258 _ _ _ hc1
  have hM2 := mj_sound (l := l) (T3 := T3) (Dg := Dg) a2 (mj_Cs_of mj_Sok2) mj_hM 900 106 _ _ _ hc2
  have kk := kk f1 f2 hG
  intro H locs ls hP1 hP2 hS hl
  refine lv_aload_n hx hb d_law_1078 rfl (lv_at hl 1 rfl) ?_
  refine lw_call (as := []) (rest := []) (CC := 200) (SS := 300000) (q := (.int r, f1)) (ad := ad1) (ad' := ad2) hx hb hml hown hts hK a6 a3 a4 lwV_131 trivial hM1 rfl (Nat.le_of_ble_eq_true rfl) d_law_1079 ⟨by decide, by decide⟩ hP1 hP2 hS hl.1 (fun H locs hP1 hP2 hS => ?_)
  refine lv_aload_n hx hb d_law_1082 rfl (lv_at hl 2 rfl) ?_
  refine lw_call (as := []) (rest := [.int r]) (CC := 200) (SS := 300000) (q := (.int r, f2)) (ad := ad2) (ad' := ad1) hx hb hml hown hts hK a7 (fun i j hi hj => (a3 j i hj hi).symm) a5 lwV_134 trivial hM2 rfl (Nat.le_of_ble_eq_true rfl) d_law_1083 ⟨by decide, by decide⟩ hP2 hP1 hS hl.1 (fun H locs hP2 hP1 hS => ?_)
  refine lv_icmp_eq (tgt := 1378) hx hb d_law_1086 (by decide) (fun _ => ?_) (fun q => absurd rfl q)
  exact kk H locs ls hP1 hP2 hS hl
set_option maxHeartbeats 4000000 in
/-- case 28: agree -/
theorem lw_c28 (C0 : lw_At p s m meth c b L xs) (hK : va_K Dg mj_CL (mj_tys T3) s) (hAd : lw_Ad s ad1 ad2) {x3 : Int32} {g1 g2 : mj_H} {G : mj_H → mj_H → Prop}
    (hp : ∃ (r : Int32) (f1 f2 : mj_H), mj_Cl mj_S1 mj_CD 900 259 (.ref 0 :: []) g1 (.int r, f1) ∧ mj_Cl mj_S2 mj_CD 900 107 (.ref 0 :: []) g2 (.int r, f2) ∧ G f1 f2)
    (kk : ∀ f1 f2, G f1 f2 → lw_St p l e s m b below meth c Dg T3 ad1 ad2 1378 [(0, .ref b), (1, .ref (ad1 0)), (2, .ref (ad2 0)), (3, .int x3)] [] f1 f2) :
    lw_St p l e s m b below meth c Dg T3 ad1 ad2 1091 [(0, .ref b), (1, .ref (ad1 0)), (2, .ref (ad2 0)), (3, .int x3)] [] g1 g2 := by
  obtain ⟨hx, hb, hr, hml, hown, hts, hX, hbl, hlocks, hgv⟩ := id C0
  obtain ⟨a1, a2, a3, a4, a5, a6, a7⟩ := id hAd
  obtain ⟨r, f1, f2, hc1, hc2, hG⟩ := hp
  have hM1 := mj_sound (l := l) (T3 := T3) (Dg := Dg) a1 (mj_Cs_of mj_Sok1) mj_hM 900 259 _ _ _ hc1
  have hM2 := mj_sound (l := l) (T3 := T3) (Dg := Dg) a2 (mj_Cs_of mj_Sok2) mj_hM 900 107 _ _ _ hc2
  have kk := kk f1 f2 hG
  intro H locs ls hP1 hP2 hS hl
  refine lv_aload_n hx hb d_law_1091 rfl (lv_at hl 1 rfl) ?_
  refine lw_call (as := []) (rest := []) (CC := 200) (SS := 300000) (q := (.int r, f1)) (ad := ad1) (ad' := ad2) hx hb hml hown hts hK a6 a3 a4 lwV_135 trivial hM1 rfl (Nat.le_of_ble_eq_true rfl) d_law_1092 ⟨by decide, by decide⟩ hP1 hP2 hS hl.1 (fun H locs hP1 hP2 hS => ?_)
  refine lv_aload_n hx hb d_law_1095 rfl (lv_at hl 2 rfl) ?_
  refine lw_call (as := []) (rest := [.int r]) (CC := 200) (SS := 300000) (q := (.int r, f2)) (ad := ad2) (ad' := ad1) hx hb hml hown hts hK a7 (fun i j hi hj => (a3 j i hj hi).symm) a5 lwV_138 trivial hM2 rfl (Nat.le_of_ble_eq_true rfl) d_law_1096 ⟨by decide, by decide⟩ hP2 hP1 hS hl.1 (fun H locs hP2 hP1 hS => ?_)
  refine lv_icmp_eq (tgt := 1378) hx hb d_law_1099 (by decide) (fun _ => ?_) (fun q => absurd rfl q)
  exact kk H locs ls hP1 hP2 hS hl
set_option maxHeartbeats 4000000 in
/-- case 29: could -/
theorem lw_c29 (C0 : lw_At p s m meth c b L xs) (hK : va_K Dg mj_CL (mj_tys T3) s) (hAd : lw_Ad s ad1 ad2) {x3 : Int32} {g1 g2 : mj_H} {G : mj_H → mj_H → Prop}
    (hp : ∃ (r : Int64) (f1 f2 : mj_H), mj_Cl mj_S1 mj_CD 900 262 (.ref 0 :: []) g1 (.long r, f1) ∧ mj_Cl mj_S2 mj_CD 900 111 (.ref 0 :: []) g2 (.long r, f2) ∧ G f1 f2)
    (kk : ∀ f1 f2, G f1 f2 → lw_St p l e s m b below meth c Dg T3 ad1 ad2 1378 [(0, .ref b), (1, .ref (ad1 0)), (2, .ref (ad2 0)), (3, .int x3)] [] f1 f2) :
    lw_St p l e s m b below meth c Dg T3 ad1 ad2 1104 [(0, .ref b), (1, .ref (ad1 0)), (2, .ref (ad2 0)), (3, .int x3)] [] g1 g2 := by
  obtain ⟨hx, hb, hr, hml, hown, hts, hX, hbl, hlocks, hgv⟩ := id C0
  obtain ⟨a1, a2, a3, a4, a5, a6, a7⟩ := id hAd
  obtain ⟨r, f1, f2, hc1, hc2, hG⟩ := hp
  have hM1 := mj_sound (l := l) (T3 := T3) (Dg := Dg) a1 (mj_Cs_of mj_Sok1) mj_hM 900 262 _ _ _ hc1
  have hM2 := mj_sound (l := l) (T3 := T3) (Dg := Dg) a2 (mj_Cs_of mj_Sok2) mj_hM 900 111 _ _ _ hc2
  have kk := kk f1 f2 hG
  intro H locs ls hP1 hP2 hS hl
  refine lv_aload_n hx hb d_law_1104 rfl (lv_at hl 1 rfl) ?_
  refine lw_call (as := []) (rest := []) (CC := 200) (SS := 300000) (q := (.long r, f1)) (ad := ad1) (ad' := ad2) hx hb hml hown hts hK a6 a3 a4 lwV_139 trivial hM1 rfl (Nat.le_of_ble_eq_true rfl) d_law_1105 ⟨by decide, by decide⟩ hP1 hP2 hS hl.1 (fun H locs hP1 hP2 hS => ?_)
  refine lv_aload_n hx hb d_law_1108 rfl (lv_at hl 2 rfl) ?_
  refine lw_call (as := []) (rest := [.long r]) (CC := 200) (SS := 300000) (q := (.long r, f2)) (ad := ad2) (ad' := ad1) hx hb hml hown hts hK a7 (fun i j hi hj => (a3 j i hj hi).symm) a5 lwV_142 trivial hM2 rfl (Nat.le_of_ble_eq_true rfl) d_law_1109 ⟨by decide, by decide⟩ hP2 hP1 hS hl.1 (fun H locs hP2 hP1 hS => ?_)
  refine W.lcmp hx hb d_law_1112 ?_
  refine lv_if_eq (tgt := 1378) hx hb d_law_1113 (by decide) (fun _ => ?_) (fun q => absurd (lw_cmp0 r) q)
  exact kk H locs ls hP1 hP2 hS hl
set_option maxHeartbeats 4000000 in
/-- case 30: question -/
theorem lw_c30 (C0 : lw_At p s m meth c b L xs) (hK : va_K Dg mj_CL (mj_tys T3) s) (hAd : lw_Ad s ad1 ad2) {x3 : Int32} (h1 : vp_in (x3 + 1) L) {g1 g2 : mj_H} {G : mj_H → mj_H → Prop}
    (hp : ∃ (r : Int32) (f1 f2 : mj_H), mj_Cl mj_S1 mj_CD 900 264 (.ref 0 :: [.int (xs (x3 + 1).toNatClampNeg)]) g1 (.int r, f1) ∧ mj_Cl mj_S2 mj_CD 900 113 (.ref 0 :: [.int (xs (x3 + 1).toNatClampNeg)]) g2 (.int r, f2) ∧ G f1 f2)
    (kk : ∀ f1 f2, G f1 f2 → lw_St p l e s m b below meth c Dg T3 ad1 ad2 1378 [(0, .ref b), (1, .ref (ad1 0)), (2, .ref (ad2 0)), (3, .int x3)] [] f1 f2) :
    lw_St p l e s m b below meth c Dg T3 ad1 ad2 1118 [(0, .ref b), (1, .ref (ad1 0)), (2, .ref (ad2 0)), (3, .int x3)] [] g1 g2 := by
  obtain ⟨hx, hb, hr, hml, hown, hts, hX, hbl, hlocks, hgv⟩ := id C0
  obtain ⟨a1, a2, a3, a4, a5, a6, a7⟩ := id hAd
  obtain ⟨r, f1, f2, hc1, hc2, hG⟩ := hp
  have hM1 := mj_sound (l := l) (T3 := T3) (Dg := Dg) a1 (mj_Cs_of mj_Sok1) mj_hM 900 264 _ _ _ hc1
  have hM2 := mj_sound (l := l) (T3 := T3) (Dg := Dg) a2 (mj_Cs_of mj_Sok2) mj_hM 900 113 _ _ _ hc2
  have kk := kk f1 f2 hG
  intro H locs ls hP1 hP2 hS hl
  refine lv_aload_n hx hb d_law_1118 rfl (lv_at hl 1 rfl) ?_
  refine lw_arg C0 hl rfl rfl hS h1 d_law_1119 d_law_1120 d_law_1121 (by decide) d_law_1122 d_law_1123 ?_
  refine lw_call (as := [.int (xs (x3 + 1).toNatClampNeg)]) (rest := []) (CC := 200) (SS := 300000) (q := (.int r, f1)) (ad := ad1) (ad' := ad2) hx hb hml hown hts hK a6 a3 a4 lwV_143 trivial hM1 rfl (Nat.le_of_ble_eq_true rfl) d_law_1124 ⟨by decide, by decide⟩ hP1 hP2 hS hl.1 (fun H locs hP1 hP2 hS => ?_)
  refine lv_aload_n hx hb d_law_1127 rfl (lv_at hl 2 rfl) ?_
  refine lw_arg C0 hl rfl rfl hS h1 d_law_1128 d_law_1129 d_law_1130 (by decide) d_law_1131 d_law_1132 ?_
  refine lw_call (as := [.int (xs (x3 + 1).toNatClampNeg)]) (rest := [.int r]) (CC := 200) (SS := 300000) (q := (.int r, f2)) (ad := ad2) (ad' := ad1) hx hb hml hown hts hK a7 (fun i j hi hj => (a3 j i hj hi).symm) a5 lwV_146 trivial hM2 rfl (Nat.le_of_ble_eq_true rfl) d_law_1133 ⟨by decide, by decide⟩ hP2 hP1 hS hl.1 (fun H locs hP2 hP1 hS => ?_)
  refine lv_icmp_eq (tgt := 1378) hx hb d_law_1136 (by decide) (fun _ => ?_) (fun q => absurd rfl q)
  exact kk H locs ls hP1 hP2 hS hl
set_option maxHeartbeats 4000000 in
/-- case 31: quarrel -/
theorem lw_c31 (C0 : lw_At p s m meth c b L xs) (hK : va_K Dg mj_CL (mj_tys T3) s) (hAd : lw_Ad s ad1 ad2) {x3 : Int32} {g1 g2 : mj_H} {G : mj_H → mj_H → Prop}
    (hp : ∃ (r : Int32) (f1 f2 : mj_H), mj_Cl mj_S1 mj_CD 900 268 (.ref 0 :: []) g1 (.int r, f1) ∧ mj_Cl mj_S2 mj_CD 900 115 (.ref 0 :: []) g2 (.int r, f2) ∧ G f1 f2)
    (kk : ∀ f1 f2, G f1 f2 → lw_St p l e s m b below meth c Dg T3 ad1 ad2 1378 [(0, .ref b), (1, .ref (ad1 0)), (2, .ref (ad2 0)), (3, .int x3)] [] f1 f2) :
    lw_St p l e s m b below meth c Dg T3 ad1 ad2 1141 [(0, .ref b), (1, .ref (ad1 0)), (2, .ref (ad2 0)), (3, .int x3)] [] g1 g2 := by
  obtain ⟨hx, hb, hr, hml, hown, hts, hX, hbl, hlocks, hgv⟩ := id C0
  obtain ⟨a1, a2, a3, a4, a5, a6, a7⟩ := id hAd
  obtain ⟨r, f1, f2, hc1, hc2, hG⟩ := hp
  have hM1 := mj_sound (l := l) (T3 := T3) (Dg := Dg) a1 (mj_Cs_of mj_Sok1) mj_hM 900 268 _ _ _ hc1
  have hM2 := mj_sound (l := l) (T3 := T3) (Dg := Dg) a2 (mj_Cs_of mj_Sok2) mj_hM 900 115 _ _ _ hc2
  have kk := kk f1 f2 hG
  intro H locs ls hP1 hP2 hS hl
  refine lv_aload_n hx hb d_law_1141 rfl (lv_at hl 1 rfl) ?_
  refine lw_call (as := []) (rest := []) (CC := 200) (SS := 300000) (q := (.int r, f1)) (ad := ad1) (ad' := ad2) hx hb hml hown hts hK a6 a3 a4 lwV_147 trivial hM1 rfl (Nat.le_of_ble_eq_true rfl) d_law_1142 ⟨by decide, by decide⟩ hP1 hP2 hS hl.1 (fun H locs hP1 hP2 hS => ?_)
  refine lv_aload_n hx hb d_law_1145 rfl (lv_at hl 2 rfl) ?_
  refine lw_call (as := []) (rest := [.int r]) (CC := 200) (SS := 300000) (q := (.int r, f2)) (ad := ad2) (ad' := ad1) hx hb hml hown hts hK a7 (fun i j hi hj => (a3 j i hj hi).symm) a5 lwV_150 trivial hM2 rfl (Nat.le_of_ble_eq_true rfl) d_law_1146 ⟨by decide, by decide⟩ hP2 hP1 hS hl.1 (fun H locs hP2 hP1 hS => ?_)
  refine lv_icmp_eq (tgt := 1378) hx hb d_law_1149 (by decide) (fun _ => ?_) (fun q => absurd rfl q)
  exact kk H locs ls hP1 hP2 hS hl
set_option maxHeartbeats 4000000 in
/-- case 32: stop -/
theorem lw_c32 (C0 : lw_At p s m meth c b L xs) (hK : va_K Dg mj_CL (mj_tys T3) s) (hAd : lw_Ad s ad1 ad2) {x3 : Int32} (h1 : vp_in (x3 + 1) L) {g1 g2 : mj_H} {G : mj_H → mj_H → Prop}
    (hp : ∃ (r : Int32) (f1 f2 : mj_H), mj_Cl mj_S1 mj_CD 900 273 (.ref 0 :: [.int (xs (x3 + 1).toNatClampNeg)]) g1 (.int r, f1) ∧ mj_Cl mj_S2 mj_CD 900 117 (.ref 0 :: [.int (xs (x3 + 1).toNatClampNeg)]) g2 (.int r, f2) ∧ G f1 f2)
    (kk : ∀ f1 f2, G f1 f2 → lw_St p l e s m b below meth c Dg T3 ad1 ad2 1378 [(0, .ref b), (1, .ref (ad1 0)), (2, .ref (ad2 0)), (3, .int x3)] [] f1 f2) :
    lw_St p l e s m b below meth c Dg T3 ad1 ad2 1154 [(0, .ref b), (1, .ref (ad1 0)), (2, .ref (ad2 0)), (3, .int x3)] [] g1 g2 := by
  obtain ⟨hx, hb, hr, hml, hown, hts, hX, hbl, hlocks, hgv⟩ := id C0
  obtain ⟨a1, a2, a3, a4, a5, a6, a7⟩ := id hAd
  obtain ⟨r, f1, f2, hc1, hc2, hG⟩ := hp
  have hM1 := mj_sound (l := l) (T3 := T3) (Dg := Dg) a1 (mj_Cs_of mj_Sok1) mj_hM 900 273 _ _ _ hc1
  have hM2 := mj_sound (l := l) (T3 := T3) (Dg := Dg) a2 (mj_Cs_of mj_Sok2) mj_hM 900 117 _ _ _ hc2
  have kk := kk f1 f2 hG
  intro H locs ls hP1 hP2 hS hl
  refine lv_aload_n hx hb d_law_1154 rfl (lv_at hl 1 rfl) ?_
  refine lw_arg C0 hl rfl rfl hS h1 d_law_1155 d_law_1156 d_law_1157 (by decide) d_law_1158 d_law_1159 ?_
  refine lw_call (as := [.int (xs (x3 + 1).toNatClampNeg)]) (rest := []) (CC := 200) (SS := 300000) (q := (.int r, f1)) (ad := ad1) (ad' := ad2) hx hb hml hown hts hK a6 a3 a4 lwV_151 trivial hM1 rfl (Nat.le_of_ble_eq_true rfl) d_law_1160 ⟨by decide, by decide⟩ hP1 hP2 hS hl.1 (fun H locs hP1 hP2 hS => ?_)
  refine lv_aload_n hx hb d_law_1163 rfl (lv_at hl 2 rfl) ?_
  refine lw_arg C0 hl rfl rfl hS h1 d_law_1164 d_law_1165 d_law_1166 (by decide) d_law_1167 d_law_1168 ?_
  refine lw_call (as := [.int (xs (x3 + 1).toNatClampNeg)]) (rest := [.int r]) (CC := 200) (SS := 300000) (q := (.int r, f2)) (ad := ad2) (ad' := ad1) hx hb hml hown hts hK a7 (fun i j hi hj => (a3 j i hj hi).symm) a5 lwV_154 trivial hM2 rfl (Nat.le_of_ble_eq_true rfl) d_law_1169 ⟨by decide, by decide⟩ hP2 hP1 hS hl.1 (fun H locs hP2 hP1 hS => ?_)
  refine lv_icmp_eq (tgt := 1378) hx hb d_law_1172 (by decide) (fun _ => ?_) (fun q => absurd rfl q)
  exact kk H locs ls hP1 hP2 hS hl
set_option maxHeartbeats 4000000 in
/-- case 33: person -/
theorem lw_c33 (C0 : lw_At p s m meth c b L xs) (hK : va_K Dg mj_CL (mj_tys T3) s) (hAd : lw_Ad s ad1 ad2) {x3 : Int32} (h1 : vp_in (x3 + 1) L) (h2 : vp_in (x3 + 2) L) (h3 : vp_in (x3 + 3) L) (h4 : vp_in (x3 + 4) L) (h5 : vp_in (x3 + 5) L) {g1 g2 : mj_H} {G : mj_H → mj_H → Prop}
    (hp : ∃ (r : Int32) (f1 f2 : mj_H), mj_Cl mj_S1 mj_CD 900 274 (.ref 0 :: [.int (xs (x3 + 1).toNatClampNeg), .int (xs (x3 + 2).toNatClampNeg), .int (xs (x3 + 3).toNatClampNeg), .int (xs (x3 + 4).toNatClampNeg), .int (xs (x3 + 5).toNatClampNeg)]) g1 (.int r, f1) ∧ mj_Cl mj_S2 mj_CD 900 118 (.ref 0 :: [.int (xs (x3 + 1).toNatClampNeg), .int (xs (x3 + 2).toNatClampNeg), .int (xs (x3 + 3).toNatClampNeg), .int (xs (x3 + 4).toNatClampNeg), .int (xs (x3 + 5).toNatClampNeg)]) g2 (.int r, f2) ∧ G f1 f2)
    (kk : ∀ f1 f2, G f1 f2 → lw_St p l e s m b below meth c Dg T3 ad1 ad2 1378 [(0, .ref b), (1, .ref (ad1 0)), (2, .ref (ad2 0)), (3, .int x3)] [] f1 f2) :
    lw_St p l e s m b below meth c Dg T3 ad1 ad2 1177 [(0, .ref b), (1, .ref (ad1 0)), (2, .ref (ad2 0)), (3, .int x3)] [] g1 g2 := by
  obtain ⟨hx, hb, hr, hml, hown, hts, hX, hbl, hlocks, hgv⟩ := id C0
  obtain ⟨a1, a2, a3, a4, a5, a6, a7⟩ := id hAd
  obtain ⟨r, f1, f2, hc1, hc2, hG⟩ := hp
  have hM1 := mj_sound (l := l) (T3 := T3) (Dg := Dg) a1 (mj_Cs_of mj_Sok1) mj_hM 900 274 _ _ _ hc1
  have hM2 := mj_sound (l := l) (T3 := T3) (Dg := Dg) a2 (mj_Cs_of mj_Sok2) mj_hM 900 118 _ _ _ hc2
  have kk := kk f1 f2 hG
  intro H locs ls hP1 hP2 hS hl
  refine lv_aload_n hx hb d_law_1177 rfl (lv_at hl 1 rfl) ?_
  refine lw_arg C0 hl rfl rfl hS h1 d_law_1178 d_law_1179 d_law_1180 (by decide) d_law_1181 d_law_1182 ?_
  refine lw_arg C0 hl rfl rfl hS h2 d_law_1183 d_law_1184 d_law_1185 (by decide) d_law_1186 d_law_1187 ?_
  refine lw_arg C0 hl rfl rfl hS h3 d_law_1188 d_law_1189 d_law_1190 (by decide) d_law_1191 d_law_1192 ?_
  refine lw_arg C0 hl rfl rfl hS h4 d_law_1193 d_law_1194 d_law_1195 (by decide) d_law_1196 d_law_1197 ?_
  refine lw_arg C0 hl rfl rfl hS h5 d_law_1198 d_law_1199 d_law_1200 (by decide) d_law_1201 d_law_1202 ?_
  refine lw_call (as := [.int (xs (x3 + 1).toNatClampNeg), .int (xs (x3 + 2).toNatClampNeg), .int (xs (x3 + 3).toNatClampNeg), .int (xs (x3 + 4).toNatClampNeg), .int (xs (x3 + 5).toNatClampNeg)]) (rest := []) (CC := 200) (SS := 300000) (q := (.int r, f1)) (ad := ad1) (ad' := ad2) hx hb hml hown hts hK a6 a3 a4 lwV_155 trivial hM1 rfl (Nat.le_of_ble_eq_true rfl) d_law_1203 ⟨by decide, by decide⟩ hP1 hP2 hS hl.1 (fun H locs hP1 hP2 hS => ?_)
  refine lv_aload_n hx hb d_law_1206 rfl (lv_at hl 2 rfl) ?_
  refine lw_arg C0 hl rfl rfl hS h1 d_law_1207 d_law_1208 d_law_1209 (by decide) d_law_1210 d_law_1211 ?_
  refine lw_arg C0 hl rfl rfl hS h2 d_law_1212 d_law_1213 d_law_1214 (by decide) d_law_1215 d_law_1216 ?_
  refine lw_arg C0 hl rfl rfl hS h3 d_law_1217 d_law_1218 d_law_1219 (by decide) d_law_1220 d_law_1221 ?_
  refine lw_arg C0 hl rfl rfl hS h4 d_law_1222 d_law_1223 d_law_1224 (by decide) d_law_1225 d_law_1226 ?_
  refine lw_arg C0 hl rfl rfl hS h5 d_law_1227 d_law_1228 d_law_1229 (by decide) d_law_1230 d_law_1231 ?_
  refine lw_call (as := [.int (xs (x3 + 1).toNatClampNeg), .int (xs (x3 + 2).toNatClampNeg), .int (xs (x3 + 3).toNatClampNeg), .int (xs (x3 + 4).toNatClampNeg), .int (xs (x3 + 5).toNatClampNeg)]) (rest := [.int r]) (CC := 200) (SS := 300000) (q := (.int r, f2)) (ad := ad2) (ad' := ad1) hx hb hml hown hts hK a7 (fun i j hi hj => (a3 j i hj hi).symm) a5 lwV_159 trivial hM2 rfl (Nat.le_of_ble_eq_true rfl) d_law_1232 ⟨by decide, by decide⟩ hP2 hP1 hS hl.1 (fun H locs hP2 hP1 hS => ?_)
  refine lv_icmp_eq (tgt := 1378) hx hb d_law_1235 (by decide) (fun _ => ?_) (fun q => absurd rfl q)
  exact kk H locs ls hP1 hP2 hS hl
set_option maxHeartbeats 4000000 in
/-- case 34: bar -/
theorem lw_c34 (C0 : lw_At p s m meth c b L xs) (hK : va_K Dg mj_CL (mj_tys T3) s) (hAd : lw_Ad s ad1 ad2) {x3 : Int32} (h1 : vp_in (x3 + 1) L) (h2 : vp_in (x3 + 2) L) (h3 : vp_in (x3 + 3) L) {g1 g2 : mj_H} {G : mj_H → mj_H → Prop}
    (hp : ∃ (r : Int32) (f1 f2 : mj_H), mj_Cl mj_S1 mj_CD 900 277 (.ref 0 :: [.int (xs (x3 + 1).toNatClampNeg), .int (xs (x3 + 2).toNatClampNeg), .int (if (xs (x3 + 3).toNatClampNeg) = 0 then 0 else 1)]) g1 (.int r, f1) ∧ mj_Cl mj_S2 mj_CD 900 120 (.ref 0 :: [.int (xs (x3 + 1).toNatClampNeg), .int (xs (x3 + 2).toNatClampNeg), .int (if (xs (x3 + 3).toNatClampNeg) = 0 then 0 else 1)]) g2 (.int r, f2) ∧ G f1 f2)
    (kk : ∀ f1 f2, G f1 f2 → lw_St p l e s m b below meth c Dg T3 ad1 ad2 1378 [(0, .ref b), (1, .ref (ad1 0)), (2, .ref (ad2 0)), (3, .int x3)] [] f1 f2) :
    lw_St p l e s m b below meth c Dg T3 ad1 ad2 1240 [(0, .ref b), (1, .ref (ad1 0)), (2, .ref (ad2 0)), (3, .int x3)] [] g1 g2 := by
  obtain ⟨hx, hb, hr, hml, hown, hts, hX, hbl, hlocks, hgv⟩ := id C0
  obtain ⟨a1, a2, a3, a4, a5, a6, a7⟩ := id hAd
  obtain ⟨r, f1, f2, hc1, hc2, hG⟩ := hp
  have hM1 := mj_sound (l := l) (T3 := T3) (Dg := Dg) a1 (mj_Cs_of mj_Sok1) mj_hM 900 277 _ _ _ hc1
  have hM2 := mj_sound (l := l) (T3 := T3) (Dg := Dg) a2 (mj_Cs_of mj_Sok2) mj_hM 900 120 _ _ _ hc2
  have kk := kk f1 f2 hG
  intro H locs ls hP1 hP2 hS hl
  by_cases e3 : (xs (x3 + 3).toNatClampNeg) = 0
  · simp only [e3, if_true] at hM1 hM2
    refine lv_aload_n hx hb d_law_1240 rfl (lv_at hl 1 rfl) ?_
    refine lw_arg C0 hl rfl rfl hS h1 d_law_1241 d_law_1242 d_law_1243 (by decide) d_law_1244 d_law_1245 ?_
    refine lw_arg C0 hl rfl rfl hS h2 d_law_1246 d_law_1247 d_law_1248 (by decide) d_law_1249 d_law_1250 ?_
    refine lw_arg C0 hl rfl rfl hS h3 d_law_1251 d_law_1252 d_law_1253 (by decide) d_law_1254 d_law_1255 ?_
    refine lv_if_eq (tgt := 1263) hx hb d_law_1256 (by decide) (fun _ => ?_) (fun q => absurd e3 q)
    refine lv_iconst (v := 0) hx hb d_law_1263 (by decide) ?_
    refine lw_call (as := [.int (xs (x3 + 1).toNatClampNeg), .int (xs (x3 + 2).toNatClampNeg), .int 0]) (rest := []) (CC := 200) (SS := 300000) (q := (.int r, f1)) (ad := ad1) (ad' := ad2) hx hb hml hown hts hK a6 a3 a4 lwV_160 trivial hM1 rfl (Nat.le_of_ble_eq_true rfl) d_law_1264 ⟨by decide, by decide⟩ hP1 hP2 hS hl.1 (fun H locs hP1 hP2 hS => ?_)
    refine lv_aload_n hx hb d_law_1267 rfl (lv_at hl 2 rfl) ?_
    refine lw_arg C0 hl rfl rfl hS h1 d_law_1268 d_law_1269 d_law_1270 (by decide) d_law_1271 d_law_1272 ?_
    refine lw_arg C0 hl rfl rfl hS h2 d_law_1273 d_law_1274 d_law_1275 (by decide) d_law_1276 d_law_1277 ?_
    refine lw_arg C0 hl rfl rfl hS h3 d_law_1278 d_law_1279 d_law_1280 (by decide) d_law_1281 d_law_1282 ?_
    refine lv_if_eq (tgt := 1290) hx hb d_law_1283 (by decide) (fun _ => ?_) (fun q => absurd e3 q)
    refine lv_iconst (v := 0) hx hb d_law_1290 (by decide) ?_
    refine lw_call (as := [.int (xs (x3 + 1).toNatClampNeg), .int (xs (x3 + 2).toNatClampNeg), .int 0]) (rest := [.int r]) (CC := 200) (SS := 300000) (q := (.int r, f2)) (ad := ad2) (ad' := ad1) hx hb hml hown hts hK a7 (fun i j hi hj => (a3 j i hj hi).symm) a5 lwV_164 trivial hM2 rfl (Nat.le_of_ble_eq_true rfl) d_law_1291 ⟨by decide, by decide⟩ hP2 hP1 hS hl.1 (fun H locs hP2 hP1 hS => ?_)
    refine lv_icmp_eq (tgt := 1378) hx hb d_law_1294 (by decide) (fun _ => ?_) (fun q => absurd rfl q)
    exact kk H locs ls hP1 hP2 hS hl
  · simp only [e3, if_false] at hM1 hM2
    refine lv_aload_n hx hb d_law_1240 rfl (lv_at hl 1 rfl) ?_
    refine lw_arg C0 hl rfl rfl hS h1 d_law_1241 d_law_1242 d_law_1243 (by decide) d_law_1244 d_law_1245 ?_
    refine lw_arg C0 hl rfl rfl hS h2 d_law_1246 d_law_1247 d_law_1248 (by decide) d_law_1249 d_law_1250 ?_
    refine lw_arg C0 hl rfl rfl hS h3 d_law_1251 d_law_1252 d_law_1253 (by decide) d_law_1254 d_law_1255 ?_
    refine lv_if_eq (tgt := 1263) hx hb d_law_1256 (by decide) (fun q => absurd q e3) (fun _ => ?_)
    refine lv_iconst (v := 1) hx hb d_law_1259 (by decide) ?_
    refine lv_goto (tgt := 1264) hx hb d_law_1260 (by decide) ?_
    refine lw_call (as := [.int (xs (x3 + 1).toNatClampNeg), .int (xs (x3 + 2).toNatClampNeg), .int 1]) (rest := []) (CC := 200) (SS := 300000) (q := (.int r, f1)) (ad := ad1) (ad' := ad2) hx hb hml hown hts hK a6 a3 a4 lwV_160 trivial hM1 rfl (Nat.le_of_ble_eq_true rfl) d_law_1264 ⟨by decide, by decide⟩ hP1 hP2 hS hl.1 (fun H locs hP1 hP2 hS => ?_)
    refine lv_aload_n hx hb d_law_1267 rfl (lv_at hl 2 rfl) ?_
    refine lw_arg C0 hl rfl rfl hS h1 d_law_1268 d_law_1269 d_law_1270 (by decide) d_law_1271 d_law_1272 ?_
    refine lw_arg C0 hl rfl rfl hS h2 d_law_1273 d_law_1274 d_law_1275 (by decide) d_law_1276 d_law_1277 ?_
    refine lw_arg C0 hl rfl rfl hS h3 d_law_1278 d_law_1279 d_law_1280 (by decide) d_law_1281 d_law_1282 ?_
    refine lv_if_eq (tgt := 1290) hx hb d_law_1283 (by decide) (fun q => absurd q e3) (fun _ => ?_)
    refine lv_iconst (v := 1) hx hb d_law_1286 (by decide) ?_
    refine lv_goto (tgt := 1291) hx hb d_law_1287 (by decide) ?_
    refine lw_call (as := [.int (xs (x3 + 1).toNatClampNeg), .int (xs (x3 + 2).toNatClampNeg), .int 1]) (rest := [.int r]) (CC := 200) (SS := 300000) (q := (.int r, f2)) (ad := ad2) (ad' := ad1) hx hb hml hown hts hK a7 (fun i j hi hj => (a3 j i hj hi).symm) a5 lwV_164 trivial hM2 rfl (Nat.le_of_ble_eq_true rfl) d_law_1291 ⟨by decide, by decide⟩ hP2 hP1 hS hl.1 (fun H locs hP2 hP1 hS => ?_)
    refine lv_icmp_eq (tgt := 1378) hx hb d_law_1294 (by decide) (fun _ => ?_) (fun q => absurd rfl q)
    exact kk H locs ls hP1 hP2 hS hl
set_option maxHeartbeats 4000000 in
/-- case 35: choose -/
theorem lw_c35 (C0 : lw_At p s m meth c b L xs) (hK : va_K Dg mj_CL (mj_tys T3) s) (hAd : lw_Ad s ad1 ad2) {x3 : Int32} (h1 : vp_in (x3 + 1) L) {g1 g2 : mj_H} {G : mj_H → mj_H → Prop}
    (hp : ∃ (r : Int32) (f1 f2 : mj_H), mj_Cl mj_S1 mj_CD 900 278 (.ref 0 :: [.int (xs (x3 + 1).toNatClampNeg)]) g1 (.int r, f1) ∧ mj_Cl mj_S2 mj_CD 900 121 (.ref 0 :: [.int (xs (x3 + 1).toNatClampNeg)]) g2 (.int r, f2) ∧ G f1 f2)
    (kk : ∀ f1 f2, G f1 f2 → lw_St p l e s m b below meth c Dg T3 ad1 ad2 1378 [(0, .ref b), (1, .ref (ad1 0)), (2, .ref (ad2 0)), (3, .int x3)] [] f1 f2) :
    lw_St p l e s m b below meth c Dg T3 ad1 ad2 1299 [(0, .ref b), (1, .ref (ad1 0)), (2, .ref (ad2 0)), (3, .int x3)] [] g1 g2 := by
  obtain ⟨hx, hb, hr, hml, hown, hts, hX, hbl, hlocks, hgv⟩ := id C0
  obtain ⟨a1, a2, a3, a4, a5, a6, a7⟩ := id hAd
  obtain ⟨r, f1, f2, hc1, hc2, hG⟩ := hp
  have hM1 := mj_sound (l := l) (T3 := T3) (Dg := Dg) a1 (mj_Cs_of mj_Sok1) mj_hM 900 278 _ _ _ hc1
  have hM2 := mj_sound (l := l) (T3 := T3) (Dg := Dg) a2 (mj_Cs_of mj_Sok2) mj_hM 900 121 _ _ _ hc2
  have kk := kk f1 f2 hG
  intro H locs ls hP1 hP2 hS hl
  refine lv_aload_n hx hb d_law_1299 rfl (lv_at hl 1 rfl) ?_
  refine lw_arg C0 hl rfl rfl hS h1 d_law_1300 d_law_1301 d_law_1302 (by decide) d_law_1303 d_law_1304 ?_
  refine lw_call (as := [.int (xs (x3 + 1).toNatClampNeg)]) (rest := []) (CC := 200) (SS := 300000) (q := (.int r, f1)) (ad := ad1) (ad' := ad2) hx hb hml hown hts hK a6 a3 a4 lwV_165 trivial hM1 rfl (Nat.le_of_ble_eq_true rfl) d_law_1305 ⟨by decide, by decide⟩ hP1 hP2 hS hl.1 (fun H locs hP1 hP2 hS => ?_)
  refine lv_aload_n hx hb d_law_1308 rfl (lv_at hl 2 rfl) ?_
  refine lw_arg C0 hl rfl rfl hS h1 d_law_1309 d_law_1310 d_law_1311 (by decide) d_law_1312 d_law_1313 ?_
  refine lw_call (as := [.int (xs (x3 + 1).toNatClampNeg)]) (rest := [.int r]) (CC := 200) (SS := 300000) (q := (.int r, f2)) (ad := ad2) (ad' := ad1) hx hb hml hown hts hK a7 (fun i j hi hj => (a3 j i hj hi).symm) a5 lwV_168 trivial hM2 rfl (Nat.le_of_ble_eq_true rfl) d_law_1314 ⟨by decide, by decide⟩ hP2 hP1 hS hl.1 (fun H locs hP2 hP1 hS => ?_)
  refine lv_icmp_eq (tgt := 1378) hx hb d_law_1317 (by decide) (fun _ => ?_) (fun q => absurd rfl q)
  exact kk H locs ls hP1 hP2 hS hl
set_option maxHeartbeats 4000000 in
/-- case 36: breaks -/
theorem lw_c36 (C0 : lw_At p s m meth c b L xs) (hK : va_K Dg mj_CL (mj_tys T3) s) (hAd : lw_Ad s ad1 ad2) {x3 : Int32} (h1 : vp_in (x3 + 1) L) {g1 g2 : mj_H} {G : mj_H → mj_H → Prop}
    (hp : ∃ (r : Int32) (f1 f2 : mj_H), mj_Cl mj_S1 mj_CD 900 287 (.ref 0 :: [.int (xs (x3 + 1).toNatClampNeg)]) g1 (.int r, f1) ∧ mj_Cl mj_S2 mj_CD 900 131 (.ref 0 :: [.int (xs (x3 + 1).toNatClampNeg)]) g2 (.int r, f2) ∧ G f1 f2)
    (kk : ∀ f1 f2, G f1 f2 → lw_St p l e s m b below meth c Dg T3 ad1 ad2 1378 [(0, .ref b), (1, .ref (ad1 0)), (2, .ref (ad2 0)), (3, .int x3)] [] f1 f2) :
    lw_St p l e s m b below meth c Dg T3 ad1 ad2 1322 [(0, .ref b), (1, .ref (ad1 0)), (2, .ref (ad2 0)), (3, .int x3)] [] g1 g2 := by
  obtain ⟨hx, hb, hr, hml, hown, hts, hX, hbl, hlocks, hgv⟩ := id C0
  obtain ⟨a1, a2, a3, a4, a5, a6, a7⟩ := id hAd
  obtain ⟨r, f1, f2, hc1, hc2, hG⟩ := hp
  have hM1 := mj_sound (l := l) (T3 := T3) (Dg := Dg) a1 (mj_Cs_of mj_Sok1) mj_hM 900 287 _ _ _ hc1
  have hM2 := mj_sound (l := l) (T3 := T3) (Dg := Dg) a2 (mj_Cs_of mj_Sok2) mj_hM 900 131 _ _ _ hc2
  have kk := kk f1 f2 hG
  intro H locs ls hP1 hP2 hS hl
  refine lv_aload_n hx hb d_law_1322 rfl (lv_at hl 1 rfl) ?_
  refine lw_arg C0 hl rfl rfl hS h1 d_law_1323 d_law_1324 d_law_1325 (by decide) d_law_1326 d_law_1327 ?_
  refine lw_call (as := [.int (xs (x3 + 1).toNatClampNeg)]) (rest := []) (CC := 200) (SS := 300000) (q := (.int r, f1)) (ad := ad1) (ad' := ad2) hx hb hml hown hts hK a6 a3 a4 lwV_169 trivial hM1 rfl (Nat.le_of_ble_eq_true rfl) d_law_1328 ⟨by decide, by decide⟩ hP1 hP2 hS hl.1 (fun H locs hP1 hP2 hS => ?_)
  refine lv_aload_n hx hb d_law_1331 rfl (lv_at hl 2 rfl) ?_
  refine lw_arg C0 hl rfl rfl hS h1 d_law_1332 d_law_1333 d_law_1334 (by decide) d_law_1335 d_law_1336 ?_
  refine lw_call (as := [.int (xs (x3 + 1).toNatClampNeg)]) (rest := [.int r]) (CC := 200) (SS := 300000) (q := (.int r, f2)) (ad := ad2) (ad' := ad1) hx hb hml hown hts hK a7 (fun i j hi hj => (a3 j i hj hi).symm) a5 lwV_172 trivial hM2 rfl (Nat.le_of_ble_eq_true rfl) d_law_1337 ⟨by decide, by decide⟩ hP2 hP1 hS hl.1 (fun H locs hP2 hP1 hS => ?_)
  refine lv_icmp_eq (tgt := 1378) hx hb d_law_1340 (by decide) (fun _ => ?_) (fun q => absurd rfl q)
  exact kk H locs ls hP1 hP2 hS hl
set_option maxHeartbeats 4000000 in
/-- case 37: place -/
theorem lw_c37 (C0 : lw_At p s m meth c b L xs) (hK : va_K Dg mj_CL (mj_tys T3) s) (hAd : lw_Ad s ad1 ad2) {x3 : Int32} (h1 : vp_in (x3 + 1) L) (h2 : vp_in (x3 + 2) L) {g1 g2 : mj_H} {G : mj_H → mj_H → Prop}
    (hp : ∃ (r : Int32) (f1 f2 : mj_H), mj_Cl mj_S1 mj_CD 900 291 (.ref 0 :: [.int (xs (x3 + 1).toNatClampNeg), .int (xs (x3 + 2).toNatClampNeg)]) g1 (.int r, f1) ∧ mj_Cl mj_S2 mj_CD 900 132 (.ref 0 :: [.int (xs (x3 + 1).toNatClampNeg), .int (xs (x3 + 2).toNatClampNeg)]) g2 (.int r, f2) ∧ G f1 f2)
    (kk : ∀ f1 f2, G f1 f2 → lw_St p l e s m b below meth c Dg T3 ad1 ad2 1378 [(0, .ref b), (1, .ref (ad1 0)), (2, .ref (ad2 0)), (3, .int x3)] [] f1 f2) :
    lw_St p l e s m b below meth c Dg T3 ad1 ad2 1345 [(0, .ref b), (1, .ref (ad1 0)), (2, .ref (ad2 0)), (3, .int x3)] [] g1 g2 := by
  obtain ⟨hx, hb, hr, hml, hown, hts, hX, hbl, hlocks, hgv⟩ := id C0
  obtain ⟨a1, a2, a3, a4, a5, a6, a7⟩ := id hAd
  obtain ⟨r, f1, f2, hc1, hc2, hG⟩ := hp
  have hM1 := mj_sound (l := l) (T3 := T3) (Dg := Dg) a1 (mj_Cs_of mj_Sok1) mj_hM 900 291 _ _ _ hc1
  have hM2 := mj_sound (l := l) (T3 := T3) (Dg := Dg) a2 (mj_Cs_of mj_Sok2) mj_hM 900 132 _ _ _ hc2
  have kk := kk f1 f2 hG
  intro H locs ls hP1 hP2 hS hl
  refine lv_aload_n hx hb d_law_1345 rfl (lv_at hl 1 rfl) ?_
  refine lw_arg C0 hl rfl rfl hS h1 d_law_1346 d_law_1347 d_law_1348 (by decide) d_law_1349 d_law_1350 ?_
  refine lw_arg C0 hl rfl rfl hS h2 d_law_1351 d_law_1352 d_law_1353 (by decide) d_law_1354 d_law_1355 ?_
  refine lw_call (as := [.int (xs (x3 + 1).toNatClampNeg), .int (xs (x3 + 2).toNatClampNeg)]) (rest := []) (CC := 200) (SS := 300000) (q := (.int r, f1)) (ad := ad1) (ad' := ad2) hx hb hml hown hts hK a6 a3 a4 lwV_173 trivial hM1 rfl (Nat.le_of_ble_eq_true rfl) d_law_1356 ⟨by decide, by decide⟩ hP1 hP2 hS hl.1 (fun H locs hP1 hP2 hS => ?_)
  refine lv_aload_n hx hb d_law_1359 rfl (lv_at hl 2 rfl) ?_
  refine lw_arg C0 hl rfl rfl hS h1 d_law_1360 d_law_1361 d_law_1362 (by decide) d_law_1363 d_law_1364 ?_
  refine lw_arg C0 hl rfl rfl hS h2 d_law_1365 d_law_1366 d_law_1367 (by decide) d_law_1368 d_law_1369 ?_
  refine lw_call (as := [.int (xs (x3 + 1).toNatClampNeg), .int (xs (x3 + 2).toNatClampNeg)]) (rest := [.int r]) (CC := 200) (SS := 300000) (q := (.int r, f2)) (ad := ad2) (ad' := ad1) hx hb hml hown hts hK a7 (fun i j hi hj => (a3 j i hj hi).symm) a5 lwV_176 trivial hM2 rfl (Nat.le_of_ble_eq_true rfl) d_law_1370 ⟨by decide, by decide⟩ hP2 hP1 hS hl.1 (fun H locs hP2 hP1 hS => ?_)
  refine lv_icmp_eq (tgt := 1378) hx hb d_law_1373 (by decide) (fun _ => ?_) (fun q => absurd rfl q)
  exact kk H locs ls hP1 hP2 hS hl
end LWC
