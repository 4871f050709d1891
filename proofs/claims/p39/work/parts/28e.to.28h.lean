section
/-! a case of the law: a call of the class, the same call of the reference, and the two answers held against each other -/
def lw_Ad (s : State) (ad1 ad2 : Nat → Nat) : Prop := (∀ i j, i < mj_S1.length → j < mj_S1.length → ad1 i = ad1 j → i = j) ∧ (∀ i j, i < mj_S2.length → j < mj_S2.length → ad2 i = ad2 j → i = j) ∧ (∀ i j, i < mj_S1.length → j < mj_S2.length → ad1 i ≠ ad2 j) ∧ (∀ i, i < mj_S1.length → s.heap.size ≤ ad1 i) ∧ (∀ i, i < mj_S2.length → s.heap.size ≤ ad2 i) ∧ mj_MO ad1 (fun q => s.heap.size ≤ q) s s.heap ∧ mj_MO ad2 (fun q => s.heap.size ≤ q) s s.heap
def lw_St (p : Program) (l : Launch) (e : Env) (s : State) (m : MethodId) (b : Nat) (below : List Frame) (meth : Method) (c : Code) (Dg : va_G) (T3 : Nat × Nat × Nat) (ad1 ad2 : Nat → Nat) (pc : Nat) (lc : List (Nat × Value)) (st : List Value) (g1 g2 : mj_H) : Prop :=
  ∀ (H : Heap) (locs : List Loc) (ls : Array Slot), va_P Dg mj_CL (mj_W mj_S1 mj_TY T3 ad1 g1) H → va_P Dg mj_CL (mj_W mj_S2 mj_TY T3 ad2 g2) H → va_S (fun q : Nat => s.heap.size ≤ q) s.heap H locs → lv_has ls 4 lc →
    W p l e room_1 s m #[Value.ref b] below meth c H locs 200 300000 (lw_Z below #[Value.ref b] s) (F0 m pc ls st)
section LWC
variable {p : Program} {l : Launch} {e : Env} {s : State} {m : MethodId} {below : List Frame} {meth : Method} {c : Code} {b L : Nat} {xs : Nat → Int32}
variable {Dg : va_G} {T3 : Nat × Nat × Nat} {ad1 ad2 : Nat → Nat}
theorem lw_arg {H : Heap} {locs : List Loc} {ls : Array Slot} {st : List Value} {x3 j : Int32} {jn : Int} {pc CC SS : Nat} {lc : List (Nat × Value)} (C0 : lw_At p s m meth c b L xs) (hl : lv_has ls 4 lc) (h0 : lc[0]? = some (0, .ref b)) (h3 : lc[3]? = some (3, .int x3))
    (hS : va_S (fun q : Nat => s.heap.size ≤ q) s.heap H locs) (hin : vp_in (x3 + j) L) (d0 : decode code pc = .ok (.aload_n 0, 1)) (d1 : decode code (pc + 1) = .ok (.iload_n 3, 1)) (d2 : decode code (pc + 1 + 1) = .ok (.iconst jn, 1)) (hj : Int32.ofInt jn = j) (d3 : decode code (pc + 1 + 1 + 1) = .ok (.iadd, 1)) (d4 : decode code (pc + 1 + 1 + 1 + 1) = .ok (.iaload, 1))
    (kk : W p l e room_1 s m #[Value.ref b] below meth c H locs CC SS (lw_Z below #[Value.ref b] s) (F0 m (pc + 1 + 1 + 1 + 1 + 1) ls (.int (xs (x3 + j).toNatClampNeg) :: st))) : W p l e room_1 s m #[Value.ref b] below meth c H locs CC SS (lw_Z below #[Value.ref b] s) (F0 m pc ls st) := by
  obtain ⟨hx, hb, hr, hml, hown, hts, hX, hbl, hlocks, hgv⟩ := id C0
  have hbA : ¬ (fun q : Nat => s.heap.size ≤ q) b := Nat.not_le.mpr hbl
  refine lv_aload_n hx hb d0 rfl (lv_at hl 0 h0) ?_
  refine lv_iload_n hx hb d1 rfl (lv_at hl 3 h3) ?_
  refine lv_iconst (v := j) hx hb d2 hj ?_
  refine lv_iadd hx hb d3 ?_
  exact va_sld hx hb hX hbl hbA hS hin d4 kk
theorem lw_cmp0 (x : Int64) : lg_cmp x x = 0 := by unfold lg_cmp; simp
set_option maxHeartbeats 4000000 in
/-- case 0: feed -/
theorem lw_c0 (C0 : lw_At p s m meth c b L xs) (hK : va_K Dg mj_CL (mj_tys T3) s) (hAd : lw_Ad s ad1 ad2) {x3 : Int32} (h1 : vp_in (x3 + 1) L) (h2 : vp_in (x3 + 2) L) (h3 : vp_in (x3 + 3) L) (h4 : vp_in (x3 + 4) L) (h5 : vp_in (x3 + 5) L) {g1 g2 : mj_H} {G : mj_H → mj_H → Prop}
    (hp : ∃ (r r2 : Int32) (f1 f2 : mj_H), mj_Cl mj_S1 mj_CD 900 133 (.ref 0 :: [.int (xs (x3 + 1).toNatClampNeg), .int (xs (x3 + 2).toNatClampNeg), .int (xs (x3 + 3).toNatClampNeg), .int (xs (x3 + 4).toNatClampNeg), .int (xs (x3 + 5).toNatClampNeg)]) g1 (.int r, f1) ∧ mj_Cl mj_S2 mj_CD 900 9 (.ref 0 :: [.int (xs (x3 + 1).toNatClampNeg), .int (xs (x3 + 2).toNatClampNeg), .int (xs (x3 + 3).toNatClampNeg), .int (xs (x3 + 4).toNatClampNeg), .int (xs (x3 + 5).toNatClampNeg)]) g2 (.int r2, f2) ∧ G f1 f2)
    (kk : ∀ f1 f2, G f1 f2 → lw_St p l e s m b below meth c Dg T3 ad1 ad2 1374 [(0, .ref b), (1, .ref (ad1 0)), (2, .ref (ad2 0)), (3, .int x3)] [] f1 f2) :
    lw_St p l e s m b below meth c Dg T3 ad1 ad2 200 [(0, .ref b), (1, .ref (ad1 0)), (2, .ref (ad2 0)), (3, .int x3)] [] g1 g2 := by
  obtain ⟨hx, hb, hr, hml, hown, hts, hX, hbl, hlocks, hgv⟩ := id C0
  obtain ⟨a1, a2, a3, a4, a5, a6, a7⟩ := id hAd
  obtain ⟨r, r2, f1, f2, hc1, hc2, hG⟩ := hp
  have hM1 := mj_sound (l := l) (T3 := T3) (Dg := Dg) a1 (mj_Cs_of mj_Sok1) mj_hM 900 133 _ _ _ hc1
  have hM2 := mj_sound (l := l) (T3 := T3) (Dg := Dg) a2 (mj_Cs_of mj_Sok2) mj_hM 900 9 _ _ _ hc2
  have kk := kk f1 f2 hG
  intro H locs ls hP1 hP2 hS hl
  refine lv_aload_n hx hb d_law_200 rfl (lv_at hl 1 rfl) ?_
  refine lw_arg C0 hl rfl rfl hS h1 d_law_201 d_law_202 d_law_203 (by decide) d_law_204 d_law_205 ?_
  refine lw_arg C0 hl rfl rfl hS h2 d_law_206 d_law_207 d_law_208 (by decide) d_law_209 d_law_210 ?_
  refine lw_arg C0 hl rfl rfl hS h3 d_law_211 d_law_212 d_law_213 (by decide) d_law_214 d_law_215 ?_
  refine lw_arg C0 hl rfl rfl hS h4 d_law_216 d_law_217 d_law_218 (by decide) d_law_219 d_law_220 ?_
  refine lw_arg C0 hl rfl rfl hS h5 d_law_221 d_law_222 d_law_223 (by decide) d_law_224 d_law_225 ?_
  refine lw_call (as := [.int (xs (x3 + 1).toNatClampNeg), .int (xs (x3 + 2).toNatClampNeg), .int (xs (x3 + 3).toNatClampNeg), .int (xs (x3 + 4).toNatClampNeg), .int (xs (x3 + 5).toNatClampNeg)]) (rest := []) (CC := 200) (SS := 300000) (q := (.int r, f1)) (ad := ad1) (ad' := ad2) hx hb hml hown hts hK a6 a3 a4 lwV_13 trivial hM1 rfl (Nat.le_of_ble_eq_true rfl) d_law_226 ⟨by decide, by decide⟩ hP1 hP2 hS hl.1 (fun H locs hP1 hP2 hS => ?_)
  refine lv_pop hx hb d_law_229 rfl ?_
  refine lv_aload_n hx hb d_law_230 rfl (lv_at hl 2 rfl) ?_
  refine lw_arg C0 hl rfl rfl hS h1 d_law_231 d_law_232 d_law_233 (by decide) d_law_234 d_law_235 ?_
  refine lw_arg C0 hl rfl rfl hS h2 d_law_236 d_law_237 d_law_238 (by decide) d_law_239 d_law_240 ?_
  refine lw_arg C0 hl rfl rfl hS h3 d_law_241 d_law_242 d_law_243 (by decide) d_law_244 d_law_245 ?_
  refine lw_arg C0 hl rfl rfl hS h4 d_law_246 d_law_247 d_law_248 (by decide) d_law_249 d_law_250 ?_
  refine lw_arg C0 hl rfl rfl hS h5 d_law_251 d_law_252 d_law_253 (by decide) d_law_254 d_law_255 ?_
  refine lw_call (as := [.int (xs (x3 + 1).toNatClampNeg), .int (xs (x3 + 2).toNatClampNeg), .int (xs (x3 + 3).toNatClampNeg), .int (xs (x3 + 4).toNatClampNeg), .int (xs (x3 + 5).toNatClampNeg)]) (rest := []) (CC := 200) (SS := 300000) (q := (.int r2, f2)) (ad := ad2) (ad' := ad1) hx hb hml hown hts hK a7 (fun i j hi hj => (a3 j i hj hi).symm) a5 lwV_17 trivial hM2 rfl (Nat.le_of_ble_eq_true rfl) d_law_256 ⟨by decide, by decide⟩ hP2 hP1 hS hl.1 (fun H locs hP2 hP1 hS => ?_)
  refine lv_pop hx hb d_law_259 rfl ?_
  refine lv_goto (tgt := 1374) hx hb d_law_260 (by decide) ?_
  exact kk H locs ls hP1 hP2 hS hl
set_option maxHeartbeats 4000000 in
/-- case 1: end -/
theorem lw_c1 (C0 : lw_At p s m meth c b L xs) (hK : va_K Dg mj_CL (mj_tys T3) s) (hAd : lw_Ad s ad1 ad2) {x3 : Int32} (h1 : vp_in (x3 + 1) L) {g1 g2 : mj_H} {G : mj_H → mj_H → Prop}
    (hp : ∃ (r r2 : Int32) (f1 f2 : mj_H), mj_Cl mj_S1 mj_CD 900 135 (.ref 0 :: [.int (xs (x3 + 1).toNatClampNeg)]) g1 (.int r, f1) ∧ mj_Cl mj_S2 mj_CD 900 11 (.ref 0 :: [.int (xs (x3 + 1).toNatClampNeg)]) g2 (.int r2, f2) ∧ G f1 f2)
    (kk : ∀ f1 f2, G f1 f2 → lw_St p l e s m b below meth c Dg T3 ad1 ad2 1374 [(0, .ref b), (1, .ref (ad1 0)), (2, .ref (ad2 0)), (3, .int x3)] [] f1 f2) :
    lw_St p l e s m b below meth c Dg T3 ad1 ad2 263 [(0, .ref b), (1, .ref (ad1 0)), (2, .ref (ad2 0)), (3, .int x3)] [] g1 g2 := by
  obtain ⟨hx, hb, hr, hml, hown, hts, hX, hbl, hlocks, hgv⟩ := id C0
  obtain ⟨a1, a2, a3, a4, a5, a6, a7⟩ := id hAd
  obtain ⟨r, r2, f1, f2, hc1, hc2, hG⟩ := hp
  have hM1 := mj_sound (l := l) (T3 := T3) (Dg := Dg) a1 (mj_Cs_of mj_Sok1) mj_hM 900 135 _ _ _ hc1
  have hM2 := mj_sound (l := l) (T3 := T3) (Dg := Dg) a2 (mj_Cs_of mj_Sok2) mj_hM 900 11 _ _ _ hc2
  have kk := kk f1 f2 hG
  intro H locs ls hP1 hP2 hS hl
  refine lv_aload_n hx hb d_law_263 rfl (lv_at hl 1 rfl) ?_
  refine lw_arg C0 hl rfl rfl hS h1 d_law_264 d_law_265 d_law_266 (by decide) d_law_267 d_law_268 ?_
  refine lw_call (as := [.int (xs (x3 + 1).toNatClampNeg)]) (rest := []) (CC := 200) (SS := 300000) (q := (.int r, f1)) (ad := ad1) (ad' := ad2) hx hb hml hown hts hK a6 a3 a4 lwV_18 trivial hM1 rfl (Nat.le_of_ble_eq_true rfl) d_law_269 ⟨by decide, by decide⟩ hP1 hP2 hS hl.1 (fun H locs hP1 hP2 hS => ?_)
  refine lv_pop hx hb d_law_272 rfl ?_
  refine lv_aload_n hx hb d_law_273 rfl (lv_at hl 2 rfl) ?_
  refine lw_arg C0 hl rfl rfl hS h1 d_law_274 d_law_275 d_law_276 (by decide) d_law_277 d_law_278 ?_
  refine lw_call (as := [.int (xs (x3 + 1).toNatClampNeg)]) (rest := []) (CC := 200) (SS := 300000) (q := (.int r2, f2)) (ad := ad2) (ad' := ad1) hx hb hml hown hts hK a7 (fun i j hi hj => (a3 j i hj hi).symm) a5 lwV_22 trivial hM2 rfl (Nat.le_of_ble_eq_true rfl) d_law_279 ⟨by decide, by decide⟩ hP2 hP1 hS hl.1 (fun H locs hP2 hP1 hS => ?_)
  refine lv_pop hx hb d_law_282 rfl ?_
  refine lv_goto (tgt := 1374) hx hb d_law_283 (by decide) ?_
  exact kk H locs ls hP1 hP2 hS hl
set_option maxHeartbeats 4000000 in
/-- case 2: text -/
theorem lw_c2 (C0 : lw_At p s m meth c b L xs) (hK : va_K Dg mj_CL (mj_tys T3) s) (hAd : lw_Ad s ad1 ad2) {x3 : Int32} {g1 g2 : mj_H} {G : mj_H → mj_H → Prop}
    (hp : ∃ (r r2 : Int32) (f1 f2 : mj_H), mj_Cl mj_S1 mj_CD 900 136 (.ref 0 :: []) g1 (.int r, f1) ∧ mj_Cl mj_S2 mj_CD 900 12 (.ref 0 :: []) g2 (.int r2, f2) ∧ G f1 f2)
    (kk : ∀ f1 f2, G f1 f2 → lw_St p l e s m b below meth c Dg T3 ad1 ad2 1374 [(0, .ref b), (1, .ref (ad1 0)), (2, .ref (ad2 0)), (3, .int x3)] [] f1 f2) :
    lw_St p l e s m b below meth c Dg T3 ad1 ad2 286 [(0, .ref b), (1, .ref (ad1 0)), (2, .ref (ad2 0)), (3, .int x3)] [] g1 g2 := by
  obtain ⟨hx, hb, hr, hml, hown, hts, hX, hbl, hlocks, hgv⟩ := id C0
  obtain ⟨a1, a2, a3, a4, a5, a6, a7⟩ := id hAd
  obtain ⟨r, r2, f1, f2, hc1, hc2, hG⟩ := hp
  have hM1 := mj_sound (l := l) (T3 := T3) (Dg := Dg) a1 (mj_Cs_of mj_Sok1) mj_hM 900 136 _ _ _ hc1
  have hM2 := mj_sound (l := l) (T3 := T3) (Dg := Dg) a2 (mj_Cs_of mj_Sok2) mj_hM 900 12 _ _ _ hc2
  have kk := kk f1 f2 hG
  intro H locs ls hP1 hP2 hS hl
  refine lv_aload_n hx hb d_law_286 rfl (lv_at hl 1 rfl) ?_
  refine lw_call (as := []) (rest := []) (CC := 200) (SS := 300000) (q := (.int r, f1)) (ad := ad1) (ad' := ad2) hx hb hml hown hts hK a6 a3 a4 lwV_23 trivial hM1 rfl (Nat.le_of_ble_eq_true rfl) d_law_287 ⟨by decide, by decide⟩ hP1 hP2 hS hl.1 (fun H locs hP1 hP2 hS => ?_)
  refine lv_pop hx hb d_law_290 rfl ?_
  refine lv_aload_n hx hb d_law_291 rfl (lv_at hl 2 rfl) ?_
  refine lw_call (as := []) (rest := []) (CC := 200) (SS := 300000) (q := (.int r2, f2)) (ad := ad2) (ad' := ad1) hx hb hml hown hts hK a7 (fun i j hi hj => (a3 j i hj hi).symm) a5 lwV_27 trivial hM2 rfl (Nat.le_of_ble_eq_true rfl) d_law_292 ⟨by decide, by decide⟩ hP2 hP1 hS hl.1 (fun H locs hP2 hP1 hS => ?_)
  refine lv_pop hx hb d_law_295 rfl ?_
  refine lv_goto (tgt := 1374) hx hb d_law_296 (by decide) ?_
  exact kk H locs ls hP1 hP2 hS hl
set_option maxHeartbeats 4000000 in
/-- case 3: fault -/
theorem lw_c3 (C0 : lw_At p s m meth c b L xs) (hK : va_K Dg mj_CL (mj_tys T3) s) (hAd : lw_Ad s ad1 ad2) {x3 : Int32} (h1 : vp_in (x3 + 1) L) {g1 g2 : mj_H} {G : mj_H → mj_H → Prop}
    (hp : ∃ (r r2 : Int32) (f1 f2 : mj_H), mj_Cl mj_S1 mj_CD 900 189 (.ref 0 :: [.int (xs (x3 + 1).toNatClampNeg)]) g1 (.int r, f1) ∧ mj_Cl mj_S2 mj_CD 900 45 (.ref 0 :: [.int (xs (x3 + 1).toNatClampNeg)]) g2 (.int r2, f2) ∧ G f1 f2)
    (kk : ∀ f1 f2, G f1 f2 → lw_St p l e s m b below meth c Dg T3 ad1 ad2 1374 [(0, .ref b), (1, .ref (ad1 0)), (2, .ref (ad2 0)), (3, .int x3)] [] f1 f2) :
    lw_St p l e s m b below meth c Dg T3 ad1 ad2 299 [(0, .ref b), (1, .ref (ad1 0)), (2, .ref (ad2 0)), (3, .int x3)] [] g1 g2 := by
  obtain ⟨hx, hb, hr, hml, hown, hts, hX, hbl, hlocks, hgv⟩ := id C0
  obtain ⟨a1, a2, a3, a4, a5, a6, a7⟩ := id hAd
  obtain ⟨r, r2, f1, f2, hc1, hc2, hG⟩ := hp
  have hM1 := mj_sound (l := l) (T3 := T3) (Dg := Dg) a1 (mj_Cs_of mj_Sok1) mj_hM 900 189 _ _ _ hc1
  have hM2 := mj_sound (l := l) (T3 := T3) (Dg := Dg) a2 (mj_Cs_of mj_Sok2) mj_hM 900 45 _ _ _ hc2
  have kk := kk f1 f2 hG
  intro H locs ls hP1 hP2 hS hl
  refine lv_aload_n hx hb d_law_299 rfl (lv_at hl 1 rfl) ?_
  refine lw_arg C0 hl rfl rfl hS h1 d_law_300 d_law_301 d_law_302 (by decide) d_law_303 d_law_304 ?_
  refine lw_call (as := [.int (xs (x3 + 1).toNatClampNeg)]) (rest := []) (CC := 200) (SS := 300000) (q := (.int r, f1)) (ad := ad1) (ad' := ad2) hx hb hml hown hts hK a6 a3 a4 lwV_28 trivial hM1 rfl (Nat.le_of_ble_eq_true rfl) d_law_305 ⟨by decide, by decide⟩ hP1 hP2 hS hl.1 (fun H locs hP1 hP2 hS => ?_)
  refine lv_pop hx hb d_law_308 rfl ?_
  refine lv_aload_n hx hb d_law_309 rfl (lv_at hl 2 rfl) ?_
  refine lw_arg C0 hl rfl rfl hS h1 d_law_310 d_law_311 d_law_312 (by decide) d_law_313 d_law_314 ?_
  refine lw_call (as := [.int (xs (x3 + 1).toNatClampNeg)]) (rest := []) (CC := 200) (SS := 300000) (q := (.int r2, f2)) (ad := ad2) (ad' := ad1) hx hb hml hown hts hK a7 (fun i j hi hj => (a3 j i hj hi).symm) a5 lwV_32 trivial hM2 rfl (Nat.le_of_ble_eq_true rfl) d_law_315 ⟨by decide, by decide⟩ hP2 hP1 hS hl.1 (fun H locs hP2 hP1 hS => ?_)
  refine lv_pop hx hb d_law_318 rfl ?_
  refine lv_goto (tgt := 1374) hx hb d_law_319 (by decide) ?_
  exact kk H locs ls hP1 hP2 hS hl
set_option maxHeartbeats 4000000 in
/-- case 4: has -/
theorem lw_c4 (C0 : lw_At p s m meth c b L xs) (hK : va_K Dg mj_CL (mj_tys T3) s) (hAd : lw_Ad s ad1 ad2) {x3 : Int32} (h1 : vp_in (x3 + 1) L) {g1 g2 : mj_H} {G : mj_H → mj_H → Prop}
    (hp : ∃ (r r2 : Int32) (f1 f2 : mj_H), mj_Cl mj_S1 mj_CD 900 190 (.ref 0 :: [.int (xs (x3 + 1).toNatClampNeg)]) g1 (.int r, f1) ∧ mj_Cl mj_S2 mj_CD 900 46 (.ref 0 :: [.int (xs (x3 + 1).toNatClampNeg)]) g2 (.int r2, f2) ∧ G f1 f2)
    (kk : ∀ f1 f2, G f1 f2 → lw_St p l e s m b below meth c Dg T3 ad1 ad2 1374 [(0, .ref b), (1, .ref (ad1 0)), (2, .ref (ad2 0)), (3, .int x3)] [] f1 f2) :
    lw_St p l e s m b below meth c Dg T3 ad1 ad2 322 [(0, .ref b), (1, .ref (ad1 0)), (2, .ref (ad2 0)), (3, .int x3)] [] g1 g2 := by
  obtain ⟨hx, hb, hr, hml, hown, hts, hX, hbl, hlocks, hgv⟩ := id C0
  obtain ⟨a1, a2, a3, a4, a5, a6, a7⟩ := id hAd
  obtain ⟨r, r2, f1, f2, hc1, hc2, hG⟩ := hp
  have hM1 := mj_sound (l := l) (T3 := T3) (Dg := Dg) a1 (mj_Cs_of mj_Sok1) mj_hM 900 190 _ _ _ hc1
  have hM2 := mj_sound (l := l) (T3 := T3) (Dg := Dg) a2 (mj_Cs_of mj_Sok2) mj_hM 900 46 _ _ _ hc2
  have kk := kk f1 f2 hG
  intro H locs ls hP1 hP2 hS hl
  refine lv_aload_n hx hb d_law_322 rfl (lv_at hl 1 rfl) ?_
  refine lw_arg C0 hl rfl rfl hS h1 d_law_323 d_law_324 d_law_325 (by decide) d_law_326 d_law_327 ?_
  refine lw_call (as := [.int (xs (x3 + 1).toNatClampNeg)]) (rest := []) (CC := 200) (SS := 300000) (q := (.int r, f1)) (ad := ad1) (ad' := ad2) hx hb hml hown hts hK a6 a3 a4 lwV_33 trivial hM1 rfl (Nat.le_of_ble_eq_true rfl) d_law_328 ⟨by decide, by decide⟩ hP1 hP2 hS hl.1 (fun H locs hP1 hP2 hS => ?_)
  refine lv_pop hx hb d_law_331 rfl ?_
  refine lv_aload_n hx hb d_law_332 rfl (lv_at hl 2 rfl) ?_
  refine lw_arg C0 hl rfl rfl hS h1 d_law_333 d_law_334 d_law_335 (by decide) d_law_336 d_law_337 ?_
  refine lw_call (as := [.int (xs (x3 + 1).toNatClampNeg)]) (rest := []) (CC := 200) (SS := 300000) (q := (.int r2, f2)) (ad := ad2) (ad' := ad1) hx hb hml hown hts hK a7 (fun i j hi hj => (a3 j i hj hi).symm) a5 lwV_36 trivial hM2 rfl (Nat.le_of_ble_eq_true rfl) d_law_338 ⟨by decide, by decide⟩ hP2 hP1 hS hl.1 (fun H locs hP2 hP1 hS => ?_)
  refine lv_pop hx hb d_law_341 rfl ?_
  refine lv_goto (tgt := 1374) hx hb d_law_342 (by decide) ?_
  exact kk H locs ls hP1 hP2 hS hl
set_option maxHeartbeats 4000000 in
/-- case 5: letter -/
theorem lw_c5 (C0 : lw_At p s m meth c b L xs) (hK : va_K Dg mj_CL (mj_tys T3) s) (hAd : lw_Ad s ad1 ad2) {x3 : Int32} (h1 : vp_in (x3 + 1) L) (h2 : vp_in (x3 + 2) L) (h3 : vp_in (x3 + 3) L) {g1 g2 : mj_H} {G : mj_H → mj_H → Prop}
    (hp : ∃ (r r2 : Int32) (f1 f2 : mj_H), mj_Cl mj_S1 mj_CD 900 191 (.ref 0 :: [.int (xs (x3 + 1).toNatClampNeg), .int (xs (x3 + 2).toNatClampNeg), .int (xs (x3 + 3).toNatClampNeg)]) g1 (.int r, f1) ∧ mj_Cl mj_S2 mj_CD 900 47 (.ref 0 :: [.int (xs (x3 + 1).toNatClampNeg), .int (xs (x3 + 2).toNatClampNeg), .int (xs (x3 + 3).toNatClampNeg)]) g2 (.int r2, f2) ∧ G f1 f2)
    (kk : ∀ f1 f2, G f1 f2 → lw_St p l e s m b below meth c Dg T3 ad1 ad2 1374 [(0, .ref b), (1, .ref (ad1 0)), (2, .ref (ad2 0)), (3, .int x3)] [] f1 f2) :
    lw_St p l e s m b below meth c Dg T3 ad1 ad2 345 [(0, .ref b), (1, .ref (ad1 0)), (2, .ref (ad2 0)), (3, .int x3)] [] g1 g2 := by
  obtain ⟨hx, hb, hr, hml, hown, hts, hX, hbl, hlocks, hgv⟩ := id C0
  obtain ⟨a1, a2, a3, a4, a5, a6, a7⟩ := id hAd
  obtain ⟨r, r2, f1, f2, hc1, hc2, hG⟩ := hp
  have hM1 := mj_sound (l := l) (T3 := T3) (Dg := Dg) a1 (mj_Cs_of mj_Sok1) mj_hM 900 191 _ _ _ hc1
  have hM2 := mj_sound (l := l) (T3 := T3) (Dg := Dg) a2 (mj_Cs_of mj_Sok2) mj_hM 900 47 _ _ _ hc2
  have kk := kk f1 f2 hG
  intro H locs ls hP1 hP2 hS hl
  refine lv_aload_n hx hb d_law_345 rfl (lv_at hl 1 rfl) ?_
  refine lw_arg C0 hl rfl rfl hS h1 d_law_346 d_law_347 d_law_348 (by decide) d_law_349 d_law_350 ?_
  refine lw_arg C0 hl rfl rfl hS h2 d_law_351 d_law_352 d_law_353 (by decide) d_law_354 d_law_355 ?_
  refine lw_arg C0 hl rfl rfl hS h3 d_law_356 d_law_357 d_law_358 (by decide) d_law_359 d_law_360 ?_
  refine lw_call (as := [.int (xs (x3 + 1).toNatClampNeg), .int (xs (x3 + 2).toNatClampNeg), .int (xs (x3 + 3).toNatClampNeg)]) (rest := []) (CC := 200) (SS := 300000) (q := (.int r, f1)) (ad := ad1) (ad' := ad2) hx hb hml hown hts hK a6 a3 a4 lwV_37 trivial hM1 rfl (Nat.le_of_ble_eq_true rfl) d_law_361 ⟨by decide, by decide⟩ hP1 hP2 hS hl.1 (fun H locs hP1 hP2 hS => ?_)
  refine lv_pop hx hb d_law_364 rfl ?_
  refine lv_aload_n hx hb d_law_365 rfl (lv_at hl 2 rfl) ?_
  refine lw_arg C0 hl rfl rfl hS h1 d_law_366 d_law_367 d_law_368 (by decide) d_law_369 d_law_370 ?_
  refine lw_arg C0 hl rfl rfl hS h2 d_law_371 d_law_372 d_law_373 (by decide) d_law_374 d_law_375 ?_
  refine lw_arg C0 hl rfl rfl hS h3 d_law_376 d_law_377 d_law_378 (by decide) d_law_379 d_law_380 ?_
  refine lw_call (as := [.int (xs (x3 + 1).toNatClampNeg), .int (xs (x3 + 2).toNatClampNeg), .int (xs (x3 + 3).toNatClampNeg)]) (rest := []) (CC := 200) (SS := 300000) (q := (.int r2, f2)) (ad := ad2) (ad' := ad1) hx hb hml hown hts hK a7 (fun i j hi hj => (a3 j i hj hi).symm) a5 lwV_41 trivial hM2 rfl (Nat.le_of_ble_eq_true rfl) d_law_381 ⟨by decide, by decide⟩ hP2 hP1 hS hl.1 (fun H locs hP2 hP1 hS => ?_)
  refine lv_pop hx hb d_law_384 rfl ?_
  refine lv_goto (tgt := 1374) hx hb d_law_385 (by decide) ?_
  exact kk H locs ls hP1 hP2 hS hl
set_option maxHeartbeats 4000000 in
/-- case 6: price -/
theorem lw_c6 (C0 : lw_At p s m meth c b L xs) (hK : va_K Dg mj_CL (mj_tys T3) s) (hAd : lw_Ad s ad1 ad2) {x3 : Int32} (h1 : vp_in (x3 + 1) L) (h2 : vp_in (x3 + 2) L) (h3 : vp_in (x3 + 3) L) {g1 g2 : mj_H} {G : mj_H → mj_H → Prop}
    (hp : ∃ (r r2 : Int32) (f1 f2 : mj_H), mj_Cl mj_S1 mj_CD 900 194 (.ref 0 :: [.int (xs (x3 + 1).toNatClampNeg), .int (xs (x3 + 2).toNatClampNeg), .int (if (xs (x3 + 3).toNatClampNeg) = 0 then 0 else 1)]) g1 (.int r, f1) ∧ mj_Cl mj_S2 mj_CD 900 52 (.ref 0 :: [.int (xs (x3 + 1).toNatClampNeg), .int (xs (x3 + 2).toNatClampNeg), .int (if (xs (x3 + 3).toNatClampNeg) = 0 then 0 else 1)]) g2 (.int r2, f2) ∧ G f1 f2)
    (kk : ∀ f1 f2, G f1 f2 → lw_St p l e s m b below meth c Dg T3 ad1 ad2 1374 [(0, .ref b), (1, .ref (ad1 0)), (2, .ref (ad2 0)), (3, .int x3)] [] f1 f2) :
    lw_St p l e s m b below meth c Dg T3 ad1 ad2 388 [(0, .ref b), (1, .ref (ad1 0)), (2, .ref (ad2 0)), (3, .int x3)] [] g1 g2 := by
  obtain ⟨hx, hb, hr, hml, hown, hts, hX, hbl, hlocks, hgv⟩ := id C0
  obtain ⟨a1, a2, a3, a4, a5, a6, a7⟩ := id hAd
  obtain ⟨r, r2, f1, f2, hc1, hc2, hG⟩ := hp
  have hM1 := mj_sound (l := l) (T3 := T3) (Dg := Dg) a1 (mj_Cs_of mj_Sok1) mj_hM 900 194 _ _ _ hc1
  have hM2 := mj_sound (l := l) (T3 := T3) (Dg := Dg) a2 (mj_Cs_of mj_Sok2) mj_hM 900 52 _ _ _ hc2
  have kk := kk f1 f2 hG
  intro H locs ls hP1 hP2 hS hl
  by_cases e3 : (xs (x3 + 3).toNatClampNeg) = 0
  · simp only [e3, if_true] at hM1 hM2
    refine lv_aload_n hx hb d_law_388 rfl (lv_at hl 1 rfl) ?_
    refine lw_arg C0 hl rfl rfl hS h1 d_law_389 d_law_390 d_law_391 (by decide) d_law_392 d_law_393 ?_
    refine lw_arg C0 hl rfl rfl hS h2 d_law_394 d_law_395 d_law_396 (by decide) d_law_397 d_law_398 ?_
    refine lw_arg C0 hl rfl rfl hS h3 d_law_399 d_law_400 d_law_401 (by decide) d_law_402 d_law_403 ?_
    refine lv_if_eq (tgt := 411) hx hb d_law_404 (by decide) (fun _ => ?_) (fun q => absurd e3 q)
    refine lv_iconst (v := 0) hx hb d_law_411 (by decide) ?_
    refine lw_call (as := [.int (xs (x3 + 1).toNatClampNeg), .int (xs (x3 + 2).toNatClampNeg), .int 0]) (rest := []) (CC := 200) (SS := 300000) (q := (.int r, f1)) (ad := ad1) (ad' := ad2) hx hb hml hown hts hK a6 a3 a4 lwV_42 trivial hM1 rfl (Nat.le_of_ble_eq_true rfl) d_law_412 ⟨by decide, by decide⟩ hP1 hP2 hS hl.1 (fun H locs hP1 hP2 hS => ?_)
    refine lv_pop hx hb d_law_415 rfl ?_
    refine lv_aload_n hx hb d_law_416 rfl (lv_at hl 2 rfl) ?_
    refine lw_arg C0 hl rfl rfl hS h1 d_law_417 d_law_418 d_law_419 (by decide) d_law_420 d_law_421 ?_
    refine lw_arg C0 hl rfl rfl hS h2 d_law_422 d_law_423 d_law_424 (by decide) d_law_425 d_law_426 ?_
    refine lw_arg C0 hl rfl rfl hS h3 d_law_427 d_law_428 d_law_429 (by decide) d_law_430 d_law_431 ?_
    refine lv_if_eq (tgt := 439) hx hb d_law_432 (by decide) (fun _ => ?_) (fun q => absurd e3 q)
    refine lv_iconst (v := 0) hx hb d_law_439 (by decide) ?_
    refine lw_call (as := [.int (xs (x3 + 1).toNatClampNeg), .int (xs (x3 + 2).toNatClampNeg), .int 0]) (rest := []) (CC := 200) (SS := 300000) (q := (.int r2, f2)) (ad := ad2) (ad' := ad1) hx hb hml hown hts hK a7 (fun i j hi hj => (a3 j i hj hi).symm) a5 lwV_46 trivial hM2 rfl (Nat.le_of_ble_eq_true rfl) d_law_440 ⟨by decide, by decide⟩ hP2 hP1 hS hl.1 (fun H locs hP2 hP1 hS => ?_)
    refine lv_pop hx hb d_law_443 rfl ?_
    refine lv_goto (tgt := 1374) hx hb d_law_444 (by decide) ?_
    exact kk H locs ls hP1 hP2 hS hl
  · simp only [e3, if_false] at hM1 hM2
    refine lv_aload_n hx hb d_law_388 rfl (lv_at hl 1 rfl) ?_
    refine lw_arg C0 hl rfl rfl hS h1 d_law_389 d_law_390 d_law_391 (by decide) d_law_392 d_law_393 ?_
    refine lw_arg C0 hl rfl rfl hS h2 d_law_394 d_law_395 d_law_396 (by decide) d_law_397 d_law_398 ?_
    refine lw_arg C0 hl rfl rfl hS h3 d_law_399 d_law_400 d_law_401 (by decide) d_law_402 d_law_403 ?_
    refine lv_if_eq (tgt := 411) hx hb d_law_404 (by decide) (fun q => absurd q e3) (fun _ => ?_)
    refine lv_iconst (v := 1) hx hb d_law_407 (by decide) ?_
    refine lv_goto (tgt := 412) hx hb d_law_408 (by decide) ?_
    refine lw_call (as := [.int (xs (x3 + 1).toNatClampNeg), .int (xs (x3 + 2).toNatClampNeg), .int 1]) (rest := []) (CC := 200) (SS := 300000) (q := (.int r, f1)) (ad := ad1) (ad' := ad2) hx hb hml hown hts hK a6 a3 a4 lwV_42 trivial hM1 rfl (Nat.le_of_ble_eq_true rfl) d_law_412 ⟨by decide, by decide⟩ hP1 hP2 hS hl.1 (fun H locs hP1 hP2 hS => ?_)
    refine lv_pop hx hb d_law_415 rfl ?_
    refine lv_aload_n hx hb d_law_416 rfl (lv_at hl 2 rfl) ?_
    refine lw_arg C0 hl rfl rfl hS h1 d_law_417 d_law_418 d_law_419 (by decide) d_law_420 d_law_421 ?_
    refine lw_arg C0 hl rfl rfl hS h2 d_law_422 d_law_423 d_law_424 (by decide) d_law_425 d_law_426 ?_
    refine lw_arg C0 hl rfl rfl hS h3 d_law_427 d_law_428 d_law_429 (by decide) d_law_430 d_law_431 ?_
    refine lv_if_eq (tgt := 439) hx hb d_law_432 (by decide) (fun q => absurd q e3) (fun _ => ?_)
    refine lv_iconst (v := 1) hx hb d_law_435 (by decide) ?_
    refine lv_goto (tgt := 440) hx hb d_law_436 (by decide) ?_
    refine lw_call (as := [.int (xs (x3 + 1).toNatClampNeg), .int (xs (x3 + 2).toNatClampNeg), .int 1]) (rest := []) (CC := 200) (SS := 300000) (q := (.int r2, f2)) (ad := ad2) (ad' := ad1) hx hb hml hown hts hK a7 (fun i j hi hj => (a3 j i hj hi).symm) a5 lwV_46 trivial hM2 rfl (Nat.le_of_ble_eq_true rfl) d_law_440 ⟨by decide, by decide⟩ hP2 hP1 hS hl.1 (fun H locs hP2 hP1 hS => ?_)
    refine lv_pop hx hb d_law_443 rfl ?_
    refine lv_goto (tgt := 1374) hx hb d_law_444 (by decide) ?_
    exact kk H locs ls hP1 hP2 hS hl
set_option maxHeartbeats 4000000 in
/-- case 7: beats -/
theorem lw_c7 (C0 : lw_At p s m meth c b L xs) (hK : va_K Dg mj_CL (mj_tys T3) s) (hAd : lw_Ad s ad1 ad2) {x3 : Int32} (h1 : vp_in (x3 + 1) L) (h2 : vp_in (x3 + 2) L) {g1 g2 : mj_H} {G : mj_H → mj_H → Prop}
    (hp : ∃ (r r2 : Int32) (f1 f2 : mj_H), mj_Cl mj_S1 mj_CD 900 195 (.ref 0 :: [.int (xs (x3 + 1).toNatClampNeg), .int (xs (x3 + 2).toNatClampNeg)]) g1 (.int r, f1) ∧ mj_Cl mj_S2 mj_CD 900 54 (.ref 0 :: [.int (xs (x3 + 1).toNatClampNeg), .int (xs (x3 + 2).toNatClampNeg)]) g2 (.int r2, f2) ∧ G f1 f2)
    (kk : ∀ f1 f2, G f1 f2 → lw_St p l e s m b below meth c Dg T3 ad1 ad2 1374 [(0, .ref b), (1, .ref (ad1 0)), (2, .ref (ad2 0)), (3, .int x3)] [] f1 f2) :
    lw_St p l e s m b below meth c Dg T3 ad1 ad2 447 [(0, .ref b), (1, .ref (ad1 0)), (2, .ref (ad2 0)), (3, .int x3)] [] g1 g2 := by
  obtain ⟨hx, hb, hr, hml, hown, hts, hX, hbl, hlocks, hgv⟩ := id C0
  obtain ⟨a1, a2, a3, a4, a5, a6, a7⟩ := id hAd
  obtain ⟨r, r2, f1, f2, hc1, hc2, hG⟩ := hp
  have hM1 := mj_sound (l := l) (T3 := T3) (Dg := Dg) a1 (mj_Cs_of mj_Sok1) mj_hM 900 195 _ _ _ hc1
  have hM2 := mj_sound (l := l) (T3 := T3) (Dg := Dg) a2 (mj_Cs_of mj_Sok2) mj_hM 900 54 _ _ _ hc2
  have kk := kk f1 f2 hG
  intro H locs ls hP1 hP2 hS hl
  refine lv_aload_n hx hb d_law_447 rfl (lv_at hl 1 rfl) ?_
  refine lw_arg C0 hl rfl rfl hS h1 d_law_448 d_law_449 d_law_450 (by decide) d_law_451 d_law_452 ?_
  refine lw_arg C0 hl rfl rfl hS h2 d_law_453 d_law_454 d_law_455 (by decide) d_law_456 d_law_457 ?_
  refine lw_call (as := [.int (xs (x3 + 1).toNatClampNeg), .int (xs (x3 + 2).toNatClampNeg)]) (rest := []) (CC := 200) (SS := 300000) (q := (.int r, f1)) (ad := ad1) (ad' := ad2) hx hb hml hown hts hK a6 a3 a4 lwV_47 trivial hM1 rfl (Nat.le_of_ble_eq_true rfl) d_law_458 ⟨by decide, by decide⟩ hP1 hP2 hS hl.1 (fun H locs hP1 hP2 hS => ?_)
  refine lv_pop hx hb d_law_461 rfl ?_
  refine lv_aload_n hx hb d_law_462 rfl (lv_at hl 2 rfl) ?_
  refine lw_arg C0 hl rfl rfl hS h1 d_law_463 d_law_464 d_law_465 (by decide) d_law_466 d_law_467 ?_
  refine lw_arg C0 hl rfl rfl hS h2 d_law_468 d_law_469 d_law_470 (by decide) d_law_471 d_law_472 ?_
  refine lw_call (as := [.int (xs (x3 + 1).toNatClampNeg), .int (xs (x3 + 2).toNatClampNeg)]) (rest := []) (CC := 200) (SS := 300000) (q := (.int r2, f2)) (ad := ad2) (ad' := ad1) hx hb hml hown hts hK a7 (fun i j hi hj => (a3 j i hj hi).symm) a5 lwV_51 trivial hM2 rfl (Nat.le_of_ble_eq_true rfl) d_law_473 ⟨by decide, by decide⟩ hP2 hP1 hS hl.1 (fun H locs hP2 hP1 hS => ?_)
  refine lv_pop hx hb d_law_476 rfl ?_
  refine lv_goto (tgt := 1374) hx hb d_law_477 (by decide) ?_
  exact kk H locs ls hP1 hP2 hS hl
set_option maxHeartbeats 4000000 in
/-- case 8: leads -/
theorem lw_c8 (C0 : lw_At p s m meth c b L xs) (hK : va_K Dg mj_CL (mj_tys T3) s) (hAd : lw_Ad s ad1 ad2) {x3 : Int32} (h1 : vp_in (x3 + 1) L) {g1 g2 : mj_H} {G : mj_H → mj_H → Prop}
    (hp : ∃ (r r2 : Int32) (f1 f2 : mj_H), mj_Cl mj_S1 mj_CD 900 197 (.ref 0 :: [.int (xs (x3 + 1).toNatClampNeg)]) g1 (.int r, f1) ∧ mj_Cl mj_S2 mj_CD 900 61 (.ref 0 :: [.int (xs (x3 + 1).toNatClampNeg)]) g2 (.int r2, f2) ∧ G f1 f2)
    (kk : ∀ f1 f2, G f1 f2 → lw_St p l e s m b below meth c Dg T3 ad1 ad2 1374 [(0, .ref b), (1, .ref (ad1 0)), (2, .ref (ad2 0)), (3, .int x3)] [] f1 f2) :
    lw_St p l e s m b below meth c Dg T3 ad1 ad2 480 [(0, .ref b), (1, .ref (ad1 0)), (2, .ref (ad2 0)), (3, .int x3)] [] g1 g2 := by
  obtain ⟨hx, hb, hr, hml, hown, hts, hX, hbl, hlocks, hgv⟩ := id C0
  obtain ⟨a1, a2, a3, a4, a5, a6, a7⟩ := id hAd
  obtain ⟨r, r2, f1, f2, hc1, hc2, hG⟩ := hp
  have hM1 := mj_sound (l := l) (T3 := T3) (Dg := Dg) a1 (mj_Cs_of mj_Sok1) mj_hM 900 197 _ _ _ hc1
  have hM2 := mj_sound (l := l) (T3 := T3) (Dg := Dg) a2 (mj_Cs_of mj_Sok2) mj_hM 900 61 _ _ _ hc2
  have kk := kk f1 f2 hG
  intro H locs ls hP1 hP2 hS hl
  refine lv_aload_n hx hb d_law_480 rfl (lv_at hl 1 rfl) ?_
  refine lw_arg C0 hl rfl rfl hS h1 d_law_481 d_law_482 d_law_483 (by decide) d_law_484 d_law_485 ?_
  refine lw_call (as := [.int (xs (x3 + 1).toNatClampNeg)]) (rest := []) (CC := 200) (SS := 300000) (q := (.int r, f1)) (ad := ad1) (ad' := ad2) hx hb hml hown hts hK a6 a3 a4 lwV_52 trivial hM1 rfl (Nat.le_of_ble_eq_true rfl) d_law_486 ⟨by decide, by decide⟩ hP1 hP2 hS hl.1 (fun H locs hP1 hP2 hS => ?_)
  refine lv_pop hx hb d_law_489 rfl ?_
  refine lv_aload_n hx hb d_law_490 rfl (lv_at hl 2 rfl) ?_
  refine lw_arg C0 hl rfl rfl hS h1 d_law_491 d_law_492 d_law_493 (by decide) d_law_494 d_law_495 ?_
  refine lw_call (as := [.int (xs (x3 + 1).toNatClampNeg)]) (rest := []) (CC := 200) (SS := 300000) (q := (.int r2, f2)) (ad := ad2) (ad' := ad1) hx hb hml hown hts hK a7 (fun i j hi hj => (a3 j i hj hi).symm) a5 lwV_55 trivial hM2 rfl (Nat.le_of_ble_eq_true rfl) d_law_496 ⟨by decide, by decide⟩ hP2 hP1 hS hl.1 (fun H locs hP2 hP1 hS => ?_)
  refine lv_pop hx hb d_law_499 rfl ?_
  refine lv_goto (tgt := 1374) hx hb d_law_500 (by decide) ?_
  exact kk H locs ls hP1 hP2 hS hl
set_option maxHeartbeats 4000000 in
/-- case 9: change -/
theorem lw_c9 (C0 : lw_At p s m meth c b L xs) (hK : va_K Dg mj_CL (mj_tys T3) s) (hAd : lw_Ad s ad1 ad2) {x3 : Int32} (h1 : vp_in (x3 + 1) L) (h2 : vp_in (x3 + 2) L) (h3 : vp_in (x3 + 3) L) {g1 g2 : mj_H} {G : mj_H → mj_H → Prop}
    (hp : ∃ (r r2 : Int32) (f1 f2 : mj_H), mj_Cl mj_S1 mj_CD 900 198 (.ref 0 :: [.int (xs (x3 + 1).toNatClampNeg), .int (xs (x3 + 2).toNatClampNeg), .int (xs (x3 + 3).toNatClampNeg)]) g1 (.int r, f1) ∧ mj_Cl mj_S2 mj_CD 900 62 (.ref 0 :: [.int (xs (x3 + 1).toNatClampNeg), .int (xs (x3 + 2).toNatClampNeg), .int (xs (x3 + 3).toNatClampNeg)]) g2 (.int r2, f2) ∧ G f1 f2)
    (kk : ∀ f1 f2, G f1 f2 → lw_St p l e s m b below meth c Dg T3 ad1 ad2 1374 [(0, .ref b), (1, .ref (ad1 0)), (2, .ref (ad2 0)), (3, .int x3)] [] f1 f2) :
    lw_St p l e s m b below meth c Dg T3 ad1 ad2 503 [(0, .ref b), (1, .ref (ad1 0)), (2, .ref (ad2 0)), (3, .int x3)] [] g1 g2 := by
  obtain ⟨hx, hb, hr, hml, hown, hts, hX, hbl, hlocks, hgv⟩ := id C0
  obtain ⟨a1, a2, a3, a4, a5, a6, a7⟩ := id hAd
  obtain ⟨r, r2, f1, f2, hc1, hc2, hG⟩ := hp
  have hM1 := mj_sound (l := l) (T3 := T3) (Dg := Dg) a1 (mj_Cs_of mj_Sok1) mj_hM 900 198 _ _ _ hc1
  have hM2 := mj_sound (l := l) (T3 := T3) (Dg := Dg) a2 (mj_Cs_of mj_Sok2) mj_hM 900 62 _ _ _ hc2
  have kk := kk f1 f2 hG
  intro H locs ls hP1 hP2 hS hl
  refine lv_aload_n hx hb d_law_503 rfl (lv_at hl 1 rfl) ?_
  refine lw_arg C0 hl rfl rfl hS h1 d_law_504 d_law_505 d_law_506 (by decide) d_law_507 d_law_508 ?_
  refine lw_arg C0 hl rfl rfl hS h2 d_law_509 d_law_510 d_law_511 (by decide) d_law_512 d_law_513 ?_
  refine lw_arg C0 hl rfl rfl hS h3 d_law_514 d_law_515 d_law_516 (by decide) d_law_517 d_law_518 ?_
  refine lw_call (as := [.int (xs (x3 + 1).toNatClampNeg), .int (xs (x3 + 2).toNatClampNeg), .int (xs (x3 + 3).toNatClampNeg)]) (rest := []) (CC := 200) (SS := 300000) (q := (.int r, f1)) (ad := ad1) (ad' := ad2) hx hb hml hown hts hK a6 a3 a4 lwV_56 trivial hM1 rfl (Nat.le_of_ble_eq_true rfl) d_law_519 ⟨by decide, by decide⟩ hP1 hP2 hS hl.1 (fun H locs hP1 hP2 hS => ?_)
  refine lv_pop hx hb d_law_522 rfl ?_
  refine lv_aload_n hx hb d_law_523 rfl (lv_at hl 2 rfl) ?_
  refine lw_arg C0 hl rfl rfl hS h1 d_law_524 d_law_525 d_law_526 (by decide) d_law_527 d_law_528 ?_
  refine lw_arg C0 hl rfl rfl hS h2 d_law_529 d_law_530 d_law_531 (by decide) d_law_532 d_law_533 ?_
  refine lw_arg C0 hl rfl rfl hS h3 d_law_534 d_law_535 d_law_536 (by decide) d_law_537 d_law_538 ?_
  refine lw_call (as := [.int (xs (x3 + 1).toNatClampNeg), .int (xs (x3 + 2).toNatClampNeg), .int (xs (x3 + 3).toNatClampNeg)]) (rest := []) (CC := 200) (SS := 300000) (q := (.int r2, f2)) (ad := ad2) (ad' := ad1) hx hb hml hown hts hK a7 (fun i j hi hj => (a3 j i hj hi).symm) a5 lwV_59 trivial hM2 rfl (Nat.le_of_ble_eq_true rfl) d_law_539 ⟨by decide, by decide⟩ hP2 hP1 hS hl.1 (fun H locs hP2 hP1 hS => ?_)
  refine lv_pop hx hb d_law_542 rfl ?_
  refine lv_goto (tgt := 1374) hx hb d_law_543 (by decide) ?_
  exact kk H locs ls hP1 hP2 hS hl
set_option maxHeartbeats 4000000 in
/-- case 10: changed -/
theorem lw_c10 (C0 : lw_At p s m meth c b L xs) (hK : va_K Dg mj_CL (mj_tys T3) s) (hAd : lw_Ad s ad1 ad2) {x3 : Int32} (h1 : vp_in (x3 + 1) L) {g1 g2 : mj_H} {G : mj_H → mj_H → Prop}
    (hp : ∃ (r r2 : Int64) (f1 f2 : mj_H), mj_Cl mj_S1 mj_CD 900 199 (.ref 0 :: [.int (if (xs (x3 + 1).toNatClampNeg) = 0 then 0 else 1)]) g1 (.long r, f1) ∧ mj_Cl mj_S2 mj_CD 900 64 (.ref 0 :: [.int (if (xs (x3 + 1).toNatClampNeg) = 0 then 0 else 1)]) g2 (.long r2, f2) ∧ G f1 f2)
    (kk : ∀ f1 f2, G f1 f2 → lw_St p l e s m b below meth c Dg T3 ad1 ad2 1374 [(0, .ref b), (1, .ref (ad1 0)), (2, .ref (ad2 0)), (3, .int x3)] [] f1 f2) :
    lw_St p l e s m b below meth c Dg T3 ad1 ad2 546 [(0, .ref b), (1, .ref (ad1 0)), (2, .ref (ad2 0)), (3, .int x3)] [] g1 g2 := by
  obtain ⟨hx, hb, hr, hml, hown, hts, hX, hbl, hlocks, hgv⟩ := id C0
  obtain ⟨a1, a2, a3, a4, a5, a6, a7⟩ := id hAd
  obtain ⟨r, r2, f1, f2, hc1, hc2, hG⟩ := hp
  have hM1 := mj_sound (l := l) (T3 := T3) (Dg := Dg) a1 (mj_Cs_of mj_Sok1) mj_hM 900 199 _ _ _ hc1
  have hM2 := mj_sound (l := l) (T3 := T3) (Dg := Dg) a2 (mj_Cs_of mj_Sok2) mj_hM 900 64 _ _ _ hc2
  have kk := kk f1 f2 hG
  intro H locs ls hP1 hP2 hS hl
  by_cases e1 : (xs (x3 + 1).toNatClampNeg) = 0
  · simp only [e1, if_true] at hM1 hM2
    refine lv_aload_n hx hb d_law_546 rfl (lv_at hl 1 rfl) ?_
    refine lw_arg C0 hl rfl rfl hS h1 d_law_547 d_law_548 d_law_549 (by decide) d_law_550 d_law_551 ?_
    refine lv_if_eq (tgt := 559) hx hb d_law_552 (by decide) (fun _ => ?_) (fun q => absurd e1 q)
    refine lv_iconst (v := 0) hx hb d_law_559 (by decide) ?_
    refine lw_call (as := [.int 0]) (rest := []) (CC := 200) (SS := 300000) (q := (.long r, f1)) (ad := ad1) (ad' := ad2) hx hb hml hown hts hK a6 a3 a4 lwV_60 trivial hM1 rfl (Nat.le_of_ble_eq_true rfl) d_law_560 ⟨by decide, by decide⟩ hP1 hP2 hS hl.1 (fun H locs hP1 hP2 hS => ?_)
    refine lv_pop2_2 hx hb d_law_563 rfl ?_
    refine lv_aload_n hx hb d_law_564 rfl (lv_at hl 2 rfl) ?_
    refine lw_arg C0 hl rfl rfl hS h1 d_law_565 d_law_566 d_law_567 (by decide) d_law_568 d_law_569 ?_
    refine lv_if_eq (tgt := 577) hx hb d_law_570 (by decide) (fun _ => ?_) (fun q => absurd e1 q)
    refine lv_iconst (v := 0) hx hb d_law_577 (by decide) ?_
    refine lw_call (as := [.int 0]) (rest := []) (CC := 200) (SS := 300000) (q := (.long r2, f2)) (ad := ad2) (ad' := ad1) hx hb hml hown hts hK a7 (fun i j hi hj => (a3 j i hj hi).symm) a5 lwV_64 trivial hM2 rfl (Nat.le_of_ble_eq_true rfl) d_law_578 ⟨by decide, by decide⟩ hP2 hP1 hS hl.1 (fun H locs hP2 hP1 hS => ?_)
    refine lv_pop2_2 hx hb d_law_581 rfl ?_
    refine lv_goto (tgt := 1374) hx hb d_law_582 (by decide) ?_
    exact kk H locs ls hP1 hP2 hS hl
  · simp only [e1, if_false] at hM1 hM2
    refine lv_aload_n hx hb d_law_546 rfl (lv_at hl 1 rfl) ?_
    refine lw_arg C0 hl rfl rfl hS h1 d_law_547 d_law_548 d_law_549 (by decide) d_law_550 d_law_551 ?_
    refine lv_if_eq (tgt := 559) hx hb d_law_552 (by decide) (fun q => absurd q e1) (fun _ => ?_)
    refine lv_iconst (v := 1) hx hb d_law_555 (by decide) ?_
    refine lv_goto (tgt := 560) hx hb d_law_556 (by decide) ?_
    refine lw_call (as := [.int 1]) (rest := []) (CC := 200) (SS := 300000) (q := (.long r, f1)) (ad := ad1) (ad' := ad2) hx hb hml hown hts hK a6 a3 a4 lwV_60 trivial hM1 rfl (Nat.le_of_ble_eq_true rfl) d_law_560 ⟨by decide, by decide⟩ hP1 hP2 hS hl.1 (fun H locs hP1 hP2 hS => ?_)
    refine lv_pop2_2 hx hb d_law_563 rfl ?_
    refine lv_aload_n hx hb d_law_564 rfl (lv_at hl 2 rfl) ?_
    refine lw_arg C0 hl rfl rfl hS h1 d_law_565 d_law_566 d_law_567 (by decide) d_law_568 d_law_569 ?_
    refine lv_if_eq (tgt := 577) hx hb d_law_570 (by decide) (fun q => absurd q e1) (fun _ => ?_)
    refine lv_iconst (v := 1) hx hb d_law_573 (by decide) ?_
    refine lv_goto (tgt := 578) hx hb d_law_574 (by decide) ?_
    refine lw_call (as := [.int 1]) (rest := []) (CC := 200) (SS := 300000) (q := (.long r2, f2)) (ad := ad2) (ad' := ad1) hx hb hml hown hts hK a7 (fun i j hi hj => (a3 j i hj hi).symm) a5 lwV_64 trivial hM2 rfl (Nat.le_of_ble_eq_true rfl) d_law_578 ⟨by decide, by decide⟩ hP2 hP1 hS hl.1 (fun H locs hP2 hP1 hS => ?_)
    refine lv_pop2_2 hx hb d_law_581 rfl ?_
    refine lv_goto (tgt := 1374) hx hb d_law_582 (by decide) ?_
    exact kk H locs ls hP1 hP2 hS hl
set_option maxHeartbeats 4000000 in
/-- case 11: rows -/
theorem lw_c11 (C0 : lw_At p s m meth c b L xs) (hK : va_K Dg mj_CL (mj_tys T3) s) (hAd : lw_Ad s ad1 ad2) {x3 : Int32} {g1 g2 : mj_H} {G : mj_H → mj_H → Prop}
    (hp : ∃ (r r2 : Int64) (f1 f2 : mj_H), mj_Cl mj_S1 mj_CD 900 200 (.ref 0 :: []) g1 (.long r, f1) ∧ mj_Cl mj_S2 mj_CD 900 59 (.ref 0 :: []) g2 (.long r2, f2) ∧ G f1 f2)
    (kk : ∀ f1 f2, G f1 f2 → lw_St p l e s m b below meth c Dg T3 ad1 ad2 1374 [(0, .ref b), (1, .ref (ad1 0)), (2, .ref (ad2 0)), (3, .int x3)] [] f1 f2) :
    lw_St p l e s m b below meth c Dg T3 ad1 ad2 585 [(0, .ref b), (1, .ref (ad1 0)), (2, .ref (ad2 0)), (3, .int x3)] [] g1 g2 := by
  obtain ⟨hx, hb, hr, hml, hown, hts, hX, hbl, hlocks, hgv⟩ := id C0
  obtain ⟨a1, a2, a3, a4, a5, a6, a7⟩ := id hAd
  obtain ⟨r, r2, f1, f2, hc1, hc2, hG⟩ := hp
  have hM1 := mj_sound (l := l) (T3 := T3) (Dg := Dg) a1 (mj_Cs_of mj_Sok1) mj_hM 900 200 _ _ _ hc1
  have hM2 := mj_sound (l := l) (T3 := T3) (Dg := Dg) a2 (mj_Cs_of mj_Sok2) mj_hM 900 59 _ _ _ hc2
  have kk := kk f1 f2 hG
  intro H locs ls hP1 hP2 hS hl
  refine lv_aload_n hx hb d_law_585 rfl (lv_at hl 1 rfl) ?_
  refine lw_call (as := []) (rest := []) (CC := 200) (SS := 300000) (q := (.long r, f1)) (ad := ad1) (ad' := ad2) hx hb hml hown hts hK a6 a3 a4 lwV_65 trivial hM1 rfl (Nat.le_of_ble_eq_true rfl) d_law_586 ⟨by decide, by decide⟩ hP1 hP2 hS hl.1 (fun H locs hP1 hP2 hS => ?_)
  refine lv_pop2_2 hx hb d_law_589 rfl ?_
  refine lv_aload_n hx hb d_law_590 rfl (lv_at hl 2 rfl) ?_
  refine lw_call (as := []) (rest := []) (CC := 200) (SS := 300000) (q := (.long r2, f2)) (ad := ad2) (ad' := ad1) hx hb hml hown hts hK a7 (fun i j hi hj => (a3 j i hj hi).symm) a5 lwV_69 trivial hM2 rfl (Nat.le_of_ble_eq_true rfl) d_law_591 ⟨by decide, by decide⟩ hP2 hP1 hS hl.1 (fun H locs hP2 hP1 hS => ?_)
  refine lv_pop2_2 hx hb d_law_594 rfl ?_
  refine lv_goto (tgt := 1374) hx hb d_law_595 (by decide) ?_
  exact kk H locs ls hP1 hP2 hS hl
set_option maxHeartbeats 4000000 in
/-- case 12: unsure -/
theorem lw_c12 (C0 : lw_At p s m meth c b L xs) (hK : va_K Dg mj_CL (mj_tys T3) s) (hAd : lw_Ad s ad1 ad2) {x3 : Int32} (h1 : vp_in (x3 + 1) L) {g1 g2 : mj_H} {G : mj_H → mj_H → Prop}
    (hp : ∃ (r r2 : Int64) (f1 f2 : mj_H), mj_Cl mj_S1 mj_CD 900 201 (.ref 0 :: [.int (if (xs (x3 + 1).toNatClampNeg) = 0 then 0 else 1)]) g1 (.long r, f1) ∧ mj_Cl mj_S2 mj_CD 900 69 (.ref 0 :: [.int (if (xs (x3 + 1).toNatClampNeg) = 0 then 0 else 1)]) g2 (.long r2, f2) ∧ G f1 f2)
    (kk : ∀ f1 f2, G f1 f2 → lw_St p l e s m b below meth c Dg T3 ad1 ad2 1374 [(0, .ref b), (1, .ref (ad1 0)), (2, .ref (ad2 0)), (3, .int x3)] [] f1 f2) :
    lw_St p l e s m b below meth c Dg T3 ad1 ad2 598 [(0, .ref b), (1, .ref (ad1 0)), (2, .ref (ad2 0)), (3, .int x3)] [] g1 g2 := by
  obtain ⟨hx, hb, hr, hml, hown, hts, hX, hbl, hlocks, hgv⟩ := id C0
  obtain ⟨a1, a2, a3, a4, a5, a6, a7⟩ := id hAd
  obtain ⟨r, r2, f1, f2, hc1, hc2, hG⟩ := hp
  have hM1 := mj_sound (l := l) (T3 := T3) (Dg := Dg) a1 (mj_Cs_of mj_Sok1) mj_hM 900 201 _ _ _ hc1
  have hM2 := mj_sound (l := l) (T3 := T3) (Dg := Dg) a2 (mj_Cs_of mj_Sok2) mj_hM 900 69 _ _ _ hc2
  have kk := kk f1 f2 hG
  intro H locs ls hP1 hP2 hS hl
  by_cases e1 : (xs (x3 + 1).toNatClampNeg) = 0
  · simp only [e1, if_true] at hM1 hM2
    refine lv_aload_n hx hb d_law_598 rfl (lv_at hl 1 rfl) ?_
    refine lw_arg C0 hl rfl rfl hS h1 d_law_599 d_law_600 d_law_601 (by decide) d_law_602 d_law_603 ?_
    refine lv_if_eq (tgt := 611) hx hb d_law_604 (by decide) (fun _ => ?_) (fun q => absurd e1 q)
    refine lv_iconst (v := 0) hx hb d_law_611 (by decide) ?_
    refine lw_call (as := [.int 0]) (rest := []) (CC := 200) (SS := 300000) (q := (.long r, f1)) (ad := ad1) (ad' := ad2) hx hb hml hown hts hK a6 a3 a4 lwV_70 trivial hM1 rfl (Nat.le_of_ble_eq_true rfl) d_law_612 ⟨by decide, by decide⟩ hP1 hP2 hS hl.1 (fun H locs hP1 hP2 hS => ?_)
    refine lv_pop2_2 hx hb d_law_615 rfl ?_
    refine lv_aload_n hx hb d_law_616 rfl (lv_at hl 2 rfl) ?_
    refine lw_arg C0 hl rfl rfl hS h1 d_law_617 d_law_618 d_law_619 (by decide) d_law_620 d_law_621 ?_
    refine lv_if_eq (tgt := 629) hx hb d_law_622 (by decide) (fun _ => ?_) (fun q => absurd e1 q)
    refine lv_iconst (v := 0) hx hb d_law_629 (by decide) ?_
    refine lw_call (as := [.int 0]) (rest := []) (CC := 200) (SS := 300000) (q := (.long r2, f2)) (ad := ad2) (ad' := ad1) hx hb hml hown hts hK a7 (fun i j hi hj => (a3 j i hj hi).symm) a5 lwV_73 trivial hM2 rfl (Nat.le_of_ble_eq_true rfl) d_law_630 ⟨by decide, by decide⟩ hP2 hP1 hS hl.1 (fun H locs hP2 hP1 hS => ?_)
    refine lv_pop2_2 hx hb d_law_633 rfl ?_
    refine lv_goto (tgt := 1374) hx hb d_law_634 (by decide) ?_
    exact kk H locs ls hP1 hP2 hS hl
  · simp only [e1, if_false] at hM1 hM2
    refine lv_aload_n hx hb d_law_598 rfl (lv_at hl 1 rfl) ?_
    refine lw_arg C0 hl rfl rfl hS h1 d_law_599 d_law_600 d_law_601 (by decide) d_law_602 d_law_603 ?_
    refine lv_if_eq (tgt := 611) hx hb d_law_604 (by decide) (fun q => absurd q e1) (fun _ => ?_)
    refine lv_iconst (v := 1) hx hb d_law_607 (by decide) ?_
    refine lv_goto (tgt := 612) hx hb d_law_608 (by decide) ?_
    refine lw_call (as := [.int 1]) (rest := []) (CC := 200) (SS := 300000) (q := (.long r, f1)) (ad := ad1) (ad' := ad2) hx hb hml hown hts hK a6 a3 a4 lwV_70 trivial hM1 rfl (Nat.le_of_ble_eq_true rfl) d_law_612 ⟨by decide, by decide⟩ hP1 hP2 hS hl.1 (fun H locs hP1 hP2 hS => ?_)
    refine lv_pop2_2 hx hb d_law_615 rfl ?_
    refine lv_aload_n hx hb d_law_616 rfl (lv_at hl 2 rfl) ?_
    refine lw_arg C0 hl rfl rfl hS h1 d_law_617 d_law_618 d_law_619 (by decide) d_law_620 d_law_621 ?_
    refine lv_if_eq (tgt := 629) hx hb d_law_622 (by decide) (fun q => absurd q e1) (fun _ => ?_)
    refine lv_iconst (v := 1) hx hb d_law_625 (by decide) ?_
    refine lv_goto (tgt := 630) hx hb d_law_626 (by decide) ?_
    refine lw_call (as := [.int 1]) (rest := []) (CC := 200) (SS := 300000) (q := (.long r2, f2)) (ad := ad2) (ad' := ad1) hx hb hml hown hts hK a7 (fun i j hi hj => (a3 j i hj hi).symm) a5 lwV_73 trivial hM2 rfl (Nat.le_of_ble_eq_true rfl) d_law_630 ⟨by decide, by decide⟩ hP2 hP1 hS hl.1 (fun H locs hP2 hP1 hS => ?_)
    refine lv_pop2_2 hx hb d_law_633 rfl ?_
    refine lv_goto (tgt := 1374) hx hb d_law_634 (by decide) ?_
    exact kk H locs ls hP1 hP2 hS hl
set_option maxHeartbeats 4000000 in
/-- case 13: maybe -/
theorem lw_c13 (C0 : lw_At p s m meth c b L xs) (hK : va_K Dg mj_CL (mj_tys T3) s) (hAd : lw_Ad s ad1 ad2) {x3 : Int32} (h1 : vp_in (x3 + 1) L) (h2 : vp_in (x3 + 2) L) {g1 g2 : mj_H} {G : mj_H → mj_H → Prop}
    (hp : ∃ (r r2 : Int32) (f1 f2 : mj_H), mj_Cl mj_S1 mj_CD 900 202 (.ref 0 :: [.int (xs (x3 + 1).toNatClampNeg), .int (xs (x3 + 2).toNatClampNeg)]) g1 (.int r, f1) ∧ mj_Cl mj_S2 mj_CD 900 65 (.ref 0 :: [.int (xs (x3 + 1).toNatClampNeg), .int (xs (x3 + 2).toNatClampNeg)]) g2 (.int r2, f2) ∧ G f1 f2)
    (kk : ∀ f1 f2, G f1 f2 → lw_St p l e s m b below meth c Dg T3 ad1 ad2 1374 [(0, .ref b), (1, .ref (ad1 0)), (2, .ref (ad2 0)), (3, .int x3)] [] f1 f2) :
    lw_St p l e s m b below meth c Dg T3 ad1 ad2 637 [(0, .ref b), (1, .ref (ad1 0)), (2, .ref (ad2 0)), (3, .int x3)] [] g1 g2 := by
  obtain ⟨hx, hb, hr, hml, hown, hts, hX, hbl, hlocks, hgv⟩ := id C0
  obtain ⟨a1, a2, a3, a4, a5, a6, a7⟩ := id hAd
  obtain ⟨r, r2, f1, f2, hc1, hc2, hG⟩ := hp
  have hM1 := mj_sound (l := l) (T3 := T3) (Dg := Dg) a1 (mj_Cs_of mj_Sok1) mj_hM 900 202 _ _ _ hc1
  have hM2 := mj_sound (l := l) (T3 := T3) (Dg := Dg) a2 (mj_Cs_of mj_Sok2) mj_hM 900 65 _ _ _ hc2
  have kk := kk f1 f2 hG
  intro H locs ls hP1 hP2 hS hl
  refine lv_aload_n hx hb d_law_637 rfl (lv_at hl 1 rfl) ?_
  refine lw_arg C0 hl rfl rfl hS h1 d_law_638 d_law_639 d_law_640 (by decide) d_law_641 d_law_642 ?_
  refine lw_arg C0 hl rfl rfl hS h2 d_law_643 d_law_644 d_law_645 (by decide) d_law_646 d_law_647 ?_
  refine lw_call (as := [.int (xs (x3 + 1).toNatClampNeg), .int (xs (x3 + 2).toNatClampNeg)]) (rest := []) (CC := 200) (SS := 300000) (q := (.int r, f1)) (ad := ad1) (ad' := ad2) hx hb hml hown hts hK a6 a3 a4 lwV_74 trivial hM1 rfl (Nat.le_of_ble_eq_true rfl) d_law_648 ⟨by decide, by decide⟩ hP1 hP2 hS hl.1 (fun H locs hP1 hP2 hS => ?_)
  refine lv_pop hx hb d_law_651 rfl ?_
  refine lv_aload_n hx hb d_law_652 rfl (lv_at hl 2 rfl) ?_
  refine lw_arg C0 hl rfl rfl hS h1 d_law_653 d_law_654 d_law_655 (by decide) d_law_656 d_law_657 ?_
  refine lw_arg C0 hl rfl rfl hS h2 d_law_658 d_law_659 d_law_660 (by decide) d_law_661 d_law_662 ?_
  refine lw_call (as := [.int (xs (x3 + 1).toNatClampNeg), .int (xs (x3 + 2).toNatClampNeg)]) (rest := []) (CC := 200) (SS := 300000) (q := (.int r2, f2)) (ad := ad2) (ad' := ad1) hx hb hml hown hts hK a7 (fun i j hi hj => (a3 j i hj hi).symm) a5 lwV_77 trivial hM2 rfl (Nat.le_of_ble_eq_true rfl) d_law_663 ⟨by decide, by decide⟩ hP2 hP1 hS hl.1 (fun H locs hP2 hP1 hS => ?_)
  refine lv_pop hx hb d_law_666 rfl ?_
  refine lv_goto (tgt := 1374) hx hb d_law_667 (by decide) ?_
  exact kk H locs ls hP1 hP2 hS hl
set_option maxHeartbeats 4000000 in
/-- case 14: front -/
theorem lw_c14 (C0 : lw_At p s m meth c b L xs) (hK : va_K Dg mj_CL (mj_tys T3) s) (hAd : lw_Ad s ad1 ad2) {x3 : Int32} (h1 : vp_in (x3 + 1) L) (h2 : vp_in (x3 + 2) L) (h3 : vp_in (x3 + 3) L) {g1 g2 : mj_H} {G : mj_H → mj_H → Prop}
    (hp : ∃ (r r2 : Int32) (f1 f2 : mj_H), mj_Cl mj_S1 mj_CD 900 203 (.ref 0 :: [.int (xs (x3 + 1).toNatClampNeg), .int (xs (x3 + 2).toNatClampNeg), .int (xs (x3 + 3).toNatClampNeg)]) g1 (.int r, f1) ∧ mj_Cl mj_S2 mj_CD 900 70 (.ref 0 :: [.int (xs (x3 + 1).toNatClampNeg), .int (xs (x3 + 2).toNatClampNeg), .int (xs (x3 + 3).toNatClampNeg)]) g2 (.int r2, f2) ∧ G f1 f2)
    (kk : ∀ f1 f2, G f1 f2 → lw_St p l e s m b below meth c Dg T3 ad1 ad2 1374 [(0, .ref b), (1, .ref (ad1 0)), (2, .ref (ad2 0)), (3, .int x3)] [] f1 f2) :
    lw_St p l e s m b below meth c Dg T3 ad1 ad2 670 [(0, .ref b), (1, .ref (ad1 0)), (2, .ref (ad2 0)), (3, .int x3)] [] g1 g2 := by
  obtain ⟨hx, hb, hr, hml, hown, hts, hX, hbl, hlocks, hgv⟩ := id C0
  obtain ⟨a1, a2, a3, a4, a5, a6, a7⟩ := id hAd
  obtain ⟨r, r2, f1, f2, hc1, hc2, hG⟩ := hp
  have hM1 := mj_sound (l := l) (T3 := T3) (Dg := Dg) a1 (mj_Cs_of mj_Sok1) mj_hM 900 203 _ _ _ hc1
  have hM2 := mj_sound (l := l) (T3 := T3) (Dg := Dg) a2 (mj_Cs_of mj_Sok2) mj_hM 900 70 _ _ _ hc2
  have kk := kk f1 f2 hG
  intro H locs ls hP1 hP2 hS hl
  refine lv_aload_n hx hb d_law_670 rfl (lv_at hl 1 rfl) ?_
  refine lw_arg C0 hl rfl rfl hS h1 d_law_671 d_law_672 d_law_673 (by decide) d_law_674 d_law_675 ?_
  refine lw_arg C0 hl rfl rfl hS h2 d_law_676 d_law_677 d_law_678 (by decide) d_law_679 d_law_680 ?_
  refine lw_arg C0 hl rfl rfl hS h3 d_law_681 d_law_682 d_law_683 (by decide) d_law_684 d_law_685 ?_
  refine lw_call (as := [.int (xs (x3 + 1).toNatClampNeg), .int (xs (x3 + 2).toNatClampNeg), .int (xs (x3 + 3).toNatClampNeg)]) (rest := []) (CC := 200) (SS := 300000) (q := (.int r, f1)) (ad := ad1) (ad' := ad2) hx hb hml hown hts hK a6 a3 a4 lwV_78 trivial hM1 rfl (Nat.le_of_ble_eq_true rfl) d_law_686 ⟨by decide, by decide⟩ hP1 hP2 hS hl.1 (fun H locs hP1 hP2 hS => ?_)
  refine lv_pop hx hb d_law_689 rfl ?_
  refine lv_aload_n hx hb d_law_690 rfl (lv_at hl 2 rfl) ?_
  refine lw_arg C0 hl rfl rfl hS h1 d_law_691 d_law_692 d_law_693 (by decide) d_law_694 d_law_695 ?_
  refine lw_arg C0 hl rfl rfl hS h2 d_law_696 d_law_697 d_law_698 (by decide) d_law_699 d_law_700 ?_
  refine lw_arg C0 hl rfl rfl hS h3 d_law_701 d_law_702 d_law_703 (by decide) d_law_704 d_law_705 ?_
  refine lw_call (as := [.int (xs (x3 + 1).toNatClampNeg), .int (xs (x3 + 2).toNatClampNeg), .int (xs (x3 + 3).toNatClampNeg)]) (rest := []) (CC := 200) (SS := 300000) (q := (.int r2, f2)) (ad := ad2) (ad' := ad1) hx hb hml hown hts hK a7 (fun i j hi hj => (a3 j i hj hi).symm) a5 lwV_81 trivial hM2 rfl (Nat.le_of_ble_eq_true rfl) d_law_706 ⟨by decide, by decide⟩ hP2 hP1 hS hl.1 (fun H locs hP2 hP1 hS => ?_)
  refine lv_pop hx hb d_law_709 rfl ?_
  refine lv_goto (tgt := 1374) hx hb d_law_710 (by decide) ?_
  exact kk H locs ls hP1 hP2 hS hl
set_option maxHeartbeats 4000000 in
/-- case 15: loss -/
theorem lw_c15 (C0 : lw_At p s m meth c b L xs) (hK : va_K Dg mj_CL (mj_tys T3) s) (hAd : lw_Ad s ad1 ad2) {x3 : Int32} (h1 : vp_in (x3 + 1) L) (h2 : vp_in (x3 + 2) L) {g1 g2 : mj_H} {G : mj_H → mj_H → Prop}
    (hp : ∃ (r r2 : Int32) (f1 f2 : mj_H), mj_Cl mj_S1 mj_CD 900 230 (.ref 0 :: [.int (xs (x3 + 1).toNatClampNeg), .int (xs (x3 + 2).toNatClampNeg)]) g1 (.int r, f1) ∧ mj_Cl mj_S2 mj_CD 900 84 (.ref 0 :: [.int (xs (x3 + 1).toNatClampNeg), .int (xs (x3 + 2).toNatClampNeg)]) g2 (.int r2, f2) ∧ G f1 f2)
    (kk : ∀ f1 f2, G f1 f2 → lw_St p l e s m b below meth c Dg T3 ad1 ad2 1374 [(0, .ref b), (1, .ref (ad1 0)), (2, .ref (ad2 0)), (3, .int x3)] [] f1 f2) :
    lw_St p l e s m b below meth c Dg T3 ad1 ad2 713 [(0, .ref b), (1, .ref (ad1 0)), (2, .ref (ad2 0)), (3, .int x3)] [] g1 g2 := by
  obtain ⟨hx, hb, hr, hml, hown, hts, hX, hbl, hlocks, hgv⟩ := id C0
  obtain ⟨a1, a2, a3, a4, a5, a6, a7⟩ := id hAd
  obtain ⟨r, r2, f1, f2, hc1, hc2, hG⟩ := hp
  have hM1 := mj_sound (l := l) (T3 := T3) (Dg := Dg) a1 (mj_Cs_of mj_Sok1) mj_hM 900 230 _ _ _ hc1
  have hM2 := mj_sound (l := l) (T3 := T3) (Dg := Dg) a2 (mj_Cs_of mj_Sok2) mj_hM 900 84 _ _ _ hc2
  have kk := kk f1 f2 hG
  intro H locs ls hP1 hP2 hS hl
  refine lv_aload_n hx hb d_law_713 rfl (lv_at hl 1 rfl) ?_
  refine lw_arg C0 hl rfl rfl hS h1 d_law_714 d_law_715 d_law_716 (by decide) d_law_717 d_law_718 ?_
  refine lw_arg C0 hl rfl rfl hS h2 d_law_719 d_law_720 d_law_721 (by decide) d_law_722 d_law_723 ?_
  refine lw_call (as := [.int (xs (x3 + 1).toNatClampNeg), .int (xs (x3 + 2).toNatClampNeg)]) (rest := []) (CC := 200) (SS := 300000) (q := (.int r, f1)) (ad := ad1) (ad' := ad2) hx hb hml hown hts hK a6 a3 a4 lwV_82 trivial hM1 rfl (Nat.le_of_ble_eq_true rfl) d_law_724 ⟨by decide, by decide⟩ hP1 hP2 hS hl.1 (fun H locs hP1 hP2 hS => ?_)
  refine lv_pop hx hb d_law_727 rfl ?_
  refine lv_aload_n hx hb d_law_728 rfl (lv_at hl 2 rfl) ?_
  refine lw_arg C0 hl rfl rfl hS h1 d_law_729 d_law_730 d_law_731 (by decide) d_law_732 d_law_733 ?_
  refine lw_arg C0 hl rfl rfl hS h2 d_law_734 d_law_735 d_law_736 (by decide) d_law_737 d_law_738 ?_
  refine lw_call (as := [.int (xs (x3 + 1).toNatClampNeg), .int (xs (x3 + 2).toNatClampNeg)]) (rest := []) (CC := 200) (SS := 300000) (q := (.int r2, f2)) (ad := ad2) (ad' := ad1) hx hb hml hown hts hK a7 (fun i j hi hj => (a3 j i hj hi).symm) a5 lwV_85 trivial hM2 rfl (Nat.le_of_ble_eq_true rfl) d_law_739 ⟨by decide, by decide⟩ hP2 hP1 hS hl.1 (fun H locs hP2 hP1 hS => ?_)
  refine lv_pop hx hb d_law_742 rfl ?_
  refine lv_goto (tgt := 1374) hx hb d_law_743 (by decide) ?_
  exact kk H locs ls hP1 hP2 hS hl
set_option maxHeartbeats 4000000 in
/-- case 16: who -/
theorem lw_c16 (C0 : lw_At p s m meth c b L xs) (hK : va_K Dg mj_CL (mj_tys T3) s) (hAd : lw_Ad s ad1 ad2) {x3 : Int32} (h1 : vp_in (x3 + 1) L) {g1 g2 : mj_H} {G : mj_H → mj_H → Prop}
    (hp : ∃ (r r2 : Int32) (f1 f2 : mj_H), mj_Cl mj_S1 mj_CD 900 232 (.ref 0 :: [.int (xs (x3 + 1).toNatClampNeg)]) g1 (.int r, f1) ∧ mj_Cl mj_S2 mj_CD 900 86 (.ref 0 :: [.int (xs (x3 + 1).toNatClampNeg)]) g2 (.int r2, f2) ∧ G f1 f2)
    (kk : ∀ f1 f2, G f1 f2 → lw_St p l e s m b below meth c Dg T3 ad1 ad2 1374 [(0, .ref b), (1, .ref (ad1 0)), (2, .ref (ad2 0)), (3, .int x3)] [] f1 f2) :
    lw_St p l e s m b below meth c Dg T3 ad1 ad2 746 [(0, .ref b), (1, .ref (ad1 0)), (2, .ref (ad2 0)), (3, .int x3)] [] g1 g2 := by
  obtain ⟨hx, hb, hr, hml, hown, hts, hX, hbl, hlocks, hgv⟩ := id C0
  obtain ⟨a1, a2, a3, a4, a5, a6, a7⟩ := id hAd
  obtain ⟨r, r2, f1, f2, hc1, hc2, hG⟩ := hp
  have hM1 := mj_sound (l := l) (T3 := T3) (Dg := Dg) a1 (mj_Cs_of mj_Sok1) mj_hM 900 232 _ _ _ hc1
  have hM2 := mj_sound (l := l) (T3 := T3) (Dg := Dg) a2 (mj_Cs_of mj_Sok2) mj_hM 900 86 _ _ _ hc2
  have kk := kk f1 f2 hG
  intro H locs ls hP1 hP2 hS hl
  refine lv_aload_n hx hb d_law_746 rfl (lv_at hl 1 rfl) ?_
  refine lw_arg C0 hl rfl rfl hS h1 d_law_747 d_law_748 d_law_749 (by decide) d_law_750 d_law_751 ?_
  refine lw_call (as := [.int (xs (x3 + 1).toNatClampNeg)]) (rest := []) (CC := 200) (SS := 300000) (q := (.int r, f1)) (ad := ad1) (ad' := ad2) hx hb hml hown hts hK a6 a3 a4 lwV_86 trivial hM1 rfl (Nat.le_of_ble_eq_true rfl) d_law_752 ⟨by decide, by decide⟩ hP1 hP2 hS hl.1 (fun H locs hP1 hP2 hS => ?_)
  refine lv_pop hx hb d_law_755 rfl ?_
  refine lv_aload_n hx hb d_law_756 rfl (lv_at hl 2 rfl) ?_
  refine lw_arg C0 hl rfl rfl hS h1 d_law_757 d_law_758 d_law_759 (by decide) d_law_760 d_law_761 ?_
  refine lw_call (as := [.int (xs (x3 + 1).toNatClampNeg)]) (rest := []) (CC := 200) (SS := 300000) (q := (.int r2, f2)) (ad := ad2) (ad' := ad1) hx hb hml hown hts hK a7 (fun i j hi hj => (a3 j i hj hi).symm) a5 lwV_89 trivial hM2 rfl (Nat.le_of_ble_eq_true rfl) d_law_762 ⟨by decide, by decide⟩ hP2 hP1 hS hl.1 (fun H locs hP2 hP1 hS => ?_)
  refine lv_pop hx hb d_law_765 rfl ?_
  refine lv_goto (tgt := 1374) hx hb d_law_766 (by decide) ?_
  exact kk H locs ls hP1 hP2 hS hl
set_option maxHeartbeats 4000000 in
/-- case 17: knot -/
theorem lw_c17 (C0 : lw_At p s m meth c b L xs) (hK : va_K Dg mj_CL (mj_tys T3) s) (hAd : lw_Ad s ad1 ad2) {x3 : Int32} (h1 : vp_in (x3 + 1) L) (h2 : vp_in (x3 + 2) L) {g1 g2 : mj_H} {G : mj_H → mj_H → Prop}
    (hp : ∃ (r r2 : Int32) (f1 f2 : mj_H), mj_Cl mj_S1 mj_CD 900 234 (.ref 0 :: [.int (xs (x3 + 1).toNatClampNeg), .int (xs (x3 + 2).toNatClampNeg)]) g1 (.int r, f1) ∧ mj_Cl mj_S2 mj_CD 900 87 (.ref 0 :: [.int (xs (x3 + 1).toNatClampNeg), .int (xs (x3 + 2).toNatClampNeg)]) g2 (.int r2, f2) ∧ G f1 f2)
    (kk : ∀ f1 f2, G f1 f2 → lw_St p l e s m b below meth c Dg T3 ad1 ad2 1374 [(0, .ref b), (1, .ref (ad1 0)), (2, .ref (ad2 0)), (3, .int x3)] [] f1 f2) :
    lw_St p l e s m b below meth c Dg T3 ad1 ad2 769 [(0, .ref b), (1, .ref (ad1 0)), (2, .ref (ad2 0)), (3, .int x3)] [] g1 g2 := by
  obtain ⟨hx, hb, hr, hml, hown, hts, hX, hbl, hlocks, hgv⟩ := id C0
  obtain ⟨a1, a2, a3, a4, a5, a6, a7⟩ := id hAd
  obtain ⟨r, r2, f1, f2, hc1, hc2, hG⟩ := hp
  have hM1 := mj_sound (l := l) (T3 := T3) (Dg := Dg) a1 (mj_Cs_of mj_Sok1) mj_hM 900 234 _ _ _ hc1
  have hM2 := mj_sound (l := l) (T3 := T3) (Dg := Dg) a2 (mj_Cs_of mj_Sok2) mj_hM 900 87 _ _ _ hc2
  have kk := kk f1 f2 hG
  intro H locs ls hP1 hP2 hS hl
  refine lv_aload_n hx hb d_law_769 rfl (lv_at hl 1 rfl) ?_
  refine lw_arg C0 hl rfl rfl hS h1 d_law_770 d_law_771 d_law_772 (by decide) d_law_773 d_law_774 ?_
  refine lw_arg C0 hl rfl rfl hS h2 d_law_775 d_law_776 d_law_777 (by decide) d_law_778 d_law_779 ?_
  refine lw_call (as := [.int (xs (x3 + 1).toNatClampNeg), .int (xs (x3 + 2).toNatClampNeg)]) (rest := []) (CC := 200) (SS := 300000) (q := (.int r, f1)) (ad := ad1) (ad' := ad2) hx hb hml hown hts hK a6 a3 a4 lwV_90 trivial hM1 rfl (Nat.le_of_ble_eq_true rfl) d_law_780 ⟨by decide, by decide⟩ hP1 hP2 hS hl.1 (fun H locs hP1 hP2 hS => ?_)
  refine lv_pop hx hb d_law_783 rfl ?_
  refine lv_aload_n hx hb d_law_784 rfl (lv_at hl 2 rfl) ?_
  refine lw_arg C0 hl rfl rfl hS h1 d_law_785 d_law_786 d_law_787 (by decide) d_law_788 d_law_789 ?_
  refine lw_arg C0 hl rfl rfl hS h2 d_law_790 d_law_791 d_law_792 (by decide) d_law_793 d_law_794 ?_
  refine lw_call (as := [.int (xs (x3 + 1).toNatClampNeg), .int (xs (x3 + 2).toNatClampNeg)]) (rest := []) (CC := 200) (SS := 300000) (q := (.int r2, f2)) (ad := ad2) (ad' := ad1) hx hb hml hown hts hK a7 (fun i j hi hj => (a3 j i hj hi).symm) a5 lwV_93 trivial hM2 rfl (Nat.le_of_ble_eq_true rfl) d_law_795 ⟨by decide, by decide⟩ hP2 hP1 hS hl.1 (fun H locs hP2 hP1 hS => ?_)
  refine lv_pop hx hb d_law_798 rfl ?_
  refine lv_goto (tgt := 1374) hx hb d_law_799 (by decide) ?_
  exact kk H locs ls hP1 hP2 hS hl
set_option maxHeartbeats 4000000 in
/-- case 18: grid -/
theorem lw_c18 (C0 : lw_At p s m meth c b L xs) (hK : va_K Dg mj_CL (mj_tys T3) s) (hAd : lw_Ad s ad1 ad2) {x3 : Int32} (h1 : vp_in (x3 + 1) L) {g1 g2 : mj_H} {G : mj_H → mj_H → Prop}
    (hp : ∃ (r r2 : Int32) (f1 f2 : mj_H), mj_Cl mj_S1 mj_CD 900 236 (.ref 0 :: [.int (xs (x3 + 1).toNatClampNeg)]) g1 (.int r, f1) ∧ mj_Cl mj_S2 mj_CD 900 88 (.ref 0 :: [.int (xs (x3 + 1).toNatClampNeg)]) g2 (.int r2, f2) ∧ G f1 f2)
    (kk : ∀ f1 f2, G f1 f2 → lw_St p l e s m b below meth c Dg T3 ad1 ad2 1374 [(0, .ref b), (1, .ref (ad1 0)), (2, .ref (ad2 0)), (3, .int x3)] [] f1 f2) :
    lw_St p l e s m b below meth c Dg T3 ad1 ad2 802 [(0, .ref b), (1, .ref (ad1 0)), (2, .ref (ad2 0)), (3, .int x3)] [] g1 g2 := by
  obtain ⟨hx, hb, hr, hml, hown, hts, hX, hbl, hlocks, hgv⟩ := id C0
  obtain ⟨a1, a2, a3, a4, a5, a6, a7⟩ := id hAd
  obtain ⟨r, r2, f1, f2, hc1, hc2, hG⟩ := hp
  have hM1 := mj_sound (l := l) (T3 := T3) (Dg := Dg) a1 (mj_Cs_of mj_Sok1) mj_hM 900 236 _ _ _ hc1
  have hM2 := mj_sound (l := l) (T3 := T3) (Dg := Dg) a2 (mj_Cs_of mj_Sok2) mj_hM 900 88 _ _ _ hc2
  have kk := kk f1 f2 hG
  intro H locs ls hP1 hP2 hS hl
  refine lv_aload_n hx hb d_law_802 rfl (lv_at hl 1 rfl) ?_
  refine lw_arg C0 hl rfl rfl hS h1 d_law_803 d_law_804 d_law_805 (by decide) d_law_806 d_law_807 ?_
  refine lw_call (as := [.int (xs (x3 + 1).toNatClampNeg)]) (rest := []) (CC := 200) (SS := 300000) (q := (.int r, f1)) (ad := ad1) (ad' := ad2) hx hb hml hown hts hK a6 a3 a4 lwV_94 trivial hM1 rfl (Nat.le_of_ble_eq_true rfl) d_law_808 ⟨by decide, by decide⟩ hP1 hP2 hS hl.1 (fun H locs hP1 hP2 hS => ?_)
  refine lv_pop hx hb d_law_811 rfl ?_
  refine lv_aload_n hx hb d_law_812 rfl (lv_at hl 2 rfl) ?_
  refine lw_arg C0 hl rfl rfl hS h1 d_law_813 d_law_814 d_law_815 (by decide) d_law_816 d_law_817 ?_
  refine lw_call (as := [.int (xs (x3 + 1).toNatClampNeg)]) (rest := []) (CC := 200) (SS := 300000) (q := (.int r2, f2)) (ad := ad2) (ad' := ad1) hx hb hml hown hts hK a7 (fun i j hi hj => (a3 j i hj hi).symm) a5 lwV_97 trivial hM2 rfl (Nat.le_of_ble_eq_true rfl) d_law_818 ⟨by decide, by decide⟩ hP2 hP1 hS hl.1 (fun H locs hP2 hP1 hS => ?_)
  refine lv_pop hx hb d_law_821 rfl ?_
  refine lv_goto (tgt := 1374) hx hb d_law_822 (by decide) ?_
  exact kk H locs ls hP1 hP2 hS hl
set_option maxHeartbeats 4000000 in
/-- case 19: corner -/
theorem lw_c19 (C0 : lw_At p s m meth c b L xs) (hK : va_K Dg mj_CL (mj_tys T3) s) (hAd : lw_Ad s ad1 ad2) {x3 : Int32} (h1 : vp_in (x3 + 1) L) {g1 g2 : mj_H} {G : mj_H → mj_H → Prop}
    (hp : ∃ (r r2 : Int32) (f1 f2 : mj_H), mj_Cl mj_S1 mj_CD 900 237 (.ref 0 :: [.int (xs (x3 + 1).toNatClampNeg)]) g1 (.int r, f1) ∧ mj_Cl mj_S2 mj_CD 900 89 (.ref 0 :: [.int (xs (x3 + 1).toNatClampNeg)]) g2 (.int r2, f2) ∧ G f1 f2)
    (kk : ∀ f1 f2, G f1 f2 → lw_St p l e s m b below meth c Dg T3 ad1 ad2 1374 [(0, .ref b), (1, .ref (ad1 0)), (2, .ref (ad2 0)), (3, .int x3)] [] f1 f2) :
    lw_St p l e s m b below meth c Dg T3 ad1 ad2 825 [(0, .ref b), (1, .ref (ad1 0)), (2, .ref (ad2 0)), (3, .int x3)] [] g1 g2 := by
  obtain ⟨hx, hb, hr, hml, hown, hts, hX, hbl, hlocks, hgv⟩ := id C0
  obtain ⟨a1, a2, a3, a4, a5, a6, a7⟩ := id hAd
  obtain ⟨r, r2, f1, f2, hc1, hc2, hG⟩ := hp
  have hM1 := mj_sound (l := l) (T3 := T3) (Dg := Dg) a1 (mj_Cs_of mj_Sok1) mj_hM 900 237 _ _ _ hc1
  have hM2 := mj_sound (l := l) (T3 := T3) (Dg := Dg) a2 (mj_Cs_of mj_Sok2) mj_hM 900 89 _ _ _ hc2
  have kk := kk f1 f2 hG
  intro H locs ls hP1 hP2 hS hl
  refine lv_aload_n hx hb d_law_825 rfl (lv_at hl 1 rfl) ?_
  refine lw_arg C0 hl rfl rfl hS h1 d_law_826 d_law_827 d_law_828 (by decide) d_law_829 d_law_830 ?_
  refine lw_call (as := [.int (xs (x3 + 1).toNatClampNeg)]) (rest := []) (CC := 200) (SS := 300000) (q := (.int r, f1)) (ad := ad1) (ad' := ad2) hx hb hml hown hts hK a6 a3 a4 lwV_98 trivial hM1 rfl (Nat.le_of_ble_eq_true rfl) d_law_831 ⟨by decide, by decide⟩ hP1 hP2 hS hl.1 (fun H locs hP1 hP2 hS => ?_)
  refine lv_pop hx hb d_law_834 rfl ?_
  refine lv_aload_n hx hb d_law_835 rfl (lv_at hl 2 rfl) ?_
  refine lw_arg C0 hl rfl rfl hS h1 d_law_836 d_law_837 d_law_838 (by decide) d_law_839 d_law_840 ?_
  refine lw_call (as := [.int (xs (x3 + 1).toNatClampNeg)]) (rest := []) (CC := 200) (SS := 300000) (q := (.int r2, f2)) (ad := ad2) (ad' := ad1) hx hb hml hown hts hK a7 (fun i j hi hj => (a3 j i hj hi).symm) a5 lwV_101 trivial hM2 rfl (Nat.le_of_ble_eq_true rfl) d_law_841 ⟨by decide, by decide⟩ hP2 hP1 hS hl.1 (fun H locs hP2 hP1 hS => ?_)
  refine lv_pop hx hb d_law_844 rfl ?_
  refine lv_goto (tgt := 1374) hx hb d_law_845 (by decide) ?_
  exact kk H locs ls hP1 hP2 hS hl
set_option maxHeartbeats 4000000 in
/-- case 20: weight -/
theorem lw_c20 (C0 : lw_At p s m meth c b L xs) (hK : va_K Dg mj_CL (mj_tys T3) s) (hAd : lw_Ad s ad1 ad2) {x3 : Int32} (h1 : vp_in (x3 + 1) L) (h2 : vp_in (x3 + 2) L) {g1 g2 : mj_H} {G : mj_H → mj_H → Prop}
    (hp : ∃ (r r2 : Int32) (f1 f2 : mj_H), mj_Cl mj_S1 mj_CD 900 240 (.ref 0 :: [.int (xs (x3 + 1).toNatClampNeg), .int (xs (x3 + 2).toNatClampNeg)]) g1 (.int r, f1) ∧ mj_Cl mj_S2 mj_CD 900 94 (.ref 0 :: [.int (xs (x3 + 1).toNatClampNeg), .int (xs (x3 + 2).toNatClampNeg)]) g2 (.int r2, f2) ∧ G f1 f2)
    (kk : ∀ f1 f2, G f1 f2 → lw_St p l e s m b below meth c Dg T3 ad1 ad2 1374 [(0, .ref b), (1, .ref (ad1 0)), (2, .ref (ad2 0)), (3, .int x3)] [] f1 f2) :
    lw_St p l e s m b below meth c Dg T3 ad1 ad2 848 [(0, .ref b), (1, .ref (ad1 0)), (2, .ref (ad2 0)), (3, .int x3)] [] g1 g2 := by
  obtain ⟨hx, hb, hr, hml, hown, hts, hX, hbl, hlocks, hgv⟩ := id C0
  obtain ⟨a1, a2, a3, a4, a5, a6, a7⟩ := id hAd
  obtain ⟨r, r2, f1, f2, hc1, hc2, hG⟩ := hp
  have hM1 := mj_sound (l := l) (T3 := T3) (Dg := Dg) a1 (mj_Cs_of mj_Sok1) mj_hM 900 240 _ _ _ hc1
  have hM2 := mj_sound (l := l) (T3 := T3) (Dg := Dg) a2 (mj_Cs_of mj_Sok2) mj_hM 900 94 _ _ _ hc2
  have kk := kk f1 f2 hG
  intro H locs ls hP1 hP2 hS hl
  refine lv_aload_n hx hb d_law_848 rfl (lv_at hl 1 rfl) ?_
  refine lw_arg C0 hl rfl rfl hS h1 d_law_849 d_law_850 d_law_851 (by decide) d_law_852 d_law_853 ?_
  refine lw_arg C0 hl rfl rfl hS h2 d_law_854 d_law_855 d_law_856 (by decide) d_law_857 d_law_858 ?_
  refine lw_call (as := [.int (xs (x3 + 1).toNatClampNeg), .int (xs (x3 + 2).toNatClampNeg)]) (rest := []) (CC := 200) (SS := 300000) (q := (.int r, f1)) (ad := ad1) (ad' := ad2) hx hb hml hown hts hK a6 a3 a4 lwV_102 trivial hM1 rfl (Nat.le_of_ble_eq_true rfl) d_law_859 ⟨by decide, by decide⟩ hP1 hP2 hS hl.1 (fun H locs hP1 hP2 hS => ?_)
  refine lv_pop hx hb d_law_862 rfl ?_
  refine lv_aload_n hx hb d_law_863 rfl (lv_at hl 2 rfl) ?_
  refine lw_arg C0 hl rfl rfl hS h1 d_law_864 d_law_865 d_law_866 (by decide) d_law_867 d_law_868 ?_
  refine lw_arg C0 hl rfl rfl hS h2 d_law_869 d_law_870 d_law_871 (by decide) d_law_872 d_law_873 ?_
  refine lw_call (as := [.int (xs (x3 + 1).toNatClampNeg), .int (xs (x3 + 2).toNatClampNeg)]) (rest := []) (CC := 200) (SS := 300000) (q := (.int r2, f2)) (ad := ad2) (ad' := ad1) hx hb hml hown hts hK a7 (fun i j hi hj => (a3 j i hj hi).symm) a5 lwV_105 trivial hM2 rfl (Nat.le_of_ble_eq_true rfl) d_law_874 ⟨by decide, by decide⟩ hP2 hP1 hS hl.1 (fun H locs hP2 hP1 hS => ?_)
  refine lv_pop hx hb d_law_877 rfl ?_
  refine lv_goto (tgt := 1374) hx hb d_law_878 (by decide) ?_
  exact kk H locs ls hP1 hP2 hS hl
set_option maxHeartbeats 4000000 in
/-- case 21: near -/
theorem lw_c21 (C0 : lw_At p s m meth c b L xs) (hK : va_K Dg mj_CL (mj_tys T3) s) (hAd : lw_Ad s ad1 ad2) {x3 : Int32} (h1 : vp_in (x3 + 1) L) {g1 g2 : mj_H} {G : mj_H → mj_H → Prop}
    (hp : ∃ (r r2 : Int32) (f1 f2 : mj_H), mj_Cl mj_S1 mj_CD 900 241 (.ref 0 :: [.int (xs (x3 + 1).toNatClampNeg)]) g1 (.int r, f1) ∧ mj_Cl mj_S2 mj_CD 900 95 (.ref 0 :: [.int (xs (x3 + 1).toNatClampNeg)]) g2 (.int r2, f2) ∧ G f1 f2)
    (kk : ∀ f1 f2, G f1 f2 → lw_St p l e s m b below meth c Dg T3 ad1 ad2 1374 [(0, .ref b), (1, .ref (ad1 0)), (2, .ref (ad2 0)), (3, .int x3)] [] f1 f2) :
    lw_St p l e s m b below meth c Dg T3 ad1 ad2 881 [(0, .ref b), (1, .ref (ad1 0)), (2, .ref (ad2 0)), (3, .int x3)] [] g1 g2 := by
  obtain ⟨hx, hb, hr, hml, hown, hts, hX, hbl, hlocks, hgv⟩ := id C0
  obtain ⟨a1, a2, a3, a4, a5, a6, a7⟩ := id hAd
  obtain ⟨r, r2, f1, f2, hc1, hc2, hG⟩ := hp
  have hM1 := mj_sound (l := l) (T3 := T3) (Dg := Dg) a1 (mj_Cs_of mj_Sok1) mj_hM 900 241 _ _ _ hc1
  have hM2 := mj_sound (l := l) (T3 := T3) (Dg := Dg) a2 (mj_Cs_of mj_Sok2) mj_hM 900 95 _ _ _ hc2
  have kk := kk f1 f2 hG
  intro H locs ls hP1 hP2 hS hl
  refine lv_aload_n hx hb d_law_881 rfl (lv_at hl 1 rfl) ?_
  refine lw_arg C0 hl rfl rfl hS h1 d_law_882 d_law_883 d_law_884 (by decide) d_law_885 d_law_886 ?_
  refine lw_call (as := [.int (xs (x3 + 1).toNatClampNeg)]) (rest := []) (CC := 200) (SS := 300000) (q := (.int r, f1)) (ad := ad1) (ad' := ad2) hx hb hml hown hts hK a6 a3 a4 lwV_106 trivial hM1 rfl (Nat.le_of_ble_eq_true rfl) d_law_887 ⟨by decide, by decide⟩ hP1 hP2 hS hl.1 (fun H locs hP1 hP2 hS => ?_)
  refine lv_pop hx hb d_law_890 rfl ?_
  refine lv_aload_n hx hb d_law_891 rfl (lv_at hl 2 rfl) ?_
  refine lw_arg C0 hl rfl rfl hS h1 d_law_892 d_law_893 d_law_894 (by decide) d_law_895 d_law_896 ?_
  refine lw_call (as := [.int (xs (x3 + 1).toNatClampNeg)]) (rest := []) (CC := 200) (SS := 300000) (q := (.int r2, f2)) (ad := ad2) (ad' := ad1) hx hb hml hown hts hK a7 (fun i j hi hj => (a3 j i hj hi).symm) a5 lwV_109 trivial hM2 rfl (Nat.le_of_ble_eq_true rfl) d_law_897 ⟨by decide, by decide⟩ hP2 hP1 hS hl.1 (fun H locs hP2 hP1 hS => ?_)
  refine lv_pop hx hb d_law_900 rfl ?_
  refine lv_goto (tgt := 1374) hx hb d_law_901 (by decide) ?_
  exact kk H locs ls hP1 hP2 hS hl
set_option maxHeartbeats 4000000 in
/-- case 22: standIns -/
theorem lw_c22 (C0 : lw_At p s m meth c b L xs) (hK : va_K Dg mj_CL (mj_tys T3) s) (hAd : lw_Ad s ad1 ad2) {x3 : Int32} (h1 : vp_in (x3 + 1) L) {g1 g2 : mj_H} {G : mj_H → mj_H → Prop}
    (hp : ∃ (r r2 : Int32) (f1 f2 : mj_H), mj_Cl mj_S1 mj_CD 900 249 (.ref 0 :: [.int (xs (x3 + 1).toNatClampNeg)]) g1 (.int r, f1) ∧ mj_Cl mj_S2 mj_CD 900 100 (.ref 0 :: [.int (xs (x3 + 1).toNatClampNeg)]) g2 (.int r2, f2) ∧ G f1 f2)
    (kk : ∀ f1 f2, G f1 f2 → lw_St p l e s m b below meth c Dg T3 ad1 ad2 1374 [(0, .ref b), (1, .ref (ad1 0)), (2, .ref (ad2 0)), (3, .int x3)] [] f1 f2) :
    lw_St p l e s m b below meth c Dg T3 ad1 ad2 904 [(0, .ref b), (1, .ref (ad1 0)), (2, .ref (ad2 0)), (3, .int x3)] [] g1 g2 := by
  obtain ⟨hx, hb, hr, hml, hown, hts, hX, hbl, hlocks, hgv⟩ := id C0
  obtain ⟨a1, a2, a3, a4, a5, a6, a7⟩ := id hAd
  obtain ⟨r, r2, f1, f2, hc1, hc2, hG⟩ := hp
  have hM1 := mj_sound (l := l) (T3 := T3) (Dg := Dg) a1 (mj_Cs_of mj_Sok1) mj_hM 900 249 _ _ _ hc1
  have hM2 := mj_sound (l := l) (T3 := T3) (Dg := Dg) a2 (mj_Cs_of mj_Sok2) mj_hM 900 100 _ _ _ hc2
  have kk := kk f1 f2 hG
  intro H locs ls hP1 hP2 hS hl
  refine lv_aload_n hx hb d_law_904 rfl (lv_at hl 1 rfl) ?_
  refine lw_arg C0 hl rfl rfl hS h1 d_law_905 d_law_906 d_law_907 (by decide) d_law_908 d_law_909 ?_
  refine lw_call (as := [.int (xs (x3 + 1).toNatClampNeg)]) (rest := []) (CC := 200) (SS := 300000) (q := (.int r, f1)) (ad := ad1) (ad' := ad2) hx hb hml hown hts hK a6 a3 a4 lwV_110 trivial hM1 rfl (Nat.le_of_ble_eq_true rfl) d_law_910 ⟨by decide, by decide⟩ hP1 hP2 hS hl.1 (fun H locs hP1 hP2 hS => ?_)
  refine lv_pop hx hb d_law_913 rfl ?_
  refine lv_aload_n hx hb d_law_914 rfl (lv_at hl 2 rfl) ?_
  refine lw_arg C0 hl rfl rfl hS h1 d_law_915 d_law_916 d_law_917 (by decide) d_law_918 d_law_919 ?_
  refine lw_call (as := [.int (xs (x3 + 1).toNatClampNeg)]) (rest := []) (CC := 200) (SS := 300000) (q := (.int r2, f2)) (ad := ad2) (ad' := ad1) hx hb hml hown hts hK a7 (fun i j hi hj => (a3 j i hj hi).symm) a5 lwV_113 trivial hM2 rfl (Nat.le_of_ble_eq_true rfl) d_law_920 ⟨by decide, by decide⟩ hP2 hP1 hS hl.1 (fun H locs hP2 hP1 hS => ?_)
  refine lv_pop hx hb d_law_923 rfl ?_
  refine lv_goto (tgt := 1374) hx hb d_law_924 (by decide) ?_
  exact kk H locs ls hP1 hP2 hS hl
set_option maxHeartbeats 4000000 in
/-- case 23: kept -/
theorem lw_c23 (C0 : lw_At p s m meth c b L xs) (hK : va_K Dg mj_CL (mj_tys T3) s) (hAd : lw_Ad s ad1 ad2) {x3 : Int32} (h1 : vp_in (x3 + 1) L) {g1 g2 : mj_H} {G : mj_H → mj_H → Prop}
    (hp : ∃ (r r2 : Int32) (f1 f2 : mj_H), mj_Cl mj_S1 mj_CD 900 251 (.ref 0 :: [.int (xs (x3 + 1).toNatClampNeg)]) g1 (.int r, f1) ∧ mj_Cl mj_S2 mj_CD 900 101 (.ref 0 :: [.int (xs (x3 + 1).toNatClampNeg)]) g2 (.int r2, f2) ∧ G f1 f2)
    (kk : ∀ f1 f2, G f1 f2 → lw_St p l e s m b below meth c Dg T3 ad1 ad2 1374 [(0, .ref b), (1, .ref (ad1 0)), (2, .ref (ad2 0)), (3, .int x3)] [] f1 f2) :
    lw_St p l e s m b below meth c Dg T3 ad1 ad2 927 [(0, .ref b), (1, .ref (ad1 0)), (2, .ref (ad2 0)), (3, .int x3)] [] g1 g2 := by
  obtain ⟨hx, hb, hr, hml, hown, hts, hX, hbl, hlocks, hgv⟩ := id C0
  obtain ⟨a1, a2, a3, a4, a5, a6, a7⟩ := id hAd
  obtain ⟨r, r2, f1, f2, hc1, hc2, hG⟩ := hp
  have hM1 := mj_sound (l := l) (T3 := T3) (Dg := Dg) a1 (mj_Cs_of mj_Sok1) mj_hM 900 251 _ _ _ hc1
  have hM2 := mj_sound (l := l) (T3 := T3) (Dg := Dg) a2 (mj_Cs_of mj_Sok2) mj_hM 900 101 _ _ _ hc2
  have kk := kk f1 f2 hG
  intro H locs ls hP1 hP2 hS hl
  refine lv_aload_n hx hb d_law_927 rfl (lv_at hl 1 rfl) ?_
  refine lw_arg C0 hl rfl rfl hS h1 d_law_928 d_law_929 d_law_930 (by decide) d_law_931 d_law_932 ?_
  refine lw_call (as := [.int (xs (x3 + 1).toNatClampNeg)]) (rest := []) (CC := 200) (SS := 300000) (q := (.int r, f1)) (ad := ad1) (ad' := ad2) hx hb hml hown hts hK a6 a3 a4 lwV_114 trivial hM1 rfl (Nat.le_of_ble_eq_true rfl) d_law_933 ⟨by decide, by decide⟩ hP1 hP2 hS hl.1 (fun H locs hP1 hP2 hS => ?_)
  refine lv_pop hx hb d_law_936 rfl ?_
  refine lv_aload_n hx hb d_law_937 rfl (lv_at hl 2 rfl) ?_
  refine lw_arg C0 hl rfl rfl hS h1 d_law_938 d_law_939 d_law_940 (by decide) d_law_941 d_law_942 ?_
  refine lw_call (as := [.int (xs (x3 + 1).toNatClampNeg)]) (rest := []) (CC := 200) (SS := 300000) (q := (.int r2, f2)) (ad := ad2) (ad' := ad1) hx hb hml hown hts hK a7 (fun i j hi hj => (a3 j i hj hi).symm) a5 lwV_117 trivial hM2 rfl (Nat.le_of_ble_eq_true rfl) d_law_943 ⟨by decide, by decide⟩ hP2 hP1 hS hl.1 (fun H locs hP2 hP1 hS => ?_)
  refine lv_pop hx hb d_law_946 rfl ?_
  refine lv_goto (tgt := 1374) hx hb d_law_947 (by decide) ?_
  exact kk H locs ls hP1 hP2 hS hl
set_option maxHeartbeats 4000000 in
/-- case 24: cost -/
theorem lw_c24 (C0 : lw_At p s m meth c b L xs) (hK : va_K Dg mj_CL (mj_tys T3) s) (hAd : lw_Ad s ad1 ad2) {x3 : Int32} (h1 : vp_in (x3 + 1) L) (h2 : vp_in (x3 + 2) L) (h3 : vp_in (x3 + 3) L) (h4 : vp_in (x3 + 4) L) {g1 g2 : mj_H} {G : mj_H → mj_H → Prop}
    (hp : ∃ (r r2 : Int32) (f1 f2 : mj_H), mj_Cl mj_S1 mj_CD 900 252 (.ref 0 :: [.int (xs (x3 + 1).toNatClampNeg), .int (xs (x3 + 2).toNatClampNeg), .int (xs (x3 + 3).toNatClampNeg), .int (if (xs (x3 + 4).toNatClampNeg) = 0 then 0 else 1)]) g1 (.int r, f1) ∧ mj_Cl mj_S2 mj_CD 900 102 (.ref 0 :: [.int (xs (x3 + 1).toNatClampNeg), .int (xs (x3 + 2).toNatClampNeg), .int (xs (x3 + 3).toNatClampNeg), .int (if (xs (x3 + 4).toNatClampNeg) = 0 then 0 else 1)]) g2 (.int r2, f2) ∧ G f1 f2)
    (kk : ∀ f1 f2, G f1 f2 → lw_St p l e s m b below meth c Dg T3 ad1 ad2 1374 [(0, .ref b), (1, .ref (ad1 0)), (2, .ref (ad2 0)), (3, .int x3)] [] f1 f2) :
    lw_St p l e s m b below meth c Dg T3 ad1 ad2 950 [(0, .ref b), (1, .ref (ad1 0)), (2, .ref (ad2 0)), (3, .int x3)] [] g1 g2 := by
  obtain ⟨hx, hb, hr, hml, hown, hts, hX, hbl, hlocks, hgv⟩ := id C0
  obtain ⟨a1, a2, a3, a4, a5, a6, a7⟩ := id hAd
  obtain ⟨r, r2, f1, f2, hc1, hc2, hG⟩ := hp
  have hM1 := mj_sound (l := l) (T3 := T3) (Dg := Dg) a1 (mj_Cs_of mj_Sok1) mj_hM 900 252 _ _ _ hc1
  have hM2 := mj_sound (l := l) (T3 := T3) (Dg := Dg) a2 (mj_Cs_of mj_Sok2) mj_hM 900 102 _ _ _ hc2
  have kk := kk f1 f2 hG
  intro H locs ls hP1 hP2 hS hl
  by_cases e4 : (xs (x3 + 4).toNatClampNeg) = 0
  · simp only [e4, if_true] at hM1 hM2
    refine lv_aload_n hx hb d_law_950 rfl (lv_at hl 1 rfl) ?_
    refine lw_arg C0 hl rfl rfl hS h1 d_law_951 d_law_952 d_law_953 (by decide) d_law_954 d_law_955 ?_
    refine lw_arg C0 hl rfl rfl hS h2 d_law_956 d_law_957 d_law_958 (by decide) d_law_959 d_law_960 ?_
    refine lw_arg C0 hl rfl rfl hS h3 d_law_961 d_law_962 d_law_963 (by decide) d_law_964 d_law_965 ?_
    refine lw_arg C0 hl rfl rfl hS h4 d_law_966 d_law_967 d_law_968 (by decide) d_law_969 d_law_970 ?_
    refine lv_if_eq (tgt := 978) hx hb d_law_971 (by decide) (fun _ => ?_) (fun q => absurd e4 q)
    refine lv_iconst (v := 0) hx hb d_law_978 (by decide) ?_
    refine lw_call (as := [.int (xs (x3 + 1).toNatClampNeg), .int (xs (x3 + 2).toNatClampNeg), .int (xs (x3 + 3).toNatClampNeg), .int 0]) (rest := []) (CC := 200) (SS := 300000) (q := (.int r, f1)) (ad := ad1) (ad' := ad2) hx hb hml hown hts hK a6 a3 a4 lwV_118 trivial hM1 rfl (Nat.le_of_ble_eq_true rfl) d_law_979 ⟨by decide, by decide⟩ hP1 hP2 hS hl.1 (fun H locs hP1 hP2 hS => ?_)
    refine lv_pop hx hb d_law_982 rfl ?_
    refine lv_aload_n hx hb d_law_983 rfl (lv_at hl 2 rfl) ?_
    refine lw_arg C0 hl rfl rfl hS h1 d_law_984 d_law_985 d_law_986 (by decide) d_law_987 d_law_988 ?_
    refine lw_arg C0 hl rfl rfl hS h2 d_law_989 d_law_990 d_law_991 (by decide) d_law_992 d_law_993 ?_
    refine lw_arg C0 hl rfl rfl hS h3 d_law_994 d_law_995 d_law_996 (by decide) d_law_997 d_law_998 ?_
    refine lw_arg C0 hl rfl rfl hS h4 d_law_999 d_law_1000 d_law_1001 (by decide) d_law_1002 d_law_1003 ?_
    refine lv_if_eq (tgt := 1011) hx hb d_law_1004 (by decide) (fun _ => ?_) (fun q => absurd e4 q)
    refine lv_iconst (v := 0) hx hb d_law_1011 (by decide) ?_
    refine lw_call (as := [.int (xs (x3 + 1).toNatClampNeg), .int (xs (x3 + 2).toNatClampNeg), .int (xs (x3 + 3).toNatClampNeg), .int 0]) (rest := []) (CC := 200) (SS := 300000) (q := (.int r2, f2)) (ad := ad2) (ad' := ad1) hx hb hml hown hts hK a7 (fun i j hi hj => (a3 j i hj hi).symm) a5 lwV_122 trivial hM2 rfl (Nat.le_of_ble_eq_true rfl) d_law_1012 ⟨by decide, by decide⟩ hP2 hP1 hS hl.1 (fun H locs hP2 hP1 hS => ?_)
    refine lv_pop hx hb d_law_1015 rfl ?_
    refine lv_goto (tgt := 1374) hx hb d_law_1016 (by decide) ?_
    exact kk H locs ls hP1 hP2 hS hl
  · simp only [e4, if_false] at hM1 hM2
    refine lv_aload_n hx hb d_law_950 rfl (lv_at hl 1 rfl) ?_
    refine lw_arg C0 hl rfl rfl hS h1 d_law_951 d_law_952 d_law_953 (by decide) d_law_954 d_law_955 ?_
    refine lw_arg C0 hl rfl rfl hS h2 d_law_956 d_law_957 d_law_958 (by decide) d_law_959 d_law_960 ?_
    refine lw_arg C0 hl rfl rfl hS h3 d_law_961 d_law_962 d_law_963 (by decide) d_law_964 d_law_965 ?_
    refine lw_arg C0 hl rfl rfl hS h4 d_law_966 d_law_967 d_law_968 (by decide) d_law_969 d_law_970 ?_
    refine lv_if_eq (tgt := 978) hx hb d_law_971 (by decide) (fun q => absurd q e4) (fun _ => ?_)
    refine lv_iconst (v := 1) hx hb d_law_974 (by decide) ?_
    refine lv_goto (tgt := 979) hx hb d_law_975 (by decide) ?_
    refine lw_call (as := [.int (xs (x3 + 1).toNatClampNeg), .int (xs (x3 + 2).toNatClampNeg), .int (xs (x3 + 3).toNatClampNeg), .int 1]) (rest := []) (CC := 200) (SS := 300000) (q := (.int r, f1)) (ad := ad1) (ad' := ad2) hx hb hml hown hts hK a6 a3 a4 lwV_118 trivial hM1 rfl (Nat.le_of_ble_eq_true rfl) d_law_979 ⟨by decide, by decide⟩ hP1 hP2 hS hl.1 (fun H locs hP1 hP2 hS => ?_)
    refine lv_pop hx hb d_law_982 rfl ?_
    refine lv_aload_n hx hb d_law_983 rfl (lv_at hl 2 rfl) ?_
    refine lw_arg C0 hl rfl rfl hS h1 d_law_984 d_law_985 d_law_986 (by decide) d_law_987 d_law_988 ?_
    refine lw_arg C0 hl rfl rfl hS h2 d_law_989 d_law_990 d_law_991 (by decide) d_law_992 d_law_993 ?_
    refine lw_arg C0 hl rfl rfl hS h3 d_law_994 d_law_995 d_law_996 (by decide) d_law_997 d_law_998 ?_
    refine lw_arg C0 hl rfl rfl hS h4 d_law_999 d_law_1000 d_law_1001 (by decide) d_law_1002 d_law_1003 ?_
    refine lv_if_eq (tgt := 1011) hx hb d_law_1004 (by decide) (fun q => absurd q e4) (fun _ => ?_)
    refine lv_iconst (v := 1) hx hb d_law_1007 (by decide) ?_
    refine lv_goto (tgt := 1012) hx hb d_law_1008 (by decide) ?_
    refine lw_call (as := [.int (xs (x3 + 1).toNatClampNeg), .int (xs (x3 + 2).toNatClampNeg), .int (xs (x3 + 3).toNatClampNeg), .int 1]) (rest := []) (CC := 200) (SS := 300000) (q := (.int r2, f2)) (ad := ad2) (ad' := ad1) hx hb hml hown hts hK a7 (fun i j hi hj => (a3 j i hj hi).symm) a5 lwV_122 trivial hM2 rfl (Nat.le_of_ble_eq_true rfl) d_law_1012 ⟨by decide, by decide⟩ hP2 hP1 hS hl.1 (fun H locs hP2 hP1 hS => ?_)
    refine lv_pop hx hb d_law_1015 rfl ?_
    refine lv_goto (tgt := 1374) hx hb d_law_1016 (by decide) ?_
    exact kk H locs ls hP1 hP2 hS hl
set_option maxHeartbeats 4000000 in
/-- case 25: hole -/
theorem lw_c25 (C0 : lw_At p s m meth c b L xs) (hK : va_K Dg mj_CL (mj_tys T3) s) (hAd : lw_Ad s ad1 ad2) {x3 : Int32} (h1 : vp_in (x3 + 1) L) {g1 g2 : mj_H} {G : mj_H → mj_H → Prop}
    (hp : ∃ (r r2 : Int32) (f1 f2 : mj_H), mj_Cl mj_S1 mj_CD 900 254 (.ref 0 :: [.int (xs (x3 + 1).toNatClampNeg)]) g1 (.int r, f1) ∧ mj_Cl mj_S2 mj_CD 900 104 (.ref 0 :: [.int (xs (x3 + 1).toNatClampNeg)]) g2 (.int r2, f2) ∧ G f1 f2)
    (kk : ∀ f1 f2, G f1 f2 → lw_St p l e s m b below meth c Dg T3 ad1 ad2 1374 [(0, .ref b), (1, .ref (ad1 0)), (2, .ref (ad2 0)), (3, .int x3)] [] f1 f2) :
    lw_St p l e s m b below meth c Dg T3 ad1 ad2 1019 [(0, .ref b), (1, .ref (ad1 0)), (2, .ref (ad2 0)), (3, .int x3)] [] g1 g2 := by
  obtain ⟨hx, hb, hr, hml, hown, hts, hX, hbl, hlocks, hgv⟩ := id C0
  obtain ⟨a1, a2, a3, a4, a5, a6, a7⟩ := id hAd
  obtain ⟨r, r2, f1, f2, hc1, hc2, hG⟩ := hp
  have hM1 := mj_sound (l := l) (T3 := T3) (Dg := Dg) a1 (mj_Cs_of mj_Sok1) mj_hM 900 254 _ _ _ hc1
  have hM2 := mj_sound (l := l) (T3 := T3) (Dg := Dg) a2 (mj_Cs_of mj_Sok2) mj_hM 900 104 _ _ _ hc2
  have kk := kk f1 f2 hG
  intro H locs ls hP1 hP2 hS hl
  refine lv_aload_n hx hb d_law_1019 rfl (lv_at hl 1 rfl) ?_
  refine lw_arg C0 hl rfl rfl hS h1 d_law_1020 d_law_1021 d_law_1022 (by decide) d_law_1023 d_law_1024 ?_
  refine lw_call (as := [.int (xs (x3 + 1).toNatClampNeg)]) (rest := []) (CC := 200) (SS := 300000) (q := (.int r, f1)) (ad := ad1) (ad' := ad2) hx hb hml hown hts hK a6 a3 a4 lwV_123 trivial hM1 rfl (Nat.le_of_ble_eq_true rfl) d_law_1025 ⟨by decide, by decide⟩ hP1 hP2 hS hl.1 (fun H locs hP1 hP2 hS => ?_)
  refine lv_pop hx hb d_law_1028 rfl ?_
  refine lv_aload_n hx hb d_law_1029 rfl (lv_at hl 2 rfl) ?_
  refine lw_arg C0 hl rfl rfl hS h1 d_law_1030 d_law_1031 d_law_1032 (by decide) d_law_1033 d_law_1034 ?_
  refine lw_call (as := [.int (xs (x3 + 1).toNatClampNeg)]) (rest := []) (CC := 200) (SS := 300000) (q := (.int r2, f2)) (ad := ad2) (ad' := ad1) hx hb hml hown hts hK a7 (fun i j hi hj => (a3 j i hj hi).symm) a5 lwV_126 trivial hM2 rfl (Nat.le_of_ble_eq_true rfl) d_law_1035 ⟨by decide, by decide⟩ hP2 hP1 hS hl.1 (fun H locs hP2 hP1 hS => ?_)
  refine lv_pop hx hb d_law_1038 rfl ?_
  refine lv_goto (tgt := 1374) hx hb d_law_1039 (by decide) ?_
  exact kk H locs ls hP1 hP2 hS hl
set_option maxHeartbeats 4000000 in
/-- case 26: rather -/
theorem lw_c26 (C0 : lw_At p s m meth c b L xs) (hK : va_K Dg mj_CL (mj_tys T3) s) (hAd : lw_Ad s ad1 ad2) {x3 : Int32} (h1 : vp_in (x3 + 1) L) (h2 : vp_in (x3 + 2) L) {g1 g2 : mj_H} {G : mj_H → mj_H → Prop}
    (hp : ∃ (r r2 : Int32) (f1 f2 : mj_H), mj_Cl mj_S1 mj_CD 900 256 (.ref 0 :: [.int (xs (x3 + 1).toNatClampNeg), .int (xs (x3 + 2).toNatClampNeg)]) g1 (.int r, f1) ∧ mj_Cl mj_S2 mj_CD 900 105 (.ref 0 :: [.int (xs (x3 + 1).toNatClampNeg), .int (xs (x3 + 2).toNatClampNeg)]) g2 (.int r2, f2) ∧ G f1 f2)
    (kk : ∀ f1 f2, G f1 f2 → lw_St p l e s m b below meth c Dg T3 ad1 ad2 1374 [(0, .ref b), (1, .ref (ad1 0)), (2, .ref (ad2 0)), (3, .int x3)] [] f1 f2) :
    lw_St p l e s m b below meth c Dg T3 ad1 ad2 1042 [(0, .ref b), (1, .ref (ad1 0)), (2, .ref (ad2 0)), (3, .int x3)] [] g1 g2 := by
  obtain ⟨hx, hb, hr, hml, hown, hts, hX, hbl, hlocks, hgv⟩ := id C0
  obtain ⟨a1, a2, a3, a4, a5, a6, a7⟩ := id hAd
  obtain ⟨r, r2, f1, f2, hc1, hc2, hG⟩ := hp
  have hM1 := mj_sound (l := l) (T3 := T3) (Dg := Dg) a1 (mj_Cs_of mj_Sok1) mj_hM 900 256 _ _ _ hc1
  have hM2 := mj_sound (l := l) (T3 := T3) (Dg := Dg) a2 (mj_Cs_of mj_Sok2) mj_hM 900 105 _ _ _ hc2
  have kk := kk f1 f2 hG
  intro H locs ls hP1 hP2 hS hl
  refine lv_aload_n hx hb d_law_1042 rfl (lv_at hl 1 rfl) ?_
  refine lw_arg C0 hl rfl rfl hS h1 d_law_1043 d_law_1044 d_law_1045 (by decide) d_law_1046 d_law_1047 ?_
  refine lw_arg C0 hl rfl rfl hS h2 d_law_1048 d_law_1049 d_law_1050 (by decide) d_law_1051 d_law_1052 ?_
  refine lw_call (as := [.int (xs (x3 + 1).toNatClampNeg), .int (xs (x3 + 2).toNatClampNeg)]) (rest := []) (CC := 200) (SS := 300000) (q := (.int r, f1)) (ad := ad1) (ad' := ad2) hx hb hml hown hts hK a6 a3 a4 lwV_127 trivial hM1 rfl (Nat.le_of_ble_eq_true rfl) d_law_1053 ⟨by decide, by decide⟩ hP1 hP2 hS hl.1 (fun H locs hP1 hP2 hS => ?_)
  refine lv_pop hx hb d_law_1056 rfl ?_
  refine lv_aload_n hx hb d_law_1057 rfl (lv_at hl 2 rfl) ?_
  refine lw_arg C0 hl rfl rfl hS h1 d_law_1058 d_law_1059 d_law_1060 (by decide) d_law_1061 d_law_1062 ?_
  refine lw_arg C0 hl rfl rfl hS h2 d_law_1063 d_law_1064 d_law_1065 (by decide) d_law_1066 d_law_1067 ?_
  refine lw_call (as := [.int (xs (x3 + 1).toNatClampNeg), .int (xs (x3 + 2).toNatClampNeg)]) (rest := []) (CC := 200) (SS := 300000) (q := (.int r2, f2)) (ad := ad2) (ad' := ad1) hx hb hml hown hts hK a7 (fun i j hi hj => (a3 j i hj hi).symm) a5 lwV_130 trivial hM2 rfl (Nat.le_of_ble_eq_true rfl) d_law_1068 ⟨by decide, by decide⟩ hP2 hP1 hS hl.1 (fun H locs hP2 hP1 hS => ?_)
  refine lv_pop hx hb d_law_1071 rfl ?_
  refine lv_goto (tgt := 1374) hx hb d_law_1072 (by decide) ?_
  exact kk H locs ls hP1 hP2 hS hl
set_option maxHeartbeats 4000000 in
/-- case 27: unsay -/
theorem lw_c27 (C0 : lw_At p s m meth c b L xs) (hK : va_K Dg mj_CL (mj_tys T3) s) (hAd : lw_Ad s ad1 ad2) {x3 : Int32} {g1 g2 : mj_H} {G : mj_H → mj_H → Prop}
    (hp : ∃ (r r2 : Int32) (f1 f2 : mj_H), mj_Cl mj_S1 mj_CD 900 258 (.ref 0 :: []) g1 (.int r, f1) ∧ mj_Cl mj_S2 mj_CD 900 106 (.ref 0 :: []) g2 (.int r2, f2) ∧ G f1 f2)
    (kk : ∀ f1 f2, G f1 f2 → lw_St p l e s m b below meth c Dg T3 ad1 ad2 1374 [(0, .ref b), (1, .ref (ad1 0)), (2, .ref (ad2 0)), (3, .int x3)] [] f1 f2) :
    lw_St p l e s m b below meth c Dg T3 ad1 ad2 1075 [(0, .ref b), (1, .ref (ad1 0)), (2, .ref (ad2 0)), (3, .int x3)] [] g1 g2 := by
  obtain ⟨hx, hb, hr, hml, hown, hts, hX, hbl, hlocks, hgv⟩ := id C0
  obtain ⟨a1, a2, a3, a4, a5, a6, a7⟩ := id hAd
  obtain ⟨r, r2, f1, f2, hc1, hc2, hG⟩ := hp
  have hM1 := mj_sound (l := l) (T3 := T3) (Dg := Dg) a1 (mj_Cs_of mj_Sok1) mj_hM 900 258 _ _ _ hc1
  have hM2 := mj_sound (l := l) (T3 := T3) (Dg := Dg) a2 (mj_Cs_of mj_Sok2) mj_hM 900 106 _ _ _ hc2
  have kk := kk f1 f2 hG
  intro H locs ls hP1 hP2 hS hl
  refine lv_aload_n hx hb d_law_1075 rfl (lv_at hl 1 rfl) ?_
  refine lw_call (as := []) (rest := []) (CC := 200) (SS := 300000) (q := (.int r, f1)) (ad := ad1) (ad' := ad2) hx hb hml hown hts hK a6 a3 a4 lwV_131 trivial hM1 rfl (Nat.le_of_ble_eq_true rfl) d_law_1076 ⟨by decide, by decide⟩ hP1 hP2 hS hl.1 (fun H locs hP1 hP2 hS => ?_)
  refine lv_pop hx hb d_law_1079 rfl ?_
  refine lv_aload_n hx hb d_law_1080 rfl (lv_at hl 2 rfl) ?_
  refine lw_call (as := []) (rest := []) (CC := 200) (SS := 300000) (q := (.int r2, f2)) (ad := ad2) (ad' := ad1) hx hb hml hown hts hK a7 (fun i j hi hj => (a3 j i hj hi).symm) a5 lwV_134 trivial hM2 rfl (Nat.le_of_ble_eq_true rfl) d_law_1081 ⟨by decide, by decide⟩ hP2 hP1 hS hl.1 (fun H locs hP2 hP1 hS => ?_)
  refine lv_pop hx hb d_law_1084 rfl ?_
  refine lv_goto (tgt := 1374) hx hb d_law_1085 (by decide) ?_
  exact kk H locs ls hP1 hP2 hS hl
set_option maxHeartbeats 4000000 in
/-- case 28: agree -/
theorem lw_c28 (C0 : lw_At p s m meth c b L xs) (hK : va_K Dg mj_CL (mj_tys T3) s) (hAd : lw_Ad s ad1 ad2) {x3 : Int32} {g1 g2 : mj_H} {G : mj_H → mj_H → Prop}
    (hp : ∃ (r r2 : Int32) (f1 f2 : mj_H), mj_Cl mj_S1 mj_CD 900 259 (.ref 0 :: []) g1 (.int r, f1) ∧ mj_Cl mj_S2 mj_CD 900 107 (.ref 0 :: []) g2 (.int r2, f2) ∧ G f1 f2)
    (kk : ∀ f1 f2, G f1 f2 → lw_St p l e s m b below meth c Dg T3 ad1 ad2 1374 [(0, .ref b), (1, .ref (ad1 0)), (2, .ref (ad2 0)), (3, .int x3)] [] f1 f2) :
    lw_St p l e s m b below meth c Dg T3 ad1 ad2 1088 [(0, .ref b), (1, .ref (ad1 0)), (2, .ref (ad2 0)), (3, .int x3)] [] g1 g2 := by
  obtain ⟨hx, hb, hr, hml, hown, hts, hX, hbl, hlocks, hgv⟩ := id C0
  obtain ⟨a1, a2, a3, a4, a5, a6, a7⟩ := id hAd
  obtain ⟨r, r2, f1, f2, hc1, hc2, hG⟩ := hp
  have hM1 := mj_sound (l := l) (T3 := T3) (Dg := Dg) a1 (mj_Cs_of mj_Sok1) mj_hM 900 259 _ _ _ hc1
  have hM2 := mj_sound (l := l) (T3 := T3) (Dg := Dg) a2 (mj_Cs_of mj_Sok2) mj_hM 900 107 _ _ _ hc2
  have kk := kk f1 f2 hG
  intro H locs ls hP1 hP2 hS hl
  refine lv_aload_n hx hb d_law_1088 rfl (lv_at hl 1 rfl) ?_
  refine lw_call (as := []) (rest := []) (CC := 200) (SS := 300000) (q := (.int r, f1)) (ad := ad1) (ad' := ad2) hx hb hml hown hts hK a6 a3 a4 lwV_135 trivial hM1 rfl (Nat.le_of_ble_eq_true rfl) d_law_1089 ⟨by decide, by decide⟩ hP1 hP2 hS hl.1 (fun H locs hP1 hP2 hS => ?_)
  refine lv_pop hx hb d_law_1092 rfl ?_
  refine lv_aload_n hx hb d_law_1093 rfl (lv_at hl 2 rfl) ?_
  refine lw_call (as := []) (rest := []) (CC := 200) (SS := 300000) (q := (.int r2, f2)) (ad := ad2) (ad' := ad1) hx hb hml hown hts hK a7 (fun i j hi hj => (a3 j i hj hi).symm) a5 lwV_138 trivial hM2 rfl (Nat.le_of_ble_eq_true rfl) d_law_1094 ⟨by decide, by decide⟩ hP2 hP1 hS hl.1 (fun H locs hP2 hP1 hS => ?_)
  refine lv_pop hx hb d_law_1097 rfl ?_
  refine lv_goto (tgt := 1374) hx hb d_law_1098 (by decide) ?_
  exact kk H locs ls hP1 hP2 hS hl
set_option maxHeartbeats 4000000 in
/-- case 29: could -/
theorem lw_c29 (C0 : lw_At p s m meth c b L xs) (hK : va_K Dg mj_CL (mj_tys T3) s) (hAd : lw_Ad s ad1 ad2) {x3 : Int32} {g1 g2 : mj_H} {G : mj_H → mj_H → Prop}
    (hp : ∃ (r r2 : Int64) (f1 f2 : mj_H), mj_Cl mj_S1 mj_CD 900 262 (.ref 0 :: []) g1 (.long r, f1) ∧ mj_Cl mj_S2 mj_CD 900 111 (.ref 0 :: []) g2 (.long r2, f2) ∧ G f1 f2)
    (kk : ∀ f1 f2, G f1 f2 → lw_St p l e s m b below meth c Dg T3 ad1 ad2 1374 [(0, .ref b), (1, .ref (ad1 0)), (2, .ref (ad2 0)), (3, .int x3)] [] f1 f2) :
    lw_St p l e s m b below meth c Dg T3 ad1 ad2 1101 [(0, .ref b), (1, .ref (ad1 0)), (2, .ref (ad2 0)), (3, .int x3)] [] g1 g2 := by
  obtain ⟨hx, hb, hr, hml, hown, hts, hX, hbl, hlocks, hgv⟩ := id C0
  obtain ⟨a1, a2, a3, a4, a5, a6, a7⟩ := id hAd
  obtain ⟨r, r2, f1, f2, hc1, hc2, hG⟩ := hp
  have hM1 := mj_sound (l := l) (T3 := T3) (Dg := Dg) a1 (mj_Cs_of mj_Sok1) mj_hM 900 262 _ _ _ hc1
  have hM2 := mj_sound (l := l) (T3 := T3) (Dg := Dg) a2 (mj_Cs_of mj_Sok2) mj_hM 900 111 _ _ _ hc2
  have kk := kk f1 f2 hG
  intro H locs ls hP1 hP2 hS hl
  refine lv_aload_n hx hb d_law_1101 rfl (lv_at hl 1 rfl) ?_
  refine lw_call (as := []) (rest := []) (CC := 200) (SS := 300000) (q := (.long r, f1)) (ad := ad1) (ad' := ad2) hx hb hml hown hts hK a6 a3 a4 lwV_139 trivial hM1 rfl (Nat.le_of_ble_eq_true rfl) d_law_1102 ⟨by decide, by decide⟩ hP1 hP2 hS hl.1 (fun H locs hP1 hP2 hS => ?_)
  refine lv_pop2_2 hx hb d_law_1105 rfl ?_
  refine lv_aload_n hx hb d_law_1106 rfl (lv_at hl 2 rfl) ?_
  refine lw_call (as := []) (rest := []) (CC := 200) (SS := 300000) (q := (.long r2, f2)) (ad := ad2) (ad' := ad1) hx hb hml hown hts hK a7 (fun i j hi hj => (a3 j i hj hi).symm) a5 lwV_142 trivial hM2 rfl (Nat.le_of_ble_eq_true rfl) d_law_1107 ⟨by decide, by decide⟩ hP2 hP1 hS hl.1 (fun H locs hP2 hP1 hS => ?_)
  refine lv_pop2_2 hx hb d_law_1110 rfl ?_
  refine lv_goto (tgt := 1374) hx hb d_law_1111 (by decide) ?_
  exact kk H locs ls hP1 hP2 hS hl
set_option maxHeartbeats 4000000 in
/-- case 30: question -/
theorem lw_c30 (C0 : lw_At p s m meth c b L xs) (hK : va_K Dg mj_CL (mj_tys T3) s) (hAd : lw_Ad s ad1 ad2) {x3 : Int32} (h1 : vp_in (x3 + 1) L) {g1 g2 : mj_H} {G : mj_H → mj_H → Prop}
    (hp : ∃ (r r2 : Int32) (f1 f2 : mj_H), mj_Cl mj_S1 mj_CD 900 264 (.ref 0 :: [.int (xs (x3 + 1).toNatClampNeg)]) g1 (.int r, f1) ∧ mj_Cl mj_S2 mj_CD 900 113 (.ref 0 :: [.int (xs (x3 + 1).toNatClampNeg)]) g2 (.int r2, f2) ∧ G f1 f2)
    (kk : ∀ f1 f2, G f1 f2 → lw_St p l e s m b below meth c Dg T3 ad1 ad2 1374 [(0, .ref b), (1, .ref (ad1 0)), (2, .ref (ad2 0)), (3, .int x3)] [] f1 f2) :
    lw_St p l e s m b below meth c Dg T3 ad1 ad2 1114 [(0, .ref b), (1, .ref (ad1 0)), (2, .ref (ad2 0)), (3, .int x3)] [] g1 g2 := by
  obtain ⟨hx, hb, hr, hml, hown, hts, hX, hbl, hlocks, hgv⟩ := id C0
  obtain ⟨a1, a2, a3, a4, a5, a6, a7⟩ := id hAd
  obtain ⟨r, r2, f1, f2, hc1, hc2, hG⟩ := hp
  have hM1 := mj_sound (l := l) (T3 := T3) (Dg := Dg) a1 (mj_Cs_of mj_Sok1) mj_hM 900 264 _ _ _ hc1
  have hM2 := mj_sound (l := l) (T3 := T3) (Dg := Dg) a2 (mj_Cs_of mj_Sok2) mj_hM 900 113 _ _ _ hc2
  have kk := kk f1 f2 hG
  intro H locs ls hP1 hP2 hS hl
  refine lv_aload_n hx hb d_law_1114 rfl (lv_at hl 1 rfl) ?_
  refine lw_arg C0 hl rfl rfl hS h1 d_law_1115 d_law_1116 d_law_1117 (by decide) d_law_1118 d_law_1119 ?_
  refine lw_call (as := [.int (xs (x3 + 1).toNatClampNeg)]) (rest := []) (CC := 200) (SS := 300000) (q := (.int r, f1)) (ad := ad1) (ad' := ad2) hx hb hml hown hts hK a6 a3 a4 lwV_143 trivial hM1 rfl (Nat.le_of_ble_eq_true rfl) d_law_1120 ⟨by decide, by decide⟩ hP1 hP2 hS hl.1 (fun H locs hP1 hP2 hS => ?_)
  refine lv_pop hx hb d_law_1123 rfl ?_
  refine lv_aload_n hx hb d_law_1124 rfl (lv_at hl 2 rfl) ?_
  refine lw_arg C0 hl rfl rfl hS h1 d_law_1125 d_law_1126 d_law_1127 (by decide) d_law_1128 d_law_1129 ?_
  refine lw_call (as := [.int (xs (x3 + 1).toNatClampNeg)]) (rest := []) (CC := 200) (SS := 300000) (q := (.int r2, f2)) (ad := ad2) (ad' := ad1) hx hb hml hown hts hK a7 (fun i j hi hj => (a3 j i hj hi).symm) a5 lwV_146 trivial hM2 rfl (Nat.le_of_ble_eq_true rfl) d_law_1130 ⟨by decide, by decide⟩ hP2 hP1 hS hl.1 (fun H locs hP2 hP1 hS => ?_)
  refine lv_pop hx hb d_law_1133 rfl ?_
  refine lv_goto (tgt := 1374) hx hb d_law_1134 (by decide) ?_
  exact kk H locs ls hP1 hP2 hS hl
set_option maxHeartbeats 4000000 in
/-- case 31: quarrel -/
theorem lw_c31 (C0 : lw_At p s m meth c b L xs) (hK : va_K Dg mj_CL (mj_tys T3) s) (hAd : lw_Ad s ad1 ad2) {x3 : Int32} {g1 g2 : mj_H} {G : mj_H → mj_H → Prop}
    (hp : ∃ (r r2 : Int32) (f1 f2 : mj_H), mj_Cl mj_S1 mj_CD 900 268 (.ref 0 :: []) g1 (.int r, f1) ∧ mj_Cl mj_S2 mj_CD 900 115 (.ref 0 :: []) g2 (.int r2, f2) ∧ G f1 f2)
    (kk : ∀ f1 f2, G f1 f2 → lw_St p l e s m b below meth c Dg T3 ad1 ad2 1374 [(0, .ref b), (1, .ref (ad1 0)), (2, .ref (ad2 0)), (3, .int x3)] [] f1 f2) :
    lw_St p l e s m b below meth c Dg T3 ad1 ad2 1137 [(0, .ref b), (1, .ref (ad1 0)), (2, .ref (ad2 0)), (3, .int x3)] [] g1 g2 := by
  obtain ⟨hx, hb, hr, hml, hown, hts, hX, hbl, hlocks, hgv⟩ := id C0
  obtain ⟨a1, a2, a3, a4, a5, a6, a7⟩ := id hAd
  obtain ⟨r, r2, f1, f2, hc1, hc2, hG⟩ := hp
  have hM1 := mj_sound (l := l) (T3 := T3) (Dg := Dg) a1 (mj_Cs_of mj_Sok1) mj_hM 900 268 _ _ _ hc1
  have hM2 := mj_sound (l := l) (T3 := T3) (Dg := Dg) a2 (mj_Cs_of mj_Sok2) mj_hM 900 115 _ _ _ hc2
  have kk := kk f1 f2 hG
  intro H locs ls hP1 hP2 hS hl
  refine lv_aload_n hx hb d_law_1137 rfl (lv_at hl 1 rfl) ?_
  refine lw_call (as := []) (rest := []) (CC := 200) (SS := 300000) (q := (.int r, f1)) (ad := ad1) (ad' := ad2) hx hb hml hown hts hK a6 a3 a4 lwV_147 trivial hM1 rfl (Nat.le_of_ble_eq_true rfl) d_law_1138 ⟨by decide, by decide⟩ hP1 hP2 hS hl.1 (fun H locs hP1 hP2 hS => ?_)
  refine lv_pop hx hb d_law_1141 rfl ?_
  refine lv_aload_n hx hb d_law_1142 rfl (lv_at hl 2 rfl) ?_
  refine lw_call (as := []) (rest := []) (CC := 200) (SS := 300000) (q := (.int r2, f2)) (ad := ad2) (ad' := ad1) hx hb hml hown hts hK a7 (fun i j hi hj => (a3 j i hj hi).symm) a5 lwV_150 trivial hM2 rfl (Nat.le_of_ble_eq_true rfl) d_law_1143 ⟨by decide, by decide⟩ hP2 hP1 hS hl.1 (fun H locs hP2 hP1 hS => ?_)
  refine lv_pop hx hb d_law_1146 rfl ?_
  refine lv_goto (tgt := 1374) hx hb d_law_1147 (by decide) ?_
  exact kk H locs ls hP1 hP2 hS hl
set_option maxHeartbeats 4000000 in
/-- case 32: stop -/
theorem lw_c32 (C0 : lw_At p s m meth c b L xs) (hK : va_K Dg mj_CL (mj_tys T3) s) (hAd : lw_Ad s ad1 ad2) {x3 : Int32} (h1 : vp_in (x3 + 1) L) {g1 g2 : mj_H} {G : mj_H → mj_H → Prop}
    (hp : ∃ (r r2 : Int32) (f1 f2 : mj_H), mj_Cl mj_S1 mj_CD 900 273 (.ref 0 :: [.int (xs (x3 + 1).toNatClampNeg)]) g1 (.int r, f1) ∧ mj_Cl mj_S2 mj_CD 900 117 (.ref 0 :: [.int (xs (x3 + 1).toNatClampNeg)]) g2 (.int r2, f2) ∧ G f1 f2)
    (kk : ∀ f1 f2, G f1 f2 → lw_St p l e s m b below meth c Dg T3 ad1 ad2 1374 [(0, .ref b), (1, .ref (ad1 0)), (2, .ref (ad2 0)), (3, .int x3)] [] f1 f2) :
    lw_St p l e s m b below meth c Dg T3 ad1 ad2 1150 [(0, .ref b), (1, .ref (ad1 0)), (2, .ref (ad2 0)), (3, .int x3)] [] g1 g2 := by
  obtain ⟨hx, hb, hr, hml, hown, hts, hX, hbl, hlocks, hgv⟩ := id C0
  obtain ⟨a1, a2, a3, a4, a5, a6, a7⟩ := id hAd
  obtain ⟨r, r2, f1, f2, hc1, hc2, hG⟩ := hp
  have hM1 := mj_sound (l := l) (T3 := T3) (Dg := Dg) a1 (mj_Cs_of mj_Sok1) mj_hM 900 273 _ _ _ hc1
  have hM2 := mj_sound (l := l) (T3 := T3) (Dg := Dg) a2 (mj_Cs_of mj_Sok2) mj_hM 900 117 _ _ _ hc2
  have kk := kk f1 f2 hG
  intro H locs ls hP1 hP2 hS hl
  refine lv_aload_n hx hb d_law_1150 rfl (lv_at hl 1 rfl) ?_
  refine lw_arg C0 hl rfl rfl hS h1 d_law_1151 d_law_1152 d_law_1153 (by decide) d_law_1154 d_law_1155 ?_
  refine lw_call (as := [.int (xs (x3 + 1).toNatClampNeg)]) (rest := []) (CC := 200) (SS := 300000) (q := (.int r, f1)) (ad := ad1) (ad' := ad2) hx hb hml hown hts hK a6 a3 a4 lwV_151 trivial hM1 rfl (Nat.le_of_ble_eq_true rfl) d_law_1156 ⟨by decide, by decide⟩ hP1 hP2 hS hl.1 (fun H locs hP1 hP2 hS => ?_)
  refine lv_pop hx hb d_law_1159 rfl ?_
  refine lv_aload_n hx hb d_law_1160 rfl (lv_at hl 2 rfl) ?_
  refine lw_arg C0 hl rfl rfl hS h1 d_law_1161 d_law_1162 d_law_1163 (by decide) d_law_1164 d_law_1165 ?_
  refine lw_call (as := [.int (xs (x3 + 1).toNatClampNeg)]) (rest := []) (CC := 200) (SS := 300000) (q := (.int r2, f2)) (ad := ad2) (ad' := ad1) hx hb hml hown hts hK a7 (fun i j hi hj => (a3 j i hj hi).symm) a5 lwV_154 trivial hM2 rfl (Nat.le_of_ble_eq_true rfl) d_law_1166 ⟨by decide, by decide⟩ hP2 hP1 hS hl.1 (fun H locs hP2 hP1 hS => ?_)
  refine lv_pop hx hb d_law_1169 rfl ?_
  refine lv_goto (tgt := 1374) hx hb d_law_1170 (by decide) ?_
  exact kk H locs ls hP1 hP2 hS hl
set_option maxHeartbeats 4000000 in
/-- case 33: person -/
theorem lw_c33 (C0 : lw_At p s m meth c b L xs) (hK : va_K Dg mj_CL (mj_tys T3) s) (hAd : lw_Ad s ad1 ad2) {x3 : Int32} (h1 : vp_in (x3 + 1) L) (h2 : vp_in (x3 + 2) L) (h3 : vp_in (x3 + 3) L) (h4 : vp_in (x3 + 4) L) (h5 : vp_in (x3 + 5) L) {g1 g2 : mj_H} {G : mj_H → mj_H → Prop}
    (hp : ∃ (r r2 : Int32) (f1 f2 : mj_H), mj_Cl mj_S1 mj_CD 900 274 (.ref 0 :: [.int (xs (x3 + 1).toNatClampNeg), .int (xs (x3 + 2).toNatClampNeg), .int (xs (x3 + 3).toNatClampNeg), .int (xs (x3 + 4).toNatClampNeg), .int (xs (x3 + 5).toNatClampNeg)]) g1 (.int r, f1) ∧ mj_Cl mj_S2 mj_CD 900 118 (.ref 0 :: [.int (xs (x3 + 1).toNatClampNeg), .int (xs (x3 + 2).toNatClampNeg), .int (xs (x3 + 3).toNatClampNeg), .int (xs (x3 + 4).toNatClampNeg), .int (xs (x3 + 5).toNatClampNeg)]) g2 (.int r2, f2) ∧ G f1 f2)
    (kk : ∀ f1 f2, G f1 f2 → lw_St p l e s m b below meth c Dg T3 ad1 ad2 1374 [(0, .ref b), (1, .ref (ad1 0)), (2, .ref (ad2 0)), (3, .int x3)] [] f1 f2) :
    lw_St p l e s m b below meth c Dg T3 ad1 ad2 1173 [(0, .ref b), (1, .ref (ad1 0)), (2, .ref (ad2 0)), (3, .int x3)] [] g1 g2 := by
  obtain ⟨hx, hb, hr, hml, hown, hts, hX, hbl, hlocks, hgv⟩ := id C0
  obtain ⟨a1, a2, a3, a4, a5, a6, a7⟩ := id hAd
  obtain ⟨r, r2, f1, f2, hc1, hc2, hG⟩ := hp
  have hM1 := mj_sound (l := l) (T3 := T3) (Dg := Dg) a1 (mj_Cs_of mj_Sok1) mj_hM 900 274 _ _ _ hc1
  have hM2 := mj_sound (l := l) (T3 := T3) (Dg := Dg) a2 (mj_Cs_of mj_Sok2) mj_hM 900 118 _ _ _ hc2
  have kk := kk f1 f2 hG
  intro H locs ls hP1 hP2 hS hl
  refine lv_aload_n hx hb d_law_1173 rfl (lv_at hl 1 rfl) ?_
  refine lw_arg C0 hl rfl rfl hS h1 d_law_1174 d_law_1175 d_law_1176 (by decide) d_law_1177 d_law_1178 ?_
  refine lw_arg C0 hl rfl rfl hS h2 d_law_1179 d_law_1180 d_law_1181 (by decide) d_law_1182 d_law_1183 ?_
  refine lw_arg C0 hl rfl rfl hS h3 d_law_1184 d_law_1185 d_law_1186 (by decide) d_law_1187 d_law_1188 ?_
  refine lw_arg C0 hl rfl rfl hS h4 d_law_1189 d_law_1190 d_law_1191 (by decide) d_law_1192 d_law_1193 ?_
  refine lw_arg C0 hl rfl rfl hS h5 d_law_1194 d_law_1195 d_law_1196 (by decide) d_law_1197 d_law_1198 ?_
  refine lw_call (as := [.int (xs (x3 + 1).toNatClampNeg), .int (xs (x3 + 2).toNatClampNeg), .int (xs (x3 + 3).toNatClampNeg), .int (xs (x3 + 4).toNatClampNeg), .int (xs (x3 + 5).toNatClampNeg)]) (rest := []) (CC := 200) (SS := 300000) (q := (.int r, f1)) (ad := ad1) (ad' := ad2) hx hb hml hown hts hK a6 a3 a4 lwV_155 trivial hM1 rfl (Nat.le_of_ble_eq_true rfl) d_law_1199 ⟨by decide, by decide⟩ hP1 hP2 hS hl.1 (fun H locs hP1 hP2 hS => ?_)
  refine lv_pop hx hb d_law_1202 rfl ?_
  refine lv_aload_n hx hb d_law_1203 rfl (lv_at hl 2 rfl) ?_
  refine lw_arg C0 hl rfl rfl hS h1 d_law_1204 d_law_1205 d_law_1206 (by decide) d_law_1207 d_law_1208 ?_
  refine lw_arg C0 hl rfl rfl hS h2 d_law_1209 d_law_1210 d_law_1211 (by decide) d_law_1212 d_law_1213 ?_
  refine lw_arg C0 hl rfl rfl hS h3 d_law_1214 d_law_1215 d_law_1216 (by decide) d_law_1217 d_law_1218 ?_
  refine lw_arg C0 hl rfl rfl hS h4 d_law_1219 d_law_1220 d_law_1221 (by decide) d_law_1222 d_law_1223 ?_
  refine lw_arg C0 hl rfl rfl hS h5 d_law_1224 d_law_1225 d_law_1226 (by decide) d_law_1227 d_law_1228 ?_
  refine lw_call (as := [.int (xs (x3 + 1).toNatClampNeg), .int (xs (x3 + 2).toNatClampNeg), .int (xs (x3 + 3).toNatClampNeg), .int (xs (x3 + 4).toNatClampNeg), .int (xs (x3 + 5).toNatClampNeg)]) (rest := []) (CC := 200) (SS := 300000) (q := (.int r2, f2)) (ad := ad2) (ad' := ad1) hx hb hml hown hts hK a7 (fun i j hi hj => (a3 j i hj hi).symm) a5 lwV_159 trivial hM2 rfl (Nat.le_of_ble_eq_true rfl) d_law_1229 ⟨by decide, by decide⟩ hP2 hP1 hS hl.1 (fun H locs hP2 hP1 hS => ?_)
  refine lv_pop hx hb d_law_1232 rfl ?_
  refine lv_goto (tgt := 1374) hx hb d_law_1233 (by decide) ?_
  exact kk H locs ls hP1 hP2 hS hl
set_option maxHeartbeats 4000000 in
/-- case 34: bar -/
theorem lw_c34 (C0 : lw_At p s m meth c b L xs) (hK : va_K Dg mj_CL (mj_tys T3) s) (hAd : lw_Ad s ad1 ad2) {x3 : Int32} (h1 : vp_in (x3 + 1) L) (h2 : vp_in (x3 + 2) L) (h3 : vp_in (x3 + 3) L) {g1 g2 : mj_H} {G : mj_H → mj_H → Prop}
    (hp : ∃ (r r2 : Int32) (f1 f2 : mj_H), mj_Cl mj_S1 mj_CD 900 277 (.ref 0 :: [.int (xs (x3 + 1).toNatClampNeg), .int (xs (x3 + 2).toNatClampNeg), .int (if (xs (x3 + 3).toNatClampNeg) = 0 then 0 else 1)]) g1 (.int r, f1) ∧ mj_Cl mj_S2 mj_CD 900 120 (.ref 0 :: [.int (xs (x3 + 1).toNatClampNeg), .int (xs (x3 + 2).toNatClampNeg), .int (if (xs (x3 + 3).toNatClampNeg) = 0 then 0 else 1)]) g2 (.int r2, f2) ∧ G f1 f2)
    (kk : ∀ f1 f2, G f1 f2 → lw_St p l e s m b below meth c Dg T3 ad1 ad2 1374 [(0, .ref b), (1, .ref (ad1 0)), (2, .ref (ad2 0)), (3, .int x3)] [] f1 f2) :
    lw_St p l e s m b below meth c Dg T3 ad1 ad2 1236 [(0, .ref b), (1, .ref (ad1 0)), (2, .ref (ad2 0)), (3, .int x3)] [] g1 g2 := by
  obtain ⟨hx, hb, hr, hml, hown, hts, hX, hbl, hlocks, hgv⟩ := id C0
  obtain ⟨a1, a2, a3, a4, a5, a6, a7⟩ := id hAd
  obtain ⟨r, r2, f1, f2, hc1, hc2, hG⟩ := hp
  have hM1 := mj_sound (l := l) (T3 := T3) (Dg := Dg) a1 (mj_Cs_of mj_Sok1) mj_hM 900 277 _ _ _ hc1
  have hM2 := mj_sound (l := l) (T3 := T3) (Dg := Dg) a2 (mj_Cs_of mj_Sok2) mj_hM 900 120 _ _ _ hc2
  have kk := kk f1 f2 hG
  intro H locs ls hP1 hP2 hS hl
  by_cases e3 : (xs (x3 + 3).toNatClampNeg) = 0
  · simp only [e3, if_true] at hM1 hM2
    refine lv_aload_n hx hb d_law_1236 rfl (lv_at hl 1 rfl) ?_
    refine lw_arg C0 hl rfl rfl hS h1 d_law_1237 d_law_1238 d_law_1239 (by decide) d_law_1240 d_law_1241 ?_
    refine lw_arg C0 hl rfl rfl hS h2 d_law_1242 d_law_1243 d_law_1244 (by decide) d_law_1245 d_law_1246 ?_
    refine lw_arg C0 hl rfl rfl hS h3 d_law_1247 d_law_1248 d_law_1249 (by decide) d_law_1250 d_law_1251 ?_
    refine lv_if_eq (tgt := 1259) hx hb d_law_1252 (by decide) (fun _ => ?_) (fun q => absurd e3 q)
    refine lv_iconst (v := 0) hx hb d_law_1259 (by decide) ?_
    refine lw_call (as := [.int (xs (x3 + 1).toNatClampNeg), .int (xs (x3 + 2).toNatClampNeg), .int 0]) (rest := []) (CC := 200) (SS := 300000) (q := (.int r, f1)) (ad := ad1) (ad' := ad2) hx hb hml hown hts hK a6 a3 a4 lwV_160 trivial hM1 rfl (Nat.le_of_ble_eq_true rfl) d_law_1260 ⟨by decide, by decide⟩ hP1 hP2 hS hl.1 (fun H locs hP1 hP2 hS => ?_)
    refine lv_pop hx hb d_law_1263 rfl ?_
    refine lv_aload_n hx hb d_law_1264 rfl (lv_at hl 2 rfl) ?_
    refine lw_arg C0 hl rfl rfl hS h1 d_law_1265 d_law_1266 d_law_1267 (by decide) d_law_1268 d_law_1269 ?_
    refine lw_arg C0 hl rfl rfl hS h2 d_law_1270 d_law_1271 d_law_1272 (by decide) d_law_1273 d_law_1274 ?_
    refine lw_arg C0 hl rfl rfl hS h3 d_law_1275 d_law_1276 d_law_1277 (by decide) d_law_1278 d_law_1279 ?_
    refine lv_if_eq (tgt := 1287) hx hb d_law_1280 (by decide) (fun _ => ?_) (fun q => absurd e3 q)
    refine lv_iconst (v := 0) hx hb d_law_1287 (by decide) ?_
    refine lw_call (as := [.int (xs (x3 + 1).toNatClampNeg), .int (xs (x3 + 2).toNatClampNeg), .int 0]) (rest := []) (CC := 200) (SS := 300000) (q := (.int r2, f2)) (ad := ad2) (ad' := ad1) hx hb hml hown hts hK a7 (fun i j hi hj => (a3 j i hj hi).symm) a5 lwV_164 trivial hM2 rfl (Nat.le_of_ble_eq_true rfl) d_law_1288 ⟨by decide, by decide⟩ hP2 hP1 hS hl.1 (fun H locs hP2 hP1 hS => ?_)
    refine lv_pop hx hb d_law_1291 rfl ?_
    refine lv_goto (tgt := 1374) hx hb d_law_1292 (by decide) ?_
    exact kk H locs ls hP1 hP2 hS hl
  · simp only [e3, if_false] at hM1 hM2
    refine lv_aload_n hx hb d_law_1236 rfl (lv_at hl 1 rfl) ?_
    refine lw_arg C0 hl rfl rfl hS h1 d_law_1237 d_law_1238 d_law_1239 (by decide) d_law_1240 d_law_1241 ?_
    refine lw_arg C0 hl rfl rfl hS h2 d_law_1242 d_law_1243 d_law_1244 (by decide) d_law_1245 d_law_1246 ?_
    refine lw_arg C0 hl rfl rfl hS h3 d_law_1247 d_law_1248 d_law_1249 (by decide) d_law_1250 d_law_1251 ?_
    refine lv_if_eq (tgt := 1259) hx hb d_law_1252 (by decide) (fun q => absurd q e3) (fun _ => ?_)
    refine lv_iconst (v := 1) hx hb d_law_1255 (by decide) ?_
    refine lv_goto (tgt := 1260) hx hb d_law_1256 (by decide) ?_
    refine lw_call (as := [.int (xs (x3 + 1).toNatClampNeg), .int (xs (x3 + 2).toNatClampNeg), .int 1]) (rest := []) (CC := 200) (SS := 300000) (q := (.int r, f1)) (ad := ad1) (ad' := ad2) hx hb hml hown hts hK a6 a3 a4 lwV_160 trivial hM1 rfl (Nat.le_of_ble_eq_true rfl) d_law_1260 ⟨by decide, by decide⟩ hP1 hP2 hS hl.1 (fun H locs hP1 hP2 hS => ?_)
    refine lv_pop hx hb d_law_1263 rfl ?_
    refine lv_aload_n hx hb d_law_1264 rfl (lv_at hl 2 rfl) ?_
    refine lw_arg C0 hl rfl rfl hS h1 d_law_1265 d_law_1266 d_law_1267 (by decide) d_law_1268 d_law_1269 ?_
    refine lw_arg C0 hl rfl rfl hS h2 d_law_1270 d_law_1271 d_law_1272 (by decide) d_law_1273 d_law_1274 ?_
    refine lw_arg C0 hl rfl rfl hS h3 d_law_1275 d_law_1276 d_law_1277 (by decide) d_law_1278 d_law_1279 ?_
    refine lv_if_eq (tgt := 1287) hx hb d_law_1280 (by decide) (fun q => absurd q e3) (fun _ => ?_)
    refine lv_iconst (v := 1) hx hb d_law_1283 (by decide) ?_
    refine lv_goto (tgt := 1288) hx hb d_law_1284 (by decide) ?_
    refine lw_call (as := [.int (xs (x3 + 1).toNatClampNeg), .int (xs (x3 + 2).toNatClampNeg), .int 1]) (rest := []) (CC := 200) (SS := 300000) (q := (.int r2, f2)) (ad := ad2) (ad' := ad1) hx hb hml hown hts hK a7 (fun i j hi hj => (a3 j i hj hi).symm) a5 lwV_164 trivial hM2 rfl (Nat.le_of_ble_eq_true rfl) d_law_1288 ⟨by decide, by decide⟩ hP2 hP1 hS hl.1 (fun H locs hP2 hP1 hS => ?_)
    refine lv_pop hx hb d_law_1291 rfl ?_
    refine lv_goto (tgt := 1374) hx hb d_law_1292 (by decide) ?_
    exact kk H locs ls hP1 hP2 hS hl
set_option maxHeartbeats 4000000 in
/-- case 35: choose -/
theorem lw_c35 (C0 : lw_At p s m meth c b L xs) (hK : va_K Dg mj_CL (mj_tys T3) s) (hAd : lw_Ad s ad1 ad2) {x3 : Int32} (h1 : vp_in (x3 + 1) L) {g1 g2 : mj_H} {G : mj_H → mj_H → Prop}
    (hp : ∃ (r r2 : Int32) (f1 f2 : mj_H), mj_Cl mj_S1 mj_CD 900 278 (.ref 0 :: [.int (xs (x3 + 1).toNatClampNeg)]) g1 (.int r, f1) ∧ mj_Cl mj_S2 mj_CD 900 121 (.ref 0 :: [.int (xs (x3 + 1).toNatClampNeg)]) g2 (.int r2, f2) ∧ G f1 f2)
    (kk : ∀ f1 f2, G f1 f2 → lw_St p l e s m b below meth c Dg T3 ad1 ad2 1374 [(0, .ref b), (1, .ref (ad1 0)), (2, .ref (ad2 0)), (3, .int x3)] [] f1 f2) :
    lw_St p l e s m b below meth c Dg T3 ad1 ad2 1295 [(0, .ref b), (1, .ref (ad1 0)), (2, .ref (ad2 0)), (3, .int x3)] [] g1 g2 := by
  obtain ⟨hx, hb, hr, hml, hown, hts, hX, hbl, hlocks, hgv⟩ := id C0
  obtain ⟨a1, a2, a3, a4, a5, a6, a7⟩ := id hAd
  obtain ⟨r, r2, f1, f2, hc1, hc2, hG⟩ := hp
  have hM1 := mj_sound (l := l) (T3 := T3) (Dg := Dg) a1 (mj_Cs_of mj_Sok1) mj_hM 900 278 _ _ _ hc1
  have hM2 := mj_sound (l := l) (T3 := T3) (Dg := Dg) a2 (mj_Cs_of mj_Sok2) mj_hM 900 121 _ _ _ hc2
  have kk := kk f1 f2 hG
  intro H locs ls hP1 hP2 hS hl
  refine lv_aload_n hx hb d_law_1295 rfl (lv_at hl 1 rfl) ?_
  refine lw_arg C0 hl rfl rfl hS h1 d_law_1296 d_law_1297 d_law_1298 (by decide) d_law_1299 d_law_1300 ?_
  refine lw_call (as := [.int (xs (x3 + 1).toNatClampNeg)]) (rest := []) (CC := 200) (SS := 300000) (q := (.int r, f1)) (ad := ad1) (ad' := ad2) hx hb hml hown hts hK a6 a3 a4 lwV_165 trivial hM1 rfl (Nat.le_of_ble_eq_true rfl) d_law_1301 ⟨by decide, by decide⟩ hP1 hP2 hS hl.1 (fun H locs hP1 hP2 hS => ?_)
  refine lv_pop hx hb d_law_1304 rfl ?_
  refine lv_aload_n hx hb d_law_1305 rfl (lv_at hl 2 rfl) ?_
  refine lw_arg C0 hl rfl rfl hS h1 d_law_1306 d_law_1307 d_law_1308 (by decide) d_law_1309 d_law_1310 ?_
  refine lw_call (as := [.int (xs (x3 + 1).toNatClampNeg)]) (rest := []) (CC := 200) (SS := 300000) (q := (.int r2, f2)) (ad := ad2) (ad' := ad1) hx hb hml hown hts hK a7 (fun i j hi hj => (a3 j i hj hi).symm) a5 lwV_168 trivial hM2 rfl (Nat.le_of_ble_eq_true rfl) d_law_1311 ⟨by decide, by decide⟩ hP2 hP1 hS hl.1 (fun H locs hP2 hP1 hS => ?_)
  refine lv_pop hx hb d_law_1314 rfl ?_
  refine lv_goto (tgt := 1374) hx hb d_law_1315 (by decide) ?_
  exact kk H locs ls hP1 hP2 hS hl
set_option maxHeartbeats 4000000 in
/-- case 36: breaks -/
theorem lw_c36 (C0 : lw_At p s m meth c b L xs) (hK : va_K Dg mj_CL (mj_tys T3) s) (hAd : lw_Ad s ad1 ad2) {x3 : Int32} (h1 : vp_in (x3 + 1) L) {g1 g2 : mj_H} {G : mj_H → mj_H → Prop}
    (hp : ∃ (r r2 : Int32) (f1 f2 : mj_H), mj_Cl mj_S1 mj_CD 900 287 (.ref 0 :: [.int (xs (x3 + 1).toNatClampNeg)]) g1 (.int r, f1) ∧ mj_Cl mj_S2 mj_CD 900 131 (.ref 0 :: [.int (xs (x3 + 1).toNatClampNeg)]) g2 (.int r2, f2) ∧ G f1 f2)
    (kk : ∀ f1 f2, G f1 f2 → lw_St p l e s m b below meth c Dg T3 ad1 ad2 1374 [(0, .ref b), (1, .ref (ad1 0)), (2, .ref (ad2 0)), (3, .int x3)] [] f1 f2) :
    lw_St p l e s m b below meth c Dg T3 ad1 ad2 1318 [(0, .ref b), (1, .ref (ad1 0)), (2, .ref (ad2 0)), (3, .int x3)] [] g1 g2 := by
  obtain ⟨hx, hb, hr, hml, hown, hts, hX, hbl, hlocks, hgv⟩ := id C0
  obtain ⟨a1, a2, a3, a4, a5, a6, a7⟩ := id hAd
  obtain ⟨r, r2, f1, f2, hc1, hc2, hG⟩ := hp
  have hM1 := mj_sound (l := l) (T3 := T3) (Dg := Dg) a1 (mj_Cs_of mj_Sok1) mj_hM 900 287 _ _ _ hc1
  have hM2 := mj_sound (l := l) (T3 := T3) (Dg := Dg) a2 (mj_Cs_of mj_Sok2) mj_hM 900 131 _ _ _ hc2
  have kk := kk f1 f2 hG
  intro H locs ls hP1 hP2 hS hl
  refine lv_aload_n hx hb d_law_1318 rfl (lv_at hl 1 rfl) ?_
  refine lw_arg C0 hl rfl rfl hS h1 d_law_1319 d_law_1320 d_law_1321 (by decide) d_law_1322 d_law_1323 ?_
  refine lw_call (as := [.int (xs (x3 + 1).toNatClampNeg)]) (rest := []) (CC := 200) (SS := 300000) (q := (.int r, f1)) (ad := ad1) (ad' := ad2) hx hb hml hown hts hK a6 a3 a4 lwV_169 trivial hM1 rfl (Nat.le_of_ble_eq_true rfl) d_law_1324 ⟨by decide, by decide⟩ hP1 hP2 hS hl.1 (fun H locs hP1 hP2 hS => ?_)
  refine lv_pop hx hb d_law_1327 rfl ?_
  refine lv_aload_n hx hb d_law_1328 rfl (lv_at hl 2 rfl) ?_
  refine lw_arg C0 hl rfl rfl hS h1 d_law_1329 d_law_1330 d_law_1331 (by decide) d_law_1332 d_law_1333 ?_
  refine lw_call (as := [.int (xs (x3 + 1).toNatClampNeg)]) (rest := []) (CC := 200) (SS := 300000) (q := (.int r2, f2)) (ad := ad2) (ad' := ad1) hx hb hml hown hts hK a7 (fun i j hi hj => (a3 j i hj hi).symm) a5 lwV_172 trivial hM2 rfl (Nat.le_of_ble_eq_true rfl) d_law_1334 ⟨by decide, by decide⟩ hP2 hP1 hS hl.1 (fun H locs hP2 hP1 hS => ?_)
  refine lv_pop hx hb d_law_1337 rfl ?_
  refine lv_goto (tgt := 1374) hx hb d_law_1338 (by decide) ?_
  exact kk H locs ls hP1 hP2 hS hl
set_option maxHeartbeats 4000000 in
/-- case 37: place -/
theorem lw_c37 (C0 : lw_At p s m meth c b L xs) (hK : va_K Dg mj_CL (mj_tys T3) s) (hAd : lw_Ad s ad1 ad2) {x3 : Int32} (h1 : vp_in (x3 + 1) L) (h2 : vp_in (x3 + 2) L) {g1 g2 : mj_H} {G : mj_H → mj_H → Prop}
    (hp : ∃ (r : Int32) (f1 f2 : mj_H), mj_Cl mj_S1 mj_CD 900 291 (.ref 0 :: [.int (xs (x3 + 1).toNatClampNeg), .int (xs (x3 + 2).toNatClampNeg)]) g1 (.int r, f1) ∧ mj_Cl mj_S2 mj_CD 900 132 (.ref 0 :: [.int (xs (x3 + 1).toNatClampNeg), .int (xs (x3 + 2).toNatClampNeg)]) g2 (.int r, f2) ∧ G f1 f2)
    (kk : ∀ f1 f2, G f1 f2 → lw_St p l e s m b below meth c Dg T3 ad1 ad2 1374 [(0, .ref b), (1, .ref (ad1 0)), (2, .ref (ad2 0)), (3, .int x3)] [] f1 f2) :
    lw_St p l e s m b below meth c Dg T3 ad1 ad2 1341 [(0, .ref b), (1, .ref (ad1 0)), (2, .ref (ad2 0)), (3, .int x3)] [] g1 g2 := by
  obtain ⟨hx, hb, hr, hml, hown, hts, hX, hbl, hlocks, hgv⟩ := id C0
  obtain ⟨a1, a2, a3, a4, a5, a6, a7⟩ := id hAd
  obtain ⟨r, f1, f2, hc1, hc2, hG⟩ := hp
  have hM1 := mj_sound (l := l) (T3 := T3) (Dg := Dg) a1 (mj_Cs_of mj_Sok1) mj_hM 900 291 _ _ _ hc1
  have hM2 := mj_sound (l := l) (T3 := T3) (Dg := Dg) a2 (mj_Cs_of mj_Sok2) mj_hM 900 132 _ _ _ hc2
  have kk := kk f1 f2 hG
  intro H locs ls hP1 hP2 hS hl
  refine lv_aload_n hx hb d_law_1341 rfl (lv_at hl 1 rfl) ?_
  refine lw_arg C0 hl rfl rfl hS h1 d_law_1342 d_law_1343 d_law_1344 (by decide) d_law_1345 d_law_1346 ?_
  refine lw_arg C0 hl rfl rfl hS h2 d_law_1347 d_law_1348 d_law_1349 (by decide) d_law_1350 d_law_1351 ?_
  refine lw_call (as := [.int (xs (x3 + 1).toNatClampNeg), .int (xs (x3 + 2).toNatClampNeg)]) (rest := []) (CC := 200) (SS := 300000) (q := (.int r, f1)) (ad := ad1) (ad' := ad2) hx hb hml hown hts hK a6 a3 a4 lwV_173 trivial hM1 rfl (Nat.le_of_ble_eq_true rfl) d_law_1352 ⟨by decide, by decide⟩ hP1 hP2 hS hl.1 (fun H locs hP1 hP2 hS => ?_)
  refine lv_aload_n hx hb d_law_1355 rfl (lv_at hl 2 rfl) ?_
  refine lw_arg C0 hl rfl rfl hS h1 d_law_1356 d_law_1357 d_law_1358 (by decide) d_law_1359 d_law_1360 ?_
  refine lw_arg C0 hl rfl rfl hS h2 d_law_1361 d_law_1362 d_law_1363 (by decide) d_law_1364 d_law_1365 ?_
  refine lw_call (as := [.int (xs (x3 + 1).toNatClampNeg), .int (xs (x3 + 2).toNatClampNeg)]) (rest := [.int r]) (CC := 200) (SS := 300000) (q := (.int r, f2)) (ad := ad2) (ad' := ad1) hx hb hml hown hts hK a7 (fun i j hi hj => (a3 j i hj hi).symm) a5 lwV_176 trivial hM2 rfl (Nat.le_of_ble_eq_true rfl) d_law_1366 ⟨by decide, by decide⟩ hP2 hP1 hS hl.1 (fun H locs hP2 hP1 hS => ?_)
  refine lv_icmp_eq (tgt := 1374) hx hb d_law_1369 (by decide) (fun _ => ?_) (fun q => absurd rfl q)
  exact kk H locs ls hP1 hP2 hS hl
end LWC
end
section
/-! the law's loop -/
def lw_PI (z1 z2 : Nat) (as : List Value) (g1 g2 : mj_H) (G : mj_H → mj_H → Prop) : Prop := ∃ (r : Int32) (f1 f2 : mj_H), mj_Cl mj_S1 mj_CD 900 z1 (.ref 0 :: as) g1 (.int r, f1) ∧ mj_Cl mj_S2 mj_CD 900 z2 (.ref 0 :: as) g2 (.int r, f2) ∧ G f1 f2
def lw_PJ (z1 z2 : Nat) (as : List Value) (g1 g2 : mj_H) (G : mj_H → mj_H → Prop) : Prop := ∃ (r : Int64) (f1 f2 : mj_H), mj_Cl mj_S1 mj_CD 900 z1 (.ref 0 :: as) g1 (.long r, f1) ∧ mj_Cl mj_S2 mj_CD 900 z2 (.ref 0 :: as) g2 (.long r, f2) ∧ G f1 f2
def lw_QI (z1 z2 : Nat) (as : List Value) (g1 g2 : mj_H) (G : mj_H → mj_H → Prop) : Prop := ∃ (r r2 : Int32) (f1 f2 : mj_H), mj_Cl mj_S1 mj_CD 900 z1 (.ref 0 :: as) g1 (.int r, f1) ∧ mj_Cl mj_S2 mj_CD 900 z2 (.ref 0 :: as) g2 (.int r2, f2) ∧ G f1 f2
theorem lw_two {α : Type} {P : α → α → mj_H → mj_H → Prop} (h : ∃ (r : α) (f1 f2 : mj_H), P r r f1 f2) : ∃ (r r2 : α) (f1 f2 : mj_H), P r r2 f1 f2 := by
  obtain ⟨r, f1, f2, h⟩ := h
  exact ⟨r, r, f1, f2, h⟩
/-- every call answers alike, and leaves what G says -/
def lw_All (g1 g2 : mj_H) (G : mj_H → mj_H → Prop) : Prop :=
  (∀ a1 a2 a3 a4 a5 : Int32, lw_PI 133 9 [.int a1, .int a2, .int a3, .int a4, .int a5] g1 g2 G) ∧
  (∀ a1 : Int32, lw_PI 135 11 [.int a1] g1 g2 G) ∧
  (lw_PI 136 12 [] g1 g2 G) ∧
  (∀ a1 : Int32, lw_PI 189 45 [.int a1] g1 g2 G) ∧
  (∀ a1 : Int32, lw_PI 190 46 [.int a1] g1 g2 G) ∧
  (∀ a1 a2 a3 : Int32, lw_PI 191 47 [.int a1, .int a2, .int a3] g1 g2 G) ∧
  (∀ a1 a2 a3 : Int32, lw_PI 194 52 [.int a1, .int a2, .int (if a3 = 0 then 0 else 1)] g1 g2 G) ∧
  (∀ a1 a2 : Int32, lw_PI 195 54 [.int a1, .int a2] g1 g2 G) ∧
  (∀ a1 : Int32, lw_PI 197 61 [.int a1] g1 g2 G) ∧
  (∀ a1 a2 a3 : Int32, lw_PI 198 62 [.int a1, .int a2, .int a3] g1 g2 G) ∧
  (∀ a1 : Int32, lw_PJ 199 64 [.int (if a1 = 0 then 0 else 1)] g1 g2 G) ∧
  (lw_PJ 200 59 [] g1 g2 G) ∧
  (∀ a1 : Int32, lw_PJ 201 69 [.int (if a1 = 0 then 0 else 1)] g1 g2 G) ∧
  (∀ a1 a2 : Int32, lw_PI 202 65 [.int a1, .int a2] g1 g2 G) ∧
  (∀ a1 a2 a3 : Int32, lw_PI 203 70 [.int a1, .int a2, .int a3] g1 g2 G) ∧
  (∀ a1 a2 : Int32, lw_PI 230 84 [.int a1, .int a2] g1 g2 G) ∧
  (∀ a1 : Int32, lw_QI 232 86 [.int a1] g1 g2 G) ∧
  (∀ a1 a2 : Int32, lw_QI 234 87 [.int a1, .int a2] g1 g2 G) ∧
  (∀ a1 : Int32, lw_PI 236 88 [.int a1] g1 g2 G) ∧
  (∀ a1 : Int32, lw_PI 237 89 [.int a1] g1 g2 G) ∧
  (∀ a1 a2 : Int32, lw_PI 240 94 [.int a1, .int a2] g1 g2 G) ∧
  (∀ a1 : Int32, lw_PI 241 95 [.int a1] g1 g2 G) ∧
  (∀ a1 : Int32, lw_PI 249 100 [.int a1] g1 g2 G) ∧
  (∀ a1 : Int32, lw_PI 251 101 [.int a1] g1 g2 G) ∧
  (∀ a1 a2 a3 a4 : Int32, lw_PI 252 102 [.int a1, .int a2, .int a3, .int (if a4 = 0 then 0 else 1)] g1 g2 G) ∧
  (∀ a1 : Int32, lw_PI 254 104 [.int a1] g1 g2 G) ∧
  (∀ a1 a2 : Int32, lw_PI 256 105 [.int a1, .int a2] g1 g2 G) ∧
  (lw_PI 258 106 [] g1 g2 G) ∧
  (lw_PI 259 107 [] g1 g2 G) ∧
  (lw_PJ 262 111 [] g1 g2 G) ∧
  (∀ a1 : Int32, lw_PI 264 113 [.int a1] g1 g2 G) ∧
  (lw_PI 268 115 [] g1 g2 G) ∧
  (∀ a1 : Int32, lw_PI 273 117 [.int a1] g1 g2 G) ∧
  (∀ a1 a2 a3 a4 a5 : Int32, lw_PI 274 118 [.int a1, .int a2, .int a3, .int a4, .int a5] g1 g2 G) ∧
  (∀ a1 a2 a3 : Int32, lw_PI 277 120 [.int a1, .int a2, .int (if a3 = 0 then 0 else 1)] g1 g2 G) ∧
  (∀ a1 : Int32, lw_PI 278 121 [.int a1] g1 g2 G) ∧
  (∀ a1 : Int32, lw_PI 287 131 [.int a1] g1 g2 G) ∧
  (∀ a1 a2 : Int32, lw_PI 291 132 [.int a1, .int a2] g1 g2 G)
theorem lw_in {n j L : Nat} {x3 : Int32} (hx : x3 = nI (6 * n)) (h : 6 * n + 6 ≤ L) (hL : L ≤ 3072) (hj : j < 6) : vp_in (x3 + nI j) L := by
  rw [hx, nI_add]
  exact vp_in_nI (by omega) (by omega)
section LWL
variable {p : Program} {l : Launch} {e : Env} {s : State} {m : MethodId} {below : List Frame} {meth : Method} {c : Code} {b L : Nat} {xs : Nat → Int32}
variable {Dg : va_G} {T3 : Nat × Nat × Nat}
set_option maxHeartbeats 8000000 in
theorem lw_switch (C0 : lw_At p s m meth c b L xs) (hK : va_K Dg mj_CL (mj_tys T3) s) {ad1 ad2 : Nat → Nat} (hAd : lw_Ad s ad1 ad2) {x3 : Int32} (h0 : vp_in x3 L) (h1 : vp_in (x3 + 1) L) (h2 : vp_in (x3 + 2) L) (h3 : vp_in (x3 + 3) L) (h4 : vp_in (x3 + 4) L) (h5 : vp_in (x3 + 5) L) {g1 g2 : mj_H} {G : mj_H → mj_H → Prop} (hG0 : G g1 g2)
    (hp : lw_All g1 g2 G)
    (kk : ∀ f1 f2, G f1 f2 → lw_St p l e s m b below meth c Dg T3 ad1 ad2 1374 [(0, .ref b), (1, .ref (ad1 0)), (2, .ref (ad2 0)), (3, .int x3)] [] f1 f2) :
    lw_St p l e s m b below meth c Dg T3 ad1 ad2 27 [(0, .ref b), (1, .ref (ad1 0)), (2, .ref (ad2 0)), (3, .int x3)] [] g1 g2 := by
  obtain ⟨hx, hb, hr, hml, hown, hts, hX, hbl, hlocks, hgv⟩ := id C0
  have hbA : ¬ (fun q : Nat => s.heap.size ≤ q) b := Nat.not_le.mpr hbl
  intro H locs ls hP1 hP2 hS hl
  refine lv_aload_n hx hb d_law_27 rfl (lv_at hl 0 rfl) ?_
  refine lv_iload_n hx hb d_law_28 rfl (lv_at hl 3 rfl) ?_
  refine va_sld hx hb hX hbl hbA hS h0 d_law_29 ?_
  refine lv_bipush (v := 63) hx hb d_law_30 (by decide) ?_
  refine lv_iand hx hb d_law_32 ?_
  obtain ⟨j, hj, ej⟩ := pk_andE (xs x3.toNatClampNeg) (m := 63) 6 (by decide)
  rw [ej]
  have hjt : (nI j).toInt = (j : Int) := nI_toInt (by omega)
  by_cases hj38 : 38 ≤ j
  · refine lv_tableOut (tgt := 1374) hx hb d_law_33 (Or.inr (by rw [hjt]; omega)) (by decide) ?_
    exact kk g1 g2 hG0 H locs ls hP1 hP2 hS hl
  have hin : ∀ (off : Int) (tgt : Nat), (#[167, 230, 253, 266, 289, 312, 355, 414, 447, 470, 513, 552, 565, 604, 637, 680, 713, 736, 769, 792, 815, 848, 871, 894, 917, 986, 1009, 1042, 1055, 1068, 1081, 1104, 1117, 1140, 1203, 1262, 1285, 1308] : Array Int)[((nI j).toInt - 0).toNat]? = some off → (33 : Int) + off = (tgt : Int) → lw_St p l e s m b below meth c Dg T3 ad1 ad2 tgt [(0, .ref b), (1, .ref (ad1 0)), (2, .ref (ad2 0)), (3, .int x3)] [] g1 g2 → W p l e room_1 s m #[Value.ref b] below meth c H locs 200 300000 (lw_Z below #[Value.ref b] s) (F0 m 33 ls [.int (nI j)]) := by
    intro off tgt ho ht hs
    exact lv_tableIn hx hb d_law_33 (by rw [hjt]; omega) (by rw [hjt]; omega) ho ht (hs H locs ls hP1 hP2 hS hl)
  rw [hjt] at hin
  obtain ⟨p0, p1, p2, p3, p4, p5, p6, p7, p8, p9, p10, p11, p12, p13, p14, p15, p16, p17, p18, p19, p20, p21, p22, p23, p24, p25, p26, p27, p28, p29, p30, p31, p32, p33, p34, p35, p36, p37⟩ := hp
  match j, hj38, hin with
  | 0, _, hin => exact hin 167 200 rfl (by decide) (lw_c0 C0 hK hAd h1 h2 h3 h4 h5 (lw_two (p0 _ _ _ _ _)) kk)
  | 1, _, hin => exact hin 230 263 rfl (by decide) (lw_c1 C0 hK hAd h1 (lw_two (p1 _)) kk)
  | 2, _, hin => exact hin 253 286 rfl (by decide) (lw_c2 C0 hK hAd  (lw_two (p2 )) kk)
  | 3, _, hin => exact hin 266 299 rfl (by decide) (lw_c3 C0 hK hAd h1 (lw_two (p3 _)) kk)
  | 4, _, hin => exact hin 289 322 rfl (by decide) (lw_c4 C0 hK hAd h1 (lw_two (p4 _)) kk)
  | 5, _, hin => exact hin 312 345 rfl (by decide) (lw_c5 C0 hK hAd h1 h2 h3 (lw_two (p5 _ _ _)) kk)
  | 6, _, hin => exact hin 355 388 rfl (by decide) (lw_c6 C0 hK hAd h1 h2 h3 (lw_two (p6 _ _ _)) kk)
  | 7, _, hin => exact hin 414 447 rfl (by decide) (lw_c7 C0 hK hAd h1 h2 (lw_two (p7 _ _)) kk)
  | 8, _, hin => exact hin 447 480 rfl (by decide) (lw_c8 C0 hK hAd h1 (lw_two (p8 _)) kk)
  | 9, _, hin => exact hin 470 503 rfl (by decide) (lw_c9 C0 hK hAd h1 h2 h3 (lw_two (p9 _ _ _)) kk)
  | 10, _, hin => exact hin 513 546 rfl (by decide) (lw_c10 C0 hK hAd h1 (lw_two (p10 _)) kk)
  | 11, _, hin => exact hin 552 585 rfl (by decide) (lw_c11 C0 hK hAd  (lw_two (p11 )) kk)
  | 12, _, hin => exact hin 565 598 rfl (by decide) (lw_c12 C0 hK hAd h1 (lw_two (p12 _)) kk)
  | 13, _, hin => exact hin 604 637 rfl (by decide) (lw_c13 C0 hK hAd h1 h2 (lw_two (p13 _ _)) kk)
  | 14, _, hin => exact hin 637 670 rfl (by decide) (lw_c14 C0 hK hAd h1 h2 h3 (lw_two (p14 _ _ _)) kk)
  | 15, _, hin => exact hin 680 713 rfl (by decide) (lw_c15 C0 hK hAd h1 h2 (lw_two (p15 _ _)) kk)
  | 16, _, hin => exact hin 713 746 rfl (by decide) (lw_c16 C0 hK hAd h1 (p16 _) kk)
  | 17, _, hin => exact hin 736 769 rfl (by decide) (lw_c17 C0 hK hAd h1 h2 (p17 _ _) kk)
  | 18, _, hin => exact hin 769 802 rfl (by decide) (lw_c18 C0 hK hAd h1 (lw_two (p18 _)) kk)
  | 19, _, hin => exact hin 792 825 rfl (by decide) (lw_c19 C0 hK hAd h1 (lw_two (p19 _)) kk)
  | 20, _, hin => exact hin 815 848 rfl (by decide) (lw_c20 C0 hK hAd h1 h2 (lw_two (p20 _ _)) kk)
  | 21, _, hin => exact hin 848 881 rfl (by decide) (lw_c21 C0 hK hAd h1 (lw_two (p21 _)) kk)
  | 22, _, hin => exact hin 871 904 rfl (by decide) (lw_c22 C0 hK hAd h1 (lw_two (p22 _)) kk)
  | 23, _, hin => exact hin 894 927 rfl (by decide) (lw_c23 C0 hK hAd h1 (lw_two (p23 _)) kk)
  | 24, _, hin => exact hin 917 950 rfl (by decide) (lw_c24 C0 hK hAd h1 h2 h3 h4 (lw_two (p24 _ _ _ _)) kk)
  | 25, _, hin => exact hin 986 1019 rfl (by decide) (lw_c25 C0 hK hAd h1 (lw_two (p25 _)) kk)
  | 26, _, hin => exact hin 1009 1042 rfl (by decide) (lw_c26 C0 hK hAd h1 h2 (lw_two (p26 _ _)) kk)
  | 27, _, hin => exact hin 1042 1075 rfl (by decide) (lw_c27 C0 hK hAd  (lw_two (p27 )) kk)
  | 28, _, hin => exact hin 1055 1088 rfl (by decide) (lw_c28 C0 hK hAd  (lw_two (p28 )) kk)
  | 29, _, hin => exact hin 1068 1101 rfl (by decide) (lw_c29 C0 hK hAd  (lw_two (p29 )) kk)
  | 30, _, hin => exact hin 1081 1114 rfl (by decide) (lw_c30 C0 hK hAd h1 (lw_two (p30 _)) kk)
  | 31, _, hin => exact hin 1104 1137 rfl (by decide) (lw_c31 C0 hK hAd  (lw_two (p31 )) kk)
  | 32, _, hin => exact hin 1117 1150 rfl (by decide) (lw_c32 C0 hK hAd h1 (lw_two (p32 _)) kk)
  | 33, _, hin => exact hin 1140 1173 rfl (by decide) (lw_c33 C0 hK hAd h1 h2 h3 h4 h5 (lw_two (p33 _ _ _ _ _)) kk)
  | 34, _, hin => exact hin 1203 1236 rfl (by decide) (lw_c34 C0 hK hAd h1 h2 h3 (lw_two (p34 _ _ _)) kk)
  | 35, _, hin => exact hin 1262 1295 rfl (by decide) (lw_c35 C0 hK hAd h1 (lw_two (p35 _)) kk)
  | 36, _, hin => exact hin 1285 1318 rfl (by decide) (lw_c36 C0 hK hAd h1 (lw_two (p36 _)) kk)
  | 37, _, hin => exact hin 1308 1341 rfl (by decide) (lw_c37 C0 hK hAd h1 h2 (p37 _ _) kk)
  | j + 38, h, _ => exact absurd (Nat.le_add_left 38 j) h
end LWL
end
section
/-! two Tales change places: the same heap, its cells numbered otherwise; the law's loop -/
def mj_pm (k : Nat) : Nat := if 1 ≤ k ∧ k ≤ 10 then k + 13 else if 14 ≤ k ∧ k ≤ 23 then k - 13 else k
theorem mj_pm_pm (k : Nat) : mj_pm (mj_pm k) = k := by
  unfold mj_pm
  repeat' split
  all_goals omega
def mj_swp (h : mj_H) : mj_H := (fun q k => h.1 (mj_pm q) k, fun q k => h.2.1 (mj_pm q) k, fun q k => mj_pm (h.2.2 (mj_pm q) k))
theorem mj_pm_S : ∀ q, q < 63 → mj_S1[mj_pm q]? = mj_S1[q]? := by decide +kernel
theorem mj_pm_lt {q : Nat} (h : q < mj_S1.length) : mj_pm q < mj_S1.length := by
  have h : q < 63 := h
  show mj_pm q < 63
  unfold mj_pm
  repeat' split
  all_goals omega
theorem mj_ce_sw {T3 : Nat × Nat × Nat} {ad : Nat → Nat} {h : mj_H} {q : Nat} (z : Nat × Nat) : mj_ce mj_TY T3 (fun k => ad (mj_pm k)) (mj_swp h) q z = mj_ce mj_TY T3 ad h (mj_pm q) z := by
  obtain ⟨t, n⟩ := z
  match t with
  | 0 => rfl
  | 1 => rfl
  | 2 => rfl
  | t + 3 =>
    simp only [mj_ce, Sum.inr.injEq, Prod.mk.injEq, true_and]
    refine List.map_congr_left fun i _ => ?_
    unfold mj_fv
    split
    · rfl
    · simp only [mj_swp, mj_pm_pm]
    · rfl
theorem lw_swp {Dg : va_G} {T3 : Nat × Nat × Nat} {ad : Nat → Nat} {h : mj_H} {H : Heap} (hP : va_P Dg mj_CL (mj_W mj_S1 mj_TY T3 ad h) H) : va_P Dg mj_CL (mj_W mj_S1 mj_TY T3 (fun k => ad (mj_pm k)) (mj_swp h)) H := by
  intro q e hq
  obtain ⟨h1, rfl⟩ := mj_W_inv hq
  have h2 : mj_S1[q]? = some (mj_S1.getD q (0, 0)) := by
    rw [List.getD_eq_getElem?_getD, List.getElem?_eq_getElem h1]
    rfl
  have h3 : mj_S1[mj_pm q]? = some (mj_S1.getD q (0, 0)) := by rw [mj_pm_S q h1, h2]
  have h4 := hP _ _ (mj_W_at (TY := mj_TY) (T3 := T3) (ad := ad) (h := h) h3)
  rw [mj_ce_sw]
  exact h4
theorem lw_Ad_sw {s : State} {ad1 ad2 : Nat → Nat} (h : lw_Ad s ad1 ad2) : lw_Ad s (fun k => ad1 (mj_pm k)) ad2 := by
  obtain ⟨a1, a2, a3, a4, a5, a6, a7⟩ := h
  refine ⟨fun i j hi hj e => ?_, a2, fun i j hi hj => a3 _ j (mj_pm_lt hi) hj, fun i hi => a4 _ (mj_pm_lt hi), a5, a6, a7⟩
  have h1 := a1 _ _ (mj_pm_lt hi) (mj_pm_lt hj) e
  have h2 := congrArg mj_pm h1
  rwa [mj_pm_pm, mj_pm_pm] at h2
section LWM
variable {p : Program} {l : Launch} {e : Env} {s : State} {m : MethodId} {below : List Frame} {meth : Method} {c : Code} {b L : Nat} {xs : Nat → Int32}
variable {Dg : va_G} {T3 : Nat × Nat × Nat}
set_option maxHeartbeats 4000000 in
theorem lw_loop (C0 : lw_At p s m meth c b L xs) (hL : L ≤ 3072) (hK : va_K Dg mj_CL (mj_tys T3) s) {Inv : Nat → mj_H → mj_H → Prop} (hdef : ∀ n g1 g2, Inv n g1 g2 → Inv (n + 1) g1 g2)
    (hall : ∀ n g1 g2, 6 * n + 6 ≤ L → Inv n g1 g2 → lw_All g1 g2 (fun f1 f2 => Inv (n + 1) f1 f2 ∨ Inv (n + 1) (mj_swp f1) f2)) :
    ∀ (k n : Nat), L < 6 * n + 6 * k → 6 * n ≤ L → ∀ (ad1 ad2 : Nat → Nat), lw_Ad s ad1 ad2 → ad1 0 = ad1 0 → ∀ (g1 g2 : mj_H), Inv n g1 g2 →
      lw_St p l e s m b below meth c Dg T3 ad1 ad2 18 [(0, .ref b), (1, .ref (ad1 0)), (2, .ref (ad2 0)), (3, .int (nI (6 * n)))] [] g1 g2 := by
  obtain ⟨hx, hb, hr, hml, hown, hts, hX, hbl, hlocks, hgv⟩ := id C0
  have hbA : ¬ (fun q : Nat => s.heap.size ≤ q) b := Nat.not_le.mpr hbl
  intro k
  induction k with
  | zero => intro n hk hn4; omega
  | succ k ih =>
    intro n hk hn4 ad1 ad2 hAd _ g1 g2 hI H locs ls hP1 hP2 hS hl
    refine lv_iload_n hx hb d_law_18 rfl (lv_at hl 3 rfl) ?_
    refine lv_aload_n hx hb d_law_19 rfl (lv_at hl 0 rfl) ?_
    refine va_slen hx hb hX hbl hbA hS d_law_20 ?_
    refine lv_bipush (v := 6) hx hb d_law_21 (by decide) ?_
    refine lv_isub hx hb d_law_23 ?_
    have e6 : (Int32.ofNat L - 6).toInt = (L : Int) - 6 := by
      have h1 := pk_sub_toInt (a := L) (b := 6) (by omega) (by omega)
      exact h1
    have en : (nI (6 * n)).toInt = ((6 * n : Nat) : Int) := nI_toInt (by omega)
    refine lv_icmp_gt (tgt := 1380) hx hb d_law_24 (by decide) (fun q => ?_) (fun q => ?_)
    · refine lv_iconst (v := 1) hx hb d_law_1380 (by decide) ?_
      refine W.widen (k := 600000) (n := 7302250) (Nat.le_of_ble_eq_true rfl) (Nat.le_of_ble_eq_true rfl) ?_
      exact va_forget (fun q hq => hS.2.2 q hq) (lw_ret hx hb hr hlocks d_law_1381)
    · have hle : 6 * n + 6 ≤ L := by
        rw [Int32.lt_iff_toInt_lt, e6, en] at q
        omega
      have hin : ∀ j, j < 6 → vp_in (nI (6 * n) + nI j) L := fun j hj => lw_in rfl hle hL hj
      have h0 : vp_in (nI (6 * n)) L := vp_in_nI (by omega) (by omega)
      have hsw := lw_switch (l := l) (e := e) (below := below) (G := fun f1 f2 => Inv (n + 1) f1 f2 ∨ Inv (n + 1) (mj_swp f1) f2) C0 hK hAd h0 (hin 1 (by omega)) (hin 2 (by omega)) (hin 3 (by omega)) (hin 4 (by omega)) (hin 5 (by omega)) (Or.inl (hdef n g1 g2 hI)) (hall n g1 g2 hle hI) (fun f1 f2 hG => ?_)
      · exact hsw H locs ls hP1 hP2 hS hl
      · intro H locs ls hP1 hP2 hS hl
        refine lv_iinc (k := 3) (v := nI (6 * (n + 1))) (lv' := [(3, .int (nI (6 * (n + 1)))), (0, .ref b), (1, .ref (ad1 0)), (2, .ref (ad2 0))]) hx hb d_law_1374 hl rfl ?_ (by decide) rfl (fun ls hl => ?_)
        · show nI (6 * n) + nI 6 = _
          rw [nI_add]
          rfl
        · refine lv_goto (tgt := 18) hx hb d_law_1377 (by decide) ?_
          have hl2 := lv_sub (l' := [(0, .ref b), (1, .ref (ad1 0)), (2, .ref (ad2 0)), (3, .int (nI (6 * (n + 1))))]) hl [1, 2, 3, 0] rfl
          rcases hG with hG | hG
          · exact ih (n + 1) (by omega) (by omega) ad1 ad2 hAd rfl f1 f2 hG H locs ls hP1 hP2 hS hl2
          · exact ih (n + 1) (by omega) (by omega) (fun k => ad1 (mj_pm k)) ad2 (lw_Ad_sw hAd) rfl (mj_swp f1) f2 hG H locs ls (lw_swp hP1) hP2 hS hl2
end LWM
end
section
/-! constructors, by program, over the kit's rows (as the kit's worked module does) -/
theorem mj_cA0 {Dg : va_G} {cl : List vw_C} {cI cJ cZ cA : Nat} {s : State} (h : va_K Dg cl (mj_tys (cI, cJ, cZ) ++ [(cA, .int)]) s) : cA = cI := by
  have h1 : s.vm.findClass ("[" ++ FieldType.int.toString) = some cI := (h.2 0 _ rfl).2
  have h2 : s.vm.findClass ("[" ++ FieldType.int.toString) = some cA := (h.2 3 _ rfl).2
  exact Option.some.inj (h2.symm.trans h1)
theorem mj_cA1 {Dg : va_G} {cl : List vw_C} {cI cJ cZ cA : Nat} {s : State} (h : va_K Dg cl (mj_tys (cI, cJ, cZ) ++ [(cA, .long)]) s) : cA = cJ := by
  have h1 : s.vm.findClass ("[" ++ FieldType.long.toString) = some cJ := (h.2 1 _ rfl).2
  have h2 : s.vm.findClass ("[" ++ FieldType.long.toString) = some cA := (h.2 3 _ rfl).2
  exact Option.some.inj (h2.symm.trans h1)
theorem mj_cA2 {Dg : va_G} {cl : List vw_C} {cI cJ cZ cA : Nat} {s : State} (h : va_K Dg cl (mj_tys (cI, cJ, cZ) ++ [(cA, .boolean)]) s) : cA = cZ := by
  have h1 : s.vm.findClass ("[" ++ FieldType.boolean.toString) = some cZ := (h.2 2 _ rfl).2
  have h2 : s.vm.findClass ("[" ++ FieldType.boolean.toString) = some cA := (h.2 3 _ rfl).2
  exact Option.some.inj (h2.symm.trans h1)
def mj_kPc (Dg : va_G) (cI cJ cZ h0 : Nat) (w0 : va_W) (sz : Nat) : Array Value → State → Prop :=
  va_Pc [.ref h0] (fun U => U.heap.size = sz ∧ va_P Dg mj_CL w0 U.heap ∧ va_K Dg mj_CL (mj_tys (cI, cJ, cZ)) U ∧ va_D (fun _ => True) w0 ∧ ∀ w ∈ lw_tbl, mj_nest w = true → va_Nw w U)
theorem mj_kblind {Dg : va_G} {cI cJ cZ h0 sz : Nat} {w0 : va_W} : FrameBlind (mj_kPc Dg cI cJ cZ h0 w0 sz) := by
  intro a U g mk q
  obtain ⟨q0, q1, q2, q3, q5, q4⟩ := q
  refine ⟨q0, q1, q2, va_K.moved (u := U) (U := U.calling g mk a) (Vm.Alike.refl U.vm) q3, q5, fun w hw hn => ?_⟩
  have h1 := q4 w hw hn
  cases w <;> first | exact va_Nw.same (u := U) rfl rfl h1 | exact absurd (show false = true from hn) (by decide)
def mm_k4 : mj_M := (⟨"UnbeatenHouse$Judge", "<init>", "()V"⟩, prog_4_method_1_code, 1, none)
set_option maxRecDepth 100000 in
theorem my_k4 : mj_okY lw_tbl mm_k4 := ⟨(lw_in_1 (List.mem_of_getElem? (i := 19) rfl)), (lw_in_0 (List.mem_of_getElem? (i := 11) (by decide +kernel))), by decide, plainFor_of_name (by decide +kernel), by decide +kernel, by decide +kernel⟩
theorem dg_k4_0 : (decode prog_4_method_1_code 0 = .ok (.aload_n 0, 1)) ∧ (decode prog_4_method_1_code 1 = .ok (.invokespecial 3, 3)) ∧ (decode prog_4_method_1_code 4 = .ok (.aload_n 0, 1)) ∧ (decode prog_4_method_1_code 5 = .ok (.bipush 64, 2)) ∧ (decode prog_4_method_1_code 7 = .ok (.newarray .int, 2)) ∧ (decode prog_4_method_1_code 9 = .ok (.putfield 11, 3)) ∧ (decode prog_4_method_1_code 12 = .ok (.return_, 1)) ∧ True := fd_of (cc := prog_4_method_1_code) [(0, .aload_n 0, 1), (1, .invokespecial 3, 3), (4, .aload_n 0, 1), (5, .bipush 64, 2), (7, .newarray .int, 2), (9, .putfield 11, 3), (12, .return_, 1)] (by decide +kernel)
theorem d_k4_0 : decode prog_4_method_1_code 0 = .ok (.aload_n 0, 1) := dg_k4_0.1
theorem d_k4_1 : decode prog_4_method_1_code 1 = .ok (.invokespecial 3, 3) := dg_k4_0.2.1
theorem d_k4_4 : decode prog_4_method_1_code 4 = .ok (.aload_n 0, 1) := dg_k4_0.2.2.1
theorem d_k4_5 : decode prog_4_method_1_code 5 = .ok (.bipush 64, 2) := dg_k4_0.2.2.2.1
theorem d_k4_7 : decode prog_4_method_1_code 7 = .ok (.newarray .int, 2) := dg_k4_0.2.2.2.2.1
theorem d_k4_9 : decode prog_4_method_1_code 9 = .ok (.putfield 11, 3) := dg_k4_0.2.2.2.2.2.1
theorem d_k4_12 : decode prog_4_method_1_code 12 = .ok (.return_, 1) := dg_k4_0.2.2.2.2.2.2.1
/-- a new UnbeatenHouse$Judge -/
abbrev at_k4 (Dg : va_G) (cI cJ cZ : Nat) (A : Nat → Prop) (h0 : Nat) (_ : Unit) (t : State) : Prop := ∃ (z1 : Nat), va_P Dg mj_CL [(h0, .inr (4, [.ref z1, .int 0])), (z1, .inl (cI, 64, .inl (fun _ => 0)))] t.heap ∧ va_D A [(h0, .inr (4, [.ref z1, .int 0])), (z1, .inl (cI, 64, .inl (fun _ => 0)))]
set_option maxHeartbeats 8000000 in
set_option maxRecDepth 100000 in
theorem c_k4 (l : Launch) (Dg : va_G) (cI cJ cZ : Nat) (h0 sz : Nat) : Met l mm_k4.1 (mj_ws lw_tbl mm_k4) ({ frames := 1, cells := 1, slots := 64, locals := 12 }) (mj_kPc Dg cI cJ cZ h0 [(h0, .inr (4, [.null, .int 0]))] sz) (va_Qv (fun _ : Unit => True) (at_k4 Dg cI cJ cZ (va_A [(h0, .inr (4, [.null, .int 0]))] sz) h0) (va_A [(h0, .inr (4, [.null, .int 0]))] sz)) 1 64 (va_A [(h0, .inr (4, [.null, .int 0]))] sz) := by
  refine Met.ofW (cc := prog_4_method_1_code) (maxL := 1) (ret := none) (by decide) rfl ?_
  intro p e s m args below meth c s₁ B hml hv
  obtain ⟨rfl, hsz, hP, hK, hD0, hN⟩ := hv
  have hx := B.exec
  have hb := B.bytes
  have hr := B.returns
  have hts0 := atoms_spec (ws := mj_ws lw_tbl mm_k4) B.pre
  have hts : ∀ w ∈ lw_tbl.filter goodWord, w.before _ s = true := fun w hw => hts0 w (List.mem_cons_of_mem _ hw)
  have hown : s.vm.findClass "UnbeatenHouse$Judge" = some m.cls := findClass_of_methodNamed B.named
  have hlocks := B.notSynchronized
  have hin : meth.name = "<init>" := (name_of_methodNamed B.named B.method).1
  subst hsz
  have hD := hD0.self (sz := s.heap.size)
  generalize hAe : va_A [(h0, .inr (4, [.null, .int 0]))] s.heap.size = A at hD ⊢
  have hA : ∀ q : Nat, s.heap.size ≤ q → A q := fun q h => by rw [← hAe]; exact Or.inr h
  have hS : va_S A s.heap s.heap [] := va_S.rf
  have hP : va_P Dg mj_CL [(h0, .inr (4, [.null, .int 0]))] s.heap := hP
  have hl := lv_entry ([.ref h0]) (n := 1) (Nat.le_of_ble_eq_true rfl)
  rw [lg_entry_eq]
  generalize (lg_sl ([.ref h0]) ++ List.replicate (1 - (lg_sl ([.ref h0])).length) Slot.unset).toArray = ls at hl ⊢
  have hl : lv_has ls 1 [(0, .ref h0)] := hl
  show W p l e ({ frames := 1, cells := 1, slots := 64, locals := 12 } : Room) s m _ below meth c s.heap [] 0 0 _ _
  refine lv_aload_n hx hb d_k4_0 rfl (lv_at hl 0 rfl) ?_
  refine W.objInit hx hb hown (hts _ (mj_good_in ((lw_in_1 (List.mem_of_getElem? (i := 20) (by decide +kernel)))) rfl)) (hts _ (mj_good_in ((lw_in_0 (List.mem_of_getElem? (i := 28) (by decide +kernel)))) rfl)) (hts _ (mj_good_in ((lw_in_0 (List.mem_of_getElem? (i := 29) (by decide +kernel)))) rfl)) rfl (by rw [hml]; exact hl.1) rfl d_k4_1 (Nat.le_of_ble_eq_true rfl) (Nat.le_of_ble_eq_true rfl) ?_
  refine W.eq (g2 := F0 m 4 ls []) rfl ?_
  refine lv_aload_n hx hb d_k4_4 rfl (lv_at hl 0 rfl) ?_
  refine lv_bipush (v := 64) hx hb d_k4_5 (by decide) ?_
  refine va_newa (atype := .int) (ty := .int) (N' := 64) (a0 := (64, .inl (fun _ => 0))) hx hb (hts _ (mj_good_in ((lw_in_0 (List.mem_of_getElem? (i := 92) (by decide +kernel)))) rfl)) rfl hK hP hD hS hA (fun _ => rfl) (by decide) (by decide) (Nat.le_of_ble_eq_true rfl) (Nat.le_of_ble_eq_true rfl) (Nat.le_of_ble_eq_true rfl) d_k4_7 (fun q7 cA H hK1 hP hD hS => ?_)
  have hcA : cA = cI := mj_cA0 hK1
  rw [hcA] at hP hD
  clear hK1 hcA
  refine W.widen (k := 1) (n := 64) (Nat.le_of_ble_eq_true rfl) (Nat.le_of_ble_eq_true rfl) ?_
  have hP : va_P Dg mj_CL [(h0, .inr (4, [.null, .int 0])), (q7, .inl (cI, 64, .inl (fun _ => 0)))] H := hP
  have hD : va_D A [(h0, .inr (4, [.null, .int 0])), (q7, .inl (cI, 64, .inl (fun _ => 0)))] := hD
  refine va_putF (D := Dg) (ci := 4) (v := .ref q7) (ty := mj_TY 4 0) (C := "UnbeatenHouse$Judge") (T := mF_4) (N := 2) hx hb hts (mj_lays mc_4.1) (mj_TY 4) mc_4.2.1 mc_4.2.2 hown hK hP hD hS 0 rfl rfl 0 (by decide) (hts _ (mj_good_in ((lw_in_1 (List.mem_of_getElem? (i := 21) (by decide +kernel)))) rfl)) (fun _ h9 => h9) rfl hin rfl (mc_4.2.1 0 (by decide)) rfl rfl (Nat.le_of_ble_eq_true rfl) d_k4_9 (fun H locs hP hD hS => ?_)
  have hP : va_P Dg mj_CL [(h0, .inr (4, [.ref q7, .int 0])), (q7, .inl (cI, 64, .inl (fun _ => 0)))] H := hP
  have hD : va_D A [(h0, .inr (4, [.ref q7, .int 0])), (q7, .inl (cI, 64, .inl (fun _ => 0)))] := hD
  refine W.widen (k := 1) (n := 64) (Nat.le_of_ble_eq_true rfl) (Nat.le_of_ble_eq_true rfl) ?_
  exact W.vret hx hb hr (fun t ht hW => ⟨⟨(), rfl, trivial, q7, by rw [ht]; exact hP, hD⟩, hS.F ht⟩) hS.2.2 d_k4_12
def mm_k11 : mj_M := (⟨"UnbeatenHouse$Tale", "<init>", "()V"⟩, prog_11_method_1_code, 1, none)
set_option maxRecDepth 100000 in
theorem my_k11 : mj_okY lw_tbl mm_k11 := ⟨(lw_in_0 (List.mem_of_getElem? (i := 34) rfl)), (lw_in_0 (List.mem_of_getElem? (i := 2) (by decide +kernel))), by decide, plainFor_of_name (by decide +kernel), by decide +kernel, by decide +kernel⟩
theorem dg_k11_0 : (decode prog_11_method_1_code 0 = .ok (.aload_n 0, 1)) ∧ (decode prog_11_method_1_code 1 = .ok (.invokespecial 3, 3)) ∧ (decode prog_11_method_1_code 4 = .ok (.aload_n 0, 1)) ∧ (decode prog_11_method_1_code 5 = .ok (.bipush 6, 2)) ∧ (decode prog_11_method_1_code 7 = .ok (.newarray .int, 2)) ∧ (decode prog_11_method_1_code 9 = .ok (.putfield 9, 3)) ∧ (decode prog_11_method_1_code 12 = .ok (.aload_n 0, 1)) ∧ (decode prog_11_method_1_code 13 = .ok (.sipush 240, 3)) ∧ (decode prog_11_method_1_code 16 = .ok (.newarray .int, 2)) ∧ (decode prog_11_method_1_code 18 = .ok (.putfield 15, 3)) ∧ (decode prog_11_method_1_code 21 = .ok (.aload_n 0, 1)) ∧ (decode prog_11_method_1_code 22 = .ok (.iconst 4, 1)) ∧ (decode prog_11_method_1_code 23 = .ok (.newarray .boolean, 2)) ∧ (decode prog_11_method_1_code 25 = .ok (.putfield 18, 3)) ∧ (decode prog_11_method_1_code 28 = .ok (.aload_n 0, 1)) ∧ (decode prog_11_method_1_code 29 = .ok (.sipush 960, 3)) ∧ True := fd_of (cc := prog_11_method_1_code) [(0, .aload_n 0, 1), (1, .invokespecial 3, 3), (4, .aload_n 0, 1), (5, .bipush 6, 2), (7, .newarray .int, 2), (9, .putfield 9, 3), (12, .aload_n 0, 1), (13, .sipush 240, 3), (16, .newarray .int, 2), (18, .putfield 15, 3), (21, .aload_n 0, 1), (22, .iconst 4, 1), (23, .newarray .boolean, 2), (25, .putfield 18, 3), (28, .aload_n 0, 1), (29, .sipush 960, 3)] (by decide +kernel)
theorem d_k11_0 : decode prog_11_method_1_code 0 = .ok (.aload_n 0, 1) := dg_k11_0.1
theorem d_k11_1 : decode prog_11_method_1_code 1 = .ok (.invokespecial 3, 3) := dg_k11_0.2.1
theorem d_k11_4 : decode prog_11_method_1_code 4 = .ok (.aload_n 0, 1) := dg_k11_0.2.2.1
theorem d_k11_5 : decode prog_11_method_1_code 5 = .ok (.bipush 6, 2) := dg_k11_0.2.2.2.1
theorem d_k11_7 : decode prog_11_method_1_code 7 = .ok (.newarray .int, 2) := dg_k11_0.2.2.2.2.1
theorem d_k11_9 : decode prog_11_method_1_code 9 = .ok (.putfield 9, 3) := dg_k11_0.2.2.2.2.2.1
theorem d_k11_12 : decode prog_11_method_1_code 12 = .ok (.aload_n 0, 1) := dg_k11_0.2.2.2.2.2.2.1
theorem d_k11_13 : decode prog_11_method_1_code 13 = .ok (.sipush 240, 3) := dg_k11_0.2.2.2.2.2.2.2.1
theorem d_k11_16 : decode prog_11_method_1_code 16 = .ok (.newarray .int, 2) := dg_k11_0.2.2.2.2.2.2.2.2.1
theorem d_k11_18 : decode prog_11_method_1_code 18 = .ok (.putfield 15, 3) := dg_k11_0.2.2.2.2.2.2.2.2.2.1
theorem d_k11_21 : decode prog_11_method_1_code 21 = .ok (.aload_n 0, 1) := dg_k11_0.2.2.2.2.2.2.2.2.2.2.1
theorem d_k11_22 : decode prog_11_method_1_code 22 = .ok (.iconst 4, 1) := dg_k11_0.2.2.2.2.2.2.2.2.2.2.2.1
theorem d_k11_23 : decode prog_11_method_1_code 23 = .ok (.newarray .boolean, 2) := dg_k11_0.2.2.2.2.2.2.2.2.2.2.2.2.1
theorem d_k11_25 : decode prog_11_method_1_code 25 = .ok (.putfield 18, 3) := dg_k11_0.2.2.2.2.2.2.2.2.2.2.2.2.2.1
theorem d_k11_28 : decode prog_11_method_1_code 28 = .ok (.aload_n 0, 1) := dg_k11_0.2.2.2.2.2.2.2.2.2.2.2.2.2.2.1
theorem d_k11_29 : decode prog_11_method_1_code 29 = .ok (.sipush 960, 3) := dg_k11_0.2.2.2.2.2.2.2.2.2.2.2.2.2.2.2.1
theorem dg_k11_32 : (decode prog_11_method_1_code 32 = .ok (.newarray .int, 2)) ∧ (decode prog_11_method_1_code 34 = .ok (.putfield 22, 3)) ∧ (decode prog_11_method_1_code 37 = .ok (.aload_n 0, 1)) ∧ (decode prog_11_method_1_code 38 = .ok (.sipush 160, 3)) ∧ (decode prog_11_method_1_code 41 = .ok (.newarray .int, 2)) ∧ (decode prog_11_method_1_code 43 = .ok (.putfield 25, 3)) ∧ (decode prog_11_method_1_code 46 = .ok (.aload_n 0, 1)) ∧ (decode prog_11_method_1_code 47 = .ok (.bipush 24, 2)) ∧ (decode prog_11_method_1_code 49 = .ok (.newarray .int, 2)) ∧ (decode prog_11_method_1_code 51 = .ok (.putfield 28, 3)) ∧ (decode prog_11_method_1_code 54 = .ok (.aload_n 0, 1)) ∧ (decode prog_11_method_1_code 55 = .ok (.bipush 24, 2)) ∧ (decode prog_11_method_1_code 57 = .ok (.newarray .int, 2)) ∧ (decode prog_11_method_1_code 59 = .ok (.putfield 31, 3)) ∧ (decode prog_11_method_1_code 62 = .ok (.aload_n 0, 1)) ∧ (decode prog_11_method_1_code 63 = .ok (.sipush 900, 3)) ∧ True := fd_of (cc := prog_11_method_1_code) [(32, .newarray .int, 2), (34, .putfield 22, 3), (37, .aload_n 0, 1), (38, .sipush 160, 3), (41, .newarray .int, 2), (43, .putfield 25, 3), (46, .aload_n 0, 1), (47, .bipush 24, 2), (49, .newarray .int, 2), (51, .putfield 28, 3), (54, .aload_n 0, 1), (55, .bipush 24, 2), (57, .newarray .int, 2), (59, .putfield 31, 3), (62, .aload_n 0, 1), (63, .sipush 900, 3)] (by decide +kernel)
theorem d_k11_32 : decode prog_11_method_1_code 32 = .ok (.newarray .int, 2) := dg_k11_32.1
theorem d_k11_34 : decode prog_11_method_1_code 34 = .ok (.putfield 22, 3) := dg_k11_32.2.1
theorem d_k11_37 : decode prog_11_method_1_code 37 = .ok (.aload_n 0, 1) := dg_k11_32.2.2.1
theorem d_k11_38 : decode prog_11_method_1_code 38 = .ok (.sipush 160, 3) := dg_k11_32.2.2.2.1
theorem d_k11_41 : decode prog_11_method_1_code 41 = .ok (.newarray .int, 2) := dg_k11_32.2.2.2.2.1
theorem d_k11_43 : decode prog_11_method_1_code 43 = .ok (.putfield 25, 3) := dg_k11_32.2.2.2.2.2.1
theorem d_k11_46 : decode prog_11_method_1_code 46 = .ok (.aload_n 0, 1) := dg_k11_32.2.2.2.2.2.2.1
theorem d_k11_47 : decode prog_11_method_1_code 47 = .ok (.bipush 24, 2) := dg_k11_32.2.2.2.2.2.2.2.1
theorem d_k11_49 : decode prog_11_method_1_code 49 = .ok (.newarray .int, 2) := dg_k11_32.2.2.2.2.2.2.2.2.1
theorem d_k11_51 : decode prog_11_method_1_code 51 = .ok (.putfield 28, 3) := dg_k11_32.2.2.2.2.2.2.2.2.2.1
theorem d_k11_54 : decode prog_11_method_1_code 54 = .ok (.aload_n 0, 1) := dg_k11_32.2.2.2.2.2.2.2.2.2.2.1
theorem d_k11_55 : decode prog_11_method_1_code 55 = .ok (.bipush 24, 2) := dg_k11_32.2.2.2.2.2.2.2.2.2.2.2.1
theorem d_k11_57 : decode prog_11_method_1_code 57 = .ok (.newarray .int, 2) := dg_k11_32.2.2.2.2.2.2.2.2.2.2.2.2.1
theorem d_k11_59 : decode prog_11_method_1_code 59 = .ok (.putfield 31, 3) := dg_k11_32.2.2.2.2.2.2.2.2.2.2.2.2.2.1
theorem d_k11_62 : decode prog_11_method_1_code 62 = .ok (.aload_n 0, 1) := dg_k11_32.2.2.2.2.2.2.2.2.2.2.2.2.2.2.1
theorem d_k11_63 : decode prog_11_method_1_code 63 = .ok (.sipush 900, 3) := dg_k11_32.2.2.2.2.2.2.2.2.2.2.2.2.2.2.2.1
theorem dg_k11_66 : (decode prog_11_method_1_code 66 = .ok (.newarray .int, 2)) ∧ (decode prog_11_method_1_code 68 = .ok (.putfield 34, 3)) ∧ (decode prog_11_method_1_code 71 = .ok (.aload_n 0, 1)) ∧ (decode prog_11_method_1_code 72 = .ok (.bipush 12, 2)) ∧ (decode prog_11_method_1_code 74 = .ok (.newarray .int, 2)) ∧ (decode prog_11_method_1_code 76 = .ok (.putfield 37, 3)) ∧ (decode prog_11_method_1_code 79 = .ok (.return_, 1)) ∧ True := fd_of (cc := prog_11_method_1_code) [(66, .newarray .int, 2), (68, .putfield 34, 3), (71, .aload_n 0, 1), (72, .bipush 12, 2), (74, .newarray .int, 2), (76, .putfield 37, 3), (79, .return_, 1)] (by decide +kernel)
theorem d_k11_66 : decode prog_11_method_1_code 66 = .ok (.newarray .int, 2) := dg_k11_66.1
theorem d_k11_68 : decode prog_11_method_1_code 68 = .ok (.putfield 34, 3) := dg_k11_66.2.1
theorem d_k11_71 : decode prog_11_method_1_code 71 = .ok (.aload_n 0, 1) := dg_k11_66.2.2.1
theorem d_k11_72 : decode prog_11_method_1_code 72 = .ok (.bipush 12, 2) := dg_k11_66.2.2.2.1
theorem d_k11_74 : decode prog_11_method_1_code 74 = .ok (.newarray .int, 2) := dg_k11_66.2.2.2.2.1
theorem d_k11_76 : decode prog_11_method_1_code 76 = .ok (.putfield 37, 3) := dg_k11_66.2.2.2.2.2.1
theorem d_k11_79 : decode prog_11_method_1_code 79 = .ok (.return_, 1) := dg_k11_66.2.2.2.2.2.2.1
/-- a new UnbeatenHouse$Tale -/
abbrev at_k11 (Dg : va_G) (cI cJ cZ : Nat) (A : Nat → Prop) (h0 : Nat) (_ : Unit) (t : State) : Prop := ∃ (z1 z2 z3 z4 z5 z6 z7 z8 z9 : Nat), va_P Dg mj_CL [(h0, .inr (11, [.int 0, .ref z1, .ref z2, .ref z3, .ref z4, .ref z5, .ref z6, .ref z7, .ref z8, .int 0, .ref z9])), (z1, .inl (cI, 6, .inl (fun _ => 0))), (z2, .inl (cI, 240, .inl (fun _ => 0))), (z3, .inl (cZ, 4, .inl (fun _ => 0))), (z4, .inl (cI, 960, .inl (fun _ => 0))), (z5, .inl (cI, 160, .inl (fun _ => 0))), (z6, .inl (cI, 24, .inl (fun _ => 0))), (z7, .inl (cI, 24, .inl (fun _ => 0))), (z8, .inl (cI, 900, .inl (fun _ => 0))), (z9, .inl (cI, 12, .inl (fun _ => 0)))] t.heap ∧ va_D A [(h0, .inr (11, [.int 0, .ref z1, .ref z2, .ref z3, .ref z4, .ref z5, .ref z6, .ref z7, .ref z8, .int 0, .ref z9])), (z1, .inl (cI, 6, .inl (fun _ => 0))), (z2, .inl (cI, 240, .inl (fun _ => 0))), (z3, .inl (cZ, 4, .inl (fun _ => 0))), (z4, .inl (cI, 960, .inl (fun _ => 0))), (z5, .inl (cI, 160, .inl (fun _ => 0))), (z6, .inl (cI, 24, .inl (fun _ => 0))), (z7, .inl (cI, 24, .inl (fun _ => 0))), (z8, .inl (cI, 900, .inl (fun _ => 0))), (z9, .inl (cI, 12, .inl (fun _ => 0)))]
set_option maxHeartbeats 8000000 in
set_option maxRecDepth 100000 in
theorem c_k11 (l : Launch) (Dg : va_G) (cI cJ cZ : Nat) (h0 sz : Nat) : Met l mm_k11.1 (mj_ws lw_tbl mm_k11) ({ frames := 1, cells := 9, slots := 2330, locals := 12 }) (mj_kPc Dg cI cJ cZ h0 [(h0, .inr (11, [.int 0, .null, .null, .null, .null, .null, .null, .null, .null, .int 0, .null]))] sz) (va_Qv (fun _ : Unit => True) (at_k11 Dg cI cJ cZ (va_A [(h0, .inr (11, [.int 0, .null, .null, .null, .null, .null, .null, .null, .null, .int 0, .null]))] sz) h0) (va_A [(h0, .inr (11, [.int 0, .null, .null, .null, .null, .null, .null, .null, .null, .int 0, .null]))] sz)) 9 2330 (va_A [(h0, .inr (11, [.int 0, .null, .null, .null, .null, .null, .null, .null, .null, .int 0, .null]))] sz) := by
  refine Met.ofW (cc := prog_11_method_1_code) (maxL := 1) (ret := none) (by decide) rfl ?_
  intro p e s m args below meth c s₁ B hml hv
  obtain ⟨rfl, hsz, hP, hK, hD0, hN⟩ := hv
  have hx := B.exec
  have hb := B.bytes
  have hr := B.returns
  have hts0 := atoms_spec (ws := mj_ws lw_tbl mm_k11) B.pre
  have hts : ∀ w ∈ lw_tbl.filter goodWord, w.before _ s = true := fun w hw => hts0 w (List.mem_cons_of_mem _ hw)
  have hown : s.vm.findClass "UnbeatenHouse$Tale" = some m.cls := findClass_of_methodNamed B.named
  have hlocks := B.notSynchronized
  have hin : meth.name = "<init>" := (name_of_methodNamed B.named B.method).1
  subst hsz
  have hD := hD0.self (sz := s.heap.size)
  generalize hAe : va_A [(h0, .inr (11, [.int 0, .null, .null, .null, .null, .null, .null, .null, .null, .int 0, .null]))] s.heap.size = A at hD ⊢
  have hA : ∀ q : Nat, s.heap.size ≤ q → A q := fun q h => by rw [← hAe]; exact Or.inr h
  have hS : va_S A s.heap s.heap [] := va_S.rf
  have hP : va_P Dg mj_CL [(h0, .inr (11, [.int 0, .null, .null, .null, .null, .null, .null, .null, .null, .int 0, .null]))] s.heap := hP
  have hl := lv_entry ([.ref h0]) (n := 1) (Nat.le_of_ble_eq_true rfl)
  rw [lg_entry_eq]
  generalize (lg_sl ([.ref h0]) ++ List.replicate (1 - (lg_sl ([.ref h0])).length) Slot.unset).toArray = ls at hl ⊢
  have hl : lv_has ls 1 [(0, .ref h0)] := hl
  show W p l e ({ frames := 1, cells := 9, slots := 2330, locals := 12 } : Room) s m _ below meth c s.heap [] 0 0 _ _
  refine lv_aload_n hx hb d_k11_0 rfl (lv_at hl 0 rfl) ?_
  refine W.objInit hx hb hown (hts _ (mj_good_in ((lw_in_0 (List.mem_of_getElem? (i := 35) (by decide +kernel)))) rfl)) (hts _ (mj_good_in ((lw_in_0 (List.mem_of_getElem? (i := 28) (by decide +kernel)))) rfl)) (hts _ (mj_good_in ((lw_in_0 (List.mem_of_getElem? (i := 29) (by decide +kernel)))) rfl)) rfl (by rw [hml]; exact hl.1) rfl d_k11_1 (Nat.le_of_ble_eq_true rfl) (Nat.le_of_ble_eq_true rfl) ?_
  refine W.eq (g2 := F0 m 4 ls []) rfl ?_
  refine lv_aload_n hx hb d_k11_4 rfl (lv_at hl 0 rfl) ?_
  refine lv_bipush (v := 6) hx hb d_k11_5 (by decide) ?_
  refine va_newa (atype := .int) (ty := .int) (N' := 6) (a0 := (6, .inl (fun _ => 0))) hx hb (hts _ (mj_good_in ((lw_in_0 (List.mem_of_getElem? (i := 92) (by decide +kernel)))) rfl)) rfl hK hP hD hS hA (fun _ => rfl) (by decide) (by decide) (Nat.le_of_ble_eq_true rfl) (Nat.le_of_ble_eq_true rfl) (Nat.le_of_ble_eq_true rfl) d_k11_7 (fun q7 cA H hK1 hP hD hS => ?_)
  have hcA : cA = cI := mj_cA0 hK1
  rw [hcA] at hP hD
  clear hK1 hcA
  refine W.widen (k := 1) (n := 6) (Nat.le_of_ble_eq_true rfl) (Nat.le_of_ble_eq_true rfl) ?_
  have hP : va_P Dg mj_CL [(h0, .inr (11, [.int 0, .null, .null, .null, .null, .null, .null, .null, .null, .int 0, .null])), (q7, .inl (cI, 6, .inl (fun _ => 0)))] H := hP
  have hD : va_D A [(h0, .inr (11, [.int 0, .null, .null, .null, .null, .null, .null, .null, .null, .int 0, .null])), (q7, .inl (cI, 6, .inl (fun _ => 0)))] := hD
  refine va_putF (D := Dg) (ci := 11) (v := .ref q7) (ty := mj_TY 11 1) (C := "UnbeatenHouse$Tale") (T := mF_11) (N := 11) hx hb hts (mj_lays mc_11.1) (mj_TY 11) mc_11.2.1 mc_11.2.2 hown hK hP hD hS 0 rfl rfl 1 (by decide) (hts _ (mj_good_in ((lw_in_0 (List.mem_of_getElem? (i := 39) (by decide +kernel)))) rfl)) (fun _ h9 => h9) rfl hin rfl (mc_11.2.1 1 (by decide)) rfl rfl (Nat.le_of_ble_eq_true rfl) d_k11_9 (fun H locs hP hD hS => ?_)
  have hP : va_P Dg mj_CL [(h0, .inr (11, [.int 0, .ref q7, .null, .null, .null, .null, .null, .null, .null, .int 0, .null])), (q7, .inl (cI, 6, .inl (fun _ => 0)))] H := hP
  have hD : va_D A [(h0, .inr (11, [.int 0, .ref q7, .null, .null, .null, .null, .null, .null, .null, .int 0, .null])), (q7, .inl (cI, 6, .inl (fun _ => 0)))] := hD
  refine lv_aload_n hx hb d_k11_12 rfl (lv_at hl 0 rfl) ?_
  refine lv_sipush (v := 240) hx hb d_k11_13 (by decide) ?_
  refine va_newa (atype := .int) (ty := .int) (N' := 240) (a0 := (240, .inl (fun _ => 0))) hx hb (hts _ (mj_good_in ((lw_in_0 (List.mem_of_getElem? (i := 92) (by decide +kernel)))) rfl)) rfl hK hP hD hS hA (fun _ => rfl) (by decide) (by decide) (Nat.le_of_ble_eq_true rfl) (Nat.le_of_ble_eq_true rfl) (Nat.le_of_ble_eq_true rfl) d_k11_16 (fun q16 cA H hK1 hP hD hS => ?_)
  have hcA : cA = cI := mj_cA0 hK1
  rw [hcA] at hP hD
  clear hK1 hcA
  refine W.widen (k := 2) (n := 246) (Nat.le_of_ble_eq_true rfl) (Nat.le_of_ble_eq_true rfl) ?_
  have hP : va_P Dg mj_CL [(h0, .inr (11, [.int 0, .ref q7, .null, .null, .null, .null, .null, .null, .null, .int 0, .null])), (q7, .inl (cI, 6, .inl (fun _ => 0))), (q16, .inl (cI, 240, .inl (fun _ => 0)))] H := hP
  have hD : va_D A [(h0, .inr (11, [.int 0, .ref q7, .null, .null, .null, .null, .null, .null, .null, .int 0, .null])), (q7, .inl (cI, 6, .inl (fun _ => 0))), (q16, .inl (cI, 240, .inl (fun _ => 0)))] := hD
  refine va_putF (D := Dg) (ci := 11) (v := .ref q16) (ty := mj_TY 11 2) (C := "UnbeatenHouse$Tale") (T := mF_11) (N := 11) hx hb hts (mj_lays mc_11.1) (mj_TY 11) mc_11.2.1 mc_11.2.2 hown hK hP hD hS 0 rfl rfl 2 (by decide) (hts _ (mj_good_in ((lw_in_0 (List.mem_of_getElem? (i := 45) (by decide +kernel)))) rfl)) (fun _ h9 => h9) rfl hin rfl (mc_11.2.1 2 (by decide)) rfl rfl (Nat.le_of_ble_eq_true rfl) d_k11_18 (fun H locs hP hD hS => ?_)
  have hP : va_P Dg mj_CL [(h0, .inr (11, [.int 0, .ref q7, .ref q16, .null, .null, .null, .null, .null, .null, .int 0, .null])), (q7, .inl (cI, 6, .inl (fun _ => 0))), (q16, .inl (cI, 240, .inl (fun _ => 0)))] H := hP
  have hD : va_D A [(h0, .inr (11, [.int 0, .ref q7, .ref q16, .null, .null, .null, .null, .null, .null, .int 0, .null])), (q7, .inl (cI, 6, .inl (fun _ => 0))), (q16, .inl (cI, 240, .inl (fun _ => 0)))] := hD
  refine lv_aload_n hx hb d_k11_21 rfl (lv_at hl 0 rfl) ?_
  refine lv_iconst (v := 4) hx hb d_k11_22 (by decide) ?_
  refine va_newa (atype := .boolean) (ty := .boolean) (N' := 4) (a0 := (4, .inl (fun _ => 0))) hx hb (hts _ (mj_good_in ((lw_in_0 (List.mem_of_getElem? (i := 93) (by decide +kernel)))) rfl)) rfl hK hP hD hS hA (fun _ => rfl) (by decide) (by decide) (Nat.le_of_ble_eq_true rfl) (Nat.le_of_ble_eq_true rfl) (Nat.le_of_ble_eq_true rfl) d_k11_23 (fun q23 cA H hK1 hP hD hS => ?_)
  have hcA : cA = cZ := mj_cA2 hK1
  rw [hcA] at hP hD
  clear hK1 hcA
  refine W.widen (k := 3) (n := 250) (Nat.le_of_ble_eq_true rfl) (Nat.le_of_ble_eq_true rfl) ?_
  have hP : va_P Dg mj_CL [(h0, .inr (11, [.int 0, .ref q7, .ref q16, .null, .null, .null, .null, .null, .null, .int 0, .null])), (q7, .inl (cI, 6, .inl (fun _ => 0))), (q16, .inl (cI, 240, .inl (fun _ => 0))), (q23, .inl (cZ, 4, .inl (fun _ => 0)))] H := hP
  have hD : va_D A [(h0, .inr (11, [.int 0, .ref q7, .ref q16, .null, .null, .null, .null, .null, .null, .int 0, .null])), (q7, .inl (cI, 6, .inl (fun _ => 0))), (q16, .inl (cI, 240, .inl (fun _ => 0))), (q23, .inl (cZ, 4, .inl (fun _ => 0)))] := hD
  refine va_putF (D := Dg) (ci := 11) (v := .ref q23) (ty := mj_TY 11 3) (C := "UnbeatenHouse$Tale") (T := mF_11) (N := 11) hx hb hts (mj_lays mc_11.1) (mj_TY 11) mc_11.2.1 mc_11.2.2 hown hK hP hD hS 0 rfl rfl 3 (by decide) (hts _ (mj_good_in ((lw_in_0 (List.mem_of_getElem? (i := 47) (by decide +kernel)))) rfl)) (fun _ h9 => h9) rfl hin rfl (mc_11.2.1 3 (by decide)) rfl rfl (Nat.le_of_ble_eq_true rfl) d_k11_25 (fun H locs hP hD hS => ?_)
  have hP : va_P Dg mj_CL [(h0, .inr (11, [.int 0, .ref q7, .ref q16, .ref q23, .null, .null, .null, .null, .null, .int 0, .null])), (q7, .inl (cI, 6, .inl (fun _ => 0))), (q16, .inl (cI, 240, .inl (fun _ => 0))), (q23, .inl (cZ, 4, .inl (fun _ => 0)))] H := hP
  have hD : va_D A [(h0, .inr (11, [.int 0, .ref q7, .ref q16, .ref q23, .null, .null, .null, .null, .null, .int 0, .null])), (q7, .inl (cI, 6, .inl (fun _ => 0))), (q16, .inl (cI, 240, .inl (fun _ => 0))), (q23, .inl (cZ, 4, .inl (fun _ => 0)))] := hD
  refine lv_aload_n hx hb d_k11_28 rfl (lv_at hl 0 rfl) ?_
  refine lv_sipush (v := 960) hx hb d_k11_29 (by decide) ?_
  refine va_newa (atype := .int) (ty := .int) (N' := 960) (a0 := (960, .inl (fun _ => 0))) hx hb (hts _ (mj_good_in ((lw_in_0 (List.mem_of_getElem? (i := 92) (by decide +kernel)))) rfl)) rfl hK hP hD hS hA (fun _ => rfl) (by decide) (by decide) (Nat.le_of_ble_eq_true rfl) (Nat.le_of_ble_eq_true rfl) (Nat.le_of_ble_eq_true rfl) d_k11_32 (fun q32 cA H hK1 hP hD hS => ?_)
  have hcA : cA = cI := mj_cA0 hK1
  rw [hcA] at hP hD
  clear hK1 hcA
  refine W.widen (k := 4) (n := 1210) (Nat.le_of_ble_eq_true rfl) (Nat.le_of_ble_eq_true rfl) ?_
  have hP : va_P Dg mj_CL [(h0, .inr (11, [.int 0, .ref q7, .ref q16, .ref q23, .null, .null, .null, .null, .null, .int 0, .null])), (q7, .inl (cI, 6, .inl (fun _ => 0))), (q16, .inl (cI, 240, .inl (fun _ => 0))), (q23, .inl (cZ, 4, .inl (fun _ => 0))), (q32, .inl (cI, 960, .inl (fun _ => 0)))] H := hP
  have hD : va_D A [(h0, .inr (11, [.int 0, .ref q7, .ref q16, .ref q23, .null, .null, .null, .null, .null, .int 0, .null])), (q7, .inl (cI, 6, .inl (fun _ => 0))), (q16, .inl (cI, 240, .inl (fun _ => 0))), (q23, .inl (cZ, 4, .inl (fun _ => 0))), (q32, .inl (cI, 960, .inl (fun _ => 0)))] := hD
  refine va_putF (D := Dg) (ci := 11) (v := .ref q32) (ty := mj_TY 11 4) (C := "UnbeatenHouse$Tale") (T := mF_11) (N := 11) hx hb hts (mj_lays mc_11.1) (mj_TY 11) mc_11.2.1 mc_11.2.2 hown hK hP hD hS 0 rfl rfl 4 (by decide) (hts _ (mj_good_in ((lw_in_0 (List.mem_of_getElem? (i := 49) (by decide +kernel)))) rfl)) (fun _ h9 => h9) rfl hin rfl (mc_11.2.1 4 (by decide)) rfl rfl (Nat.le_of_ble_eq_true rfl) d_k11_34 (fun H locs hP hD hS => ?_)
  have hP : va_P Dg mj_CL [(h0, .inr (11, [.int 0, .ref q7, .ref q16, .ref q23, .ref q32, .null, .null, .null, .null, .int 0, .null])), (q7, .inl (cI, 6, .inl (fun _ => 0))), (q16, .inl (cI, 240, .inl (fun _ => 0))), (q23, .inl (cZ, 4, .inl (fun _ => 0))), (q32, .inl (cI, 960, .inl (fun _ => 0)))] H := hP
  have hD : va_D A [(h0, .inr (11, [.int 0, .ref q7, .ref q16, .ref q23, .ref q32, .null, .null, .null, .null, .int 0, .null])), (q7, .inl (cI, 6, .inl (fun _ => 0))), (q16, .inl (cI, 240, .inl (fun _ => 0))), (q23, .inl (cZ, 4, .inl (fun _ => 0))), (q32, .inl (cI, 960, .inl (fun _ => 0)))] := hD
  refine lv_aload_n hx hb d_k11_37 rfl (lv_at hl 0 rfl) ?_
  refine lv_sipush (v := 160) hx hb d_k11_38 (by decide) ?_
  refine va_newa (atype := .int) (ty := .int) (N' := 160) (a0 := (160, .inl (fun _ => 0))) hx hb (hts _ (mj_good_in ((lw_in_0 (List.mem_of_getElem? (i := 92) (by decide +kernel)))) rfl)) rfl hK hP hD hS hA (fun _ => rfl) (by decide) (by decide) (Nat.le_of_ble_eq_true rfl) (Nat.le_of_ble_eq_true rfl) (Nat.le_of_ble_eq_true rfl) d_k11_41 (fun q41 cA H hK1 hP hD hS => ?_)
  have hcA : cA = cI := mj_cA0 hK1
  rw [hcA] at hP hD
  clear hK1 hcA
  refine W.widen (k := 5) (n := 1370) (Nat.le_of_ble_eq_true rfl) (Nat.le_of_ble_eq_true rfl) ?_
  have hP : va_P Dg mj_CL [(h0, .inr (11, [.int 0, .ref q7, .ref q16, .ref q23, .ref q32, .null, .null, .null, .null, .int 0, .null])), (q7, .inl (cI, 6, .inl (fun _ => 0))), (q16, .inl (cI, 240, .inl (fun _ => 0))), (q23, .inl (cZ, 4, .inl (fun _ => 0))), (q32, .inl (cI, 960, .inl (fun _ => 0))), (q41, .inl (cI, 160, .inl (fun _ => 0)))] H := hP
  have hD : va_D A [(h0, .inr (11, [.int 0, .ref q7, .ref q16, .ref q23, .ref q32, .null, .null, .null, .null, .int 0, .null])), (q7, .inl (cI, 6, .inl (fun _ => 0))), (q16, .inl (cI, 240, .inl (fun _ => 0))), (q23, .inl (cZ, 4, .inl (fun _ => 0))), (q32, .inl (cI, 960, .inl (fun _ => 0))), (q41, .inl (cI, 160, .inl (fun _ => 0)))] := hD
  refine va_putF (D := Dg) (ci := 11) (v := .ref q41) (ty := mj_TY 11 5) (C := "UnbeatenHouse$Tale") (T := mF_11) (N := 11) hx hb hts (mj_lays mc_11.1) (mj_TY 11) mc_11.2.1 mc_11.2.2 hown hK hP hD hS 0 rfl rfl 5 (by decide) (hts _ (mj_good_in ((lw_in_0 (List.mem_of_getElem? (i := 54) (by decide +kernel)))) rfl)) (fun _ h9 => h9) rfl hin rfl (mc_11.2.1 5 (by decide)) rfl rfl (Nat.le_of_ble_eq_true rfl) d_k11_43 (fun H locs hP hD hS => ?_)
  have hP : va_P Dg mj_CL [(h0, .inr (11, [.int 0, .ref q7, .ref q16, .ref q23, .ref q32, .ref q41, .null, .null, .null, .int 0, .null])), (q7, .inl (cI, 6, .inl (fun _ => 0))), (q16, .inl (cI, 240, .inl (fun _ => 0))), (q23, .inl (cZ, 4, .inl (fun _ => 0))), (q32, .inl (cI, 960, .inl (fun _ => 0))), (q41, .inl (cI, 160, .inl (fun _ => 0)))] H := hP
  have hD : va_D A [(h0, .inr (11, [.int 0, .ref q7, .ref q16, .ref q23, .ref q32, .ref q41, .null, .null, .null, .int 0, .null])), (q7, .inl (cI, 6, .inl (fun _ => 0))), (q16, .inl (cI, 240, .inl (fun _ => 0))), (q23, .inl (cZ, 4, .inl (fun _ => 0))), (q32, .inl (cI, 960, .inl (fun _ => 0))), (q41, .inl (cI, 160, .inl (fun _ => 0)))] := hD
  refine lv_aload_n hx hb d_k11_46 rfl (lv_at hl 0 rfl) ?_
  refine lv_bipush (v := 24) hx hb d_k11_47 (by decide) ?_
  refine va_newa (atype := .int) (ty := .int) (N' := 24) (a0 := (24, .inl (fun _ => 0))) hx hb (hts _ (mj_good_in ((lw_in_0 (List.mem_of_getElem? (i := 92) (by decide +kernel)))) rfl)) rfl hK hP hD hS hA (fun _ => rfl) (by decide) (by decide) (Nat.le_of_ble_eq_true rfl) (Nat.le_of_ble_eq_true rfl) (Nat.le_of_ble_eq_true rfl) d_k11_49 (fun q49 cA H hK1 hP hD hS => ?_)
  have hcA : cA = cI := mj_cA0 hK1
  rw [hcA] at hP hD
  clear hK1 hcA
  refine W.widen (k := 6) (n := 1394) (Nat.le_of_ble_eq_true rfl) (Nat.le_of_ble_eq_true rfl) ?_
  have hP : va_P Dg mj_CL [(h0, .inr (11, [.int 0, .ref q7, .ref q16, .ref q23, .ref q32, .ref q41, .null, .null, .null, .int 0, .null])), (q7, .inl (cI, 6, .inl (fun _ => 0))), (q16, .inl (cI, 240, .inl (fun _ => 0))), (q23, .inl (cZ, 4, .inl (fun _ => 0))), (q32, .inl (cI, 960, .inl (fun _ => 0))), (q41, .inl (cI, 160, .inl (fun _ => 0))), (q49, .inl (cI, 24, .inl (fun _ => 0)))] H := hP
  have hD : va_D A [(h0, .inr (11, [.int 0, .ref q7, .ref q16, .ref q23, .ref q32, .ref q41, .null, .null, .null, .int 0, .null])), (q7, .inl (cI, 6, .inl (fun _ => 0))), (q16, .inl (cI, 240, .inl (fun _ => 0))), (q23, .inl (cZ, 4, .inl (fun _ => 0))), (q32, .inl (cI, 960, .inl (fun _ => 0))), (q41, .inl (cI, 160, .inl (fun _ => 0))), (q49, .inl (cI, 24, .inl (fun _ => 0)))] := hD
  refine va_putF (D := Dg) (ci := 11) (v := .ref q49) (ty := mj_TY 11 6) (C := "UnbeatenHouse$Tale") (T := mF_11) (N := 11) hx hb hts (mj_lays mc_11.1) (mj_TY 11) mc_11.2.1 mc_11.2.2 hown hK hP hD hS 0 rfl rfl 6 (by decide) (hts _ (mj_good_in ((lw_in_0 (List.mem_of_getElem? (i := 58) (by decide +kernel)))) rfl)) (fun _ h9 => h9) rfl hin rfl (mc_11.2.1 6 (by decide)) rfl rfl (Nat.le_of_ble_eq_true rfl) d_k11_51 (fun H locs hP hD hS => ?_)
  have hP : va_P Dg mj_CL [(h0, .inr (11, [.int 0, .ref q7, .ref q16, .ref q23, .ref q32, .ref q41, .ref q49, .null, .null, .int 0, .null])), (q7, .inl (cI, 6, .inl (fun _ => 0))), (q16, .inl (cI, 240, .inl (fun _ => 0))), (q23, .inl (cZ, 4, .inl (fun _ => 0))), (q32, .inl (cI, 960, .inl (fun _ => 0))), (q41, .inl (cI, 160, .inl (fun _ => 0))), (q49, .inl (cI, 24, .inl (fun _ => 0)))] H := hP
  have hD : va_D A [(h0, .inr (11, [.int 0, .ref q7, .ref q16, .ref q23, .ref q32, .ref q41, .ref q49, .null, .null, .int 0, .null])), (q7, .inl (cI, 6, .inl (fun _ => 0))), (q16, .inl (cI, 240, .inl (fun _ => 0))), (q23, .inl (cZ, 4, .inl (fun _ => 0))), (q32, .inl (cI, 960, .inl (fun _ => 0))), (q41, .inl (cI, 160, .inl (fun _ => 0))), (q49, .inl (cI, 24, .inl (fun _ => 0)))] := hD
  refine lv_aload_n hx hb d_k11_54 rfl (lv_at hl 0 rfl) ?_
  refine lv_bipush (v := 24) hx hb d_k11_55 (by decide) ?_
  refine va_newa (atype := .int) (ty := .int) (N' := 24) (a0 := (24, .inl (fun _ => 0))) hx hb (hts _ (mj_good_in ((lw_in_0 (List.mem_of_getElem? (i := 92) (by decide +kernel)))) rfl)) rfl hK hP hD hS hA (fun _ => rfl) (by decide) (by decide) (Nat.le_of_ble_eq_true rfl) (Nat.le_of_ble_eq_true rfl) (Nat.le_of_ble_eq_true rfl) d_k11_57 (fun q57 cA H hK1 hP hD hS => ?_)
  have hcA : cA = cI := mj_cA0 hK1
  rw [hcA] at hP hD
  clear hK1 hcA
  refine W.widen (k := 7) (n := 1418) (Nat.le_of_ble_eq_true rfl) (Nat.le_of_ble_eq_true rfl) ?_
  obtain ⟨hP, hD⟩ : (fun w : va_W => va_P Dg mj_CL w H ∧ va_D A w) [(h0, Sum.inr (11, [kz0, Value.ref q7, Value.ref q16, Value.ref q23, Value.ref q32, Value.ref q41, Value.ref q49, kzn, kzn, kz0, kzn])), kaI q7 cI 6, kaI q16 cI 240, kaI q23 cZ 4, kaI q32 cI 960, kaI q41 cI 160, kaI q49 cI 24, kaI q57 cI 24] := ⟨hP, hD⟩
  refine va_putF (D := Dg) (ci := 11) (v := .ref q57) (ty := mj_TY 11 7) (C := "UnbeatenHouse$Tale") (T := mF_11) (N := 11) hx hb hts (mj_lays mc_11.1) (mj_TY 11) mc_11.2.1 mc_11.2.2 hown hK hP hD hS 0 rfl rfl 7 (by decide) (hts _ (mj_good_in ((lw_in_0 (List.mem_of_getElem? (i := 61) (by decide +kernel)))) rfl)) (fun _ h9 => h9) rfl hin rfl (mc_11.2.1 7 (by decide)) rfl rfl (Nat.le_of_ble_eq_true rfl) d_k11_59 (fun H locs hP hD hS => ?_)
  obtain ⟨hP, hD⟩ : (fun w : va_W => va_P Dg mj_CL w H ∧ va_D A w) [(h0, Sum.inr (11, [kz0, Value.ref q7, Value.ref q16, Value.ref q23, Value.ref q32, Value.ref q41, Value.ref q49, Value.ref q57, kzn, kz0, kzn])), kaI q7 cI 6, kaI q16 cI 240, kaI q23 cZ 4, kaI q32 cI 960, kaI q41 cI 160, kaI q49 cI 24, kaI q57 cI 24] := ⟨hP, hD⟩
  refine lv_aload_n hx hb d_k11_62 rfl (lv_at hl 0 rfl) ?_
  refine lv_sipush (v := 900) hx hb d_k11_63 (by decide) ?_
  refine va_newa (atype := .int) (ty := .int) (N' := 900) (a0 := (900, .inl (fun _ => 0))) hx hb (hts _ (mj_good_in ((lw_in_0 (List.mem_of_getElem? (i := 92) (by decide +kernel)))) rfl)) rfl hK hP hD hS hA (fun _ => rfl) (by decide) (by decide) (Nat.le_of_ble_eq_true rfl) (Nat.le_of_ble_eq_true rfl) (Nat.le_of_ble_eq_true rfl) d_k11_66 (fun q66 cA H hK1 hP hD hS => ?_)
  have hcA : cA = cI := mj_cA0 hK1
  rw [hcA] at hP hD
  clear hK1 hcA
  refine W.widen (k := 8) (n := 2318) (Nat.le_of_ble_eq_true rfl) (Nat.le_of_ble_eq_true rfl) ?_
  obtain ⟨hP, hD⟩ : (fun w : va_W => va_P Dg mj_CL w H ∧ va_D A w) [(h0, Sum.inr (11, [kz0, Value.ref q7, Value.ref q16, Value.ref q23, Value.ref q32, Value.ref q41, Value.ref q49, Value.ref q57, kzn, kz0, kzn])), kaI q7 cI 6, kaI q16 cI 240, kaI q23 cZ 4, kaI q32 cI 960, kaI q41 cI 160, kaI q49 cI 24, kaI q57 cI 24, kaI q66 cI 900] := ⟨hP, hD⟩
  refine va_putF (D := Dg) (ci := 11) (v := .ref q66) (ty := mj_TY 11 8) (C := "UnbeatenHouse$Tale") (T := mF_11) (N := 11) hx hb hts (mj_lays mc_11.1) (mj_TY 11) mc_11.2.1 mc_11.2.2 hown hK hP hD hS 0 rfl rfl 8 (by decide) (hts _ (mj_good_in ((lw_in_0 (List.mem_of_getElem? (i := 64) (by decide +kernel)))) rfl)) (fun _ h9 => h9) rfl hin rfl (mc_11.2.1 8 (by decide)) rfl rfl (Nat.le_of_ble_eq_true rfl) d_k11_68 (fun H locs hP hD hS => ?_)
  obtain ⟨hP, hD⟩ : (fun w : va_W => va_P Dg mj_CL w H ∧ va_D A w) [(h0, Sum.inr (11, [kz0, Value.ref q7, Value.ref q16, Value.ref q23, Value.ref q32, Value.ref q41, Value.ref q49, Value.ref q57, Value.ref q66, kz0, kzn])), kaI q7 cI 6, kaI q16 cI 240, kaI q23 cZ 4, kaI q32 cI 960, kaI q41 cI 160, kaI q49 cI 24, kaI q57 cI 24, kaI q66 cI 900] := ⟨hP, hD⟩
  refine lv_aload_n hx hb d_k11_71 rfl (lv_at hl 0 rfl) ?_
  refine lv_bipush (v := 12) hx hb d_k11_72 (by decide) ?_
  refine va_newa (atype := .int) (ty := .int) (N' := 12) (a0 := (12, .inl (fun _ => 0))) hx hb (hts _ (mj_good_in ((lw_in_0 (List.mem_of_getElem? (i := 92) (by decide +kernel)))) rfl)) rfl hK hP hD hS hA (fun _ => rfl) (by decide) (by decide) (Nat.le_of_ble_eq_true rfl) (Nat.le_of_ble_eq_true rfl) (Nat.le_of_ble_eq_true rfl) d_k11_74 (fun q74 cA H hK1 hP hD hS => ?_)
  have hcA : cA = cI := mj_cA0 hK1
  rw [hcA] at hP hD
  clear hK1 hcA
  refine W.widen (k := 9) (n := 2330) (Nat.le_of_ble_eq_true rfl) (Nat.le_of_ble_eq_true rfl) ?_
  obtain ⟨hP, hD⟩ : (fun w : va_W => va_P Dg mj_CL w H ∧ va_D A w) [(h0, Sum.inr (11, [kz0, Value.ref q7, Value.ref q16, Value.ref q23, Value.ref q32, Value.ref q41, Value.ref q49, Value.ref q57, Value.ref q66, kz0, kzn])), kaI q7 cI 6, kaI q16 cI 240, kaI q23 cZ 4, kaI q32 cI 960, kaI q41 cI 160, kaI q49 cI 24, kaI q57 cI 24, kaI q66 cI 900, kaI q74 cI 12] := ⟨hP, hD⟩
  refine va_putF (D := Dg) (ci := 11) (v := .ref q74) (ty := mj_TY 11 10) (C := "UnbeatenHouse$Tale") (T := mF_11) (N := 11) hx hb hts (mj_lays mc_11.1) (mj_TY 11) mc_11.2.1 mc_11.2.2 hown hK hP hD hS 0 rfl rfl 10 (by decide) (hts _ (mj_good_in ((lw_in_0 (List.mem_of_getElem? (i := 67) (by decide +kernel)))) rfl)) (fun _ h9 => h9) rfl hin rfl (mc_11.2.1 10 (by decide)) rfl rfl (Nat.le_of_ble_eq_true rfl) d_k11_76 (fun H locs hP hD hS => ?_)
  obtain ⟨hP, hD⟩ : (fun w : va_W => va_P Dg mj_CL w H ∧ va_D A w) [(h0, Sum.inr (11, [kz0, Value.ref q7, Value.ref q16, Value.ref q23, Value.ref q32, Value.ref q41, Value.ref q49, Value.ref q57, Value.ref q66, kz0, Value.ref q74])), kaI q7 cI 6, kaI q16 cI 240, kaI q23 cZ 4, kaI q32 cI 960, kaI q41 cI 160, kaI q49 cI 24, kaI q57 cI 24, kaI q66 cI 900, kaI q74 cI 12] := ⟨hP, hD⟩
  refine W.widen (k := 9) (n := 2330) (Nat.le_of_ble_eq_true rfl) (Nat.le_of_ble_eq_true rfl) ?_
  exact W.vret hx hb hr (fun t ht hW => ⟨⟨(), rfl, trivial, q7, q16, q23, q32, q41, q49, q57, q66, q74, by rw [ht]; exact hP, hD⟩, hS.F ht⟩) hS.2.2 d_k11_79
def mm_k9 : mj_M := (⟨"UnbeatenHouse$Rows", "<init>", "()V"⟩, prog_9_method_1_code, 1, none)
set_option maxRecDepth 100000 in
theorem my_k9 : mj_okY lw_tbl mm_k9 := ⟨(lw_in_0 (List.mem_of_getElem? (i := 188) rfl)), (lw_in_0 (List.mem_of_getElem? (i := 8) (by decide +kernel))), by decide, plainFor_of_name (by decide +kernel), by decide +kernel, by decide +kernel⟩
theorem dg_k9_0 : (decode prog_9_method_1_code 0 = .ok (.aload_n 0, 1)) ∧ (decode prog_9_method_1_code 1 = .ok (.invokespecial 3, 3)) ∧ (decode prog_9_method_1_code 4 = .ok (.aload_n 0, 1)) ∧ (decode prog_9_method_1_code 5 = .ok (.sipush 160, 3)) ∧ (decode prog_9_method_1_code 8 = .ok (.newarray .int, 2)) ∧ (decode prog_9_method_1_code 10 = .ok (.putfield 9, 3)) ∧ (decode prog_9_method_1_code 13 = .ok (.aload_n 0, 1)) ∧ (decode prog_9_method_1_code 14 = .ok (.sipush 160, 3)) ∧ (decode prog_9_method_1_code 17 = .ok (.newarray .int, 2)) ∧ (decode prog_9_method_1_code 19 = .ok (.putfield 15, 3)) ∧ (decode prog_9_method_1_code 22 = .ok (.aload_n 0, 1)) ∧ (decode prog_9_method_1_code 23 = .ok (.sipush 160, 3)) ∧ (decode prog_9_method_1_code 26 = .ok (.newarray .int, 2)) ∧ (decode prog_9_method_1_code 28 = .ok (.putfield 18, 3)) ∧ (decode prog_9_method_1_code 31 = .ok (.aload_n 0, 1)) ∧ (decode prog_9_method_1_code 32 = .ok (.bipush 40, 2)) ∧ True := fd_of (cc := prog_9_method_1_code) [(0, .aload_n 0, 1), (1, .invokespecial 3, 3), (4, .aload_n 0, 1), (5, .sipush 160, 3), (8, .newarray .int, 2), (10, .putfield 9, 3), (13, .aload_n 0, 1), (14, .sipush 160, 3), (17, .newarray .int, 2), (19, .putfield 15, 3), (22, .aload_n 0, 1), (23, .sipush 160, 3), (26, .newarray .int, 2), (28, .putfield 18, 3), (31, .aload_n 0, 1), (32, .bipush 40, 2)] (by decide +kernel)
theorem d_k9_0 : decode prog_9_method_1_code 0 = .ok (.aload_n 0, 1) := dg_k9_0.1
theorem d_k9_1 : decode prog_9_method_1_code 1 = .ok (.invokespecial 3, 3) := dg_k9_0.2.1
theorem d_k9_4 : decode prog_9_method_1_code 4 = .ok (.aload_n 0, 1) := dg_k9_0.2.2.1
theorem d_k9_5 : decode prog_9_method_1_code 5 = .ok (.sipush 160, 3) := dg_k9_0.2.2.2.1
theorem d_k9_8 : decode prog_9_method_1_code 8 = .ok (.newarray .int, 2) := dg_k9_0.2.2.2.2.1
theorem d_k9_10 : decode prog_9_method_1_code 10 = .ok (.putfield 9, 3) := dg_k9_0.2.2.2.2.2.1
theorem d_k9_13 : decode prog_9_method_1_code 13 = .ok (.aload_n 0, 1) := dg_k9_0.2.2.2.2.2.2.1
theorem d_k9_14 : decode prog_9_method_1_code 14 = .ok (.sipush 160, 3) := dg_k9_0.2.2.2.2.2.2.2.1
theorem d_k9_17 : decode prog_9_method_1_code 17 = .ok (.newarray .int, 2) := dg_k9_0.2.2.2.2.2.2.2.2.1
theorem d_k9_19 : decode prog_9_method_1_code 19 = .ok (.putfield 15, 3) := dg_k9_0.2.2.2.2.2.2.2.2.2.1
theorem d_k9_22 : decode prog_9_method_1_code 22 = .ok (.aload_n 0, 1) := dg_k9_0.2.2.2.2.2.2.2.2.2.2.1
theorem d_k9_23 : decode prog_9_method_1_code 23 = .ok (.sipush 160, 3) := dg_k9_0.2.2.2.2.2.2.2.2.2.2.2.1
theorem d_k9_26 : decode prog_9_method_1_code 26 = .ok (.newarray .int, 2) := dg_k9_0.2.2.2.2.2.2.2.2.2.2.2.2.1
theorem d_k9_28 : decode prog_9_method_1_code 28 = .ok (.putfield 18, 3) := dg_k9_0.2.2.2.2.2.2.2.2.2.2.2.2.2.1
theorem d_k9_31 : decode prog_9_method_1_code 31 = .ok (.aload_n 0, 1) := dg_k9_0.2.2.2.2.2.2.2.2.2.2.2.2.2.2.1
theorem d_k9_32 : decode prog_9_method_1_code 32 = .ok (.bipush 40, 2) := dg_k9_0.2.2.2.2.2.2.2.2.2.2.2.2.2.2.2.1
theorem dg_k9_34 : (decode prog_9_method_1_code 34 = .ok (.newarray .int, 2)) ∧ (decode prog_9_method_1_code 36 = .ok (.putfield 21, 3)) ∧ (decode prog_9_method_1_code 39 = .ok (.return_, 1)) ∧ True := fd_of (cc := prog_9_method_1_code) [(34, .newarray .int, 2), (36, .putfield 21, 3), (39, .return_, 1)] (by decide +kernel)
theorem d_k9_34 : decode prog_9_method_1_code 34 = .ok (.newarray .int, 2) := dg_k9_34.1
theorem d_k9_36 : decode prog_9_method_1_code 36 = .ok (.putfield 21, 3) := dg_k9_34.2.1
theorem d_k9_39 : decode prog_9_method_1_code 39 = .ok (.return_, 1) := dg_k9_34.2.2.1
/-- a new UnbeatenHouse$Rows -/
abbrev at_k9 (Dg : va_G) (cI cJ cZ : Nat) (A : Nat → Prop) (h0 : Nat) (_ : Unit) (t : State) : Prop := ∃ (z1 z2 z3 z4 : Nat), va_P Dg mj_CL [(h0, .inr (9, [.int 0, .int 0, .ref z1, .ref z2, .ref z3, .long 0, .long 0, .ref z4])), (z1, .inl (cI, 160, .inl (fun _ => 0))), (z2, .inl (cI, 160, .inl (fun _ => 0))), (z3, .inl (cI, 160, .inl (fun _ => 0))), (z4, .inl (cI, 40, .inl (fun _ => 0)))] t.heap ∧ va_D A [(h0, .inr (9, [.int 0, .int 0, .ref z1, .ref z2, .ref z3, .long 0, .long 0, .ref z4])), (z1, .inl (cI, 160, .inl (fun _ => 0))), (z2, .inl (cI, 160, .inl (fun _ => 0))), (z3, .inl (cI, 160, .inl (fun _ => 0))), (z4, .inl (cI, 40, .inl (fun _ => 0)))]
set_option maxHeartbeats 8000000 in
set_option maxRecDepth 100000 in
theorem c_k9 (l : Launch) (Dg : va_G) (cI cJ cZ : Nat) (h0 sz : Nat) : Met l mm_k9.1 (mj_ws lw_tbl mm_k9) ({ frames := 1, cells := 4, slots := 520, locals := 12 }) (mj_kPc Dg cI cJ cZ h0 [(h0, .inr (9, [.int 0, .int 0, .null, .null, .null, .long 0, .long 0, .null]))] sz) (va_Qv (fun _ : Unit => True) (at_k9 Dg cI cJ cZ (va_A [(h0, .inr (9, [.int 0, .int 0, .null, .null, .null, .long 0, .long 0, .null]))] sz) h0) (va_A [(h0, .inr (9, [.int 0, .int 0, .null, .null, .null, .long 0, .long 0, .null]))] sz)) 4 520 (va_A [(h0, .inr (9, [.int 0, .int 0, .null, .null, .null, .long 0, .long 0, .null]))] sz) := by
  refine Met.ofW (cc := prog_9_method_1_code) (maxL := 1) (ret := none) (by decide) rfl ?_
  intro p e s m args below meth c s₁ B hml hv
  obtain ⟨rfl, hsz, hP, hK, hD0, hN⟩ := hv
  have hx := B.exec
  have hb := B.bytes
  have hr := B.returns
  have hts0 := atoms_spec (ws := mj_ws lw_tbl mm_k9) B.pre
  have hts : ∀ w ∈ lw_tbl.filter goodWord, w.before _ s = true := fun w hw => hts0 w (List.mem_cons_of_mem _ hw)
  have hown : s.vm.findClass "UnbeatenHouse$Rows" = some m.cls := findClass_of_methodNamed B.named
  have hlocks := B.notSynchronized
  have hin : meth.name = "<init>" := (name_of_methodNamed B.named B.method).1
  subst hsz
  have hD := hD0.self (sz := s.heap.size)
  generalize hAe : va_A [(h0, .inr (9, [.int 0, .int 0, .null, .null, .null, .long 0, .long 0, .null]))] s.heap.size = A at hD ⊢
  have hA : ∀ q : Nat, s.heap.size ≤ q → A q := fun q h => by rw [← hAe]; exact Or.inr h
  have hS : va_S A s.heap s.heap [] := va_S.rf
  have hP : va_P Dg mj_CL [(h0, .inr (9, [.int 0, .int 0, .null, .null, .null, .long 0, .long 0, .null]))] s.heap := hP
  have hl := lv_entry ([.ref h0]) (n := 1) (Nat.le_of_ble_eq_true rfl)
  rw [lg_entry_eq]
  generalize (lg_sl ([.ref h0]) ++ List.replicate (1 - (lg_sl ([.ref h0])).length) Slot.unset).toArray = ls at hl ⊢
  have hl : lv_has ls 1 [(0, .ref h0)] := hl
  show W p l e ({ frames := 1, cells := 4, slots := 520, locals := 12 } : Room) s m _ below meth c s.heap [] 0 0 _ _
  refine lv_aload_n hx hb d_k9_0 rfl (lv_at hl 0 rfl) ?_
  refine W.objInit hx hb hown (hts _ (mj_good_in ((lw_in_0 (List.mem_of_getElem? (i := 189) (by decide +kernel)))) rfl)) (hts _ (mj_good_in ((lw_in_0 (List.mem_of_getElem? (i := 28) (by decide +kernel)))) rfl)) (hts _ (mj_good_in ((lw_in_0 (List.mem_of_getElem? (i := 29) (by decide +kernel)))) rfl)) rfl (by rw [hml]; exact hl.1) rfl d_k9_1 (Nat.le_of_ble_eq_true rfl) (Nat.le_of_ble_eq_true rfl) ?_
  refine W.eq (g2 := F0 m 4 ls []) rfl ?_
  refine lv_aload_n hx hb d_k9_4 rfl (lv_at hl 0 rfl) ?_
  refine lv_sipush (v := 160) hx hb d_k9_5 (by decide) ?_
  refine va_newa (atype := .int) (ty := .int) (N' := 160) (a0 := (160, .inl (fun _ => 0))) hx hb (hts _ (mj_good_in ((lw_in_0 (List.mem_of_getElem? (i := 92) (by decide +kernel)))) rfl)) rfl hK hP hD hS hA (fun _ => rfl) (by decide) (by decide) (Nat.le_of_ble_eq_true rfl) (Nat.le_of_ble_eq_true rfl) (Nat.le_of_ble_eq_true rfl) d_k9_8 (fun q8 cA H hK1 hP hD hS => ?_)
  have hcA : cA = cI := mj_cA0 hK1
  rw [hcA] at hP hD
  clear hK1 hcA
  refine W.widen (k := 1) (n := 160) (Nat.le_of_ble_eq_true rfl) (Nat.le_of_ble_eq_true rfl) ?_
  have hP : va_P Dg mj_CL [(h0, .inr (9, [.int 0, .int 0, .null, .null, .null, .long 0, .long 0, .null])), (q8, .inl (cI, 160, .inl (fun _ => 0)))] H := hP
  have hD : va_D A [(h0, .inr (9, [.int 0, .int 0, .null, .null, .null, .long 0, .long 0, .null])), (q8, .inl (cI, 160, .inl (fun _ => 0)))] := hD
  refine va_putF (D := Dg) (ci := 9) (v := .ref q8) (ty := mj_TY 9 2) (C := "UnbeatenHouse$Rows") (T := mF_9) (N := 8) hx hb hts (mj_lays mc_9.1) (mj_TY 9) mc_9.2.1 mc_9.2.2 hown hK hP hD hS 0 rfl rfl 2 (by decide) (hts _ (mj_good_in ((lw_in_0 (List.mem_of_getElem? (i := 195) (by decide +kernel)))) rfl)) (fun _ h9 => h9) rfl hin rfl (mc_9.2.1 2 (by decide)) rfl rfl (Nat.le_of_ble_eq_true rfl) d_k9_10 (fun H locs hP hD hS => ?_)
  have hP : va_P Dg mj_CL [(h0, .inr (9, [.int 0, .int 0, .ref q8, .null, .null, .long 0, .long 0, .null])), (q8, .inl (cI, 160, .inl (fun _ => 0)))] H := hP
  have hD : va_D A [(h0, .inr (9, [.int 0, .int 0, .ref q8, .null, .null, .long 0, .long 0, .null])), (q8, .inl (cI, 160, .inl (fun _ => 0)))] := hD
  refine lv_aload_n hx hb d_k9_13 rfl (lv_at hl 0 rfl) ?_
  refine lv_sipush (v := 160) hx hb d_k9_14 (by decide) ?_
  refine va_newa (atype := .int) (ty := .int) (N' := 160) (a0 := (160, .inl (fun _ => 0))) hx hb (hts _ (mj_good_in ((lw_in_0 (List.mem_of_getElem? (i := 92) (by decide +kernel)))) rfl)) rfl hK hP hD hS hA (fun _ => rfl) (by decide) (by decide) (Nat.le_of_ble_eq_true rfl) (Nat.le_of_ble_eq_true rfl) (Nat.le_of_ble_eq_true rfl) d_k9_17 (fun q17 cA H hK1 hP hD hS => ?_)
  have hcA : cA = cI := mj_cA0 hK1
  rw [hcA] at hP hD
  clear hK1 hcA
  refine W.widen (k := 2) (n := 320) (Nat.le_of_ble_eq_true rfl) (Nat.le_of_ble_eq_true rfl) ?_
  have hP : va_P Dg mj_CL [(h0, .inr (9, [.int 0, .int 0, .ref q8, .null, .null, .long 0, .long 0, .null])), (q8, .inl (cI, 160, .inl (fun _ => 0))), (q17, .inl (cI, 160, .inl (fun _ => 0)))] H := hP
  have hD : va_D A [(h0, .inr (9, [.int 0, .int 0, .ref q8, .null, .null, .long 0, .long 0, .null])), (q8, .inl (cI, 160, .inl (fun _ => 0))), (q17, .inl (cI, 160, .inl (fun _ => 0)))] := hD
  refine va_putF (D := Dg) (ci := 9) (v := .ref q17) (ty := mj_TY 9 3) (C := "UnbeatenHouse$Rows") (T := mF_9) (N := 8) hx hb hts (mj_lays mc_9.1) (mj_TY 9) mc_9.2.1 mc_9.2.2 hown hK hP hD hS 0 rfl rfl 3 (by decide) (hts _ (mj_good_in ((lw_in_0 (List.mem_of_getElem? (i := 198) (by decide +kernel)))) rfl)) (fun _ h9 => h9) rfl hin rfl (mc_9.2.1 3 (by decide)) rfl rfl (Nat.le_of_ble_eq_true rfl) d_k9_19 (fun H locs hP hD hS => ?_)
  have hP : va_P Dg mj_CL [(h0, .inr (9, [.int 0, .int 0, .ref q8, .ref q17, .null, .long 0, .long 0, .null])), (q8, .inl (cI, 160, .inl (fun _ => 0))), (q17, .inl (cI, 160, .inl (fun _ => 0)))] H := hP
  have hD : va_D A [(h0, .inr (9, [.int 0, .int 0, .ref q8, .ref q17, .null, .long 0, .long 0, .null])), (q8, .inl (cI, 160, .inl (fun _ => 0))), (q17, .inl (cI, 160, .inl (fun _ => 0)))] := hD
  refine lv_aload_n hx hb d_k9_22 rfl (lv_at hl 0 rfl) ?_
  refine lv_sipush (v := 160) hx hb d_k9_23 (by decide) ?_
  refine va_newa (atype := .int) (ty := .int) (N' := 160) (a0 := (160, .inl (fun _ => 0))) hx hb (hts _ (mj_good_in ((lw_in_0 (List.mem_of_getElem? (i := 92) (by decide +kernel)))) rfl)) rfl hK hP hD hS hA (fun _ => rfl) (by decide) (by decide) (Nat.le_of_ble_eq_true rfl) (Nat.le_of_ble_eq_true rfl) (Nat.le_of_ble_eq_true rfl) d_k9_26 (fun q26 cA H hK1 hP hD hS => ?_)
  have hcA : cA = cI := mj_cA0 hK1
  rw [hcA] at hP hD
  clear hK1 hcA
  refine W.widen (k := 3) (n := 480) (Nat.le_of_ble_eq_true rfl) (Nat.le_of_ble_eq_true rfl) ?_
  have hP : va_P Dg mj_CL [(h0, .inr (9, [.int 0, .int 0, .ref q8, .ref q17, .null, .long 0, .long 0, .null])), (q8, .inl (cI, 160, .inl (fun _ => 0))), (q17, .inl (cI, 160, .inl (fun _ => 0))), (q26, .inl (cI, 160, .inl (fun _ => 0)))] H := hP
  have hD : va_D A [(h0, .inr (9, [.int 0, .int 0, .ref q8, .ref q17, .null, .long 0, .long 0, .null])), (q8, .inl (cI, 160, .inl (fun _ => 0))), (q17, .inl (cI, 160, .inl (fun _ => 0))), (q26, .inl (cI, 160, .inl (fun _ => 0)))] := hD
  refine va_putF (D := Dg) (ci := 9) (v := .ref q26) (ty := mj_TY 9 4) (C := "UnbeatenHouse$Rows") (T := mF_9) (N := 8) hx hb hts (mj_lays mc_9.1) (mj_TY 9) mc_9.2.1 mc_9.2.2 hown hK hP hD hS 0 rfl rfl 4 (by decide) (hts _ (mj_good_in ((lw_in_0 (List.mem_of_getElem? (i := 200) (by decide +kernel)))) rfl)) (fun _ h9 => h9) rfl hin rfl (mc_9.2.1 4 (by decide)) rfl rfl (Nat.le_of_ble_eq_true rfl) d_k9_28 (fun H locs hP hD hS => ?_)
  have hP : va_P Dg mj_CL [(h0, .inr (9, [.int 0, .int 0, .ref q8, .ref q17, .ref q26, .long 0, .long 0, .null])), (q8, .inl (cI, 160, .inl (fun _ => 0))), (q17, .inl (cI, 160, .inl (fun _ => 0))), (q26, .inl (cI, 160, .inl (fun _ => 0)))] H := hP
  have hD : va_D A [(h0, .inr (9, [.int 0, .int 0, .ref q8, .ref q17, .ref q26, .long 0, .long 0, .null])), (q8, .inl (cI, 160, .inl (fun _ => 0))), (q17, .inl (cI, 160, .inl (fun _ => 0))), (q26, .inl (cI, 160, .inl (fun _ => 0)))] := hD
  refine lv_aload_n hx hb d_k9_31 rfl (lv_at hl 0 rfl) ?_
  refine lv_bipush (v := 40) hx hb d_k9_32 (by decide) ?_
  refine va_newa (atype := .int) (ty := .int) (N' := 40) (a0 := (40, .inl (fun _ => 0))) hx hb (hts _ (mj_good_in ((lw_in_0 (List.mem_of_getElem? (i := 92) (by decide +kernel)))) rfl)) rfl hK hP hD hS hA (fun _ => rfl) (by decide) (by decide) (Nat.le_of_ble_eq_true rfl) (Nat.le_of_ble_eq_true rfl) (Nat.le_of_ble_eq_true rfl) d_k9_34 (fun q34 cA H hK1 hP hD hS => ?_)
  have hcA : cA = cI := mj_cA0 hK1
  rw [hcA] at hP hD
  clear hK1 hcA
  refine W.widen (k := 4) (n := 520) (Nat.le_of_ble_eq_true rfl) (Nat.le_of_ble_eq_true rfl) ?_
  have hP : va_P Dg mj_CL [(h0, .inr (9, [.int 0, .int 0, .ref q8, .ref q17, .ref q26, .long 0, .long 0, .null])), (q8, .inl (cI, 160, .inl (fun _ => 0))), (q17, .inl (cI, 160, .inl (fun _ => 0))), (q26, .inl (cI, 160, .inl (fun _ => 0))), (q34, .inl (cI, 40, .inl (fun _ => 0)))] H := hP
  have hD : va_D A [(h0, .inr (9, [.int 0, .int 0, .ref q8, .ref q17, .ref q26, .long 0, .long 0, .null])), (q8, .inl (cI, 160, .inl (fun _ => 0))), (q17, .inl (cI, 160, .inl (fun _ => 0))), (q26, .inl (cI, 160, .inl (fun _ => 0))), (q34, .inl (cI, 40, .inl (fun _ => 0)))] := hD
  refine va_putF (D := Dg) (ci := 9) (v := .ref q34) (ty := mj_TY 9 7) (C := "UnbeatenHouse$Rows") (T := mF_9) (N := 8) hx hb hts (mj_lays mc_9.1) (mj_TY 9) mc_9.2.1 mc_9.2.2 hown hK hP hD hS 0 rfl rfl 7 (by decide) (hts _ (mj_good_in ((lw_in_0 (List.mem_of_getElem? (i := 207) (by decide +kernel)))) rfl)) (fun _ h9 => h9) rfl hin rfl (mc_9.2.1 7 (by decide)) rfl rfl (Nat.le_of_ble_eq_true rfl) d_k9_36 (fun H locs hP hD hS => ?_)
  have hP : va_P Dg mj_CL [(h0, .inr (9, [.int 0, .int 0, .ref q8, .ref q17, .ref q26, .long 0, .long 0, .ref q34])), (q8, .inl (cI, 160, .inl (fun _ => 0))), (q17, .inl (cI, 160, .inl (fun _ => 0))), (q26, .inl (cI, 160, .inl (fun _ => 0))), (q34, .inl (cI, 40, .inl (fun _ => 0)))] H := hP
  have hD : va_D A [(h0, .inr (9, [.int 0, .int 0, .ref q8, .ref q17, .ref q26, .long 0, .long 0, .ref q34])), (q8, .inl (cI, 160, .inl (fun _ => 0))), (q17, .inl (cI, 160, .inl (fun _ => 0))), (q26, .inl (cI, 160, .inl (fun _ => 0))), (q34, .inl (cI, 40, .inl (fun _ => 0)))] := hD
  refine W.widen (k := 4) (n := 520) (Nat.le_of_ble_eq_true rfl) (Nat.le_of_ble_eq_true rfl) ?_
  exact W.vret hx hb hr (fun t ht hW => ⟨⟨(), rfl, trivial, q8, q17, q26, q34, by rw [ht]; exact hP, hD⟩, hS.F ht⟩) hS.2.2 d_k9_39
def mm_k7 : mj_M := (⟨"UnbeatenHouse$Pool", "<init>", "()V"⟩, prog_7_method_1_code, 1, none)
set_option maxRecDepth 100000 in
theorem my_k7 : mj_okY lw_tbl mm_k7 := ⟨(lw_in_0 (List.mem_of_getElem? (i := 230) rfl)), (lw_in_0 (List.mem_of_getElem? (i := 9) (by decide +kernel))), by decide, plainFor_of_name (by decide +kernel), by decide +kernel, by decide +kernel⟩
theorem dg_k7_0 : (decode prog_7_method_1_code 0 = .ok (.aload_n 0, 1)) ∧ (decode prog_7_method_1_code 1 = .ok (.invokespecial 3, 3)) ∧ (decode prog_7_method_1_code 4 = .ok (.aload_n 0, 1)) ∧ (decode prog_7_method_1_code 5 = .ok (.sipush 26244, 3)) ∧ (decode prog_7_method_1_code 8 = .ok (.newarray .int, 2)) ∧ (decode prog_7_method_1_code 10 = .ok (.putfield 9, 3)) ∧ (decode prog_7_method_1_code 13 = .ok (.aload_n 0, 1)) ∧ (decode prog_7_method_1_code 14 = .ok (.sipush 6561, 3)) ∧ (decode prog_7_method_1_code 17 = .ok (.newarray .long, 2)) ∧ (decode prog_7_method_1_code 19 = .ok (.putfield 15, 3)) ∧ (decode prog_7_method_1_code 22 = .ok (.aload_n 0, 1)) ∧ (decode prog_7_method_1_code 23 = .ok (.sipush 6561, 3)) ∧ (decode prog_7_method_1_code 26 = .ok (.newarray .int, 2)) ∧ (decode prog_7_method_1_code 28 = .ok (.putfield 19, 3)) ∧ (decode prog_7_method_1_code 31 = .ok (.return_, 1)) ∧ True := fd_of (cc := prog_7_method_1_code) [(0, .aload_n 0, 1), (1, .invokespecial 3, 3), (4, .aload_n 0, 1), (5, .sipush 26244, 3), (8, .newarray .int, 2), (10, .putfield 9, 3), (13, .aload_n 0, 1), (14, .sipush 6561, 3), (17, .newarray .long, 2), (19, .putfield 15, 3), (22, .aload_n 0, 1), (23, .sipush 6561, 3), (26, .newarray .int, 2), (28, .putfield 19, 3), (31, .return_, 1)] (by decide +kernel)
theorem d_k7_0 : decode prog_7_method_1_code 0 = .ok (.aload_n 0, 1) := dg_k7_0.1
theorem d_k7_1 : decode prog_7_method_1_code 1 = .ok (.invokespecial 3, 3) := dg_k7_0.2.1
theorem d_k7_4 : decode prog_7_method_1_code 4 = .ok (.aload_n 0, 1) := dg_k7_0.2.2.1
theorem d_k7_5 : decode prog_7_method_1_code 5 = .ok (.sipush 26244, 3) := dg_k7_0.2.2.2.1
theorem d_k7_8 : decode prog_7_method_1_code 8 = .ok (.newarray .int, 2) := dg_k7_0.2.2.2.2.1
theorem d_k7_10 : decode prog_7_method_1_code 10 = .ok (.putfield 9, 3) := dg_k7_0.2.2.2.2.2.1
theorem d_k7_13 : decode prog_7_method_1_code 13 = .ok (.aload_n 0, 1) := dg_k7_0.2.2.2.2.2.2.1
theorem d_k7_14 : decode prog_7_method_1_code 14 = .ok (.sipush 6561, 3) := dg_k7_0.2.2.2.2.2.2.2.1
theorem d_k7_17 : decode prog_7_method_1_code 17 = .ok (.newarray .long, 2) := dg_k7_0.2.2.2.2.2.2.2.2.1
theorem d_k7_19 : decode prog_7_method_1_code 19 = .ok (.putfield 15, 3) := dg_k7_0.2.2.2.2.2.2.2.2.2.1
theorem d_k7_22 : decode prog_7_method_1_code 22 = .ok (.aload_n 0, 1) := dg_k7_0.2.2.2.2.2.2.2.2.2.2.1
theorem d_k7_23 : decode prog_7_method_1_code 23 = .ok (.sipush 6561, 3) := dg_k7_0.2.2.2.2.2.2.2.2.2.2.2.1
theorem d_k7_26 : decode prog_7_method_1_code 26 = .ok (.newarray .int, 2) := dg_k7_0.2.2.2.2.2.2.2.2.2.2.2.2.1
theorem d_k7_28 : decode prog_7_method_1_code 28 = .ok (.putfield 19, 3) := dg_k7_0.2.2.2.2.2.2.2.2.2.2.2.2.2.1
theorem d_k7_31 : decode prog_7_method_1_code 31 = .ok (.return_, 1) := dg_k7_0.2.2.2.2.2.2.2.2.2.2.2.2.2.2.1
/-- a new UnbeatenHouse$Pool -/
abbrev at_k7 (Dg : va_G) (cI cJ cZ : Nat) (A : Nat → Prop) (h0 : Nat) (_ : Unit) (t : State) : Prop := ∃ (z1 z2 z3 : Nat), va_P Dg mj_CL [(h0, .inr (7, [.ref z1, .ref z2, .ref z3, .int 0, .int 0])), (z1, .inl (cI, 26244, .inl (fun _ => 0))), (z2, .inl (cJ, 6561, .inr (.inl (fun _ => 0)))), (z3, .inl (cI, 6561, .inl (fun _ => 0)))] t.heap ∧ va_D A [(h0, .inr (7, [.ref z1, .ref z2, .ref z3, .int 0, .int 0])), (z1, .inl (cI, 26244, .inl (fun _ => 0))), (z2, .inl (cJ, 6561, .inr (.inl (fun _ => 0)))), (z3, .inl (cI, 6561, .inl (fun _ => 0)))]
set_option maxHeartbeats 8000000 in
set_option maxRecDepth 100000 in
theorem c_k7 (l : Launch) (Dg : va_G) (cI cJ cZ : Nat) (h0 sz : Nat) : Met l mm_k7.1 (mj_ws lw_tbl mm_k7) ({ frames := 1, cells := 3, slots := 39366, locals := 12 }) (mj_kPc Dg cI cJ cZ h0 [(h0, .inr (7, [.null, .null, .null, .int 0, .int 0]))] sz) (va_Qv (fun _ : Unit => True) (at_k7 Dg cI cJ cZ (va_A [(h0, .inr (7, [.null, .null, .null, .int 0, .int 0]))] sz) h0) (va_A [(h0, .inr (7, [.null, .null, .null, .int 0, .int 0]))] sz)) 3 39366 (va_A [(h0, .inr (7, [.null, .null, .null, .int 0, .int 0]))] sz) := by
  refine Met.ofW (cc := prog_7_method_1_code) (maxL := 1) (ret := none) (by decide) rfl ?_
  intro p e s m args below meth c s₁ B hml hv
  obtain ⟨rfl, hsz, hP, hK, hD0, hN⟩ := hv
  have hx := B.exec
  have hb := B.bytes
  have hr := B.returns
  have hts0 := atoms_spec (ws := mj_ws lw_tbl mm_k7) B.pre
  have hts : ∀ w ∈ lw_tbl.filter goodWord, w.before _ s = true := fun w hw => hts0 w (List.mem_cons_of_mem _ hw)
  have hown : s.vm.findClass "UnbeatenHouse$Pool" = some m.cls := findClass_of_methodNamed B.named
  have hlocks := B.notSynchronized
  have hin : meth.name = "<init>" := (name_of_methodNamed B.named B.method).1
  subst hsz
  have hD := hD0.self (sz := s.heap.size)
  generalize hAe : va_A [(h0, .inr (7, [.null, .null, .null, .int 0, .int 0]))] s.heap.size = A at hD ⊢
  have hA : ∀ q : Nat, s.heap.size ≤ q → A q := fun q h => by rw [← hAe]; exact Or.inr h
  have hS : va_S A s.heap s.heap [] := va_S.rf
  have hP : va_P Dg mj_CL [(h0, .inr (7, [.null, .null, .null, .int 0, .int 0]))] s.heap := hP
  have hl := lv_entry ([.ref h0]) (n := 1) (Nat.le_of_ble_eq_true rfl)
  rw [lg_entry_eq]
  generalize (lg_sl ([.ref h0]) ++ List.replicate (1 - (lg_sl ([.ref h0])).length) Slot.unset).toArray = ls at hl ⊢
  have hl : lv_has ls 1 [(0, .ref h0)] := hl
  show W p l e ({ frames := 1, cells := 3, slots := 39366, locals := 12 } : Room) s m _ below meth c s.heap [] 0 0 _ _
  refine lv_aload_n hx hb d_k7_0 rfl (lv_at hl 0 rfl) ?_
  refine W.objInit hx hb hown (hts _ (mj_good_in ((lw_in_0 (List.mem_of_getElem? (i := 231) (by decide +kernel)))) rfl)) (hts _ (mj_good_in ((lw_in_0 (List.mem_of_getElem? (i := 28) (by decide +kernel)))) rfl)) (hts _ (mj_good_in ((lw_in_0 (List.mem_of_getElem? (i := 29) (by decide +kernel)))) rfl)) rfl (by rw [hml]; exact hl.1) rfl d_k7_1 (Nat.le_of_ble_eq_true rfl) (Nat.le_of_ble_eq_true rfl) ?_
  refine W.eq (g2 := F0 m 4 ls []) rfl ?_
  refine lv_aload_n hx hb d_k7_4 rfl (lv_at hl 0 rfl) ?_
  refine lv_sipush (v := 26244) hx hb d_k7_5 (by decide) ?_
  refine va_newa (atype := .int) (ty := .int) (N' := 26244) (a0 := (26244, .inl (fun _ => 0))) hx hb (hts _ (mj_good_in ((lw_in_0 (List.mem_of_getElem? (i := 92) (by decide +kernel)))) rfl)) rfl hK hP hD hS hA (fun _ => rfl) (by decide) (by decide) (Nat.le_of_ble_eq_true rfl) (Nat.le_of_ble_eq_true rfl) (Nat.le_of_ble_eq_true rfl) d_k7_8 (fun q8 cA H hK1 hP hD hS => ?_)
  have hcA : cA = cI := mj_cA0 hK1
  rw [hcA] at hP hD
  clear hK1 hcA
  refine W.widen (k := 1) (n := 26244) (Nat.le_of_ble_eq_true rfl) (Nat.le_of_ble_eq_true rfl) ?_
  have hP : va_P Dg mj_CL [(h0, .inr (7, [.null, .null, .null, .int 0, .int 0])), (q8, .inl (cI, 26244, .inl (fun _ => 0)))] H := hP
  have hD : va_D A [(h0, .inr (7, [.null, .null, .null, .int 0, .int 0])), (q8, .inl (cI, 26244, .inl (fun _ => 0)))] := hD
  refine va_putF (D := Dg) (ci := 7) (v := .ref q8) (ty := mj_TY 7 0) (C := "UnbeatenHouse$Pool") (T := mF_7) (N := 5) hx hb hts (mj_lays mc_7.1) (mj_TY 7) mc_7.2.1 mc_7.2.2 hown hK hP hD hS 0 rfl rfl 0 (by decide) (hts _ (mj_good_in ((lw_in_0 (List.mem_of_getElem? (i := 232) (by decide +kernel)))) rfl)) (fun _ h9 => h9) rfl hin rfl (mc_7.2.1 0 (by decide)) rfl rfl (Nat.le_of_ble_eq_true rfl) d_k7_10 (fun H locs hP hD hS => ?_)
  have hP : va_P Dg mj_CL [(h0, .inr (7, [.ref q8, .null, .null, .int 0, .int 0])), (q8, .inl (cI, 26244, .inl (fun _ => 0)))] H := hP
  have hD : va_D A [(h0, .inr (7, [.ref q8, .null, .null, .int 0, .int 0])), (q8, .inl (cI, 26244, .inl (fun _ => 0)))] := hD
  refine lv_aload_n hx hb d_k7_13 rfl (lv_at hl 0 rfl) ?_
  refine lv_sipush (v := 6561) hx hb d_k7_14 (by decide) ?_
  refine va_newa (atype := .long) (ty := .long) (N' := 6561) (a0 := (6561, .inr (.inl (fun _ => 0)))) hx hb (hts _ (mj_good_in ((lw_in_1 (List.mem_of_getElem? (i := 8) (by decide +kernel)))) rfl)) rfl hK hP hD hS hA (fun _ => rfl) (by decide) (by decide) (Nat.le_of_ble_eq_true rfl) (Nat.le_of_ble_eq_true rfl) (Nat.le_of_ble_eq_true rfl) d_k7_17 (fun q17 cA H hK1 hP hD hS => ?_)
  have hcA : cA = cJ := mj_cA1 hK1
  rw [hcA] at hP hD
  clear hK1 hcA
  refine W.widen (k := 2) (n := 32805) (Nat.le_of_ble_eq_true rfl) (Nat.le_of_ble_eq_true rfl) ?_
  have hP : va_P Dg mj_CL [(h0, .inr (7, [.ref q8, .null, .null, .int 0, .int 0])), (q8, .inl (cI, 26244, .inl (fun _ => 0))), (q17, .inl (cJ, 6561, .inr (.inl (fun _ => 0))))] H := hP
  have hD : va_D A [(h0, .inr (7, [.ref q8, .null, .null, .int 0, .int 0])), (q8, .inl (cI, 26244, .inl (fun _ => 0))), (q17, .inl (cJ, 6561, .inr (.inl (fun _ => 0))))] := hD
  refine va_putF (D := Dg) (ci := 7) (v := .ref q17) (ty := mj_TY 7 1) (C := "UnbeatenHouse$Pool") (T := mF_7) (N := 5) hx hb hts (mj_lays mc_7.1) (mj_TY 7) mc_7.2.1 mc_7.2.2 hown hK hP hD hS 0 rfl rfl 1 (by decide) (hts _ (mj_good_in ((lw_in_0 (List.mem_of_getElem? (i := 233) (by decide +kernel)))) rfl)) (fun _ h9 => h9) rfl hin rfl (mc_7.2.1 1 (by decide)) rfl rfl (Nat.le_of_ble_eq_true rfl) d_k7_19 (fun H locs hP hD hS => ?_)
  have hP : va_P Dg mj_CL [(h0, .inr (7, [.ref q8, .ref q17, .null, .int 0, .int 0])), (q8, .inl (cI, 26244, .inl (fun _ => 0))), (q17, .inl (cJ, 6561, .inr (.inl (fun _ => 0))))] H := hP
  have hD : va_D A [(h0, .inr (7, [.ref q8, .ref q17, .null, .int 0, .int 0])), (q8, .inl (cI, 26244, .inl (fun _ => 0))), (q17, .inl (cJ, 6561, .inr (.inl (fun _ => 0))))] := hD
  refine lv_aload_n hx hb d_k7_22 rfl (lv_at hl 0 rfl) ?_
  refine lv_sipush (v := 6561) hx hb d_k7_23 (by decide) ?_
  refine va_newa (atype := .int) (ty := .int) (N' := 6561) (a0 := (6561, .inl (fun _ => 0))) hx hb (hts _ (mj_good_in ((lw_in_0 (List.mem_of_getElem? (i := 92) (by decide +kernel)))) rfl)) rfl hK hP hD hS hA (fun _ => rfl) (by decide) (by decide) (Nat.le_of_ble_eq_true rfl) (Nat.le_of_ble_eq_true rfl) (Nat.le_of_ble_eq_true rfl) d_k7_26 (fun q26 cA H hK1 hP hD hS => ?_)
  have hcA : cA = cI := mj_cA0 hK1
  rw [hcA] at hP hD
  clear hK1 hcA
  refine W.widen (k := 3) (n := 39366) (Nat.le_of_ble_eq_true rfl) (Nat.le_of_ble_eq_true rfl) ?_
  have hP : va_P Dg mj_CL [(h0, .inr (7, [.ref q8, .ref q17, .null, .int 0, .int 0])), (q8, .inl (cI, 26244, .inl (fun _ => 0))), (q17, .inl (cJ, 6561, .inr (.inl (fun _ => 0)))), (q26, .inl (cI, 6561, .inl (fun _ => 0)))] H := hP
  have hD : va_D A [(h0, .inr (7, [.ref q8, .ref q17, .null, .int 0, .int 0])), (q8, .inl (cI, 26244, .inl (fun _ => 0))), (q17, .inl (cJ, 6561, .inr (.inl (fun _ => 0)))), (q26, .inl (cI, 6561, .inl (fun _ => 0)))] := hD
  refine va_putF (D := Dg) (ci := 7) (v := .ref q26) (ty := mj_TY 7 2) (C := "UnbeatenHouse$Pool") (T := mF_7) (N := 5) hx hb hts (mj_lays mc_7.1) (mj_TY 7) mc_7.2.1 mc_7.2.2 hown hK hP hD hS 0 rfl rfl 2 (by decide) (hts _ (mj_good_in ((lw_in_0 (List.mem_of_getElem? (i := 234) (by decide +kernel)))) rfl)) (fun _ h9 => h9) rfl hin rfl (mc_7.2.1 2 (by decide)) rfl rfl (Nat.le_of_ble_eq_true rfl) d_k7_28 (fun H locs hP hD hS => ?_)
  have hP : va_P Dg mj_CL [(h0, .inr (7, [.ref q8, .ref q17, .ref q26, .int 0, .int 0])), (q8, .inl (cI, 26244, .inl (fun _ => 0))), (q17, .inl (cJ, 6561, .inr (.inl (fun _ => 0)))), (q26, .inl (cI, 6561, .inl (fun _ => 0)))] H := hP
  have hD : va_D A [(h0, .inr (7, [.ref q8, .ref q17, .ref q26, .int 0, .int 0])), (q8, .inl (cI, 26244, .inl (fun _ => 0))), (q17, .inl (cJ, 6561, .inr (.inl (fun _ => 0)))), (q26, .inl (cI, 6561, .inl (fun _ => 0)))] := hD
  refine W.widen (k := 3) (n := 39366) (Nat.le_of_ble_eq_true rfl) (Nat.le_of_ble_eq_true rfl) ?_
  exact W.vret hx hb hr (fun t ht hW => ⟨⟨(), rfl, trivial, q8, q17, q26, by rw [ht]; exact hP, hD⟩, hS.F ht⟩) hS.2.2 d_k7_31
def mm_k3 : mj_M := (⟨"UnbeatenHouse$Gatherer", "<init>", "()V"⟩, prog_3_method_1_code, 1, none)
set_option maxRecDepth 100000 in
theorem my_k3 : mj_okY lw_tbl mm_k3 := ⟨(lw_in_1 (List.mem_of_getElem? (i := 13) rfl)), (lw_in_0 (List.mem_of_getElem? (i := 10) (by decide +kernel))), by decide, plainFor_of_name (by decide +kernel), by decide +kernel, by decide +kernel⟩
theorem dg_k3_0 : (decode prog_3_method_1_code 0 = .ok (.aload_n 0, 1)) ∧ (decode prog_3_method_1_code 1 = .ok (.invokespecial 3, 3)) ∧ (decode prog_3_method_1_code 4 = .ok (.aload_n 0, 1)) ∧ (decode prog_3_method_1_code 5 = .ok (.new 9, 3)) ∧ (decode prog_3_method_1_code 8 = .ok (.dup, 1)) ∧ (decode prog_3_method_1_code 9 = .ok (.invokespecial 11, 3)) ∧ (decode prog_3_method_1_code 12 = .ok (.putfield 12, 3)) ∧ (decode prog_3_method_1_code 15 = .ok (.aload_n 0, 1)) ∧ (decode prog_3_method_1_code 16 = .ok (.bipush 40, 2)) ∧ (decode prog_3_method_1_code 18 = .ok (.newarray .int, 2)) ∧ (decode prog_3_method_1_code 20 = .ok (.putfield 18, 3)) ∧ (decode prog_3_method_1_code 23 = .ok (.aload_n 0, 1)) ∧ (decode prog_3_method_1_code 24 = .ok (.iconst 4, 1)) ∧ (decode prog_3_method_1_code 25 = .ok (.newarray .int, 2)) ∧ (decode prog_3_method_1_code 27 = .ok (.putfield 22, 3)) ∧ (decode prog_3_method_1_code 30 = .ok (.return_, 1)) ∧ True := fd_of (cc := prog_3_method_1_code) [(0, .aload_n 0, 1), (1, .invokespecial 3, 3), (4, .aload_n 0, 1), (5, .new 9, 3), (8, .dup, 1), (9, .invokespecial 11, 3), (12, .putfield 12, 3), (15, .aload_n 0, 1), (16, .bipush 40, 2), (18, .newarray .int, 2), (20, .putfield 18, 3), (23, .aload_n 0, 1), (24, .iconst 4, 1), (25, .newarray .int, 2), (27, .putfield 22, 3), (30, .return_, 1)] (by decide +kernel)
theorem d_k3_0 : decode prog_3_method_1_code 0 = .ok (.aload_n 0, 1) := dg_k3_0.1
theorem d_k3_1 : decode prog_3_method_1_code 1 = .ok (.invokespecial 3, 3) := dg_k3_0.2.1
theorem d_k3_4 : decode prog_3_method_1_code 4 = .ok (.aload_n 0, 1) := dg_k3_0.2.2.1
theorem d_k3_5 : decode prog_3_method_1_code 5 = .ok (.new 9, 3) := dg_k3_0.2.2.2.1
theorem d_k3_8 : decode prog_3_method_1_code 8 = .ok (.dup, 1) := dg_k3_0.2.2.2.2.1
theorem d_k3_9 : decode prog_3_method_1_code 9 = .ok (.invokespecial 11, 3) := dg_k3_0.2.2.2.2.2.1
theorem d_k3_12 : decode prog_3_method_1_code 12 = .ok (.putfield 12, 3) := dg_k3_0.2.2.2.2.2.2.1
theorem d_k3_15 : decode prog_3_method_1_code 15 = .ok (.aload_n 0, 1) := dg_k3_0.2.2.2.2.2.2.2.1
theorem d_k3_16 : decode prog_3_method_1_code 16 = .ok (.bipush 40, 2) := dg_k3_0.2.2.2.2.2.2.2.2.1
theorem d_k3_18 : decode prog_3_method_1_code 18 = .ok (.newarray .int, 2) := dg_k3_0.2.2.2.2.2.2.2.2.2.1
theorem d_k3_20 : decode prog_3_method_1_code 20 = .ok (.putfield 18, 3) := dg_k3_0.2.2.2.2.2.2.2.2.2.2.1
theorem d_k3_23 : decode prog_3_method_1_code 23 = .ok (.aload_n 0, 1) := dg_k3_0.2.2.2.2.2.2.2.2.2.2.2.1
theorem d_k3_24 : decode prog_3_method_1_code 24 = .ok (.iconst 4, 1) := dg_k3_0.2.2.2.2.2.2.2.2.2.2.2.2.1
theorem d_k3_25 : decode prog_3_method_1_code 25 = .ok (.newarray .int, 2) := dg_k3_0.2.2.2.2.2.2.2.2.2.2.2.2.2.1
theorem d_k3_27 : decode prog_3_method_1_code 27 = .ok (.putfield 22, 3) := dg_k3_0.2.2.2.2.2.2.2.2.2.2.2.2.2.2.1
theorem d_k3_30 : decode prog_3_method_1_code 30 = .ok (.return_, 1) := dg_k3_0.2.2.2.2.2.2.2.2.2.2.2.2.2.2.2.1
/-- a new UnbeatenHouse$Gatherer -/
abbrev at_k3 (Dg : va_G) (cI cJ cZ : Nat) (A : Nat → Prop) (h0 : Nat) (_ : Unit) (t : State) : Prop := ∃ (z1 z2 z3 z4 : Nat), va_P Dg mj_CL [(h0, .inr (3, [.ref z1, .ref z3, .ref z4])), (z1, .inr (4, [.ref z2, .int 0])), (z2, .inl (cI, 64, .inl (fun _ => 0))), (z3, .inl (cI, 40, .inl (fun _ => 0))), (z4, .inl (cI, 4, .inl (fun _ => 0)))] t.heap ∧ va_D A [(h0, .inr (3, [.ref z1, .ref z3, .ref z4])), (z1, .inr (4, [.ref z2, .int 0])), (z2, .inl (cI, 64, .inl (fun _ => 0))), (z3, .inl (cI, 40, .inl (fun _ => 0))), (z4, .inl (cI, 4, .inl (fun _ => 0)))]
set_option maxHeartbeats 8000000 in
set_option maxRecDepth 100000 in
theorem c_k3 (l : Launch) (Dg : va_G) (cI cJ cZ : Nat) (h0 sz : Nat) : Met l mm_k3.1 (mj_ws lw_tbl mm_k3) ({ frames := 2, cells := 4, slots := 110, locals := 36 }) (mj_kPc Dg cI cJ cZ h0 [(h0, .inr (3, [.null, .null, .null]))] sz) (va_Qv (fun _ : Unit => True) (at_k3 Dg cI cJ cZ (va_A [(h0, .inr (3, [.null, .null, .null]))] sz) h0) (va_A [(h0, .inr (3, [.null, .null, .null]))] sz)) 4 110 (va_A [(h0, .inr (3, [.null, .null, .null]))] sz) := by
  refine Met.ofW (cc := prog_3_method_1_code) (maxL := 1) (ret := none) (by decide) rfl ?_
  intro p e s m args below meth c s₁ B hml hv
  obtain ⟨rfl, hsz, hP, hK, hD0, hN⟩ := hv
  have hx := B.exec
  have hb := B.bytes
  have hr := B.returns
  have hts0 := atoms_spec (ws := mj_ws lw_tbl mm_k3) B.pre
  have hts : ∀ w ∈ lw_tbl.filter goodWord, w.before _ s = true := fun w hw => hts0 w (List.mem_cons_of_mem _ hw)
  have hown : s.vm.findClass "UnbeatenHouse$Gatherer" = some m.cls := findClass_of_methodNamed B.named
  have hlocks := B.notSynchronized
  have hin : meth.name = "<init>" := (name_of_methodNamed B.named B.method).1
  subst hsz
  have hD := hD0.self (sz := s.heap.size)
  generalize hAe : va_A [(h0, .inr (3, [.null, .null, .null]))] s.heap.size = A at hD ⊢
  have hA : ∀ q : Nat, s.heap.size ≤ q → A q := fun q h => by rw [← hAe]; exact Or.inr h
  have hS : va_S A s.heap s.heap [] := va_S.rf
  have hP : va_P Dg mj_CL [(h0, .inr (3, [.null, .null, .null]))] s.heap := hP
  have hl := lv_entry ([.ref h0]) (n := 1) (Nat.le_of_ble_eq_true rfl)
  rw [lg_entry_eq]
  generalize (lg_sl ([.ref h0]) ++ List.replicate (1 - (lg_sl ([.ref h0])).length) Slot.unset).toArray = ls at hl ⊢
  have hl : lv_has ls 1 [(0, .ref h0)] := hl
  show W p l e ({ frames := 2, cells := 4, slots := 110, locals := 36 } : Room) s m _ below meth c s.heap [] 0 0 _ _
  refine lv_aload_n hx hb d_k3_0 rfl (lv_at hl 0 rfl) ?_
  refine W.objInit hx hb hown (hts _ (mj_good_in ((lw_in_1 (List.mem_of_getElem? (i := 14) (by decide +kernel)))) rfl)) (hts _ (mj_good_in ((lw_in_0 (List.mem_of_getElem? (i := 28) (by decide +kernel)))) rfl)) (hts _ (mj_good_in ((lw_in_0 (List.mem_of_getElem? (i := 29) (by decide +kernel)))) rfl)) rfl (by rw [hml]; exact hl.1) rfl d_k3_1 (Nat.le_of_ble_eq_true rfl) (Nat.le_of_ble_eq_true rfl) ?_
  refine W.eq (g2 := F0 m 4 ls []) rfl ?_
  refine lv_aload_n hx hb d_k3_4 rfl (lv_at hl 0 rfl) ?_
  refine va_new (ci := 4) (fs := [.null, .int 0]) (C := "UnbeatenHouse$Judge") (T := mF_4) (N := 2) hx hb hts (mj_lays mc_4.1) (mj_TY 4) mc_4.2.1 hown (hts _ (mj_good_in ((lw_in_1 (List.mem_of_getElem? (i := 15) (by decide +kernel)))) rfl)) (hts _ (mj_good_in ((lw_in_1 (List.mem_of_getElem? (i := 16) (by decide +kernel)))) rfl)) (hts _ (mj_good_in ((lw_in_0 (List.mem_of_getElem? (i := 11) (by decide +kernel)))) rfl)) hK hP hD hS hA rfl (by decide +kernel) (Nat.le_of_ble_eq_true rfl) (Nat.le_of_ble_eq_true rfl) d_k3_5 (fun q5 H hP hD hS => ?_)
  refine W.widen (k := 1) (n := 2) (Nat.le_of_ble_eq_true rfl) (Nat.le_of_ble_eq_true rfl) ?_
  have hP : va_P Dg mj_CL [(h0, .inr (3, [.null, .null, .null])), (q5, .inr (4, [.null, .int 0]))] H := hP
  have hD : va_D A [(h0, .inr (3, [.null, .null, .null])), (q5, .inr (4, [.null, .int 0]))] := hD
  refine lv_dup hx hb d_k3_8 rfl ?_
  have hPc := hP.sub (ws' := [(q5, .inr (4, [.null, .int 0]))]) [1] rfl
  have hDc := hD.sub (ws' := [(q5, .inr (4, [.null, .int 0]))]) [1] (by decide) rfl
  have hFc := va_free (wc := [(q5, .inr (4, [.null, .int 0]))]) hD hS hA [1] rfl
  refine va_callv (va_runIN (As := []) (rest := [.ref q5, .ref h0]) ⟨hx, hb, hml, hown, hts⟩ (c_k4 l Dg cI cJ cZ q5 H.size) (⟨va_cnB 0 hts (mj_goodIn my_k4) rfl rfl rfl (hN (.methodLinkNest "UnbeatenHouse$Gatherer" 11 mm_k4.1 "UnbeatenHouse") ((lw_in_1 (List.mem_of_getElem? (i := 17) (by decide +kernel)))) rfl) (hts _ (mj_good_in ((lw_in_0 (List.mem_of_getElem? (i := 11) (by decide +kernel)))) rfl)) ⟨by decide +kernel, by decide +kernel, by decide +kernel⟩ ⟨Nat.le_of_ble_eq_true rfl, Nat.le_of_ble_eq_true rfl⟩, rfl, hts _ (mj_good_in ((lw_in_1 (List.mem_of_getElem? (i := 18) (by decide +kernel)))) rfl)⟩) ⟨mj_kblind, fun U hU hW => ⟨rfl, by rw [hU], by rw [hU]; exact hPc, va_K.moved hW.alike hK, hDc.weaken (fun _ _ _ _ => trivial), mj_nw hW hN⟩⟩ rfl rfl hl.1 rfl (lv_room (Nat.le_of_ble_eq_true rfl)) d_k3_9 ⟨Nat.le_of_ble_eq_true rfl, Nat.le_of_ble_eq_true rfl⟩) hS (fun q _ h => hFc q h) hFc (fun u t H1 locs ht hvm hw hB hz1 hk1 hS => ?_)
  obtain ⟨q9_0, hP1, hD1⟩ := hB
  rw [ht] at hP1
  obtain ⟨hP, hD⟩ := va_join (wr := [(h0, .inr (3, [.null, .null, .null]))]) (w1 := [(q5, .inr (4, [.ref q9_0, .int 0])), (q9_0, .inl (cI, 64, .inl (fun _ => 0)))]) hP hD [1] [0] rfl rfl (by decide) (by decide) hk1 hFc hP1 hD1
  generalize H1 = H at hP hS ⊢
  refine W.widen (k := 2) (n := 66) (Nat.le_of_ble_eq_true rfl) (Nat.le_of_ble_eq_true rfl) ?_
  have hP : va_P Dg mj_CL [(h0, .inr (3, [.null, .null, .null])), (q5, .inr (4, [.ref q9_0, .int 0])), (q9_0, .inl (cI, 64, .inl (fun _ => 0)))] H := hP
  have hD : va_D A [(h0, .inr (3, [.null, .null, .null])), (q5, .inr (4, [.ref q9_0, .int 0])), (q9_0, .inl (cI, 64, .inl (fun _ => 0)))] := hD
  refine va_putF (D := Dg) (ci := 3) (v := .ref q5) (ty := mj_TY 3 0) (C := "UnbeatenHouse$Gatherer") (T := mF_3) (N := 3) hx hb hts (mj_lays mc_3.1) (mj_TY 3) mc_3.2.1 mc_3.2.2 hown hK hP hD hS 0 rfl rfl 0 (by decide) (hts _ (mj_good_in ((lw_in_1 (List.mem_of_getElem? (i := 28) (by decide +kernel)))) rfl)) (fun _ h9 => h9) rfl hin rfl (mc_3.2.1 0 (by decide)) rfl rfl (Nat.le_of_ble_eq_true rfl) d_k3_12 (fun H locs hP hD hS => ?_)
  have hP : va_P Dg mj_CL [(h0, .inr (3, [.ref q5, .null, .null])), (q5, .inr (4, [.ref q9_0, .int 0])), (q9_0, .inl (cI, 64, .inl (fun _ => 0)))] H := hP
  have hD : va_D A [(h0, .inr (3, [.ref q5, .null, .null])), (q5, .inr (4, [.ref q9_0, .int 0])), (q9_0, .inl (cI, 64, .inl (fun _ => 0)))] := hD
  refine lv_aload_n hx hb d_k3_15 rfl (lv_at hl 0 rfl) ?_
  refine lv_bipush (v := 40) hx hb d_k3_16 (by decide) ?_
  refine va_newa (atype := .int) (ty := .int) (N' := 40) (a0 := (40, .inl (fun _ => 0))) hx hb (hts _ (mj_good_in ((lw_in_0 (List.mem_of_getElem? (i := 92) (by decide +kernel)))) rfl)) rfl hK hP hD hS hA (fun _ => rfl) (by decide) (by decide) (Nat.le_of_ble_eq_true rfl) (Nat.le_of_ble_eq_true rfl) (Nat.le_of_ble_eq_true rfl) d_k3_18 (fun q18 cA H hK1 hP hD hS => ?_)
  have hcA : cA = cI := mj_cA0 hK1
  rw [hcA] at hP hD
  clear hK1 hcA
  refine W.widen (k := 3) (n := 106) (Nat.le_of_ble_eq_true rfl) (Nat.le_of_ble_eq_true rfl) ?_
  have hP : va_P Dg mj_CL [(h0, .inr (3, [.ref q5, .null, .null])), (q5, .inr (4, [.ref q9_0, .int 0])), (q9_0, .inl (cI, 64, .inl (fun _ => 0))), (q18, .inl (cI, 40, .inl (fun _ => 0)))] H := hP
  have hD : va_D A [(h0, .inr (3, [.ref q5, .null, .null])), (q5, .inr (4, [.ref q9_0, .int 0])), (q9_0, .inl (cI, 64, .inl (fun _ => 0))), (q18, .inl (cI, 40, .inl (fun _ => 0)))] := hD
  refine va_putF (D := Dg) (ci := 3) (v := .ref q18) (ty := mj_TY 3 1) (C := "UnbeatenHouse$Gatherer") (T := mF_3) (N := 3) hx hb hts (mj_lays mc_3.1) (mj_TY 3) mc_3.2.1 mc_3.2.2 hown hK hP hD hS 0 rfl rfl 1 (by decide) (hts _ (mj_good_in ((lw_in_1 (List.mem_of_getElem? (i := 29) (by decide +kernel)))) rfl)) (fun _ h9 => h9) rfl hin rfl (mc_3.2.1 1 (by decide)) rfl rfl (Nat.le_of_ble_eq_true rfl) d_k3_20 (fun H locs hP hD hS => ?_)
  have hP : va_P Dg mj_CL [(h0, .inr (3, [.ref q5, .ref q18, .null])), (q5, .inr (4, [.ref q9_0, .int 0])), (q9_0, .inl (cI, 64, .inl (fun _ => 0))), (q18, .inl (cI, 40, .inl (fun _ => 0)))] H := hP
  have hD : va_D A [(h0, .inr (3, [.ref q5, .ref q18, .null])), (q5, .inr (4, [.ref q9_0, .int 0])), (q9_0, .inl (cI, 64, .inl (fun _ => 0))), (q18, .inl (cI, 40, .inl (fun _ => 0)))] := hD
  refine lv_aload_n hx hb d_k3_23 rfl (lv_at hl 0 rfl) ?_
  refine lv_iconst (v := 4) hx hb d_k3_24 (by decide) ?_
  refine va_newa (atype := .int) (ty := .int) (N' := 4) (a0 := (4, .inl (fun _ => 0))) hx hb (hts _ (mj_good_in ((lw_in_0 (List.mem_of_getElem? (i := 92) (by decide +kernel)))) rfl)) rfl hK hP hD hS hA (fun _ => rfl) (by decide) (by decide) (Nat.le_of_ble_eq_true rfl) (Nat.le_of_ble_eq_true rfl) (Nat.le_of_ble_eq_true rfl) d_k3_25 (fun q25 cA H hK1 hP hD hS => ?_)
  have hcA : cA = cI := mj_cA0 hK1
  rw [hcA] at hP hD
  clear hK1 hcA
  refine W.widen (k := 4) (n := 110) (Nat.le_of_ble_eq_true rfl) (Nat.le_of_ble_eq_true rfl) ?_
  have hP : va_P Dg mj_CL [(h0, .inr (3, [.ref q5, .ref q18, .null])), (q5, .inr (4, [.ref q9_0, .int 0])), (q9_0, .inl (cI, 64, .inl (fun _ => 0))), (q18, .inl (cI, 40, .inl (fun _ => 0))), (q25, .inl (cI, 4, .inl (fun _ => 0)))] H := hP
  have hD : va_D A [(h0, .inr (3, [.ref q5, .ref q18, .null])), (q5, .inr (4, [.ref q9_0, .int 0])), (q9_0, .inl (cI, 64, .inl (fun _ => 0))), (q18, .inl (cI, 40, .inl (fun _ => 0))), (q25, .inl (cI, 4, .inl (fun _ => 0)))] := hD
  refine va_putF (D := Dg) (ci := 3) (v := .ref q25) (ty := mj_TY 3 2) (C := "UnbeatenHouse$Gatherer") (T := mF_3) (N := 3) hx hb hts (mj_lays mc_3.1) (mj_TY 3) mc_3.2.1 mc_3.2.2 hown hK hP hD hS 0 rfl rfl 2 (by decide) (hts _ (mj_good_in ((lw_in_1 (List.mem_of_getElem? (i := 30) (by decide +kernel)))) rfl)) (fun _ h9 => h9) rfl hin rfl (mc_3.2.1 2 (by decide)) rfl rfl (Nat.le_of_ble_eq_true rfl) d_k3_27 (fun H locs hP hD hS => ?_)
  have hP : va_P Dg mj_CL [(h0, .inr (3, [.ref q5, .ref q18, .ref q25])), (q5, .inr (4, [.ref q9_0, .int 0])), (q9_0, .inl (cI, 64, .inl (fun _ => 0))), (q18, .inl (cI, 40, .inl (fun _ => 0))), (q25, .inl (cI, 4, .inl (fun _ => 0)))] H := hP
  have hD : va_D A [(h0, .inr (3, [.ref q5, .ref q18, .ref q25])), (q5, .inr (4, [.ref q9_0, .int 0])), (q9_0, .inl (cI, 64, .inl (fun _ => 0))), (q18, .inl (cI, 40, .inl (fun _ => 0))), (q25, .inl (cI, 4, .inl (fun _ => 0)))] := hD
  refine W.widen (k := 4) (n := 110) (Nat.le_of_ble_eq_true rfl) (Nat.le_of_ble_eq_true rfl) ?_
  exact W.vret hx hb hr (fun t ht hW => ⟨⟨(), rfl, trivial, q5, q9_0, q18, q25, by rw [ht]; exact hP, hD⟩, hS.F ht⟩) hS.2.2 d_k3_30
def mm_k2 : mj_M := (⟨"UnbeatenHouse$Front", "<init>", "()V"⟩, prog_2_method_1_code, 1, none)
set_option maxRecDepth 100000 in
theorem my_k2 : mj_okY lw_tbl mm_k2 := ⟨(lw_in_1 (List.mem_of_getElem? (i := 42) rfl)), (lw_in_0 (List.mem_of_getElem? (i := 12) (by decide +kernel))), by decide, plainFor_of_name (by decide +kernel), by decide +kernel, by decide +kernel⟩
theorem dg_k2_0 : (decode prog_2_method_1_code 0 = .ok (.aload_n 0, 1)) ∧ (decode prog_2_method_1_code 1 = .ok (.invokespecial 3, 3)) ∧ (decode prog_2_method_1_code 4 = .ok (.aload_n 0, 1)) ∧ (decode prog_2_method_1_code 5 = .ok (.iconst (-1), 1)) ∧ (decode prog_2_method_1_code 6 = .ok (.putfield 9, 3)) ∧ (decode prog_2_method_1_code 9 = .ok (.aload_n 0, 1)) ∧ (decode prog_2_method_1_code 10 = .ok (.sipush 400, 3)) ∧ (decode prog_2_method_1_code 13 = .ok (.newarray .int, 2)) ∧ (decode prog_2_method_1_code 15 = .ok (.putfield 15, 3)) ∧ (decode prog_2_method_1_code 18 = .ok (.aload_n 0, 1)) ∧ (decode prog_2_method_1_code 19 = .ok (.bipush 100, 2)) ∧ (decode prog_2_method_1_code 21 = .ok (.newarray .long, 2)) ∧ (decode prog_2_method_1_code 23 = .ok (.putfield 19, 3)) ∧ (decode prog_2_method_1_code 26 = .ok (.return_, 1)) ∧ True := fd_of (cc := prog_2_method_1_code) [(0, .aload_n 0, 1), (1, .invokespecial 3, 3), (4, .aload_n 0, 1), (5, .iconst (-1), 1), (6, .putfield 9, 3), (9, .aload_n 0, 1), (10, .sipush 400, 3), (13, .newarray .int, 2), (15, .putfield 15, 3), (18, .aload_n 0, 1), (19, .bipush 100, 2), (21, .newarray .long, 2), (23, .putfield 19, 3), (26, .return_, 1)] (by decide +kernel)
theorem d_k2_0 : decode prog_2_method_1_code 0 = .ok (.aload_n 0, 1) := dg_k2_0.1
theorem d_k2_1 : decode prog_2_method_1_code 1 = .ok (.invokespecial 3, 3) := dg_k2_0.2.1
theorem d_k2_4 : decode prog_2_method_1_code 4 = .ok (.aload_n 0, 1) := dg_k2_0.2.2.1
theorem d_k2_5 : decode prog_2_method_1_code 5 = .ok (.iconst (-1), 1) := dg_k2_0.2.2.2.1
theorem d_k2_6 : decode prog_2_method_1_code 6 = .ok (.putfield 9, 3) := dg_k2_0.2.2.2.2.1
theorem d_k2_9 : decode prog_2_method_1_code 9 = .ok (.aload_n 0, 1) := dg_k2_0.2.2.2.2.2.1
theorem d_k2_10 : decode prog_2_method_1_code 10 = .ok (.sipush 400, 3) := dg_k2_0.2.2.2.2.2.2.1
theorem d_k2_13 : decode prog_2_method_1_code 13 = .ok (.newarray .int, 2) := dg_k2_0.2.2.2.2.2.2.2.1
theorem d_k2_15 : decode prog_2_method_1_code 15 = .ok (.putfield 15, 3) := dg_k2_0.2.2.2.2.2.2.2.2.1
theorem d_k2_18 : decode prog_2_method_1_code 18 = .ok (.aload_n 0, 1) := dg_k2_0.2.2.2.2.2.2.2.2.2.1
theorem d_k2_19 : decode prog_2_method_1_code 19 = .ok (.bipush 100, 2) := dg_k2_0.2.2.2.2.2.2.2.2.2.2.1
theorem d_k2_21 : decode prog_2_method_1_code 21 = .ok (.newarray .long, 2) := dg_k2_0.2.2.2.2.2.2.2.2.2.2.2.1
theorem d_k2_23 : decode prog_2_method_1_code 23 = .ok (.putfield 19, 3) := dg_k2_0.2.2.2.2.2.2.2.2.2.2.2.2.1
theorem d_k2_26 : decode prog_2_method_1_code 26 = .ok (.return_, 1) := dg_k2_0.2.2.2.2.2.2.2.2.2.2.2.2.2.1
/-- a new UnbeatenHouse$Front -/
abbrev at_k2 (Dg : va_G) (cI cJ cZ : Nat) (A : Nat → Prop) (h0 : Nat) (_ : Unit) (t : State) : Prop := ∃ (z1 z2 : Nat), va_P Dg mj_CL [(h0, .inr (2, [.int (-1), .int 0, .ref z1, .ref z2])), (z1, .inl (cI, 400, .inl (fun _ => 0))), (z2, .inl (cJ, 100, .inr (.inl (fun _ => 0))))] t.heap ∧ va_D A [(h0, .inr (2, [.int (-1), .int 0, .ref z1, .ref z2])), (z1, .inl (cI, 400, .inl (fun _ => 0))), (z2, .inl (cJ, 100, .inr (.inl (fun _ => 0))))]
set_option maxHeartbeats 8000000 in
set_option maxRecDepth 100000 in
theorem c_k2 (l : Launch) (Dg : va_G) (cI cJ cZ : Nat) (h0 sz : Nat) : Met l mm_k2.1 (mj_ws lw_tbl mm_k2) ({ frames := 1, cells := 2, slots := 500, locals := 12 }) (mj_kPc Dg cI cJ cZ h0 [(h0, .inr (2, [.int 0, .int 0, .null, .null]))] sz) (va_Qv (fun _ : Unit => True) (at_k2 Dg cI cJ cZ (va_A [(h0, .inr (2, [.int 0, .int 0, .null, .null]))] sz) h0) (va_A [(h0, .inr (2, [.int 0, .int 0, .null, .null]))] sz)) 2 500 (va_A [(h0, .inr (2, [.int 0, .int 0, .null, .null]))] sz) := by
  refine Met.ofW (cc := prog_2_method_1_code) (maxL := 1) (ret := none) (by decide) rfl ?_
  intro p e s m args below meth c s₁ B hml hv
  obtain ⟨rfl, hsz, hP, hK, hD0, hN⟩ := hv
  have hx := B.exec
  have hb := B.bytes
  have hr := B.returns
  have hts0 := atoms_spec (ws := mj_ws lw_tbl mm_k2) B.pre
  have hts : ∀ w ∈ lw_tbl.filter goodWord, w.before _ s = true := fun w hw => hts0 w (List.mem_cons_of_mem _ hw)
  have hown : s.vm.findClass "UnbeatenHouse$Front" = some m.cls := findClass_of_methodNamed B.named
  have hlocks := B.notSynchronized
  have hin : meth.name = "<init>" := (name_of_methodNamed B.named B.method).1
  subst hsz
  have hD := hD0.self (sz := s.heap.size)
  generalize hAe : va_A [(h0, .inr (2, [.int 0, .int 0, .null, .null]))] s.heap.size = A at hD ⊢
  have hA : ∀ q : Nat, s.heap.size ≤ q → A q := fun q h => by rw [← hAe]; exact Or.inr h
  have hS : va_S A s.heap s.heap [] := va_S.rf
  have hP : va_P Dg mj_CL [(h0, .inr (2, [.int 0, .int 0, .null, .null]))] s.heap := hP
  have hl := lv_entry ([.ref h0]) (n := 1) (Nat.le_of_ble_eq_true rfl)
  rw [lg_entry_eq]
  generalize (lg_sl ([.ref h0]) ++ List.replicate (1 - (lg_sl ([.ref h0])).length) Slot.unset).toArray = ls at hl ⊢
  have hl : lv_has ls 1 [(0, .ref h0)] := hl
  show W p l e ({ frames := 1, cells := 2, slots := 500, locals := 12 } : Room) s m _ below meth c s.heap [] 0 0 _ _
  refine lv_aload_n hx hb d_k2_0 rfl (lv_at hl 0 rfl) ?_
  refine W.objInit hx hb hown (hts _ (mj_good_in ((lw_in_1 (List.mem_of_getElem? (i := 43) (by decide +kernel)))) rfl)) (hts _ (mj_good_in ((lw_in_0 (List.mem_of_getElem? (i := 28) (by decide +kernel)))) rfl)) (hts _ (mj_good_in ((lw_in_0 (List.mem_of_getElem? (i := 29) (by decide +kernel)))) rfl)) rfl (by rw [hml]; exact hl.1) rfl d_k2_1 (Nat.le_of_ble_eq_true rfl) (Nat.le_of_ble_eq_true rfl) ?_
  refine W.eq (g2 := F0 m 4 ls []) rfl ?_
  refine lv_aload_n hx hb d_k2_4 rfl (lv_at hl 0 rfl) ?_
  refine lv_iconst (v := (-1)) hx hb d_k2_5 (by decide) ?_
  refine va_put (D := Dg) (ci := 2) (v := .int (-1)) (ty := mj_TY 2 0) (C := "UnbeatenHouse$Front") (T := mF_2) (N := 4) hx hb hts (mj_lays mc_2.1) (mj_TY 2) mc_2.2.1 mc_2.2.2 hown hK hP hD hS 0 rfl rfl 0 (by decide) (hts _ (mj_good_in ((lw_in_1 (List.mem_of_getElem? (i := 44) (by decide +kernel)))) rfl)) (fun _ h9 => h9) rfl (mc_2.2.1 0 (by decide)) rfl rfl (Nat.le_of_ble_eq_true rfl) d_k2_6 (fun H locs hP hD hS => ?_)
  have hP : va_P Dg mj_CL [(h0, .inr (2, [.int (-1), .int 0, .null, .null]))] H := hP
  have hD : va_D A [(h0, .inr (2, [.int (-1), .int 0, .null, .null]))] := hD
  refine lv_aload_n hx hb d_k2_9 rfl (lv_at hl 0 rfl) ?_
  refine lv_sipush (v := 400) hx hb d_k2_10 (by decide) ?_
  refine va_newa (atype := .int) (ty := .int) (N' := 400) (a0 := (400, .inl (fun _ => 0))) hx hb (hts _ (mj_good_in ((lw_in_0 (List.mem_of_getElem? (i := 92) (by decide +kernel)))) rfl)) rfl hK hP hD hS hA (fun _ => rfl) (by decide) (by decide) (Nat.le_of_ble_eq_true rfl) (Nat.le_of_ble_eq_true rfl) (Nat.le_of_ble_eq_true rfl) d_k2_13 (fun q13 cA H hK1 hP hD hS => ?_)
  have hcA : cA = cI := mj_cA0 hK1
  rw [hcA] at hP hD
  clear hK1 hcA
  refine W.widen (k := 1) (n := 400) (Nat.le_of_ble_eq_true rfl) (Nat.le_of_ble_eq_true rfl) ?_
  have hP : va_P Dg mj_CL [(h0, .inr (2, [.int (-1), .int 0, .null, .null])), (q13, .inl (cI, 400, .inl (fun _ => 0)))] H := hP
  have hD : va_D A [(h0, .inr (2, [.int (-1), .int 0, .null, .null])), (q13, .inl (cI, 400, .inl (fun _ => 0)))] := hD
  refine va_putF (D := Dg) (ci := 2) (v := .ref q13) (ty := mj_TY 2 2) (C := "UnbeatenHouse$Front") (T := mF_2) (N := 4) hx hb hts (mj_lays mc_2.1) (mj_TY 2) mc_2.2.1 mc_2.2.2 hown hK hP hD hS 0 rfl rfl 2 (by decide) (hts _ (mj_good_in ((lw_in_1 (List.mem_of_getElem? (i := 51) (by decide +kernel)))) rfl)) (fun _ h9 => h9) rfl hin rfl (mc_2.2.1 2 (by decide)) rfl rfl (Nat.le_of_ble_eq_true rfl) d_k2_15 (fun H locs hP hD hS => ?_)
  have hP : va_P Dg mj_CL [(h0, .inr (2, [.int (-1), .int 0, .ref q13, .null])), (q13, .inl (cI, 400, .inl (fun _ => 0)))] H := hP
  have hD : va_D A [(h0, .inr (2, [.int (-1), .int 0, .ref q13, .null])), (q13, .inl (cI, 400, .inl (fun _ => 0)))] := hD
  refine lv_aload_n hx hb d_k2_18 rfl (lv_at hl 0 rfl) ?_
  refine lv_bipush (v := 100) hx hb d_k2_19 (by decide) ?_
  refine va_newa (atype := .long) (ty := .long) (N' := 100) (a0 := (100, .inr (.inl (fun _ => 0)))) hx hb (hts _ (mj_good_in ((lw_in_1 (List.mem_of_getElem? (i := 8) (by decide +kernel)))) rfl)) rfl hK hP hD hS hA (fun _ => rfl) (by decide) (by decide) (Nat.le_of_ble_eq_true rfl) (Nat.le_of_ble_eq_true rfl) (Nat.le_of_ble_eq_true rfl) d_k2_21 (fun q21 cA H hK1 hP hD hS => ?_)
  have hcA : cA = cJ := mj_cA1 hK1
  rw [hcA] at hP hD
  clear hK1 hcA
  refine W.widen (k := 2) (n := 500) (Nat.le_of_ble_eq_true rfl) (Nat.le_of_ble_eq_true rfl) ?_
  have hP : va_P Dg mj_CL [(h0, .inr (2, [.int (-1), .int 0, .ref q13, .null])), (q13, .inl (cI, 400, .inl (fun _ => 0))), (q21, .inl (cJ, 100, .inr (.inl (fun _ => 0))))] H := hP
  have hD : va_D A [(h0, .inr (2, [.int (-1), .int 0, .ref q13, .null])), (q13, .inl (cI, 400, .inl (fun _ => 0))), (q21, .inl (cJ, 100, .inr (.inl (fun _ => 0))))] := hD
  refine va_putF (D := Dg) (ci := 2) (v := .ref q21) (ty := mj_TY 2 3) (C := "UnbeatenHouse$Front") (T := mF_2) (N := 4) hx hb hts (mj_lays mc_2.1) (mj_TY 2) mc_2.2.1 mc_2.2.2 hown hK hP hD hS 0 rfl rfl 3 (by decide) (hts _ (mj_good_in ((lw_in_1 (List.mem_of_getElem? (i := 54) (by decide +kernel)))) rfl)) (fun _ h9 => h9) rfl hin rfl (mc_2.2.1 3 (by decide)) rfl rfl (Nat.le_of_ble_eq_true rfl) d_k2_23 (fun H locs hP hD hS => ?_)
  have hP : va_P Dg mj_CL [(h0, .inr (2, [.int (-1), .int 0, .ref q13, .ref q21])), (q13, .inl (cI, 400, .inl (fun _ => 0))), (q21, .inl (cJ, 100, .inr (.inl (fun _ => 0))))] H := hP
  have hD : va_D A [(h0, .inr (2, [.int (-1), .int 0, .ref q13, .ref q21])), (q13, .inl (cI, 400, .inl (fun _ => 0))), (q21, .inl (cJ, 100, .inr (.inl (fun _ => 0))))] := hD
  refine W.widen (k := 2) (n := 500) (Nat.le_of_ble_eq_true rfl) (Nat.le_of_ble_eq_true rfl) ?_
  exact W.vret hx hb hr (fun t ht hW => ⟨⟨(), rfl, trivial, q13, q21, by rw [ht]; exact hP, hD⟩, hS.F ht⟩) hS.2.2 d_k2_26
def mm_k6 : mj_M := (⟨"UnbeatenHouse$Picker", "<init>", "()V"⟩, prog_6_method_1_code, 1, none)
set_option maxRecDepth 100000 in
theorem my_k6 : mj_okY lw_tbl mm_k6 := ⟨(lw_in_1 (List.mem_of_getElem? (i := 69) rfl)), (lw_in_0 (List.mem_of_getElem? (i := 13) (by decide +kernel))), by decide, plainFor_of_name (by decide +kernel), by decide +kernel, by decide +kernel⟩
theorem dg_k6_0 : (decode prog_6_method_1_code 0 = .ok (.aload_n 0, 1)) ∧ (decode prog_6_method_1_code 1 = .ok (.invokespecial 3, 3)) ∧ (decode prog_6_method_1_code 4 = .ok (.aload_n 0, 1)) ∧ (decode prog_6_method_1_code 5 = .ok (.sipush 576, 3)) ∧ (decode prog_6_method_1_code 8 = .ok (.newarray .int, 2)) ∧ (decode prog_6_method_1_code 10 = .ok (.putfield 11, 3)) ∧ (decode prog_6_method_1_code 13 = .ok (.aload_n 0, 1)) ∧ (decode prog_6_method_1_code 14 = .ok (.bipush 16, 2)) ∧ (decode prog_6_method_1_code 16 = .ok (.newarray .int, 2)) ∧ (decode prog_6_method_1_code 18 = .ok (.putfield 15, 3)) ∧ (decode prog_6_method_1_code 21 = .ok (.aload_n 0, 1)) ∧ (decode prog_6_method_1_code 22 = .ok (.bipush 16, 2)) ∧ (decode prog_6_method_1_code 24 = .ok (.newarray .int, 2)) ∧ (decode prog_6_method_1_code 26 = .ok (.putfield 18, 3)) ∧ (decode prog_6_method_1_code 29 = .ok (.return_, 1)) ∧ True := fd_of (cc := prog_6_method_1_code) [(0, .aload_n 0, 1), (1, .invokespecial 3, 3), (4, .aload_n 0, 1), (5, .sipush 576, 3), (8, .newarray .int, 2), (10, .putfield 11, 3), (13, .aload_n 0, 1), (14, .bipush 16, 2), (16, .newarray .int, 2), (18, .putfield 15, 3), (21, .aload_n 0, 1), (22, .bipush 16, 2), (24, .newarray .int, 2), (26, .putfield 18, 3), (29, .return_, 1)] (by decide +kernel)
theorem d_k6_0 : decode prog_6_method_1_code 0 = .ok (.aload_n 0, 1) := dg_k6_0.1
theorem d_k6_1 : decode prog_6_method_1_code 1 = .ok (.invokespecial 3, 3) := dg_k6_0.2.1
theorem d_k6_4 : decode prog_6_method_1_code 4 = .ok (.aload_n 0, 1) := dg_k6_0.2.2.1
theorem d_k6_5 : decode prog_6_method_1_code 5 = .ok (.sipush 576, 3) := dg_k6_0.2.2.2.1
theorem d_k6_8 : decode prog_6_method_1_code 8 = .ok (.newarray .int, 2) := dg_k6_0.2.2.2.2.1
theorem d_k6_10 : decode prog_6_method_1_code 10 = .ok (.putfield 11, 3) := dg_k6_0.2.2.2.2.2.1
theorem d_k6_13 : decode prog_6_method_1_code 13 = .ok (.aload_n 0, 1) := dg_k6_0.2.2.2.2.2.2.1
theorem d_k6_14 : decode prog_6_method_1_code 14 = .ok (.bipush 16, 2) := dg_k6_0.2.2.2.2.2.2.2.1
theorem d_k6_16 : decode prog_6_method_1_code 16 = .ok (.newarray .int, 2) := dg_k6_0.2.2.2.2.2.2.2.2.1
theorem d_k6_18 : decode prog_6_method_1_code 18 = .ok (.putfield 15, 3) := dg_k6_0.2.2.2.2.2.2.2.2.2.1
theorem d_k6_21 : decode prog_6_method_1_code 21 = .ok (.aload_n 0, 1) := dg_k6_0.2.2.2.2.2.2.2.2.2.2.1
theorem d_k6_22 : decode prog_6_method_1_code 22 = .ok (.bipush 16, 2) := dg_k6_0.2.2.2.2.2.2.2.2.2.2.2.1
theorem d_k6_24 : decode prog_6_method_1_code 24 = .ok (.newarray .int, 2) := dg_k6_0.2.2.2.2.2.2.2.2.2.2.2.2.1
theorem d_k6_26 : decode prog_6_method_1_code 26 = .ok (.putfield 18, 3) := dg_k6_0.2.2.2.2.2.2.2.2.2.2.2.2.2.1
theorem d_k6_29 : decode prog_6_method_1_code 29 = .ok (.return_, 1) := dg_k6_0.2.2.2.2.2.2.2.2.2.2.2.2.2.2.1
/-- a new UnbeatenHouse$Picker -/
abbrev at_k6 (Dg : va_G) (cI cJ cZ : Nat) (A : Nat → Prop) (h0 : Nat) (_ : Unit) (t : State) : Prop := ∃ (z1 z2 z3 : Nat), va_P Dg mj_CL [(h0, .inr (6, [.int 0, .ref z1, .ref z2, .ref z3, .int 0])), (z1, .inl (cI, 576, .inl (fun _ => 0))), (z2, .inl (cI, 16, .inl (fun _ => 0))), (z3, .inl (cI, 16, .inl (fun _ => 0)))] t.heap ∧ va_D A [(h0, .inr (6, [.int 0, .ref z1, .ref z2, .ref z3, .int 0])), (z1, .inl (cI, 576, .inl (fun _ => 0))), (z2, .inl (cI, 16, .inl (fun _ => 0))), (z3, .inl (cI, 16, .inl (fun _ => 0)))]
set_option maxHeartbeats 8000000 in
set_option maxRecDepth 100000 in
theorem c_k6 (l : Launch) (Dg : va_G) (cI cJ cZ : Nat) (h0 sz : Nat) : Met l mm_k6.1 (mj_ws lw_tbl mm_k6) ({ frames := 1, cells := 3, slots := 608, locals := 12 }) (mj_kPc Dg cI cJ cZ h0 [(h0, .inr (6, [.int 0, .null, .null, .null, .int 0]))] sz) (va_Qv (fun _ : Unit => True) (at_k6 Dg cI cJ cZ (va_A [(h0, .inr (6, [.int 0, .null, .null, .null, .int 0]))] sz) h0) (va_A [(h0, .inr (6, [.int 0, .null, .null, .null, .int 0]))] sz)) 3 608 (va_A [(h0, .inr (6, [.int 0, .null, .null, .null, .int 0]))] sz) := by
  refine Met.ofW (cc := prog_6_method_1_code) (maxL := 1) (ret := none) (by decide) rfl ?_
  intro p e s m args below meth c s₁ B hml hv
  obtain ⟨rfl, hsz, hP, hK, hD0, hN⟩ := hv
  have hx := B.exec
  have hb := B.bytes
  have hr := B.returns
  have hts0 := atoms_spec (ws := mj_ws lw_tbl mm_k6) B.pre
  have hts : ∀ w ∈ lw_tbl.filter goodWord, w.before _ s = true := fun w hw => hts0 w (List.mem_cons_of_mem _ hw)
  have hown : s.vm.findClass "UnbeatenHouse$Picker" = some m.cls := findClass_of_methodNamed B.named
  have hlocks := B.notSynchronized
  have hin : meth.name = "<init>" := (name_of_methodNamed B.named B.method).1
  subst hsz
  have hD := hD0.self (sz := s.heap.size)
  generalize hAe : va_A [(h0, .inr (6, [.int 0, .null, .null, .null, .int 0]))] s.heap.size = A at hD ⊢
  have hA : ∀ q : Nat, s.heap.size ≤ q → A q := fun q h => by rw [← hAe]; exact Or.inr h
  have hS : va_S A s.heap s.heap [] := va_S.rf
  have hP : va_P Dg mj_CL [(h0, .inr (6, [.int 0, .null, .null, .null, .int 0]))] s.heap := hP
  have hl := lv_entry ([.ref h0]) (n := 1) (Nat.le_of_ble_eq_true rfl)
  rw [lg_entry_eq]
  generalize (lg_sl ([.ref h0]) ++ List.replicate (1 - (lg_sl ([.ref h0])).length) Slot.unset).toArray = ls at hl ⊢
  have hl : lv_has ls 1 [(0, .ref h0)] := hl
  show W p l e ({ frames := 1, cells := 3, slots := 608, locals := 12 } : Room) s m _ below meth c s.heap [] 0 0 _ _
  refine lv_aload_n hx hb d_k6_0 rfl (lv_at hl 0 rfl) ?_
  refine W.objInit hx hb hown (hts _ (mj_good_in ((lw_in_1 (List.mem_of_getElem? (i := 70) (by decide +kernel)))) rfl)) (hts _ (mj_good_in ((lw_in_0 (List.mem_of_getElem? (i := 28) (by decide +kernel)))) rfl)) (hts _ (mj_good_in ((lw_in_0 (List.mem_of_getElem? (i := 29) (by decide +kernel)))) rfl)) rfl (by rw [hml]; exact hl.1) rfl d_k6_1 (Nat.le_of_ble_eq_true rfl) (Nat.le_of_ble_eq_true rfl) ?_
  refine W.eq (g2 := F0 m 4 ls []) rfl ?_
  refine lv_aload_n hx hb d_k6_4 rfl (lv_at hl 0 rfl) ?_
  refine lv_sipush (v := 576) hx hb d_k6_5 (by decide) ?_
  refine va_newa (atype := .int) (ty := .int) (N' := 576) (a0 := (576, .inl (fun _ => 0))) hx hb (hts _ (mj_good_in ((lw_in_0 (List.mem_of_getElem? (i := 92) (by decide +kernel)))) rfl)) rfl hK hP hD hS hA (fun _ => rfl) (by decide) (by decide) (Nat.le_of_ble_eq_true rfl) (Nat.le_of_ble_eq_true rfl) (Nat.le_of_ble_eq_true rfl) d_k6_8 (fun q8 cA H hK1 hP hD hS => ?_)
  have hcA : cA = cI := mj_cA0 hK1
  rw [hcA] at hP hD
  clear hK1 hcA
  refine W.widen (k := 1) (n := 576) (Nat.le_of_ble_eq_true rfl) (Nat.le_of_ble_eq_true rfl) ?_
  have hP : va_P Dg mj_CL [(h0, .inr (6, [.int 0, .null, .null, .null, .int 0])), (q8, .inl (cI, 576, .inl (fun _ => 0)))] H := hP
  have hD : va_D A [(h0, .inr (6, [.int 0, .null, .null, .null, .int 0])), (q8, .inl (cI, 576, .inl (fun _ => 0)))] := hD
  refine va_putF (D := Dg) (ci := 6) (v := .ref q8) (ty := mj_TY 6 1) (C := "UnbeatenHouse$Picker") (T := mF_6) (N := 5) hx hb hts (mj_lays mc_6.1) (mj_TY 6) mc_6.2.1 mc_6.2.2 hown hK hP hD hS 0 rfl rfl 1 (by decide) (hts _ (mj_good_in ((lw_in_1 (List.mem_of_getElem? (i := 72) (by decide +kernel)))) rfl)) (fun _ h9 => h9) rfl hin rfl (mc_6.2.1 1 (by decide)) rfl rfl (Nat.le_of_ble_eq_true rfl) d_k6_10 (fun H locs hP hD hS => ?_)
  have hP : va_P Dg mj_CL [(h0, .inr (6, [.int 0, .ref q8, .null, .null, .int 0])), (q8, .inl (cI, 576, .inl (fun _ => 0)))] H := hP
  have hD : va_D A [(h0, .inr (6, [.int 0, .ref q8, .null, .null, .int 0])), (q8, .inl (cI, 576, .inl (fun _ => 0)))] := hD
  refine lv_aload_n hx hb d_k6_13 rfl (lv_at hl 0 rfl) ?_
  refine lv_bipush (v := 16) hx hb d_k6_14 (by decide) ?_
  refine va_newa (atype := .int) (ty := .int) (N' := 16) (a0 := (16, .inl (fun _ => 0))) hx hb (hts _ (mj_good_in ((lw_in_0 (List.mem_of_getElem? (i := 92) (by decide +kernel)))) rfl)) rfl hK hP hD hS hA (fun _ => rfl) (by decide) (by decide) (Nat.le_of_ble_eq_true rfl) (Nat.le_of_ble_eq_true rfl) (Nat.le_of_ble_eq_true rfl) d_k6_16 (fun q16 cA H hK1 hP hD hS => ?_)
  have hcA : cA = cI := mj_cA0 hK1
  rw [hcA] at hP hD
  clear hK1 hcA
  refine W.widen (k := 2) (n := 592) (Nat.le_of_ble_eq_true rfl) (Nat.le_of_ble_eq_true rfl) ?_
  have hP : va_P Dg mj_CL [(h0, .inr (6, [.int 0, .ref q8, .null, .null, .int 0])), (q8, .inl (cI, 576, .inl (fun _ => 0))), (q16, .inl (cI, 16, .inl (fun _ => 0)))] H := hP
  have hD : va_D A [(h0, .inr (6, [.int 0, .ref q8, .null, .null, .int 0])), (q8, .inl (cI, 576, .inl (fun _ => 0))), (q16, .inl (cI, 16, .inl (fun _ => 0)))] := hD
  refine va_putF (D := Dg) (ci := 6) (v := .ref q16) (ty := mj_TY 6 2) (C := "UnbeatenHouse$Picker") (T := mF_6) (N := 5) hx hb hts (mj_lays mc_6.1) (mj_TY 6) mc_6.2.1 mc_6.2.2 hown hK hP hD hS 0 rfl rfl 2 (by decide) (hts _ (mj_good_in ((lw_in_1 (List.mem_of_getElem? (i := 73) (by decide +kernel)))) rfl)) (fun _ h9 => h9) rfl hin rfl (mc_6.2.1 2 (by decide)) rfl rfl (Nat.le_of_ble_eq_true rfl) d_k6_18 (fun H locs hP hD hS => ?_)
  have hP : va_P Dg mj_CL [(h0, .inr (6, [.int 0, .ref q8, .ref q16, .null, .int 0])), (q8, .inl (cI, 576, .inl (fun _ => 0))), (q16, .inl (cI, 16, .inl (fun _ => 0)))] H := hP
  have hD : va_D A [(h0, .inr (6, [.int 0, .ref q8, .ref q16, .null, .int 0])), (q8, .inl (cI, 576, .inl (fun _ => 0))), (q16, .inl (cI, 16, .inl (fun _ => 0)))] := hD
  refine lv_aload_n hx hb d_k6_21 rfl (lv_at hl 0 rfl) ?_
  refine lv_bipush (v := 16) hx hb d_k6_22 (by decide) ?_
  refine va_newa (atype := .int) (ty := .int) (N' := 16) (a0 := (16, .inl (fun _ => 0))) hx hb (hts _ (mj_good_in ((lw_in_0 (List.mem_of_getElem? (i := 92) (by decide +kernel)))) rfl)) rfl hK hP hD hS hA (fun _ => rfl) (by decide) (by decide) (Nat.le_of_ble_eq_true rfl) (Nat.le_of_ble_eq_true rfl) (Nat.le_of_ble_eq_true rfl) d_k6_24 (fun q24 cA H hK1 hP hD hS => ?_)
  have hcA : cA = cI := mj_cA0 hK1
  rw [hcA] at hP hD
  clear hK1 hcA
  refine W.widen (k := 3) (n := 608) (Nat.le_of_ble_eq_true rfl) (Nat.le_of_ble_eq_true rfl) ?_
  have hP : va_P Dg mj_CL [(h0, .inr (6, [.int 0, .ref q8, .ref q16, .null, .int 0])), (q8, .inl (cI, 576, .inl (fun _ => 0))), (q16, .inl (cI, 16, .inl (fun _ => 0))), (q24, .inl (cI, 16, .inl (fun _ => 0)))] H := hP
  have hD : va_D A [(h0, .inr (6, [.int 0, .ref q8, .ref q16, .null, .int 0])), (q8, .inl (cI, 576, .inl (fun _ => 0))), (q16, .inl (cI, 16, .inl (fun _ => 0))), (q24, .inl (cI, 16, .inl (fun _ => 0)))] := hD
  refine va_putF (D := Dg) (ci := 6) (v := .ref q24) (ty := mj_TY 6 3) (C := "UnbeatenHouse$Picker") (T := mF_6) (N := 5) hx hb hts (mj_lays mc_6.1) (mj_TY 6) mc_6.2.1 mc_6.2.2 hown hK hP hD hS 0 rfl rfl 3 (by decide) (hts _ (mj_good_in ((lw_in_1 (List.mem_of_getElem? (i := 74) (by decide +kernel)))) rfl)) (fun _ h9 => h9) rfl hin rfl (mc_6.2.1 3 (by decide)) rfl rfl (Nat.le_of_ble_eq_true rfl) d_k6_26 (fun H locs hP hD hS => ?_)
  have hP : va_P Dg mj_CL [(h0, .inr (6, [.int 0, .ref q8, .ref q16, .ref q24, .int 0])), (q8, .inl (cI, 576, .inl (fun _ => 0))), (q16, .inl (cI, 16, .inl (fun _ => 0))), (q24, .inl (cI, 16, .inl (fun _ => 0)))] H := hP
  have hD : va_D A [(h0, .inr (6, [.int 0, .ref q8, .ref q16, .ref q24, .int 0])), (q8, .inl (cI, 576, .inl (fun _ => 0))), (q16, .inl (cI, 16, .inl (fun _ => 0))), (q24, .inl (cI, 16, .inl (fun _ => 0)))] := hD
  refine W.widen (k := 3) (n := 608) (Nat.le_of_ble_eq_true rfl) (Nat.le_of_ble_eq_true rfl) ?_
  exact W.vret hx hb hr (fun t ht hW => ⟨⟨(), rfl, trivial, q8, q16, q24, by rw [ht]; exact hP, hD⟩, hS.F ht⟩) hS.2.2 d_k6_29
def mm_k12 : mj_M := (⟨"UnbeatenHouse$Weighings", "<init>", "()V"⟩, prog_12_method_1_code, 1, none)
set_option maxRecDepth 100000 in
theorem my_k12 : mj_okY lw_tbl mm_k12 := ⟨(lw_in_1 (List.mem_of_getElem? (i := 93) rfl)), (lw_in_0 (List.mem_of_getElem? (i := 14) (by decide +kernel))), by decide, plainFor_of_name (by decide +kernel), by decide +kernel, by decide +kernel⟩
theorem dg_k12_0 : (decode prog_12_method_1_code 0 = .ok (.aload_n 0, 1)) ∧ (decode prog_12_method_1_code 1 = .ok (.invokespecial 3, 3)) ∧ (decode prog_12_method_1_code 4 = .ok (.aload_n 0, 1)) ∧ (decode prog_12_method_1_code 5 = .ok (.iconst 4, 1)) ∧ (decode prog_12_method_1_code 6 = .ok (.putfield 9, 3)) ∧ (decode prog_12_method_1_code 9 = .ok (.aload_n 0, 1)) ∧ (decode prog_12_method_1_code 10 = .ok (.sipush 1820, 3)) ∧ (decode prog_12_method_1_code 13 = .ok (.newarray .int, 2)) ∧ (decode prog_12_method_1_code 15 = .ok (.putfield 15, 3)) ∧ (decode prog_12_method_1_code 18 = .ok (.return_, 1)) ∧ True := fd_of (cc := prog_12_method_1_code) [(0, .aload_n 0, 1), (1, .invokespecial 3, 3), (4, .aload_n 0, 1), (5, .iconst 4, 1), (6, .putfield 9, 3), (9, .aload_n 0, 1), (10, .sipush 1820, 3), (13, .newarray .int, 2), (15, .putfield 15, 3), (18, .return_, 1)] (by decide +kernel)
theorem d_k12_0 : decode prog_12_method_1_code 0 = .ok (.aload_n 0, 1) := dg_k12_0.1
theorem d_k12_1 : decode prog_12_method_1_code 1 = .ok (.invokespecial 3, 3) := dg_k12_0.2.1
theorem d_k12_4 : decode prog_12_method_1_code 4 = .ok (.aload_n 0, 1) := dg_k12_0.2.2.1
theorem d_k12_5 : decode prog_12_method_1_code 5 = .ok (.iconst 4, 1) := dg_k12_0.2.2.2.1
theorem d_k12_6 : decode prog_12_method_1_code 6 = .ok (.putfield 9, 3) := dg_k12_0.2.2.2.2.1
theorem d_k12_9 : decode prog_12_method_1_code 9 = .ok (.aload_n 0, 1) := dg_k12_0.2.2.2.2.2.1
theorem d_k12_10 : decode prog_12_method_1_code 10 = .ok (.sipush 1820, 3) := dg_k12_0.2.2.2.2.2.2.1
theorem d_k12_13 : decode prog_12_method_1_code 13 = .ok (.newarray .int, 2) := dg_k12_0.2.2.2.2.2.2.2.1
theorem d_k12_15 : decode prog_12_method_1_code 15 = .ok (.putfield 15, 3) := dg_k12_0.2.2.2.2.2.2.2.2.1
theorem d_k12_18 : decode prog_12_method_1_code 18 = .ok (.return_, 1) := dg_k12_0.2.2.2.2.2.2.2.2.2.1
/-- a new UnbeatenHouse$Weighings -/
abbrev at_k12 (Dg : va_G) (cI cJ cZ : Nat) (A : Nat → Prop) (h0 : Nat) (_ : Unit) (t : State) : Prop := ∃ (z1 : Nat), va_P Dg mj_CL [(h0, .inr (12, [.int 4, .int 0, .int 0, .ref z1])), (z1, .inl (cI, 1820, .inl (fun _ => 0)))] t.heap ∧ va_D A [(h0, .inr (12, [.int 4, .int 0, .int 0, .ref z1])), (z1, .inl (cI, 1820, .inl (fun _ => 0)))]
set_option maxHeartbeats 8000000 in
set_option maxRecDepth 100000 in
theorem c_k12 (l : Launch) (Dg : va_G) (cI cJ cZ : Nat) (h0 sz : Nat) : Met l mm_k12.1 (mj_ws lw_tbl mm_k12) ({ frames := 1, cells := 1, slots := 1820, locals := 12 }) (mj_kPc Dg cI cJ cZ h0 [(h0, .inr (12, [.int 0, .int 0, .int 0, .null]))] sz) (va_Qv (fun _ : Unit => True) (at_k12 Dg cI cJ cZ (va_A [(h0, .inr (12, [.int 0, .int 0, .int 0, .null]))] sz) h0) (va_A [(h0, .inr (12, [.int 0, .int 0, .int 0, .null]))] sz)) 1 1820 (va_A [(h0, .inr (12, [.int 0, .int 0, .int 0, .null]))] sz) := by
  refine Met.ofW (cc := prog_12_method_1_code) (maxL := 1) (ret := none) (by decide) rfl ?_
  intro p e s m args below meth c s₁ B hml hv
  obtain ⟨rfl, hsz, hP, hK, hD0, hN⟩ := hv
  have hx := B.exec
  have hb := B.bytes
  have hr := B.returns
  have hts0 := atoms_spec (ws := mj_ws lw_tbl mm_k12) B.pre
  have hts : ∀ w ∈ lw_tbl.filter goodWord, w.before _ s = true := fun w hw => hts0 w (List.mem_cons_of_mem _ hw)
  have hown : s.vm.findClass "UnbeatenHouse$Weighings" = some m.cls := findClass_of_methodNamed B.named
  have hlocks := B.notSynchronized
  have hin : meth.name = "<init>" := (name_of_methodNamed B.named B.method).1
  subst hsz
  have hD := hD0.self (sz := s.heap.size)
  generalize hAe : va_A [(h0, .inr (12, [.int 0, .int 0, .int 0, .null]))] s.heap.size = A at hD ⊢
  have hA : ∀ q : Nat, s.heap.size ≤ q → A q := fun q h => by rw [← hAe]; exact Or.inr h
  have hS : va_S A s.heap s.heap [] := va_S.rf
  have hP : va_P Dg mj_CL [(h0, .inr (12, [.int 0, .int 0, .int 0, .null]))] s.heap := hP
  have hl := lv_entry ([.ref h0]) (n := 1) (Nat.le_of_ble_eq_true rfl)
  rw [lg_entry_eq]
  generalize (lg_sl ([.ref h0]) ++ List.replicate (1 - (lg_sl ([.ref h0])).length) Slot.unset).toArray = ls at hl ⊢
  have hl : lv_has ls 1 [(0, .ref h0)] := hl
  show W p l e ({ frames := 1, cells := 1, slots := 1820, locals := 12 } : Room) s m _ below meth c s.heap [] 0 0 _ _
  refine lv_aload_n hx hb d_k12_0 rfl (lv_at hl 0 rfl) ?_
  refine W.objInit hx hb hown (hts _ (mj_good_in ((lw_in_1 (List.mem_of_getElem? (i := 94) (by decide +kernel)))) rfl)) (hts _ (mj_good_in ((lw_in_0 (List.mem_of_getElem? (i := 28) (by decide +kernel)))) rfl)) (hts _ (mj_good_in ((lw_in_0 (List.mem_of_getElem? (i := 29) (by decide +kernel)))) rfl)) rfl (by rw [hml]; exact hl.1) rfl d_k12_1 (Nat.le_of_ble_eq_true rfl) (Nat.le_of_ble_eq_true rfl) ?_
  refine W.eq (g2 := F0 m 4 ls []) rfl ?_
  refine lv_aload_n hx hb d_k12_4 rfl (lv_at hl 0 rfl) ?_
  refine lv_iconst (v := 4) hx hb d_k12_5 (by decide) ?_
  refine va_put (D := Dg) (ci := 12) (v := .int 4) (ty := mj_TY 12 0) (C := "UnbeatenHouse$Weighings") (T := mF_12) (N := 4) hx hb hts (mj_lays mc_12.1) (mj_TY 12) mc_12.2.1 mc_12.2.2 hown hK hP hD hS 0 rfl rfl 0 (by decide) (hts _ (mj_good_in ((lw_in_1 (List.mem_of_getElem? (i := 95) (by decide +kernel)))) rfl)) (fun _ h9 => h9) rfl (mc_12.2.1 0 (by decide)) rfl rfl (Nat.le_of_ble_eq_true rfl) d_k12_6 (fun H locs hP hD hS => ?_)
  have hP : va_P Dg mj_CL [(h0, .inr (12, [.int 4, .int 0, .int 0, .null]))] H := hP
  have hD : va_D A [(h0, .inr (12, [.int 4, .int 0, .int 0, .null]))] := hD
  refine lv_aload_n hx hb d_k12_9 rfl (lv_at hl 0 rfl) ?_
  refine lv_sipush (v := 1820) hx hb d_k12_10 (by decide) ?_
  refine va_newa (atype := .int) (ty := .int) (N' := 1820) (a0 := (1820, .inl (fun _ => 0))) hx hb (hts _ (mj_good_in ((lw_in_0 (List.mem_of_getElem? (i := 92) (by decide +kernel)))) rfl)) rfl hK hP hD hS hA (fun _ => rfl) (by decide) (by decide) (Nat.le_of_ble_eq_true rfl) (Nat.le_of_ble_eq_true rfl) (Nat.le_of_ble_eq_true rfl) d_k12_13 (fun q13 cA H hK1 hP hD hS => ?_)
  have hcA : cA = cI := mj_cA0 hK1
  rw [hcA] at hP hD
  clear hK1 hcA
  refine W.widen (k := 1) (n := 1820) (Nat.le_of_ble_eq_true rfl) (Nat.le_of_ble_eq_true rfl) ?_
  have hP : va_P Dg mj_CL [(h0, .inr (12, [.int 4, .int 0, .int 0, .null])), (q13, .inl (cI, 1820, .inl (fun _ => 0)))] H := hP
  have hD : va_D A [(h0, .inr (12, [.int 4, .int 0, .int 0, .null])), (q13, .inl (cI, 1820, .inl (fun _ => 0)))] := hD
  refine va_putF (D := Dg) (ci := 12) (v := .ref q13) (ty := mj_TY 12 3) (C := "UnbeatenHouse$Weighings") (T := mF_12) (N := 4) hx hb hts (mj_lays mc_12.1) (mj_TY 12) mc_12.2.1 mc_12.2.2 hown hK hP hD hS 0 rfl rfl 3 (by decide) (hts _ (mj_good_in ((lw_in_1 (List.mem_of_getElem? (i := 101) (by decide +kernel)))) rfl)) (fun _ h9 => h9) rfl hin rfl (mc_12.2.1 3 (by decide)) rfl rfl (Nat.le_of_ble_eq_true rfl) d_k12_15 (fun H locs hP hD hS => ?_)
  have hP : va_P Dg mj_CL [(h0, .inr (12, [.int 4, .int 0, .int 0, .ref q13])), (q13, .inl (cI, 1820, .inl (fun _ => 0)))] H := hP
  have hD : va_D A [(h0, .inr (12, [.int 4, .int 0, .int 0, .ref q13])), (q13, .inl (cI, 1820, .inl (fun _ => 0)))] := hD
  refine W.widen (k := 1) (n := 1820) (Nat.le_of_ble_eq_true rfl) (Nat.le_of_ble_eq_true rfl) ?_
  exact W.vret hx hb hr (fun t ht hW => ⟨⟨(), rfl, trivial, q13, by rw [ht]; exact hP, hD⟩, hS.F ht⟩) hS.2.2 d_k12_18
def mm_k10 : mj_M := (⟨"UnbeatenHouse$Sayings", "<init>", "()V"⟩, prog_10_method_1_code, 1, none)
set_option maxRecDepth 100000 in
theorem my_k10 : mj_okY lw_tbl mm_k10 := ⟨(lw_in_1 (List.mem_of_getElem? (i := 116) rfl)), (lw_in_0 (List.mem_of_getElem? (i := 15) (by decide +kernel))), by decide, plainFor_of_name (by decide +kernel), by decide +kernel, by decide +kernel⟩
theorem dg_k10_0 : (decode prog_10_method_1_code 0 = .ok (.aload_n 0, 1)) ∧ (decode prog_10_method_1_code 1 = .ok (.invokespecial 3, 3)) ∧ (decode prog_10_method_1_code 4 = .ok (.aload_n 0, 1)) ∧ (decode prog_10_method_1_code 5 = .ok (.bipush 12, 2)) ∧ (decode prog_10_method_1_code 7 = .ok (.newarray .int, 2)) ∧ (decode prog_10_method_1_code 9 = .ok (.putfield 9, 3)) ∧ (decode prog_10_method_1_code 12 = .ok (.aload_n 0, 1)) ∧ (decode prog_10_method_1_code 13 = .ok (.bipush 12, 2)) ∧ (decode prog_10_method_1_code 15 = .ok (.newarray .int, 2)) ∧ (decode prog_10_method_1_code 17 = .ok (.putfield 15, 3)) ∧ (decode prog_10_method_1_code 20 = .ok (.aload_n 0, 1)) ∧ (decode prog_10_method_1_code 21 = .ok (.sipush 1600, 3)) ∧ (decode prog_10_method_1_code 24 = .ok (.newarray .long, 2)) ∧ (decode prog_10_method_1_code 26 = .ok (.putfield 18, 3)) ∧ (decode prog_10_method_1_code 29 = .ok (.aload_n 0, 1)) ∧ (decode prog_10_method_1_code 30 = .ok (.sipush 4096, 3)) ∧ True := fd_of (cc := prog_10_method_1_code) [(0, .aload_n 0, 1), (1, .invokespecial 3, 3), (4, .aload_n 0, 1), (5, .bipush 12, 2), (7, .newarray .int, 2), (9, .putfield 9, 3), (12, .aload_n 0, 1), (13, .bipush 12, 2), (15, .newarray .int, 2), (17, .putfield 15, 3), (20, .aload_n 0, 1), (21, .sipush 1600, 3), (24, .newarray .long, 2), (26, .putfield 18, 3), (29, .aload_n 0, 1), (30, .sipush 4096, 3)] (by decide +kernel)
theorem d_k10_0 : decode prog_10_method_1_code 0 = .ok (.aload_n 0, 1) := dg_k10_0.1
theorem d_k10_1 : decode prog_10_method_1_code 1 = .ok (.invokespecial 3, 3) := dg_k10_0.2.1
theorem d_k10_4 : decode prog_10_method_1_code 4 = .ok (.aload_n 0, 1) := dg_k10_0.2.2.1
theorem d_k10_5 : decode prog_10_method_1_code 5 = .ok (.bipush 12, 2) := dg_k10_0.2.2.2.1
theorem d_k10_7 : decode prog_10_method_1_code 7 = .ok (.newarray .int, 2) := dg_k10_0.2.2.2.2.1
theorem d_k10_9 : decode prog_10_method_1_code 9 = .ok (.putfield 9, 3) := dg_k10_0.2.2.2.2.2.1
theorem d_k10_12 : decode prog_10_method_1_code 12 = .ok (.aload_n 0, 1) := dg_k10_0.2.2.2.2.2.2.1
theorem d_k10_13 : decode prog_10_method_1_code 13 = .ok (.bipush 12, 2) := dg_k10_0.2.2.2.2.2.2.2.1
theorem d_k10_15 : decode prog_10_method_1_code 15 = .ok (.newarray .int, 2) := dg_k10_0.2.2.2.2.2.2.2.2.1
theorem d_k10_17 : decode prog_10_method_1_code 17 = .ok (.putfield 15, 3) := dg_k10_0.2.2.2.2.2.2.2.2.2.1
theorem d_k10_20 : decode prog_10_method_1_code 20 = .ok (.aload_n 0, 1) := dg_k10_0.2.2.2.2.2.2.2.2.2.2.1
theorem d_k10_21 : decode prog_10_method_1_code 21 = .ok (.sipush 1600, 3) := dg_k10_0.2.2.2.2.2.2.2.2.2.2.2.1
theorem d_k10_24 : decode prog_10_method_1_code 24 = .ok (.newarray .long, 2) := dg_k10_0.2.2.2.2.2.2.2.2.2.2.2.2.1
theorem d_k10_26 : decode prog_10_method_1_code 26 = .ok (.putfield 18, 3) := dg_k10_0.2.2.2.2.2.2.2.2.2.2.2.2.2.1
theorem d_k10_29 : decode prog_10_method_1_code 29 = .ok (.aload_n 0, 1) := dg_k10_0.2.2.2.2.2.2.2.2.2.2.2.2.2.2.1
theorem d_k10_30 : decode prog_10_method_1_code 30 = .ok (.sipush 4096, 3) := dg_k10_0.2.2.2.2.2.2.2.2.2.2.2.2.2.2.2.1
theorem dg_k10_33 : (decode prog_10_method_1_code 33 = .ok (.newarray .boolean, 2)) ∧ (decode prog_10_method_1_code 35 = .ok (.putfield 22, 3)) ∧ (decode prog_10_method_1_code 38 = .ok (.return_, 1)) ∧ True := fd_of (cc := prog_10_method_1_code) [(33, .newarray .boolean, 2), (35, .putfield 22, 3), (38, .return_, 1)] (by decide +kernel)
theorem d_k10_33 : decode prog_10_method_1_code 33 = .ok (.newarray .boolean, 2) := dg_k10_33.1
theorem d_k10_35 : decode prog_10_method_1_code 35 = .ok (.putfield 22, 3) := dg_k10_33.2.1
theorem d_k10_38 : decode prog_10_method_1_code 38 = .ok (.return_, 1) := dg_k10_33.2.2.1
/-- a new UnbeatenHouse$Sayings -/
abbrev at_k10 (Dg : va_G) (cI cJ cZ : Nat) (A : Nat → Prop) (h0 : Nat) (_ : Unit) (t : State) : Prop := ∃ (z1 z2 z3 z4 : Nat), va_P Dg mj_CL [(h0, .inr (10, [.int 0, .ref z1, .ref z2, .ref z3, .ref z4, .int 0, .int 0, .int 0])), (z1, .inl (cI, 12, .inl (fun _ => 0))), (z2, .inl (cI, 12, .inl (fun _ => 0))), (z3, .inl (cJ, 1600, .inr (.inl (fun _ => 0)))), (z4, .inl (cZ, 4096, .inl (fun _ => 0)))] t.heap ∧ va_D A [(h0, .inr (10, [.int 0, .ref z1, .ref z2, .ref z3, .ref z4, .int 0, .int 0, .int 0])), (z1, .inl (cI, 12, .inl (fun _ => 0))), (z2, .inl (cI, 12, .inl (fun _ => 0))), (z3, .inl (cJ, 1600, .inr (.inl (fun _ => 0)))), (z4, .inl (cZ, 4096, .inl (fun _ => 0)))]
set_option maxHeartbeats 8000000 in
set_option maxRecDepth 100000 in
theorem c_k10 (l : Launch) (Dg : va_G) (cI cJ cZ : Nat) (h0 sz : Nat) : Met l mm_k10.1 (mj_ws lw_tbl mm_k10) ({ frames := 1, cells := 4, slots := 5720, locals := 12 }) (mj_kPc Dg cI cJ cZ h0 [(h0, .inr (10, [.int 0, .null, .null, .null, .null, .int 0, .int 0, .int 0]))] sz) (va_Qv (fun _ : Unit => True) (at_k10 Dg cI cJ cZ (va_A [(h0, .inr (10, [.int 0, .null, .null, .null, .null, .int 0, .int 0, .int 0]))] sz) h0) (va_A [(h0, .inr (10, [.int 0, .null, .null, .null, .null, .int 0, .int 0, .int 0]))] sz)) 4 5720 (va_A [(h0, .inr (10, [.int 0, .null, .null, .null, .null, .int 0, .int 0, .int 0]))] sz) := by
  refine Met.ofW (cc := prog_10_method_1_code) (maxL := 1) (ret := none) (by decide) rfl ?_
  intro p e s m args below meth c s₁ B hml hv
  obtain ⟨rfl, hsz, hP, hK, hD0, hN⟩ := hv
  have hx := B.exec
  have hb := B.bytes
  have hr := B.returns
  have hts0 := atoms_spec (ws := mj_ws lw_tbl mm_k10) B.pre
  have hts : ∀ w ∈ lw_tbl.filter goodWord, w.before _ s = true := fun w hw => hts0 w (List.mem_cons_of_mem _ hw)
  have hown : s.vm.findClass "UnbeatenHouse$Sayings" = some m.cls := findClass_of_methodNamed B.named
  have hlocks := B.notSynchronized
  have hin : meth.name = "<init>" := (name_of_methodNamed B.named B.method).1
  subst hsz
  have hD := hD0.self (sz := s.heap.size)
  generalize hAe : va_A [(h0, .inr (10, [.int 0, .null, .null, .null, .null, .int 0, .int 0, .int 0]))] s.heap.size = A at hD ⊢
  have hA : ∀ q : Nat, s.heap.size ≤ q → A q := fun q h => by rw [← hAe]; exact Or.inr h
  have hS : va_S A s.heap s.heap [] := va_S.rf
  have hP : va_P Dg mj_CL [(h0, .inr (10, [.int 0, .null, .null, .null, .null, .int 0, .int 0, .int 0]))] s.heap := hP
  have hl := lv_entry ([.ref h0]) (n := 1) (Nat.le_of_ble_eq_true rfl)
  rw [lg_entry_eq]
  generalize (lg_sl ([.ref h0]) ++ List.replicate (1 - (lg_sl ([.ref h0])).length) Slot.unset).toArray = ls at hl ⊢
  have hl : lv_has ls 1 [(0, .ref h0)] := hl
  show W p l e ({ frames := 1, cells := 4, slots := 5720, locals := 12 } : Room) s m _ below meth c s.heap [] 0 0 _ _
  refine lv_aload_n hx hb d_k10_0 rfl (lv_at hl 0 rfl) ?_
  refine W.objInit hx hb hown (hts _ (mj_good_in ((lw_in_1 (List.mem_of_getElem? (i := 117) (by decide +kernel)))) rfl)) (hts _ (mj_good_in ((lw_in_0 (List.mem_of_getElem? (i := 28) (by decide +kernel)))) rfl)) (hts _ (mj_good_in ((lw_in_0 (List.mem_of_getElem? (i := 29) (by decide +kernel)))) rfl)) rfl (by rw [hml]; exact hl.1) rfl d_k10_1 (Nat.le_of_ble_eq_true rfl) (Nat.le_of_ble_eq_true rfl) ?_
  refine W.eq (g2 := F0 m 4 ls []) rfl ?_
  refine lv_aload_n hx hb d_k10_4 rfl (lv_at hl 0 rfl) ?_
  refine lv_bipush (v := 12) hx hb d_k10_5 (by decide) ?_
  refine va_newa (atype := .int) (ty := .int) (N' := 12) (a0 := (12, .inl (fun _ => 0))) hx hb (hts _ (mj_good_in ((lw_in_0 (List.mem_of_getElem? (i := 92) (by decide +kernel)))) rfl)) rfl hK hP hD hS hA (fun _ => rfl) (by decide) (by decide) (Nat.le_of_ble_eq_true rfl) (Nat.le_of_ble_eq_true rfl) (Nat.le_of_ble_eq_true rfl) d_k10_7 (fun q7 cA H hK1 hP hD hS => ?_)
  have hcA : cA = cI := mj_cA0 hK1
  rw [hcA] at hP hD
  clear hK1 hcA
  refine W.widen (k := 1) (n := 12) (Nat.le_of_ble_eq_true rfl) (Nat.le_of_ble_eq_true rfl) ?_
  have hP : va_P Dg mj_CL [(h0, .inr (10, [.int 0, .null, .null, .null, .null, .int 0, .int 0, .int 0])), (q7, .inl (cI, 12, .inl (fun _ => 0)))] H := hP
  have hD : va_D A [(h0, .inr (10, [.int 0, .null, .null, .null, .null, .int 0, .int 0, .int 0])), (q7, .inl (cI, 12, .inl (fun _ => 0)))] := hD
  refine va_putF (D := Dg) (ci := 10) (v := .ref q7) (ty := mj_TY 10 1) (C := "UnbeatenHouse$Sayings") (T := mF_10) (N := 8) hx hb hts (mj_lays mc_10.1) (mj_TY 10) mc_10.2.1 mc_10.2.2 hown hK hP hD hS 0 rfl rfl 1 (by decide) (hts _ (mj_good_in ((lw_in_1 (List.mem_of_getElem? (i := 120) (by decide +kernel)))) rfl)) (fun _ h9 => h9) rfl hin rfl (mc_10.2.1 1 (by decide)) rfl rfl (Nat.le_of_ble_eq_true rfl) d_k10_9 (fun H locs hP hD hS => ?_)
  have hP : va_P Dg mj_CL [(h0, .inr (10, [.int 0, .ref q7, .null, .null, .null, .int 0, .int 0, .int 0])), (q7, .inl (cI, 12, .inl (fun _ => 0)))] H := hP
  have hD : va_D A [(h0, .inr (10, [.int 0, .ref q7, .null, .null, .null, .int 0, .int 0, .int 0])), (q7, .inl (cI, 12, .inl (fun _ => 0)))] := hD
  refine lv_aload_n hx hb d_k10_12 rfl (lv_at hl 0 rfl) ?_
  refine lv_bipush (v := 12) hx hb d_k10_13 (by decide) ?_
  refine va_newa (atype := .int) (ty := .int) (N' := 12) (a0 := (12, .inl (fun _ => 0))) hx hb (hts _ (mj_good_in ((lw_in_0 (List.mem_of_getElem? (i := 92) (by decide +kernel)))) rfl)) rfl hK hP hD hS hA (fun _ => rfl) (by decide) (by decide) (Nat.le_of_ble_eq_true rfl) (Nat.le_of_ble_eq_true rfl) (Nat.le_of_ble_eq_true rfl) d_k10_15 (fun q15 cA H hK1 hP hD hS => ?_)
  have hcA : cA = cI := mj_cA0 hK1
  rw [hcA] at hP hD
  clear hK1 hcA
  refine W.widen (k := 2) (n := 24) (Nat.le_of_ble_eq_true rfl) (Nat.le_of_ble_eq_true rfl) ?_
  have hP : va_P Dg mj_CL [(h0, .inr (10, [.int 0, .ref q7, .null, .null, .null, .int 0, .int 0, .int 0])), (q7, .inl (cI, 12, .inl (fun _ => 0))), (q15, .inl (cI, 12, .inl (fun _ => 0)))] H := hP
  have hD : va_D A [(h0, .inr (10, [.int 0, .ref q7, .null, .null, .null, .int 0, .int 0, .int 0])), (q7, .inl (cI, 12, .inl (fun _ => 0))), (q15, .inl (cI, 12, .inl (fun _ => 0)))] := hD
  refine va_putF (D := Dg) (ci := 10) (v := .ref q15) (ty := mj_TY 10 2) (C := "UnbeatenHouse$Sayings") (T := mF_10) (N := 8) hx hb hts (mj_lays mc_10.1) (mj_TY 10) mc_10.2.1 mc_10.2.2 hown hK hP hD hS 0 rfl rfl 2 (by decide) (hts _ (mj_good_in ((lw_in_1 (List.mem_of_getElem? (i := 121) (by decide +kernel)))) rfl)) (fun _ h9 => h9) rfl hin rfl (mc_10.2.1 2 (by decide)) rfl rfl (Nat.le_of_ble_eq_true rfl) d_k10_17 (fun H locs hP hD hS => ?_)
  have hP : va_P Dg mj_CL [(h0, .inr (10, [.int 0, .ref q7, .ref q15, .null, .null, .int 0, .int 0, .int 0])), (q7, .inl (cI, 12, .inl (fun _ => 0))), (q15, .inl (cI, 12, .inl (fun _ => 0)))] H := hP
  have hD : va_D A [(h0, .inr (10, [.int 0, .ref q7, .ref q15, .null, .null, .int 0, .int 0, .int 0])), (q7, .inl (cI, 12, .inl (fun _ => 0))), (q15, .inl (cI, 12, .inl (fun _ => 0)))] := hD
  refine lv_aload_n hx hb d_k10_20 rfl (lv_at hl 0 rfl) ?_
  refine lv_sipush (v := 1600) hx hb d_k10_21 (by decide) ?_
  refine va_newa (atype := .long) (ty := .long) (N' := 1600) (a0 := (1600, .inr (.inl (fun _ => 0)))) hx hb (hts _ (mj_good_in ((lw_in_1 (List.mem_of_getElem? (i := 8) (by decide +kernel)))) rfl)) rfl hK hP hD hS hA (fun _ => rfl) (by decide) (by decide) (Nat.le_of_ble_eq_true rfl) (Nat.le_of_ble_eq_true rfl) (Nat.le_of_ble_eq_true rfl) d_k10_24 (fun q24 cA H hK1 hP hD hS => ?_)
  have hcA : cA = cJ := mj_cA1 hK1
  rw [hcA] at hP hD
  clear hK1 hcA
  refine W.widen (k := 3) (n := 1624) (Nat.le_of_ble_eq_true rfl) (Nat.le_of_ble_eq_true rfl) ?_
  have hP : va_P Dg mj_CL [(h0, .inr (10, [.int 0, .ref q7, .ref q15, .null, .null, .int 0, .int 0, .int 0])), (q7, .inl (cI, 12, .inl (fun _ => 0))), (q15, .inl (cI, 12, .inl (fun _ => 0))), (q24, .inl (cJ, 1600, .inr (.inl (fun _ => 0))))] H := hP
  have hD : va_D A [(h0, .inr (10, [.int 0, .ref q7, .ref q15, .null, .null, .int 0, .int 0, .int 0])), (q7, .inl (cI, 12, .inl (fun _ => 0))), (q15, .inl (cI, 12, .inl (fun _ => 0))), (q24, .inl (cJ, 1600, .inr (.inl (fun _ => 0))))] := hD
  refine va_putF (D := Dg) (ci := 10) (v := .ref q24) (ty := mj_TY 10 3) (C := "UnbeatenHouse$Sayings") (T := mF_10) (N := 8) hx hb hts (mj_lays mc_10.1) (mj_TY 10) mc_10.2.1 mc_10.2.2 hown hK hP hD hS 0 rfl rfl 3 (by decide) (hts _ (mj_good_in ((lw_in_1 (List.mem_of_getElem? (i := 122) (by decide +kernel)))) rfl)) (fun _ h9 => h9) rfl hin rfl (mc_10.2.1 3 (by decide)) rfl rfl (Nat.le_of_ble_eq_true rfl) d_k10_26 (fun H locs hP hD hS => ?_)
  have hP : va_P Dg mj_CL [(h0, .inr (10, [.int 0, .ref q7, .ref q15, .ref q24, .null, .int 0, .int 0, .int 0])), (q7, .inl (cI, 12, .inl (fun _ => 0))), (q15, .inl (cI, 12, .inl (fun _ => 0))), (q24, .inl (cJ, 1600, .inr (.inl (fun _ => 0))))] H := hP
  have hD : va_D A [(h0, .inr (10, [.int 0, .ref q7, .ref q15, .ref q24, .null, .int 0, .int 0, .int 0])), (q7, .inl (cI, 12, .inl (fun _ => 0))), (q15, .inl (cI, 12, .inl (fun _ => 0))), (q24, .inl (cJ, 1600, .inr (.inl (fun _ => 0))))] := hD
  refine lv_aload_n hx hb d_k10_29 rfl (lv_at hl 0 rfl) ?_
  refine lv_sipush (v := 4096) hx hb d_k10_30 (by decide) ?_
  refine va_newa (atype := .boolean) (ty := .boolean) (N' := 4096) (a0 := (4096, .inl (fun _ => 0))) hx hb (hts _ (mj_good_in ((lw_in_0 (List.mem_of_getElem? (i := 93) (by decide +kernel)))) rfl)) rfl hK hP hD hS hA (fun _ => rfl) (by decide) (by decide) (Nat.le_of_ble_eq_true rfl) (Nat.le_of_ble_eq_true rfl) (Nat.le_of_ble_eq_true rfl) d_k10_33 (fun q33 cA H hK1 hP hD hS => ?_)
  have hcA : cA = cZ := mj_cA2 hK1
  rw [hcA] at hP hD
  clear hK1 hcA
  refine W.widen (k := 4) (n := 5720) (Nat.le_of_ble_eq_true rfl) (Nat.le_of_ble_eq_true rfl) ?_
  have hP : va_P Dg mj_CL [(h0, .inr (10, [.int 0, .ref q7, .ref q15, .ref q24, .null, .int 0, .int 0, .int 0])), (q7, .inl (cI, 12, .inl (fun _ => 0))), (q15, .inl (cI, 12, .inl (fun _ => 0))), (q24, .inl (cJ, 1600, .inr (.inl (fun _ => 0)))), (q33, .inl (cZ, 4096, .inl (fun _ => 0)))] H := hP
  have hD : va_D A [(h0, .inr (10, [.int 0, .ref q7, .ref q15, .ref q24, .null, .int 0, .int 0, .int 0])), (q7, .inl (cI, 12, .inl (fun _ => 0))), (q15, .inl (cI, 12, .inl (fun _ => 0))), (q24, .inl (cJ, 1600, .inr (.inl (fun _ => 0)))), (q33, .inl (cZ, 4096, .inl (fun _ => 0)))] := hD
  refine va_putF (D := Dg) (ci := 10) (v := .ref q33) (ty := mj_TY 10 4) (C := "UnbeatenHouse$Sayings") (T := mF_10) (N := 8) hx hb hts (mj_lays mc_10.1) (mj_TY 10) mc_10.2.1 mc_10.2.2 hown hK hP hD hS 0 rfl rfl 4 (by decide) (hts _ (mj_good_in ((lw_in_1 (List.mem_of_getElem? (i := 123) (by decide +kernel)))) rfl)) (fun _ h9 => h9) rfl hin rfl (mc_10.2.1 4 (by decide)) rfl rfl (Nat.le_of_ble_eq_true rfl) d_k10_35 (fun H locs hP hD hS => ?_)
  have hP : va_P Dg mj_CL [(h0, .inr (10, [.int 0, .ref q7, .ref q15, .ref q24, .ref q33, .int 0, .int 0, .int 0])), (q7, .inl (cI, 12, .inl (fun _ => 0))), (q15, .inl (cI, 12, .inl (fun _ => 0))), (q24, .inl (cJ, 1600, .inr (.inl (fun _ => 0)))), (q33, .inl (cZ, 4096, .inl (fun _ => 0)))] H := hP
  have hD : va_D A [(h0, .inr (10, [.int 0, .ref q7, .ref q15, .ref q24, .ref q33, .int 0, .int 0, .int 0])), (q7, .inl (cI, 12, .inl (fun _ => 0))), (q15, .inl (cI, 12, .inl (fun _ => 0))), (q24, .inl (cJ, 1600, .inr (.inl (fun _ => 0)))), (q33, .inl (cZ, 4096, .inl (fun _ => 0)))] := hD
  refine W.widen (k := 4) (n := 5720) (Nat.le_of_ble_eq_true rfl) (Nat.le_of_ble_eq_true rfl) ?_
  exact W.vret hx hb hr (fun t ht hW => ⟨⟨(), rfl, trivial, q7, q15, q24, q33, by rw [ht]; exact hP, hD⟩, hS.F ht⟩) hS.2.2 d_k10_38
def mm_k5 : mj_M := (⟨"UnbeatenHouse$People", "<init>", "()V"⟩, prog_5_method_1_code, 1, none)
set_option maxRecDepth 100000 in
theorem my_k5 : mj_okY lw_tbl mm_k5 := ⟨(lw_in_1 (List.mem_of_getElem? (i := 151) rfl)), (lw_in_0 (List.mem_of_getElem? (i := 16) (by decide +kernel))), by decide, plainFor_of_name (by decide +kernel), by decide +kernel, by decide +kernel⟩
theorem dg_k5_0 : (decode prog_5_method_1_code 0 = .ok (.aload_n 0, 1)) ∧ (decode prog_5_method_1_code 1 = .ok (.invokespecial 3, 3)) ∧ (decode prog_5_method_1_code 4 = .ok (.aload_n 0, 1)) ∧ (decode prog_5_method_1_code 5 = .ok (.bipush 24, 2)) ∧ (decode prog_5_method_1_code 7 = .ok (.newarray .int, 2)) ∧ (decode prog_5_method_1_code 9 = .ok (.putfield 9, 3)) ∧ (decode prog_5_method_1_code 12 = .ok (.aload_n 0, 1)) ∧ (decode prog_5_method_1_code 13 = .ok (.bipush 6, 2)) ∧ (decode prog_5_method_1_code 15 = .ok (.newarray .boolean, 2)) ∧ (decode prog_5_method_1_code 17 = .ok (.putfield 15, 3)) ∧ (decode prog_5_method_1_code 20 = .ok (.aload_n 0, 1)) ∧ (decode prog_5_method_1_code 21 = .ok (.bipush 6, 2)) ∧ (decode prog_5_method_1_code 23 = .ok (.newarray .long, 2)) ∧ (decode prog_5_method_1_code 25 = .ok (.putfield 19, 3)) ∧ (decode prog_5_method_1_code 28 = .ok (.aload_n 0, 1)) ∧ (decode prog_5_method_1_code 29 = .ok (.sipush 240, 3)) ∧ True := fd_of (cc := prog_5_method_1_code) [(0, .aload_n 0, 1), (1, .invokespecial 3, 3), (4, .aload_n 0, 1), (5, .bipush 24, 2), (7, .newarray .int, 2), (9, .putfield 9, 3), (12, .aload_n 0, 1), (13, .bipush 6, 2), (15, .newarray .boolean, 2), (17, .putfield 15, 3), (20, .aload_n 0, 1), (21, .bipush 6, 2), (23, .newarray .long, 2), (25, .putfield 19, 3), (28, .aload_n 0, 1), (29, .sipush 240, 3)] (by decide +kernel)
theorem d_k5_0 : decode prog_5_method_1_code 0 = .ok (.aload_n 0, 1) := dg_k5_0.1
theorem d_k5_1 : decode prog_5_method_1_code 1 = .ok (.invokespecial 3, 3) := dg_k5_0.2.1
theorem d_k5_4 : decode prog_5_method_1_code 4 = .ok (.aload_n 0, 1) := dg_k5_0.2.2.1
theorem d_k5_5 : decode prog_5_method_1_code 5 = .ok (.bipush 24, 2) := dg_k5_0.2.2.2.1
theorem d_k5_7 : decode prog_5_method_1_code 7 = .ok (.newarray .int, 2) := dg_k5_0.2.2.2.2.1
theorem d_k5_9 : decode prog_5_method_1_code 9 = .ok (.putfield 9, 3) := dg_k5_0.2.2.2.2.2.1
theorem d_k5_12 : decode prog_5_method_1_code 12 = .ok (.aload_n 0, 1) := dg_k5_0.2.2.2.2.2.2.1
theorem d_k5_13 : decode prog_5_method_1_code 13 = .ok (.bipush 6, 2) := dg_k5_0.2.2.2.2.2.2.2.1
theorem d_k5_15 : decode prog_5_method_1_code 15 = .ok (.newarray .boolean, 2) := dg_k5_0.2.2.2.2.2.2.2.2.1
theorem d_k5_17 : decode prog_5_method_1_code 17 = .ok (.putfield 15, 3) := dg_k5_0.2.2.2.2.2.2.2.2.2.1
theorem d_k5_20 : decode prog_5_method_1_code 20 = .ok (.aload_n 0, 1) := dg_k5_0.2.2.2.2.2.2.2.2.2.2.1
theorem d_k5_21 : decode prog_5_method_1_code 21 = .ok (.bipush 6, 2) := dg_k5_0.2.2.2.2.2.2.2.2.2.2.2.1
theorem d_k5_23 : decode prog_5_method_1_code 23 = .ok (.newarray .long, 2) := dg_k5_0.2.2.2.2.2.2.2.2.2.2.2.2.1
theorem d_k5_25 : decode prog_5_method_1_code 25 = .ok (.putfield 19, 3) := dg_k5_0.2.2.2.2.2.2.2.2.2.2.2.2.2.1
theorem d_k5_28 : decode prog_5_method_1_code 28 = .ok (.aload_n 0, 1) := dg_k5_0.2.2.2.2.2.2.2.2.2.2.2.2.2.2.1
theorem d_k5_29 : decode prog_5_method_1_code 29 = .ok (.sipush 240, 3) := dg_k5_0.2.2.2.2.2.2.2.2.2.2.2.2.2.2.2.1
theorem dg_k5_32 : (decode prog_5_method_1_code 32 = .ok (.newarray .int, 2)) ∧ (decode prog_5_method_1_code 34 = .ok (.putfield 23, 3)) ∧ (decode prog_5_method_1_code 37 = .ok (.return_, 1)) ∧ True := fd_of (cc := prog_5_method_1_code) [(32, .newarray .int, 2), (34, .putfield 23, 3), (37, .return_, 1)] (by decide +kernel)
theorem d_k5_32 : decode prog_5_method_1_code 32 = .ok (.newarray .int, 2) := dg_k5_32.1
theorem d_k5_34 : decode prog_5_method_1_code 34 = .ok (.putfield 23, 3) := dg_k5_32.2.1
theorem d_k5_37 : decode prog_5_method_1_code 37 = .ok (.return_, 1) := dg_k5_32.2.2.1
/-- a new UnbeatenHouse$People -/
abbrev at_k5 (Dg : va_G) (cI cJ cZ : Nat) (A : Nat → Prop) (h0 : Nat) (_ : Unit) (t : State) : Prop := ∃ (z1 z2 z3 z4 : Nat), va_P Dg mj_CL [(h0, .inr (5, [.ref z1, .ref z2, .ref z3, .ref z4, .int 0, .long 0])), (z1, .inl (cI, 24, .inl (fun _ => 0))), (z2, .inl (cZ, 6, .inl (fun _ => 0))), (z3, .inl (cJ, 6, .inr (.inl (fun _ => 0)))), (z4, .inl (cI, 240, .inl (fun _ => 0)))] t.heap ∧ va_D A [(h0, .inr (5, [.ref z1, .ref z2, .ref z3, .ref z4, .int 0, .long 0])), (z1, .inl (cI, 24, .inl (fun _ => 0))), (z2, .inl (cZ, 6, .inl (fun _ => 0))), (z3, .inl (cJ, 6, .inr (.inl (fun _ => 0)))), (z4, .inl (cI, 240, .inl (fun _ => 0)))]
set_option maxHeartbeats 8000000 in
set_option maxRecDepth 100000 in
theorem c_k5 (l : Launch) (Dg : va_G) (cI cJ cZ : Nat) (h0 sz : Nat) : Met l mm_k5.1 (mj_ws lw_tbl mm_k5) ({ frames := 1, cells := 4, slots := 276, locals := 12 }) (mj_kPc Dg cI cJ cZ h0 [(h0, .inr (5, [.null, .null, .null, .null, .int 0, .long 0]))] sz) (va_Qv (fun _ : Unit => True) (at_k5 Dg cI cJ cZ (va_A [(h0, .inr (5, [.null, .null, .null, .null, .int 0, .long 0]))] sz) h0) (va_A [(h0, .inr (5, [.null, .null, .null, .null, .int 0, .long 0]))] sz)) 4 276 (va_A [(h0, .inr (5, [.null, .null, .null, .null, .int 0, .long 0]))] sz) := by
  refine Met.ofW (cc := prog_5_method_1_code) (maxL := 1) (ret := none) (by decide) rfl ?_
  intro p e s m args below meth c s₁ B hml hv
  obtain ⟨rfl, hsz, hP, hK, hD0, hN⟩ := hv
  have hx := B.exec
  have hb := B.bytes
  have hr := B.returns
  have hts0 := atoms_spec (ws := mj_ws lw_tbl mm_k5) B.pre
  have hts : ∀ w ∈ lw_tbl.filter goodWord, w.before _ s = true := fun w hw => hts0 w (List.mem_cons_of_mem _ hw)
  have hown : s.vm.findClass "UnbeatenHouse$People" = some m.cls := findClass_of_methodNamed B.named
  have hlocks := B.notSynchronized
  have hin : meth.name = "<init>" := (name_of_methodNamed B.named B.method).1
  subst hsz
  have hD := hD0.self (sz := s.heap.size)
  generalize hAe : va_A [(h0, .inr (5, [.null, .null, .null, .null, .int 0, .long 0]))] s.heap.size = A at hD ⊢
  have hA : ∀ q : Nat, s.heap.size ≤ q → A q := fun q h => by rw [← hAe]; exact Or.inr h
  have hS : va_S A s.heap s.heap [] := va_S.rf
  have hP : va_P Dg mj_CL [(h0, .inr (5, [.null, .null, .null, .null, .int 0, .long 0]))] s.heap := hP
  have hl := lv_entry ([.ref h0]) (n := 1) (Nat.le_of_ble_eq_true rfl)
  rw [lg_entry_eq]
  generalize (lg_sl ([.ref h0]) ++ List.replicate (1 - (lg_sl ([.ref h0])).length) Slot.unset).toArray = ls at hl ⊢
  have hl : lv_has ls 1 [(0, .ref h0)] := hl
  show W p l e ({ frames := 1, cells := 4, slots := 276, locals := 12 } : Room) s m _ below meth c s.heap [] 0 0 _ _
  refine lv_aload_n hx hb d_k5_0 rfl (lv_at hl 0 rfl) ?_
  refine W.objInit hx hb hown (hts _ (mj_good_in ((lw_in_1 (List.mem_of_getElem? (i := 152) (by decide +kernel)))) rfl)) (hts _ (mj_good_in ((lw_in_0 (List.mem_of_getElem? (i := 28) (by decide +kernel)))) rfl)) (hts _ (mj_good_in ((lw_in_0 (List.mem_of_getElem? (i := 29) (by decide +kernel)))) rfl)) rfl (by rw [hml]; exact hl.1) rfl d_k5_1 (Nat.le_of_ble_eq_true rfl) (Nat.le_of_ble_eq_true rfl) ?_
  refine W.eq (g2 := F0 m 4 ls []) rfl ?_
  refine lv_aload_n hx hb d_k5_4 rfl (lv_at hl 0 rfl) ?_
  refine lv_bipush (v := 24) hx hb d_k5_5 (by decide) ?_
  refine va_newa (atype := .int) (ty := .int) (N' := 24) (a0 := (24, .inl (fun _ => 0))) hx hb (hts _ (mj_good_in ((lw_in_0 (List.mem_of_getElem? (i := 92) (by decide +kernel)))) rfl)) rfl hK hP hD hS hA (fun _ => rfl) (by decide) (by decide) (Nat.le_of_ble_eq_true rfl) (Nat.le_of_ble_eq_true rfl) (Nat.le_of_ble_eq_true rfl) d_k5_7 (fun q7 cA H hK1 hP hD hS => ?_)
  have hcA : cA = cI := mj_cA0 hK1
  rw [hcA] at hP hD
  clear hK1 hcA
  refine W.widen (k := 1) (n := 24) (Nat.le_of_ble_eq_true rfl) (Nat.le_of_ble_eq_true rfl) ?_
  have hP : va_P Dg mj_CL [(h0, .inr (5, [.null, .null, .null, .null, .int 0, .long 0])), (q7, .inl (cI, 24, .inl (fun _ => 0)))] H := hP
  have hD : va_D A [(h0, .inr (5, [.null, .null, .null, .null, .int 0, .long 0])), (q7, .inl (cI, 24, .inl (fun _ => 0)))] := hD
  refine va_putF (D := Dg) (ci := 5) (v := .ref q7) (ty := mj_TY 5 0) (C := "UnbeatenHouse$People") (T := mF_5) (N := 6) hx hb hts (mj_lays mc_5.1) (mj_TY 5) mc_5.2.1 mc_5.2.2 hown hK hP hD hS 0 rfl rfl 0 (by decide) (hts _ (mj_good_in ((lw_in_1 (List.mem_of_getElem? (i := 153) (by decide +kernel)))) rfl)) (fun _ h9 => h9) rfl hin rfl (mc_5.2.1 0 (by decide)) rfl rfl (Nat.le_of_ble_eq_true rfl) d_k5_9 (fun H locs hP hD hS => ?_)
  have hP : va_P Dg mj_CL [(h0, .inr (5, [.ref q7, .null, .null, .null, .int 0, .long 0])), (q7, .inl (cI, 24, .inl (fun _ => 0)))] H := hP
  have hD : va_D A [(h0, .inr (5, [.ref q7, .null, .null, .null, .int 0, .long 0])), (q7, .inl (cI, 24, .inl (fun _ => 0)))] := hD
  refine lv_aload_n hx hb d_k5_12 rfl (lv_at hl 0 rfl) ?_
  refine lv_bipush (v := 6) hx hb d_k5_13 (by decide) ?_
  refine va_newa (atype := .boolean) (ty := .boolean) (N' := 6) (a0 := (6, .inl (fun _ => 0))) hx hb (hts _ (mj_good_in ((lw_in_0 (List.mem_of_getElem? (i := 93) (by decide +kernel)))) rfl)) rfl hK hP hD hS hA (fun _ => rfl) (by decide) (by decide) (Nat.le_of_ble_eq_true rfl) (Nat.le_of_ble_eq_true rfl) (Nat.le_of_ble_eq_true rfl) d_k5_15 (fun q15 cA H hK1 hP hD hS => ?_)
  have hcA : cA = cZ := mj_cA2 hK1
  rw [hcA] at hP hD
  clear hK1 hcA
  refine W.widen (k := 2) (n := 30) (Nat.le_of_ble_eq_true rfl) (Nat.le_of_ble_eq_true rfl) ?_
  have hP : va_P Dg mj_CL [(h0, .inr (5, [.ref q7, .null, .null, .null, .int 0, .long 0])), (q7, .inl (cI, 24, .inl (fun _ => 0))), (q15, .inl (cZ, 6, .inl (fun _ => 0)))] H := hP
  have hD : va_D A [(h0, .inr (5, [.ref q7, .null, .null, .null, .int 0, .long 0])), (q7, .inl (cI, 24, .inl (fun _ => 0))), (q15, .inl (cZ, 6, .inl (fun _ => 0)))] := hD
  refine va_putF (D := Dg) (ci := 5) (v := .ref q15) (ty := mj_TY 5 1) (C := "UnbeatenHouse$People") (T := mF_5) (N := 6) hx hb hts (mj_lays mc_5.1) (mj_TY 5) mc_5.2.1 mc_5.2.2 hown hK hP hD hS 0 rfl rfl 1 (by decide) (hts _ (mj_good_in ((lw_in_1 (List.mem_of_getElem? (i := 155) (by decide +kernel)))) rfl)) (fun _ h9 => h9) rfl hin rfl (mc_5.2.1 1 (by decide)) rfl rfl (Nat.le_of_ble_eq_true rfl) d_k5_17 (fun H locs hP hD hS => ?_)
  have hP : va_P Dg mj_CL [(h0, .inr (5, [.ref q7, .ref q15, .null, .null, .int 0, .long 0])), (q7, .inl (cI, 24, .inl (fun _ => 0))), (q15, .inl (cZ, 6, .inl (fun _ => 0)))] H := hP
  have hD : va_D A [(h0, .inr (5, [.ref q7, .ref q15, .null, .null, .int 0, .long 0])), (q7, .inl (cI, 24, .inl (fun _ => 0))), (q15, .inl (cZ, 6, .inl (fun _ => 0)))] := hD
  refine lv_aload_n hx hb d_k5_20 rfl (lv_at hl 0 rfl) ?_
  refine lv_bipush (v := 6) hx hb d_k5_21 (by decide) ?_
  refine va_newa (atype := .long) (ty := .long) (N' := 6) (a0 := (6, .inr (.inl (fun _ => 0)))) hx hb (hts _ (mj_good_in ((lw_in_1 (List.mem_of_getElem? (i := 8) (by decide +kernel)))) rfl)) rfl hK hP hD hS hA (fun _ => rfl) (by decide) (by decide) (Nat.le_of_ble_eq_true rfl) (Nat.le_of_ble_eq_true rfl) (Nat.le_of_ble_eq_true rfl) d_k5_23 (fun q23 cA H hK1 hP hD hS => ?_)
  have hcA : cA = cJ := mj_cA1 hK1
  rw [hcA] at hP hD
  clear hK1 hcA
  refine W.widen (k := 3) (n := 36) (Nat.le_of_ble_eq_true rfl) (Nat.le_of_ble_eq_true rfl) ?_
  have hP : va_P Dg mj_CL [(h0, .inr (5, [.ref q7, .ref q15, .null, .null, .int 0, .long 0])), (q7, .inl (cI, 24, .inl (fun _ => 0))), (q15, .inl (cZ, 6, .inl (fun _ => 0))), (q23, .inl (cJ, 6, .inr (.inl (fun _ => 0))))] H := hP
  have hD : va_D A [(h0, .inr (5, [.ref q7, .ref q15, .null, .null, .int 0, .long 0])), (q7, .inl (cI, 24, .inl (fun _ => 0))), (q15, .inl (cZ, 6, .inl (fun _ => 0))), (q23, .inl (cJ, 6, .inr (.inl (fun _ => 0))))] := hD
  refine va_putF (D := Dg) (ci := 5) (v := .ref q23) (ty := mj_TY 5 2) (C := "UnbeatenHouse$People") (T := mF_5) (N := 6) hx hb hts (mj_lays mc_5.1) (mj_TY 5) mc_5.2.1 mc_5.2.2 hown hK hP hD hS 0 rfl rfl 2 (by decide) (hts _ (mj_good_in ((lw_in_1 (List.mem_of_getElem? (i := 157) (by decide +kernel)))) rfl)) (fun _ h9 => h9) rfl hin rfl (mc_5.2.1 2 (by decide)) rfl rfl (Nat.le_of_ble_eq_true rfl) d_k5_25 (fun H locs hP hD hS => ?_)
  have hP : va_P Dg mj_CL [(h0, .inr (5, [.ref q7, .ref q15, .ref q23, .null, .int 0, .long 0])), (q7, .inl (cI, 24, .inl (fun _ => 0))), (q15, .inl (cZ, 6, .inl (fun _ => 0))), (q23, .inl (cJ, 6, .inr (.inl (fun _ => 0))))] H := hP
  have hD : va_D A [(h0, .inr (5, [.ref q7, .ref q15, .ref q23, .null, .int 0, .long 0])), (q7, .inl (cI, 24, .inl (fun _ => 0))), (q15, .inl (cZ, 6, .inl (fun _ => 0))), (q23, .inl (cJ, 6, .inr (.inl (fun _ => 0))))] := hD
  refine lv_aload_n hx hb d_k5_28 rfl (lv_at hl 0 rfl) ?_
  refine lv_sipush (v := 240) hx hb d_k5_29 (by decide) ?_
  refine va_newa (atype := .int) (ty := .int) (N' := 240) (a0 := (240, .inl (fun _ => 0))) hx hb (hts _ (mj_good_in ((lw_in_0 (List.mem_of_getElem? (i := 92) (by decide +kernel)))) rfl)) rfl hK hP hD hS hA (fun _ => rfl) (by decide) (by decide) (Nat.le_of_ble_eq_true rfl) (Nat.le_of_ble_eq_true rfl) (Nat.le_of_ble_eq_true rfl) d_k5_32 (fun q32 cA H hK1 hP hD hS => ?_)
  have hcA : cA = cI := mj_cA0 hK1
  rw [hcA] at hP hD
  clear hK1 hcA
  refine W.widen (k := 4) (n := 276) (Nat.le_of_ble_eq_true rfl) (Nat.le_of_ble_eq_true rfl) ?_
  have hP : va_P Dg mj_CL [(h0, .inr (5, [.ref q7, .ref q15, .ref q23, .null, .int 0, .long 0])), (q7, .inl (cI, 24, .inl (fun _ => 0))), (q15, .inl (cZ, 6, .inl (fun _ => 0))), (q23, .inl (cJ, 6, .inr (.inl (fun _ => 0)))), (q32, .inl (cI, 240, .inl (fun _ => 0)))] H := hP
  have hD : va_D A [(h0, .inr (5, [.ref q7, .ref q15, .ref q23, .null, .int 0, .long 0])), (q7, .inl (cI, 24, .inl (fun _ => 0))), (q15, .inl (cZ, 6, .inl (fun _ => 0))), (q23, .inl (cJ, 6, .inr (.inl (fun _ => 0)))), (q32, .inl (cI, 240, .inl (fun _ => 0)))] := hD
  refine va_putF (D := Dg) (ci := 5) (v := .ref q32) (ty := mj_TY 5 3) (C := "UnbeatenHouse$People") (T := mF_5) (N := 6) hx hb hts (mj_lays mc_5.1) (mj_TY 5) mc_5.2.1 mc_5.2.2 hown hK hP hD hS 0 rfl rfl 3 (by decide) (hts _ (mj_good_in ((lw_in_1 (List.mem_of_getElem? (i := 159) (by decide +kernel)))) rfl)) (fun _ h9 => h9) rfl hin rfl (mc_5.2.1 3 (by decide)) rfl rfl (Nat.le_of_ble_eq_true rfl) d_k5_34 (fun H locs hP hD hS => ?_)
  have hP : va_P Dg mj_CL [(h0, .inr (5, [.ref q7, .ref q15, .ref q23, .ref q32, .int 0, .long 0])), (q7, .inl (cI, 24, .inl (fun _ => 0))), (q15, .inl (cZ, 6, .inl (fun _ => 0))), (q23, .inl (cJ, 6, .inr (.inl (fun _ => 0)))), (q32, .inl (cI, 240, .inl (fun _ => 0)))] H := hP
  have hD : va_D A [(h0, .inr (5, [.ref q7, .ref q15, .ref q23, .ref q32, .int 0, .long 0])), (q7, .inl (cI, 24, .inl (fun _ => 0))), (q15, .inl (cZ, 6, .inl (fun _ => 0))), (q23, .inl (cJ, 6, .inr (.inl (fun _ => 0)))), (q32, .inl (cI, 240, .inl (fun _ => 0)))] := hD
  refine W.widen (k := 4) (n := 276) (Nat.le_of_ble_eq_true rfl) (Nat.le_of_ble_eq_true rfl) ?_
  exact W.vret hx hb hr (fun t ht hW => ⟨⟨(), rfl, trivial, q7, q15, q23, q32, by rw [ht]; exact hP, hD⟩, hS.F ht⟩) hS.2.2 d_k5_37
end
