/-! a case of the law: a call of the class, the same call of the reference, and the two answers held against each other -/
def lw_Ad (s : State) (ad1 ad2 : Nat → Nat) : Prop := (∀ i j, i < mj_S1.length → j < mj_S1.length → ad1 i = ad1 j → i = j) ∧ (∀ i j, i < mj_S2.length → j < mj_S2.length → ad2 i = ad2 j → i = j) ∧ (∀ i j, i < mj_S1.length → j < mj_S2.length → ad1 i ≠ ad2 j) ∧ (∀ i, i < mj_S1.length → s.heap.size ≤ ad1 i) ∧ (∀ i, i < mj_S2.length → s.heap.size ≤ ad2 i) ∧ mj_MO ad1 (fun q => s.heap.size ≤ q) s s.heap ∧ mj_MO ad2 (fun q => s.heap.size ≤ q) s s.heap
def lw_St (p : Program) (l : Launch) (e : Env) (s : State) (m : MethodId) (b : Nat) (below : List Frame) (meth : Method) (c : Code) (Dg : va_G) (T3 : Nat × Nat × Nat) (ad1 ad2 : Nat → Nat) (pc : Nat) (lc : List (Nat × Value)) (st : List Value) (g1 g2 : mj_H) : Prop :=
  ∀ (H : Heap) (locs : List Loc) (ls : Array Slot), va_P Dg mj_CL (mj_W mj_S1 mj_TY T3 ad1 g1) H → va_P Dg mj_CL (mj_W mj_S2 mj_TY T3 ad2 g2) H → va_S (fun q : Nat => s.heap.size ≤ q) s.heap H locs → lv_has ls 4 lc →
    W p l e room_1 s m #[Value.ref b] below meth c H locs 200 300000 (lw_Z below #[Value.ref b] s) (F0 m pc ls st)
section LWC
variable {p : Program} {l : Launch} {e : Env} {s : State} {m : MethodId} {below : List Frame} {meth : Method} {c : Code} {b L : Nat} {xs : Nat → Int32}
variable {Dg : va_G} {T3 : Nat × Nat × Nat} {ad1 ad2 : Nat → Nat}
theorem lw_arg {H : Heap} {locs : List Loc} {ls : Array Slot} {st : List Value} {x3 j : Int32} {jn : Int} {pc CC SS : Nat} {lc : List (Nat × Value)} (C0 : lw_At p s m meth c b L xs) (hl : lv_has ls 4 lc) (h0 : lc[0]? = some (0, .ref b)) (h3 : lc[3]? = some (3, .int x3))
    (hS : va_S (fun q : Nat => s.heap.size ≤ q) s.heap H locs) (hin : vp_in (x3 + j) L) (d0 : decode code pc = .ok (.aload_n 0, 1)) (d1 : decode code (pc + 1) = .ok (.iload_n 3, 1)) (d2 : decode code (pc + 1 + 1) = .ok (.iconst jn, 1)) (hj : Int32.ofInt jn = j) (d3 : decode code (pc + 1 + 1 + 1) = .ok (.iadd, 1)) (d4 : decode code (pc + 1 + 1 + 1 + 1) = .ok (.iaload, 1))
    (kk : W p l e room_1 s m #[Value.ref b] below meth c H locs CC SS (lw_Z below #[Value.ref b] s) (F0 m (pc + 1 + 1 + 1 + 1 + 1) ls (.int (xs (x3 + j).toNatClampNeg) :: st))) : W p l e room_1 s m #[Value.ref b] below meth c H locs CC SS (lw_Z below #[Value.ref b] s) (F0 m pc ls st) := by
  obtain ⟨hx, hb, hr, hml, hown, hts, hX, hbl, hlocks, hgv⟩ := id C0
  have hbA : ¬ (fun q : Nat => s.heap.size ≤ q) b := Nat.not_le.mpr hbl
  refine lv_aload_n hx hb d0 rfl (lv_at hl 0 h0) ?_
  refine lv_iload_n hx hb d1 rfl (lv_at hl 3 h3) ?_
  refine lv_iconst (v := j) hx hb d2 hj ?_
  refine lv_iadd hx hb d3 ?_
  exact va_sld hx hb hX hbl hbA hS hin d4 kk
theorem lw_cmp0 (x : Int64) : lg_cmp x x = 0 := by unfold lg_cmp; simp
set_option maxHeartbeats 4000000 in
/-- case 0: feed -/
theorem lw_c0 (C0 : lw_At p s m meth c b L xs) (hK : va_K Dg mj_CL (mj_tys T3) s) (hAd : lw_Ad s ad1 ad2) {x3 : Int32} (h1 : vp_in (x3 + 1) L) (h2 : vp_in (x3 + 2) L) (h3 : vp_in (x3 + 3) L) (h4 : vp_in (x3 + 4) L) (h5 : vp_in (x3 + 5) L) {g1 g2 : mj_H} {G : mj_H → mj_H → Prop}
    (hp : ∃ (r r2 : Int32) (f1 f2 : mj_H), mj_Cl mj_S1 mj_CD 900 133 (.ref 0 :: [.int (xs (x3 + 1).toNatClampNeg), .int (xs (x3 + 2).toNatClampNeg), .int (xs (x3 + 3).toNatClampNeg), .int (xs (x3 + 4).toNatClampNeg), .int (xs (x3 + 5).toNatClampNeg)]) g1 (.int r, f1) ∧ mj_Cl mj_S2 mj_CD 900 9 (.ref 0 :: [.int (xs (x3 + 1).toNatClampNeg), .int (xs (x3 + 2).toNatClampNeg), .int (xs (x3 + 3).toNatClampNeg), .int (xs (x3 + 4).toNatClampNeg), .int (xs (x3 + 5).toNatClampNeg)]) g2 (.int r2, f2) ∧ G f1 f2)
    (kk : ∀ f1 f2, G f1 f2 → lw_St p l e s m b below meth c Dg T3 ad1 ad2 1374 [(0, .ref b), (1, .ref (ad1 0)), (2, .ref (ad2 0)), (3, .int x3)] [] f1 f2) :
    lw_St p l e s m b below meth c Dg T3 ad1 ad2 200 [(0, .ref b), (1, .ref (ad1 0)), (2, .ref (ad2 0)), (3, .int x3)] [] g1 g2 := by
  obtain ⟨hx, hb, hr, hml, hown, hts, hX, hbl, hlocks, hgv⟩ := id C0
  obtain ⟨a1, a2, a3, a4, a5, a6, a7⟩ := id hAd
  obtain ⟨r, r2, f1, f2, hc1, hc2, hG⟩ := hp
  have hM1 := mj_sound (l := l) (T3 := T3) (Dg := Dg) a1 (mj_Cs_of mj_Sok1) mj_hM 900 133 _ _ _ hc1
  have hM2 := mj_sound (l := l) (T3 := T3) (Dg := Dg) a2 (mj_Cs_of mj_Sok2) mj_hM 900 9 _ _ _ hc2
  have kk := kk f1 f2 hG
  intro H locs ls hP1 hP2 hS hl
  refine lv_aload_n hx hb d_law_200 rfl (lv_at hl 1 rfl) ?_
  refine lw_arg C0 hl rfl rfl hS h1 d_law_201 d_law_202 d_law_203 (by decide) d_law_204 d_law_205 ?_
  refine lw_arg C0 hl rfl rfl hS h2 d_law_206 d_law_207 d_law_208 (by decide) d_law_209 d_law_210 ?_
  refine lw_arg C0 hl rfl rfl hS h3 d_law_211 d_law_212 d_law_213 (by decide) d_law_214 d_law_215 ?_
  refine lw_arg C0 hl rfl rfl hS h4 d_law_216 d_law_217 d_law_218 (by decide) d_law_219 d_law_220 ?_
  refine lw_arg C0 hl rfl rfl hS h5 d_law_221 d_law_222 d_law_223 (by decide) d_law_224 d_law_225 ?_
  refine lw_call (as := [.int (xs (x3 + 1).toNatClampNeg), .int (xs (x3 + 2).toNatClampNeg), .int (xs (x3 + 3).toNatClampNeg), .int (xs (x3 + 4).toNatClampNeg), .int (xs (x3 + 5).toNatClampNeg)]) (rest := []) (CC := 200) (SS := 300000) (q := (.int r, f1)) (ad := ad1) (ad' := ad2) hx hb hml hown hts hK a6 a3 a4 lwV_13 trivial hM1 rfl (Nat.le_of_ble_eq_true rfl) d_law_226 ⟨by decide, by decide⟩ hP1 hP2 hS hl.1 (fun H locs hP1 hP2 hS => ?_)
  refine lv_pop hx hb d_law_229 rfl ?_
  refine lv_aload_n hx hb d_law_230 rfl (lv_at hl 2 rfl) ?_
  refine lw_arg C0 hl rfl rfl hS h1 d_law_231 d_law_232 d_law_233 (by decide) d_law_234 d_law_235 ?_
  refine lw_arg C0 hl rfl rfl hS h2 d_law_236 d_law_237 d_law_238 (by decide) d_law_239 d_law_240 ?_
  refine lw_arg C0 hl rfl rfl hS h3 d_law_241 d_law_242 d_law_243 (by decide) d_law_244 d_law_245 ?_
  refine lw_arg C0 hl rfl rfl hS h4 d_law_246 d_law_247 d_law_248 (by decide) d_law_249 d_law_250 ?_
  refine lw_arg C0 hl rfl rfl hS h5 d_law_251 d_law_252 d_law_253 (by decide) d_law_254 d_law_255 ?_
  refine lw_call (as := [.int (xs (x3 + 1).toNatClampNeg), .int (xs (x3 + 2).toNatClampNeg), .int (xs (x3 + 3).toNatClampNeg), .int (xs (x3 + 4).toNatClampNeg), .int (xs (x3 + 5).toNatClampNeg)]) (rest := []) (CC := 200) (SS := 300000) (q := (.int r2, f2)) (ad := ad2) (ad' := ad1) hx hb hml hown hts hK a7 (fun i j hi hj => (a3 j i hj hi).symm) a5 lwV_17 trivial hM2 rfl (Nat.le_of_ble_eq_true rfl) d_law_256 ⟨by decide, by decide⟩ hP2 hP1 hS hl.1 (fun H locs hP2 hP1 hS => ?_)
  refine lv_pop hx hb d_law_259 rfl ?_
  refine lv_goto (tgt := 1374) hx hb d_law_260 (by decide) ?_
  exact kk H locs ls hP1 hP2 hS hl
set_option maxHeartbeats 4000000 in
/-- case 1: end -/
theorem lw_c1 (C0 : lw_At p s m meth c b L xs) (hK : va_K Dg mj_CL (mj_tys T3) s) (hAd : lw_Ad s ad1 ad2) {x3 : Int32} (h1 : vp_in (x3 + 1) L) {g1 g2 : mj_H} {G : mj_H → mj_H → Prop}
    (hp : ∃ (r r2 : Int32) (f1 f2 : mj_H), mj_Cl mj_S1 mj_CD 900 135 (.ref 0 :: [.int (xs (x3 + 1).toNatClampNeg)]) g1 (.int r, f1) ∧ mj_Cl mj_S2 mj_CD 900 11 (.ref 0 :: [.int (xs (x3 + 1).toNatClampNeg)]) g2 (.int r2, f2) ∧ G f1 f2)
    (kk : ∀ f1 f2, G f1 f2 → lw_St p l e s m b below meth c Dg T3 ad1 ad2 1374 [(0, .ref b), (1, .ref (ad1 0)), (2, .ref (ad2 0)), (3, .int x3)] [] f1 f2) :
    lw_St p l e s m b below meth c Dg T3 ad1 ad2 263 [(0, .ref b), (1, .ref (ad1 0)), (2, .ref (ad2 0)), (3, .int x3)] [] g1 g2 := by
  obtain ⟨hx, hb, hr, hml, hown, hts, hX, hbl, hlocks, hgv⟩ := id C0
  obtain ⟨a1, a2, a3, a4, a5, a6, a7⟩ := id hAd
  obtain ⟨r, r2, f1, f2, hc1, hc2, hG⟩ := hp
  have hM1 := mj_sound (l := l) (T3 := T3) (Dg := Dg) a1 (mj_Cs_of mj_Sok1) mj_hM 900 135 _ _ _ hc1
  have hM2 := mj_sound (l := l) (T3 := T3) (Dg := Dg) a2 (mj_Cs_of mj_Sok2) mj_hM 900 11 _ _ _ hc2
  have kk := kk f1 f2 hG
  intro H locs ls hP1 hP2 hS hl
  refine lv_aload_n hx hb d_law_263 rfl (lv_at hl 1 rfl) ?_
  refine lw_arg C0 hl rfl rfl hS h1 d_law_264 d_law_265 d_law_266 (by decide) d_law_267 d_law_268 ?_
  refine lw_call (as := [.int (xs (x3 + 1).toNatClampNeg)]) (rest := []) (CC := 200) (SS := 300000) (q := (.int r, f1)) (ad := ad1) (ad' := ad2) hx hb hml hown hts hK a6 a3 a4 lwV_18 trivial hM1 rfl (Nat.le_of_ble_eq_true rfl) d_law_269 ⟨by decide, by decide⟩ hP1 hP2 hS hl.1 (fun H locs hP1 hP2 hS => ?_)
  refine lv_pop hx hb d_law_272 rfl ?_
  refine lv_aload_n hx hb d_law_273 rfl (lv_at hl 2 rfl) ?_
  refine lw_arg C0 hl rfl rfl hS h1 d_law_274 d_law_275 d_law_276 (by decide) d_law_277 d_law_278 ?_
  refine lw_call (as := [.int (xs (x3 + 1).toNatClampNeg)]) (rest := []) (CC := 200) (SS := 300000) (q := (.int r2, f2)) (ad := ad2) (ad' := ad1) hx hb hml hown hts hK a7 (fun i j hi hj => (a3 j i hj hi).symm) a5 lwV_22 trivial hM2 rfl (Nat.le_of_ble_eq_true rfl) d_law_279 ⟨by decide, by decide⟩ hP2 hP1 hS hl.1 (fun H locs hP2 hP1 hS => ?_)
  refine lv_pop hx hb d_law_282 rfl ?_
  refine lv_goto (tgt := 1374) hx hb d_law_283 (by decide) ?_
  exact kk H locs ls hP1 hP2 hS hl
set_option maxHeartbeats 4000000 in
/-- case 2: text -/
theorem lw_c2 (C0 : lw_At p s m meth c b L xs) (hK : va_K Dg mj_CL (mj_tys T3) s) (hAd : lw_Ad s ad1 ad2) {x3 : Int32} {g1 g2 : mj_H} {G : mj_H → mj_H → Prop}
    (hp : ∃ (r r2 : Int32) (f1 f2 : mj_H), mj_Cl mj_S1 mj_CD 900 136 (.ref 0 :: []) g1 (.int r, f1) ∧ mj_Cl mj_S2 mj_CD 900 12 (.ref 0 :: []) g2 (.int r2, f2) ∧ G f1 f2)
    (kk : ∀ f1 f2, G f1 f2 → lw_St p l e s m b below meth c Dg T3 ad1 ad2 1374 [(0, .ref b), (1, .ref (ad1 0)), (2, .ref (ad2 0)), (3, .int x3)] [] f1 f2) :
    lw_St p l e s m b below meth c Dg T3 ad1 ad2 286 [(0, .ref b), (1, .ref (ad1 0)), (2, .ref (ad2 0)), (3, .int x3)] [] g1 g2 := by
  obtain ⟨hx, hb, hr, hml, hown, hts, hX, hbl, hlocks, hgv⟩ := id C0
  obtain ⟨a1, a2, a3, a4, a5, a6, a7⟩ := id hAd
  obtain ⟨r, r2, f1, f2, hc1, hc2, hG⟩ := hp
  have hM1 := mj_sound (l := l) (T3 := T3) (Dg := Dg) a1 (mj_Cs_of mj_Sok1) mj_hM 900 136 _ _ _ hc1
  have hM2 := mj_sound (l := l) (T3 := T3) (Dg := Dg) a2 (mj_Cs_of mj_Sok2) mj_hM 900 12 _ _ _ hc2
  have kk := kk f1 f2 hG
  intro H locs ls hP1 hP2 hS hl
  refine lv_aload_n hx hb d_law_286 rfl (lv_at hl 1 rfl) ?_
  refine lw_call (as := []) (rest := []) (CC := 200) (SS := 300000) (q := (.int r, f1)) (ad := ad1) (ad' := ad2) hx hb hml hown hts hK a6 a3 a4 lwV_23 trivial hM1 rfl (Nat.le_of_ble_eq_true rfl) d_law_287 ⟨by decide, by decide⟩ hP1 hP2 hS hl.1 (fun H locs hP1 hP2 hS => ?_)
  refine lv_pop hx hb d_law_290 rfl ?_
  refine lv_aload_n hx hb d_law_291 rfl (lv_at hl 2 rfl) ?_
  refine lw_call (as := []) (rest := []) (CC := 200) (SS := 300000) (q := (.int r2, f2)) (ad := ad2) (ad' := ad1) hx hb hml hown hts hK a7 (fun i j hi hj => (a3 j i hj hi).symm) a5 lwV_27 trivial hM2 rfl (Nat.le_of_ble_eq_true rfl) d_law_292 ⟨by decide, by decide⟩ hP2 hP1 hS hl.1 (fun H locs hP2 hP1 hS => ?_)
  refine lv_pop hx hb d_law_295 rfl ?_
  refine lv_goto (tgt := 1374) hx hb d_law_296 (by decide) ?_
  exact kk H locs ls hP1 hP2 hS hl
set_option maxHeartbeats 4000000 in
/-- case 3: fault -/
theorem lw_c3 (C0 : lw_At p s m meth c b L xs) (hK : va_K Dg mj_CL (mj_tys T3) s) (hAd : lw_Ad s ad1 ad2) {x3 : Int32} (h1 : vp_in (x3 + 1) L) {g1 g2 : mj_H} {G : mj_H → mj_H → Prop}
    (hp : ∃ (r r2 : Int32) (f1 f2 : mj_H), mj_Cl mj_S1 mj_CD 900 189 (.ref 0 :: [.int (xs (x3 + 1).toNatClampNeg)]) g1 (.int r, f1) ∧ mj_Cl mj_S2 mj_CD 900 45 (.ref 0 :: [.int (xs (x3 + 1).toNatClampNeg)]) g2 (.int r2, f2) ∧ G f1 f2)
    (kk : ∀ f1 f2, G f1 f2 → lw_St p l e s m b below meth c Dg T3 ad1 ad2 1374 [(0, .ref b), (1, .ref (ad1 0)), (2, .ref (ad2 0)), (3, .int x3)] [] f1 f2) :
    lw_St p l e s m b below meth c Dg T3 ad1 ad2 299 [(0, .ref b), (1, .ref (ad1 0)), (2, .ref (ad2 0)), (3, .int x3)] [] g1 g2 := by
  obtain ⟨hx, hb, hr, hml, hown, hts, hX, hbl, hlocks, hgv⟩ := id C0
  obtain ⟨a1, a2, a3, a4, a5, a6, a7⟩ := id hAd
  obtain ⟨r, r2, f1, f2, hc1, hc2, hG⟩ := hp
  have hM1 := mj_sound (l := l) (T3 := T3) (Dg := Dg) a1 (mj_Cs_of mj_Sok1) mj_hM 900 189 _ _ _ hc1
  have hM2 := mj_sound (l := l) (T3 := T3) (Dg := Dg) a2 (mj_Cs_of mj_Sok2) mj_hM 900 45 _ _ _ hc2
  have kk := kk f1 f2 hG
  intro H locs ls hP1 hP2 hS hl
  refine lv_aload_n hx hb d_law_299 rfl (lv_at hl 1 rfl) ?_
  refine lw_arg C0 hl rfl rfl hS h1 d_law_300 d_law_301 d_law_302 (by decide) d_law_303 d_law_304 ?_
  refine lw_call (as := [.int (xs (x3 + 1).toNatClampNeg)]) (rest := []) (CC := 200) (SS := 300000) (q := (.int r, f1)) (ad := ad1) (ad' := ad2) hx hb hml hown hts hK a6 a3 a4 lwV_28 trivial hM1 rfl (Nat.le_of_ble_eq_true rfl) d_law_305 ⟨by decide, by decide⟩ hP1 hP2 hS hl.1 (fun H locs hP1 hP2 hS => ?_)
  refine lv_pop hx hb d_law_308 rfl ?_
  refine lv_aload_n hx hb d_law_309 rfl (lv_at hl 2 rfl) ?_
  refine lw_arg C0 hl rfl rfl hS h1 d_law_310 d_law_311 d_law_312 (by decide) d_law_313 d_law_314 ?_
  refine lw_call (as := [.int (xs (x3 + 1).toNatClampNeg)]) (rest := []) (CC := 200) (SS := 300000) (q := (.int r2, f2)) (ad := ad2) (ad' := ad1) hx hb hml hown hts hK a7 (fun i j hi hj => (a3 j i hj hi).symm) a5 lwV_32 trivial hM2 rfl (Nat.le_of_ble_eq_true rfl) d_law_315 ⟨by decide, by decide⟩ hP2 hP1 hS hl.1 (fun H locs hP2 hP1 hS => ?_)
  refine lv_pop hx hb d_law_318 rfl ?_
  refine lv_goto (tgt := 1374) hx hb d_law_319 (by decide) ?_
  exact kk H locs ls hP1 hP2 hS hl
set_option maxHeartbeats 4000000 in
/-- case 4: has -/
theorem lw_c4 (C0 : lw_At p s m meth c b L xs) (hK : va_K Dg mj_CL (mj_tys T3) s) (hAd : lw_Ad s ad1 ad2) {x3 : Int32} (h1 : vp_in (x3 + 1) L) {g1 g2 : mj_H} {G : mj_H → mj_H → Prop}
    (hp : ∃ (r r2 : Int32) (f1 f2 : mj_H), mj_Cl mj_S1 mj_CD 900 190 (.ref 0 :: [.int (xs (x3 + 1).toNatClampNeg)]) g1 (.int r, f1) ∧ mj_Cl mj_S2 mj_CD 900 46 (.ref 0 :: [.int (xs (x3 + 1).toNatClampNeg)]) g2 (.int r2, f2) ∧ G f1 f2)
    (kk : ∀ f1 f2, G f1 f2 → lw_St p l e s m b below meth c Dg T3 ad1 ad2 1374 [(0, .ref b), (1, .ref (ad1 0)), (2, .ref (ad2 0)), (3, .int x3)] [] f1 f2) :
    lw_St p l e s m b below meth c Dg T3 ad1 ad2 322 [(0, .ref b), (1, .ref (ad1 0)), (2, .ref (ad2 0)), (3, .int x3)] [] g1 g2 := by
  obtain ⟨hx, hb, hr, hml, hown, hts, hX, hbl, hlocks, hgv⟩ := id C0
  obtain ⟨a1, a2, a3, a4, a5, a6, a7⟩ := id hAd
  obtain ⟨r, r2, f1, f2, hc1, hc2, hG⟩ := hp
  have hM1 := mj_sound (l := l) (T3 := T3) (Dg := Dg) a1 (mj_Cs_of mj_Sok1) mj_hM 900 190 _ _ _ hc1
  have hM2 := mj_sound (l := l) (T3 := T3) (Dg := Dg) a2 (mj_Cs_of mj_Sok2) mj_hM 900 46 _ _ _ hc2
  have kk := kk f1 f2 hG
  intro H locs ls hP1 hP2 hS hl
  refine lv_aload_n hx hb d_law_322 rfl (lv_at hl 1 rfl) ?_
  refine lw_arg C0 hl rfl rfl hS h1 d_law_323 d_law_324 d_law_325 (by decide) d_law_326 d_law_327 ?_
  refine lw_call (as := [.int (xs (x3 + 1).toNatClampNeg)]) (rest := []) (CC := 200) (SS := 300000) (q := (.int r, f1)) (ad := ad1) (ad' := ad2) hx hb hml hown hts hK a6 a3 a4 lwV_33 trivial hM1 rfl (Nat.le_of_ble_eq_true rfl) d_law_328 ⟨by decide, by decide⟩ hP1 hP2 hS hl.1 (fun H locs hP1 hP2 hS => ?_)
  refine lv_pop hx hb d_law_331 rfl ?_
  refine lv_aload_n hx hb d_law_332 rfl (lv_at hl 2 rfl) ?_
  refine lw_arg C0 hl rfl rfl hS h1 d_law_333 d_law_334 d_law_335 (by decide) d_law_336 d_law_337 ?_
  refine lw_call (as := [.int (xs (x3 + 1).toNatClampNeg)]) (rest := []) (CC := 200) (SS := 300000) (q := (.int r2, f2)) (ad := ad2) (ad' := ad1) hx hb hml hown hts hK a7 (fun i j hi hj => (a3 j i hj hi).symm) a5 lwV_36 trivial hM2 rfl (Nat.le_of_ble_eq_true rfl) d_law_338 ⟨by decide, by decide⟩ hP2 hP1 hS hl.1 (fun H locs hP2 hP1 hS => ?_)
  refine lv_pop hx hb d_law_341 rfl ?_
  refine lv_goto (tgt := 1374) hx hb d_law_342 (by decide) ?_
  exact kk H locs ls hP1 hP2 hS hl
set_option maxHeartbeats 4000000 in
/-- case 5: letter -/
theorem lw_c5 (C0 : lw_At p s m meth c b L xs) (hK : va_K Dg mj_CL (mj_tys T3) s) (hAd : lw_Ad s ad1 ad2) {x3 : Int32} (h1 : vp_in (x3 + 1) L) (h2 : vp_in (x3 + 2) L) (h3 : vp_in (x3 + 3) L) {g1 g2 : mj_H} {G : mj_H → mj_H → Prop}
    (hp : ∃ (r r2 : Int32) (f1 f2 : mj_H), mj_Cl mj_S1 mj_CD 900 191 (.ref 0 :: [.int (xs (x3 + 1).toNatClampNeg), .int (xs (x3 + 2).toNatClampNeg), .int (xs (x3 + 3).toNatClampNeg)]) g1 (.int r, f1) ∧ mj_Cl mj_S2 mj_CD 900 47 (.ref 0 :: [.int (xs (x3 + 1).toNatClampNeg), .int (xs (x3 + 2).toNatClampNeg), .int (xs (x3 + 3).toNatClampNeg)]) g2 (.int r2, f2) ∧ G f1 f2)
    (kk : ∀ f1 f2, G f1 f2 → lw_St p l e s m b below meth c Dg T3 ad1 ad2 1374 [(0, .ref b), (1, .ref (ad1 0)), (2, .ref (ad2 0)), (3, .int x3)] [] f1 f2) :
    lw_St p l e s m b below meth c Dg T3 ad1 ad2 345 [(0, .ref b), (1, .ref (ad1 0)), (2, .ref (ad2 0)), (3, .int x3)] [] g1 g2 := by
  obtain ⟨hx, hb, hr, hml, hown, hts, hX, hbl, hlocks, hgv⟩ := id C0
  obtain ⟨a1, a2, a3, a4, a5, a6, a7⟩ := id hAd
  obtain ⟨r, r2, f1, f2, hc1, hc2, hG⟩ := hp
  have hM1 := mj_sound (l := l) (T3 := T3) (Dg := Dg) a1 (mj_Cs_of mj_Sok1) mj_hM 900 191 _ _ _ hc1
  have hM2 := mj_sound (l := l) (T3 := T3) (Dg := Dg) a2 (mj_Cs_of mj_Sok2) mj_hM 900 47 _ _ _ hc2
  have kk := kk f1 f2 hG
  intro H locs ls hP1 hP2 hS hl
  refine lv_aload_n hx hb d_law_345 rfl (lv_at hl 1 rfl) ?_
  refine lw_arg C0 hl rfl rfl hS h1 d_law_346 d_law_347 d_law_348 (by decide) d_law_349 d_law_350 ?_
  refine lw_arg C0 hl rfl rfl hS h2 d_law_351 d_law_352 d_law_353 (by decide) d_law_354 d_law_355 ?_
  refine lw_arg C0 hl rfl rfl hS h3 d_law_356 d_law_357 d_law_358 (by decide) d_law_359 d_law_360 ?_
  refine lw_call (as := [.int (xs (x3 + 1).toNatClampNeg), .int (xs (x3 + 2).toNatClampNeg), .int (xs (x3 + 3).toNatClampNeg)]) (rest := []) (CC := 200) (SS := 300000) (q := (.int r, f1)) (ad := ad1) (ad' := ad2) hx hb hml hown hts hK a6 a3 a4 lwV_37 trivial hM1 rfl (Nat.le_of_ble_eq_true rfl) d_law_361 ⟨by decide, by decide⟩ hP1 hP2 hS hl.1 (fun H locs hP1 hP2 hS => ?_)
  refine lv_pop hx hb d_law_364 rfl ?_
  refine lv_aload_n hx hb d_law_365 rfl (lv_at hl 2 rfl) ?_
  refine lw_arg C0 hl rfl rfl hS h1 d_law_366 d_law_367 d_law_368 (by decide) d_law_369 d_law_370 ?_
  refine lw_arg C0 hl rfl rfl hS h2 d_law_371 d_law_372 d_law_373 (by decide) d_law_374 d_law_375 ?_
  refine lw_arg C0 hl rfl rfl hS h3 d_law_376 d_law_377 d_law_378 (by decide) d_law_379 d_law_380 ?_
  refine lw_call (as := [.int (xs (x3 + 1).toNatClampNeg), .int (xs (x3 + 2).toNatClampNeg), .int (xs (x3 + 3).toNatClampNeg)]) (rest := []) (CC := 200) (SS := 300000) (q := (.int r2, f2)) (ad := ad2) (ad' := ad1) hx hb hml hown hts hK a7 (fun i j hi hj => (a3 j i hj hi).symm) a5 lwV_41 trivial hM2 rfl (Nat.le_of_ble_eq_true rfl) d_law_381 ⟨by decide, by decide⟩ hP2 hP1 hS hl.1 (fun H locs hP2 hP1 hS => ?_)
  refine lv_pop hx hb d_law_384 rfl ?_
  refine lv_goto (tgt := 1374) hx hb d_law_385 (by decide) ?_
  exact kk H locs ls hP1 hP2 hS hl
set_option maxHeartbeats 4000000 in
/-- case 6: price -/
theorem lw_c6 (C0 : lw_At p s m meth c b L xs) (hK : va_K Dg mj_CL (mj_tys T3) s) (hAd : lw_Ad s ad1 ad2) {x3 : Int32} (h1 : vp_in (x3 + 1) L) (h2 : vp_in (x3 + 2) L) (h3 : vp_in (x3 + 3) L) {g1 g2 : mj_H} {G : mj_H → mj_H → Prop}
    (hp : ∃ (r r2 : Int32) (f1 f2 : mj_H), mj_Cl mj_S1 mj_CD 900 194 (.ref 0 :: [.int (xs (x3 + 1).toNatClampNeg), .int (xs (x3 + 2).toNatClampNeg), .int (if (xs (x3 + 3).toNatClampNeg) = 0 then 0 else 1)]) g1 (.int r, f1) ∧ mj_Cl mj_S2 mj_CD 900 52 (.ref 0 :: [.int (xs (x3 + 1).toNatClampNeg), .int (xs (x3 + 2).toNatClampNeg), .int (if (xs (x3 + 3).toNatClampNeg) = 0 then 0 else 1)]) g2 (.int r2, f2) ∧ G f1 f2)
    (kk : ∀ f1 f2, G f1 f2 → lw_St p l e s m b below meth c Dg T3 ad1 ad2 1374 [(0, .ref b), (1, .ref (ad1 0)), (2, .ref (ad2 0)), (3, .int x3)] [] f1 f2) :
    lw_St p l e s m b below meth c Dg T3 ad1 ad2 388 [(0, .ref b), (1, .ref (ad1 0)), (2, .ref (ad2 0)), (3, .int x3)] [] g1 g2 := by
  obtain ⟨hx, hb, hr, hml, hown, hts, hX, hbl, hlocks, hgv⟩ := id C0
  obtain ⟨a1, a2, a3, a4, a5, a6, a7⟩ := id hAd
  obtain ⟨r, r2, f1, f2, hc1, hc2, hG⟩ := hp
  have hM1 := mj_sound (l := l) (T3 := T3) (Dg := Dg) a1 (mj_Cs_of mj_Sok1) mj_hM 900 194 _ _ _ hc1
  have hM2 := mj_sound (l := l) (T3 := T3) (Dg := Dg) a2 (mj_Cs_of mj_Sok2) mj_hM 900 52 _ _ _ hc2
  have kk := kk f1 f2 hG
  intro H locs ls hP1 hP2 hS hl
  by_cases e3 : (xs (x3 + 3).toNatClampNeg) = 0
  · simp only [e3, if_true] at hM1 hM2
    refine lv_aload_n hx hb d_law_388 rfl (lv_at hl 1 rfl) ?_
    refine lw_arg C0 hl rfl rfl hS h1 d_law_389 d_law_390 d_law_391 (by decide) d_law_392 d_law_393 ?_
    refine lw_arg C0 hl rfl rfl hS h2 d_law_394 d_law_395 d_law_396 (by decide) d_law_397 d_law_398 ?_
    refine lw_arg C0 hl rfl rfl hS h3 d_law_399 d_law_400 d_law_401 (by decide) d_law_402 d_law_403 ?_
    refine lv_if_eq (tgt := 411) hx hb d_law_404 (by decide) (fun _ => ?_) (fun q => absurd e3 q)
    refine lv_iconst (v := 0) hx hb d_law_411 (by decide) ?_
    refine lw_call (as := [.int (xs (x3 + 1).toNatClampNeg), .int (xs (x3 + 2).toNatClampNeg), .int 0]) (rest := []) (CC := 200) (SS := 300000) (q := (.int r, f1)) (ad := ad1) (ad' := ad2) hx hb hml hown hts hK a6 a3 a4 lwV_42 trivial hM1 rfl (Nat.le_of_ble_eq_true rfl) d_law_412 ⟨by decide, by decide⟩ hP1 hP2 hS hl.1 (fun H locs hP1 hP2 hS => ?_)
    refine lv_pop hx hb d_law_415 rfl ?_
    refine lv_aload_n hx hb d_law_416 rfl (lv_at hl 2 rfl) ?_
    refine lw_arg C0 hl rfl rfl hS h1 d_law_417 d_law_418 d_law_419 (by decide) d_law_420 d_law_421 ?_
    refine lw_arg C0 hl rfl rfl hS h2 d_law_422 d_law_423 d_law_424 (by decide) d_law_425 d_law_426 ?_
    refine lw_arg C0 hl rfl rfl hS h3 d_law_427 d_law_428 d_law_429 (by decide) d_law_430 d_law_431 ?_
    refine lv_if_eq (tgt := 439) hx hb d_law_432 (by decide) (fun _ => ?_) (fun q => absurd e3 q)
    refine lv_iconst (v := 0) hx hb d_law_439 (by decide) ?_
    refine lw_call (as := [.int (xs (x3 + 1).toNatClampNeg), .int (xs (x3 + 2).toNatClampNeg), .int 0]) (rest := []) (CC := 200) (SS := 300000) (q := (.int r2, f2)) (ad := ad2) (ad' := ad1) hx hb hml hown hts hK a7 (fun i j hi hj => (a3 j i hj hi).symm) a5 lwV_46 trivial hM2 rfl (Nat.le_of_ble_eq_true rfl) d_law_440 ⟨by decide, by decide⟩ hP2 hP1 hS hl.1 (fun H locs hP2 hP1 hS => ?_)
    refine lv_pop hx hb d_law_443 rfl ?_
    refine lv_goto (tgt := 1374) hx hb d_law_444 (by decide) ?_
    exact kk H locs ls hP1 hP2 hS hl
  · simp only [e3, if_false] at hM1 hM2
    refine lv_aload_n hx hb d_law_388 rfl (lv_at hl 1 rfl) ?_
    refine lw_arg C0 hl rfl rfl hS h1 d_law_389 d_law_390 d_law_391 (by decide) d_law_392 d_law_393 ?_
    refine lw_arg C0 hl rfl rfl hS h2 d_law_394 d_law_395 d_law_396 (by decide) d_law_397 d_law_398 ?_
    refine lw_arg C0 hl rfl rfl hS h3 d_law_399 d_law_400 d_law_401 (by decide) d_law_402 d_law_403 ?_
    refine lv_if_eq (tgt := 411) hx hb d_law_404 (by decide) (fun q => absurd q e3) (fun _ => ?_)
    refine lv_iconst (v := 1) hx hb d_law_407 (by decide) ?_
    refine lv_goto (tgt := 412) hx hb d_law_408 (by decide) ?_
    refine lw_call (as := [.int (xs (x3 + 1).toNatClampNeg), .int (xs (x3 + 2).toNatClampNeg), .int 1]) (rest := []) (CC := 200) (SS := 300000) (q := (.int r, f1)) (ad := ad1) (ad' := ad2) hx hb hml hown hts hK a6 a3 a4 lwV_42 trivial hM1 rfl (Nat.le_of_ble_eq_true rfl) d_law_412 ⟨by decide, by decide⟩ hP1 hP2 hS hl.1 (fun H locs hP1 hP2 hS => ?_)
    refine lv_pop hx hb d_law_415 rfl ?_
    refine lv_aload_n hx hb d_law_416 rfl (lv_at hl 2 rfl) ?_
    refine lw_arg C0 hl rfl rfl hS h1 d_law_417 d_law_418 d_law_419 (by decide) d_law_420 d_law_421 ?_
    refine lw_arg C0 hl rfl rfl hS h2 d_law_422 d_law_423 d_law_424 (by decide) d_law_425 d_law_426 ?_
    refine lw_arg C0 hl rfl rfl hS h3 d_law_427 d_law_428 d_law_429 (by decide) d_law_430 d_law_431 ?_
    refine lv_if_eq (tgt := 439) hx hb d_law_432 (by decide) (fun q => absurd q e3) (fun _ => ?_)
    refine lv_iconst (v := 1) hx hb d_law_435 (by decide) ?_
    refine lv_goto (tgt := 440) hx hb d_law_436 (by decide) ?_
    refine lw_call (as := [.int (xs (x3 + 1).toNatClampNeg), .int (xs (x3 + 2).toNatClampNeg), .int 1]) (rest := []) (CC := 200) (SS := 300000) (q := (.int r2, f2)) (ad := ad2) (ad' := ad1) hx hb hml hown hts hK a7 (fun i j hi hj => (a3 j i hj hi).symm) a5 lwV_46 trivial hM2 rfl (Nat.le_of_ble_eq_true rfl) d_law_440 ⟨by decide, by decide⟩ hP2 hP1 hS hl.1 (fun H locs hP2 hP1 hS => ?_)
    refine lv_pop hx hb d_law_443 rfl ?_
    refine lv_goto (tgt := 1374) hx hb d_law_444 (by decide) ?_
    exact kk H locs ls hP1 hP2 hS hl
set_option maxHeartbeats 4000000 in
/-- case 7: beats -/
theorem lw_c7 (C0 : lw_At p s m meth c b L xs) (hK : va_K Dg mj_CL (mj_tys T3) s) (hAd : lw_Ad s ad1 ad2) {x3 : Int32} (h1 : vp_in (x3 + 1) L) (h2 : vp_in (x3 + 2) L) {g1 g2 : mj_H} {G : mj_H → mj_H → Prop}
    (hp : ∃ (r r2 : Int32) (f1 f2 : mj_H), mj_Cl mj_S1 mj_CD 900 195 (.ref 0 :: [.int (xs (x3 + 1).toNatClampNeg), .int (xs (x3 + 2).toNatClampNeg)]) g1 (.int r, f1) ∧ mj_Cl mj_S2 mj_CD 900 54 (.ref 0 :: [.int (xs (x3 + 1).toNatClampNeg), .int (xs (x3 + 2).toNatClampNeg)]) g2 (.int r2, f2) ∧ G f1 f2)
    (kk : ∀ f1 f2, G f1 f2 → lw_St p l e s m b below meth c Dg T3 ad1 ad2 1374 [(0, .ref b), (1, .ref (ad1 0)), (2, .ref (ad2 0)), (3, .int x3)] [] f1 f2) :
    lw_St p l e s m b below meth c Dg T3 ad1 ad2 447 [(0, .ref b), (1, .ref (ad1 0)), (2, .ref (ad2 0)), (3, .int x3)] [] g1 g2 := by
  obtain ⟨hx, hb, hr, hml, hown, hts, hX, hbl, hlocks, hgv⟩ := id C0
  obtain ⟨a1, a2, a3, a4, a5, a6, a7⟩ := id hAd
  obtain ⟨r, r2, f1, f2, hc1, hc2, hG⟩ := hp
  have hM1 := mj_sound (l := l) (T3 := T3) (Dg := Dg) a1 (mj_Cs_of mj_Sok1) mj_hM 900 195 _ _ _ hc1
  have hM2 := mj_sound (l := l) (T3 := T3) (Dg := Dg) a2 (mj_Cs_of mj_Sok2) mj_hM 900 54 _ _ _ hc2
  have kk := kk f1 f2 hG
  intro H locs ls hP1 hP2 hS hl
  refine lv_aload_n hx hb d_law_447 rfl (lv_at hl 1 rfl) ?_
  refine lw_arg C0 hl rfl rfl hS h1 d_law_448 d_law_449 d_law_450 (by decide) d_law_451 d_law_452 ?_
  refine lw_arg C0 hl rfl rfl hS h2 d_law_453 d_law_454 d_law_455 (by decide) d_law_456 d_law_457 ?_
  refine lw_call (as := [.int (xs (x3 + 1).toNatClampNeg), .int (xs (x3 + 2).toNatClampNeg)]) (rest := []) (CC := 200) (SS := 300000) (q := (.int r, f1)) (ad := ad1) (ad' := ad2) hx hb hml hown hts hK a6 a3 a4 lwV_47 trivial hM1 rfl (Nat.le_of_ble_eq_true rfl) d_law_458 ⟨by decide, by decide⟩ hP1 hP2 hS hl.1 (fun H locs hP1 hP2 hS => ?_)
  refine lv_pop hx hb d_law_461 rfl ?_
  refine lv_aload_n hx hb d_law_462 rfl (lv_at hl 2 rfl) ?_
  refine lw_arg C0 hl rfl rfl hS h1 d_law_463 d_law_464 d_law_465 (by decide) d_law_466 d_law_467 ?_
  refine lw_arg C0 hl rfl rfl hS h2 d_law_468 d_law_469 d_law_470 (by decide) d_law_471 d_law_472 ?_
  refine lw_call (as := [.int (xs (x3 + 1).toNatClampNeg), .int (xs (x3 + 2).toNatClampNeg)]) (rest := []) (CC := 200) (SS := 300000) (q := (.int r2, f2)) (ad := ad2) (ad' := ad1) hx hb hml hown hts hK a7 (fun i j hi hj => (a3 j i hj hi).symm) a5 lwV_51 trivial hM2 rfl (Nat.le_of_ble_eq_true rfl) d_law_473 ⟨by decide, by decide⟩ hP2 hP1 hS hl.1 (fun H locs hP2 hP1 hS => ?_)
  refine lv_pop hx hb d_law_476 rfl ?_
  refine lv_goto (tgt := 1374) hx hb d_law_477 (by decide) ?_
  exact kk H locs ls hP1 hP2 hS hl
set_option maxHeartbeats 4000000 in
/-- case 8: leads -/
theorem lw_c8 (C0 : lw_At p s m meth c b L xs) (hK : va_K Dg mj_CL (mj_tys T3) s) (hAd : lw_Ad s ad1 ad2) {x3 : Int32} (h1 : vp_in (x3 + 1) L) {g1 g2 : mj_H} {G : mj_H → mj_H → Prop}
    (hp : ∃ (r r2 : Int32) (f1 f2 : mj_H), mj_Cl mj_S1 mj_CD 900 197 (.ref 0 :: [.int (xs (x3 + 1).toNatClampNeg)]) g1 (.int r, f1) ∧ mj_Cl mj_S2 mj_CD 900 61 (.ref 0 :: [.int (xs (x3 + 1).toNatClampNeg)]) g2 (.int r2, f2) ∧ G f1 f2)
    (kk : ∀ f1 f2, G f1 f2 → lw_St p l e s m b below meth c Dg T3 ad1 ad2 1374 [(0, .ref b), (1, .ref (ad1 0)), (2, .ref (ad2 0)), (3, .int x3)] [] f1 f2) :
    lw_St p l e s m b below meth c Dg T3 ad1 ad2 480 [(0, .ref b), (1, .ref (ad1 0)), (2, .ref (ad2 0)), (3, .int x3)] [] g1 g2 := by
  obtain ⟨hx, hb, hr, hml, hown, hts, hX, hbl, hlocks, hgv⟩ := id C0
  obtain ⟨a1, a2, a3, a4, a5, a6, a7⟩ := id hAd
  obtain ⟨r, r2, f1, f2, hc1, hc2, hG⟩ := hp
  have hM1 := mj_sound (l := l) (T3 := T3) (Dg := Dg) a1 (mj_Cs_of mj_Sok1) mj_hM 900 197 _ _ _ hc1
  have hM2 := mj_sound (l := l) (T3 := T3) (Dg := Dg) a2 (mj_Cs_of mj_Sok2) mj_hM 900 61 _ _ _ hc2
  have kk := kk f1 f2 hG
  intro H locs ls hP1 hP2 hS hl
  refine lv_aload_n hx hb d_law_480 rfl (lv_at hl 1 rfl) ?_
  refine lw_arg C0 hl rfl rfl hS h1 d_law_481 d_law_482 d_law_483 (by decide) d_law_484 d_law_485 ?_
  refine lw_call (as := [.int (xs (x3 + 1).toNatClampNeg)]) (rest := []) (CC := 200) (SS := 300000) (q := (.int r, f1)) (ad := ad1) (ad' := ad2) hx hb hml hown hts hK a6 a3 a4 lwV_52 trivial hM1 rfl (Nat.le_of_ble_eq_true rfl) d_law_486 ⟨by decide, by decide⟩ hP1 hP2 hS hl.1 (fun H locs hP1 hP2 hS => ?_)
  refine lv_pop hx hb d_law_489 rfl ?_
  refine lv_aload_n hx hb d_law_490 rfl (lv_at hl 2 rfl) ?_
  refine lw_arg C0 hl rfl rfl hS h1 d_law_491 d_law_492 d_law_493 (by decide) d_law_494 d_law_495 ?_
  refine lw_call (as := [.int (xs (x3 + 1).toNatClampNeg)]) (rest := []) (CC := 200) (SS := 300000) (q := (.int r2, f2)) (ad := ad2) (ad' := ad1) hx hb hml hown hts hK a7 (fun i j hi hj => (a3 j i hj hi).symm) a5 lwV_55 trivial hM2 rfl (Nat.le_of_ble_eq_true rfl) d_law_496 ⟨by decide, by decide⟩ hP2 hP1 hS hl.1 (fun H locs hP2 hP1 hS => ?_)
  refine lv_pop hx hb d_law_499 rfl ?_
  refine lv_goto (tgt := 1374) hx hb d_law_500 (by decide) ?_
  exact kk H locs ls hP1 hP2 hS hl
set_option maxHeartbeats 4000000 in
/-- case 9: change -/
theorem lw_c9 (C0 : lw_At p s m meth c b L xs) (hK : va_K Dg mj_CL (mj_tys T3) s) (hAd : lw_Ad s ad1 ad2) {x3 : Int32} (h1 : vp_in (x3 + 1) L) (h2 : vp_in (x3 + 2) L) (h3 : vp_in (x3 + 3) L) {g1 g2 : mj_H} {G : mj_H → mj_H → Prop}
    (hp : ∃ (r : Int32) (f1 f2 : mj_H), mj_Cl mj_S1 mj_CD 900 198 (.ref 0 :: [.int (xs (x3 + 1).toNatClampNeg), .int (xs (x3 + 2).toNatClampNeg), .int (xs (x3 + 3).toNatClampNeg)]) g1 (.int r, f1) ∧ mj_Cl mj_S2 mj_CD 900 62 (.ref 0 :: [.int (xs (x3 + 1).toNatClampNeg), .int (xs (x3 + 2).toNatClampNeg), .int (xs (x3 + 3).toNatClampNeg)]) g2 (.int r, f2) ∧ G f1 f2)
    (kk : ∀ f1 f2, G f1 f2 → lw_St p l e s m b below meth c Dg T3 ad1 ad2 1374 [(0, .ref b), (1, .ref (ad1 0)), (2, .ref (ad2 0)), (3, .int x3)] [] f1 f2) :
    lw_St p l e s m b below meth c Dg T3 ad1 ad2 503 [(0, .ref b), (1, .ref (ad1 0)), (2, .ref (ad2 0)), (3, .int x3)] [] g1 g2 := by
  obtain ⟨hx, hb, hr, hml, hown, hts, hX, hbl, hlocks, hgv⟩ := id C0
  obtain ⟨a1, a2, a3, a4, a5, a6, a7⟩ := id hAd
  obtain ⟨r, f1, f2, hc1, hc2, hG⟩ := hp
  have hM1 := mj_sound (l := l) (T3 := T3) (Dg := Dg) a1 (mj_Cs_of mj_Sok1) mj_hM 900 198 _ _ _ hc1
  have hM2 := mj_sound (l := l) (T3 := T3) (Dg := Dg) a2 (mj_Cs_of mj_Sok2) mj_hM 900 62 _ _ _ hc2
  have kk := kk f1 f2 hG
  intro H locs ls hP1 hP2 hS hl
  refine lv_aload_n hx hb d_law_503 rfl (lv_at hl 1 rfl) ?_
  refine lw_arg C0 hl rfl rfl hS h1 d_law_504 d_law_505 d_law_506 (by decide) d_law_507 d_law_508 ?_
  refine lw_arg C0 hl rfl rfl hS h2 d_law_509 d_law_510 d_law_511 (by decide) d_law_512 d_law_513 ?_
  refine lw_arg C0 hl rfl rfl hS h3 d_law_514 d_law_515 d_law_516 (by decide) d_law_517 d_law_518 ?_
  refine lw_call (as := [.int (xs (x3 + 1).toNatClampNeg), .int (xs (x3 + 2).toNatClampNeg), .int (xs (x3 + 3).toNatClampNeg)]) (rest := []) (CC := 200) (SS := 300000) (q := (.int r, f1)) (ad := ad1) (ad' := ad2) hx hb hml hown hts hK a6 a3 a4 lwV_56 trivial hM1 rfl (Nat.le_of_ble_eq_true rfl) d_law_519 ⟨by decide, by decide⟩ hP1 hP2 hS hl.1 (fun H locs hP1 hP2 hS => ?_)
  refine lv_aload_n hx hb d_law_522 rfl (lv_at hl 2 rfl) ?_
  refine lw_arg C0 hl rfl rfl hS h1 d_law_523 d_law_524 d_law_525 (by decide) d_law_526 d_law_527 ?_
  refine lw_arg C0 hl rfl rfl hS h2 d_law_528 d_law_529 d_law_530 (by decide) d_law_531 d_law_532 ?_
  refine lw_arg C0 hl rfl rfl hS h3 d_law_533 d_law_534 d_law_535 (by decide) d_law_536 d_law_537 ?_
  refine lw_call (as := [.int (xs (x3 + 1).toNatClampNeg), .int (xs (x3 + 2).toNatClampNeg), .int (xs (x3 + 3).toNatClampNeg)]) (rest := [.int r]) (CC := 200) (SS := 300000) (q := (.int r, f2)) (ad := ad2) (ad' := ad1) hx hb hml hown hts hK a7 (fun i j hi hj => (a3 j i hj hi).symm) a5 lwV_59 trivial hM2 rfl (Nat.le_of_ble_eq_true rfl) d_law_538 ⟨by decide, by decide⟩ hP2 hP1 hS hl.1 (fun H locs hP2 hP1 hS => ?_)
  refine lv_icmp_eq (tgt := 1374) hx hb d_law_541 (by decide) (fun _ => ?_) (fun q => absurd rfl q)
  exact kk H locs ls hP1 hP2 hS hl
set_option maxHeartbeats 4000000 in
/-- case 10: changed -/
theorem lw_c10 (C0 : lw_At p s m meth c b L xs) (hK : va_K Dg mj_CL (mj_tys T3) s) (hAd : lw_Ad s ad1 ad2) {x3 : Int32} (h1 : vp_in (x3 + 1) L) {g1 g2 : mj_H} {G : mj_H → mj_H → Prop}
    (hp : ∃ (r r2 : Int64) (f1 f2 : mj_H), mj_Cl mj_S1 mj_CD 900 199 (.ref 0 :: [.int (if (xs (x3 + 1).toNatClampNeg) = 0 then 0 else 1)]) g1 (.long r, f1) ∧ mj_Cl mj_S2 mj_CD 900 64 (.ref 0 :: [.int (if (xs (x3 + 1).toNatClampNeg) = 0 then 0 else 1)]) g2 (.long r2, f2) ∧ G f1 f2)
    (kk : ∀ f1 f2, G f1 f2 → lw_St p l e s m b below meth c Dg T3 ad1 ad2 1374 [(0, .ref b), (1, .ref (ad1 0)), (2, .ref (ad2 0)), (3, .int x3)] [] f1 f2) :
    lw_St p l e s m b below meth c Dg T3 ad1 ad2 546 [(0, .ref b), (1, .ref (ad1 0)), (2, .ref (ad2 0)), (3, .int x3)] [] g1 g2 := by
  obtain ⟨hx, hb, hr, hml, hown, hts, hX, hbl, hlocks, hgv⟩ := id C0
  obtain ⟨a1, a2, a3, a4, a5, a6, a7⟩ := id hAd
  obtain ⟨r, r2, f1, f2, hc1, hc2, hG⟩ := hp
  have hM1 := mj_sound (l := l) (T3 := T3) (Dg := Dg) a1 (mj_Cs_of mj_Sok1) mj_hM 900 199 _ _ _ hc1
  have hM2 := mj_sound (l := l) (T3 := T3) (Dg := Dg) a2 (mj_Cs_of mj_Sok2) mj_hM 900 64 _ _ _ hc2
  have kk := kk f1 f2 hG
  intro H locs ls hP1 hP2 hS hl
  by_cases e1 : (xs (x3 + 1).toNatClampNeg) = 0
  · simp only [e1, if_true] at hM1 hM2
    refine lv_aload_n hx hb d_law_546 rfl (lv_at hl 1 rfl) ?_
    refine lw_arg C0 hl rfl rfl hS h1 d_law_547 d_law_548 d_law_549 (by decide) d_law_550 d_law_551 ?_
    refine lv_if_eq (tgt := 559) hx hb d_law_552 (by decide) (fun _ => ?_) (fun q => absurd e1 q)
    refine lv_iconst (v := 0) hx hb d_law_559 (by decide) ?_
    refine lw_call (as := [.int 0]) (rest := []) (CC := 200) (SS := 300000) (q := (.long r, f1)) (ad := ad1) (ad' := ad2) hx hb hml hown hts hK a6 a3 a4 lwV_60 trivial hM1 rfl (Nat.le_of_ble_eq_true rfl) d_law_560 ⟨by decide, by decide⟩ hP1 hP2 hS hl.1 (fun H locs hP1 hP2 hS => ?_)
    refine lv_pop2_2 hx hb d_law_563 rfl ?_
    refine lv_aload_n hx hb d_law_564 rfl (lv_at hl 2 rfl) ?_
    refine lw_arg C0 hl rfl rfl hS h1 d_law_565 d_law_566 d_law_567 (by decide) d_law_568 d_law_569 ?_
    refine lv_if_eq (tgt := 577) hx hb d_law_570 (by decide) (fun _ => ?_) (fun q => absurd e1 q)
    refine lv_iconst (v := 0) hx hb d_law_577 (by decide) ?_
    refine lw_call (as := [.int 0]) (rest := []) (CC := 200) (SS := 300000) (q := (.long r2, f2)) (ad := ad2) (ad' := ad1) hx hb hml hown hts hK a7 (fun i j hi hj => (a3 j i hj hi).symm) a5 lwV_64 trivial hM2 rfl (Nat.le_of_ble_eq_true rfl) d_law_578 ⟨by decide, by decide⟩ hP2 hP1 hS hl.1 (fun H locs hP2 hP1 hS => ?_)
    refine lv_pop2_2 hx hb d_law_581 rfl ?_
    refine lv_goto (tgt := 1374) hx hb d_law_582 (by decide) ?_
    exact kk H locs ls hP1 hP2 hS hl
  · simp only [e1, if_false] at hM1 hM2
    refine lv_aload_n hx hb d_law_546 rfl (lv_at hl 1 rfl) ?_
    refine lw_arg C0 hl rfl rfl hS h1 d_law_547 d_law_548 d_law_549 (by decide) d_law_550 d_law_551 ?_
    refine lv_if_eq (tgt := 559) hx hb d_law_552 (by decide) (fun q => absurd q e1) (fun _ => ?_)
    refine lv_iconst (v := 1) hx hb d_law_555 (by decide) ?_
    refine lv_goto (tgt := 560) hx hb d_law_556 (by decide) ?_
    refine lw_call (as := [.int 1]) (rest := []) (CC := 200) (SS := 300000) (q := (.long r, f1)) (ad := ad1) (ad' := ad2) hx hb hml hown hts hK a6 a3 a4 lwV_60 trivial hM1 rfl (Nat.le_of_ble_eq_true rfl) d_law_560 ⟨by decide, by decide⟩ hP1 hP2 hS hl.1 (fun H locs hP1 hP2 hS => ?_)
    refine lv_pop2_2 hx hb d_law_563 rfl ?_
    refine lv_aload_n hx hb d_law_564 rfl (lv_at hl 2 rfl) ?_
    refine lw_arg C0 hl rfl rfl hS h1 d_law_565 d_law_566 d_law_567 (by decide) d_law_568 d_law_569 ?_
    refine lv_if_eq (tgt := 577) hx hb d_law_570 (by decide) (fun q => absurd q e1) (fun _ => ?_)
    refine lv_iconst (v := 1) hx hb d_law_573 (by decide) ?_
    refine lv_goto (tgt := 578) hx hb d_law_574 (by decide) ?_
    refine lw_call (as := [.int 1]) (rest := []) (CC := 200) (SS := 300000) (q := (.long r2, f2)) (ad := ad2) (ad' := ad1) hx hb hml hown hts hK a7 (fun i j hi hj => (a3 j i hj hi).symm) a5 lwV_64 trivial hM2 rfl (Nat.le_of_ble_eq_true rfl) d_law_578 ⟨by decide, by decide⟩ hP2 hP1 hS hl.1 (fun H locs hP2 hP1 hS => ?_)
    refine lv_pop2_2 hx hb d_law_581 rfl ?_
    refine lv_goto (tgt := 1374) hx hb d_law_582 (by decide) ?_
    exact kk H locs ls hP1 hP2 hS hl
set_option maxHeartbeats 4000000 in
/-- case 11: rows -/
theorem lw_c11 (C0 : lw_At p s m meth c b L xs) (hK : va_K Dg mj_CL (mj_tys T3) s) (hAd : lw_Ad s ad1 ad2) {x3 : Int32} {g1 g2 : mj_H} {G : mj_H → mj_H → Prop}
    (hp : ∃ (r r2 : Int64) (f1 f2 : mj_H), mj_Cl mj_S1 mj_CD 900 200 (.ref 0 :: []) g1 (.long r, f1) ∧ mj_Cl mj_S2 mj_CD 900 59 (.ref 0 :: []) g2 (.long r2, f2) ∧ G f1 f2)
    (kk : ∀ f1 f2, G f1 f2 → lw_St p l e s m b below meth c Dg T3 ad1 ad2 1374 [(0, .ref b), (1, .ref (ad1 0)), (2, .ref (ad2 0)), (3, .int x3)] [] f1 f2) :
    lw_St p l e s m b below meth c Dg T3 ad1 ad2 585 [(0, .ref b), (1, .ref (ad1 0)), (2, .ref (ad2 0)), (3, .int x3)] [] g1 g2 := by
  obtain ⟨hx, hb, hr, hml, hown, hts, hX, hbl, hlocks, hgv⟩ := id C0
  obtain ⟨a1, a2, a3, a4, a5, a6, a7⟩ := id hAd
  obtain ⟨r, r2, f1, f2, hc1, hc2, hG⟩ := hp
  have hM1 := mj_sound (l := l) (T3 := T3) (Dg := Dg) a1 (mj_Cs_of mj_Sok1) mj_hM 900 200 _ _ _ hc1
  have hM2 := mj_sound (l := l) (T3 := T3) (Dg := Dg) a2 (mj_Cs_of mj_Sok2) mj_hM 900 59 _ _ _ hc2
  have kk := kk f1 f2 hG
  intro H locs ls hP1 hP2 hS hl
  refine lv_aload_n hx hb d_law_585 rfl (lv_at hl 1 rfl) ?_
  refine lw_call (as := []) (rest := []) (CC := 200) (SS := 300000) (q := (.long r, f1)) (ad := ad1) (ad' := ad2) hx hb hml hown hts hK a6 a3 a4 lwV_65 trivial hM1 rfl (Nat.le_of_ble_eq_true rfl) d_law_586 ⟨by decide, by decide⟩ hP1 hP2 hS hl.1 (fun H locs hP1 hP2 hS => ?_)
  refine lv_pop2_2 hx hb d_law_589 rfl ?_
  refine lv_aload_n hx hb d_law_590 rfl (lv_at hl 2 rfl) ?_
  refine lw_call (as := []) (rest := []) (CC := 200) (SS := 300000) (q := (.long r2, f2)) (ad := ad2) (ad' := ad1) hx hb hml hown hts hK a7 (fun i j hi hj => (a3 j i hj hi).symm) a5 lwV_69 trivial hM2 rfl (Nat.le_of_ble_eq_true rfl) d_law_591 ⟨by decide, by decide⟩ hP2 hP1 hS hl.1 (fun H locs hP2 hP1 hS => ?_)
  refine lv_pop2_2 hx hb d_law_594 rfl ?_
  refine lv_goto (tgt := 1374) hx hb d_law_595 (by decide) ?_
  exact kk H locs ls hP1 hP2 hS hl
set_option maxHeartbeats 4000000 in
/-- case 12: unsure -/
theorem lw_c12 (C0 : lw_At p s m meth c b L xs) (hK : va_K Dg mj_CL (mj_tys T3) s) (hAd : lw_Ad s ad1 ad2) {x3 : Int32} (h1 : vp_in (x3 + 1) L) {g1 g2 : mj_H} {G : mj_H → mj_H → Prop}
    (hp : ∃ (r r2 : Int64) (f1 f2 : mj_H), mj_Cl mj_S1 mj_CD 900 201 (.ref 0 :: [.int (if (xs (x3 + 1).toNatClampNeg) = 0 then 0 else 1)]) g1 (.long r, f1) ∧ mj_Cl mj_S2 mj_CD 900 69 (.ref 0 :: [.int (if (xs (x3 + 1).toNatClampNeg) = 0 then 0 else 1)]) g2 (.long r2, f2) ∧ G f1 f2)
    (kk : ∀ f1 f2, G f1 f2 → lw_St p l e s m b below meth c Dg T3 ad1 ad2 1374 [(0, .ref b), (1, .ref (ad1 0)), (2, .ref (ad2 0)), (3, .int x3)] [] f1 f2) :
    lw_St p l e s m b below meth c Dg T3 ad1 ad2 598 [(0, .ref b), (1, .ref (ad1 0)), (2, .ref (ad2 0)), (3, .int x3)] [] g1 g2 := by
  obtain ⟨hx, hb, hr, hml, hown, hts, hX, hbl, hlocks, hgv⟩ := id C0
  obtain ⟨a1, a2, a3, a4, a5, a6, a7⟩ := id hAd
  obtain ⟨r, r2, f1, f2, hc1, hc2, hG⟩ := hp
  have hM1 := mj_sound (l := l) (T3 := T3) (Dg := Dg) a1 (mj_Cs_of mj_Sok1) mj_hM 900 201 _ _ _ hc1
  have hM2 := mj_sound (l := l) (T3 := T3) (Dg := Dg) a2 (mj_Cs_of mj_Sok2) mj_hM 900 69 _ _ _ hc2
  have kk := kk f1 f2 hG
  intro H locs ls hP1 hP2 hS hl
  by_cases e1 : (xs (x3 + 1).toNatClampNeg) = 0
  · simp only [e1, if_true] at hM1 hM2
    refine lv_aload_n hx hb d_law_598 rfl (lv_at hl 1 rfl) ?_
    refine lw_arg C0 hl rfl rfl hS h1 d_law_599 d_law_600 d_law_601 (by decide) d_law_602 d_law_603 ?_
    refine lv_if_eq (tgt := 611) hx hb d_law_604 (by decide) (fun _ => ?_) (fun q => absurd e1 q)
    refine lv_iconst (v := 0) hx hb d_law_611 (by decide) ?_
    refine lw_call (as := [.int 0]) (rest := []) (CC := 200) (SS := 300000) (q := (.long r, f1)) (ad := ad1) (ad' := ad2) hx hb hml hown hts hK a6 a3 a4 lwV_70 trivial hM1 rfl (Nat.le_of_ble_eq_true rfl) d_law_612 ⟨by decide, by decide⟩ hP1 hP2 hS hl.1 (fun H locs hP1 hP2 hS => ?_)
    refine lv_pop2_2 hx hb d_law_615 rfl ?_
    refine lv_aload_n hx hb d_law_616 rfl (lv_at hl 2 rfl) ?_
    refine lw_arg C0 hl rfl rfl hS h1 d_law_617 d_law_618 d_law_619 (by decide) d_law_620 d_law_621 ?_
    refine lv_if_eq (tgt := 629) hx hb d_law_622 (by decide) (fun _ => ?_) (fun q => absurd e1 q)
    refine lv_iconst (v := 0) hx hb d_law_629 (by decide) ?_
    refine lw_call (as := [.int 0]) (rest := []) (CC := 200) (SS := 300000) (q := (.long r2, f2)) (ad := ad2) (ad' := ad1) hx hb hml hown hts hK a7 (fun i j hi hj => (a3 j i hj hi).symm) a5 lwV_73 trivial hM2 rfl (Nat.le_of_ble_eq_true rfl) d_law_630 ⟨by decide, by decide⟩ hP2 hP1 hS hl.1 (fun H locs hP2 hP1 hS => ?_)
    refine lv_pop2_2 hx hb d_law_633 rfl ?_
    refine lv_goto (tgt := 1374) hx hb d_law_634 (by decide) ?_
    exact kk H locs ls hP1 hP2 hS hl
  · simp only [e1, if_false] at hM1 hM2
    refine lv_aload_n hx hb d_law_598 rfl (lv_at hl 1 rfl) ?_
    refine lw_arg C0 hl rfl rfl hS h1 d_law_599 d_law_600 d_law_601 (by decide) d_law_602 d_law_603 ?_
    refine lv_if_eq (tgt := 611) hx hb d_law_604 (by decide) (fun q => absurd q e1) (fun _ => ?_)
    refine lv_iconst (v := 1) hx hb d_law_607 (by decide) ?_
    refine lv_goto (tgt := 612) hx hb d_law_608 (by decide) ?_
    refine lw_call (as := [.int 1]) (rest := []) (CC := 200) (SS := 300000) (q := (.long r, f1)) (ad := ad1) (ad' := ad2) hx hb hml hown hts hK a6 a3 a4 lwV_70 trivial hM1 rfl (Nat.le_of_ble_eq_true rfl) d_law_612 ⟨by decide, by decide⟩ hP1 hP2 hS hl.1 (fun H locs hP1 hP2 hS => ?_)
    refine lv_pop2_2 hx hb d_law_615 rfl ?_
    refine lv_aload_n hx hb d_law_616 rfl (lv_at hl 2 rfl) ?_
    refine lw_arg C0 hl rfl rfl hS h1 d_law_617 d_law_618 d_law_619 (by decide) d_law_620 d_law_621 ?_
    refine lv_if_eq (tgt := 629) hx hb d_law_622 (by decide) (fun q => absurd q e1) (fun _ => ?_)
    refine lv_iconst (v := 1) hx hb d_law_625 (by decide) ?_
    refine lv_goto (tgt := 630) hx hb d_law_626 (by decide) ?_
    refine lw_call (as := [.int 1]) (rest := []) (CC := 200) (SS := 300000) (q := (.long r2, f2)) (ad := ad2) (ad' := ad1) hx hb hml hown hts hK a7 (fun i j hi hj => (a3 j i hj hi).symm) a5 lwV_73 trivial hM2 rfl (Nat.le_of_ble_eq_true rfl) d_law_630 ⟨by decide, by decide⟩ hP2 hP1 hS hl.1 (fun H locs hP2 hP1 hS => ?_)
    refine lv_pop2_2 hx hb d_law_633 rfl ?_
    refine lv_goto (tgt := 1374) hx hb d_law_634 (by decide) ?_
    exact kk H locs ls hP1 hP2 hS hl
set_option maxHeartbeats 4000000 in
/-- case 13: maybe -/
theorem lw_c13 (C0 : lw_At p s m meth c b L xs) (hK : va_K Dg mj_CL (mj_tys T3) s) (hAd : lw_Ad s ad1 ad2) {x3 : Int32} (h1 : vp_in (x3 + 1) L) (h2 : vp_in (x3 + 2) L) {g1 g2 : mj_H} {G : mj_H → mj_H → Prop}
    (hp : ∃ (r r2 : Int32) (f1 f2 : mj_H), mj_Cl mj_S1 mj_CD 900 202 (.ref 0 :: [.int (xs (x3 + 1).toNatClampNeg), .int (xs (x3 + 2).toNatClampNeg)]) g1 (.int r, f1) ∧ mj_Cl mj_S2 mj_CD 900 65 (.ref 0 :: [.int (xs (x3 + 1).toNatClampNeg), .int (xs (x3 + 2).toNatClampNeg)]) g2 (.int r2, f2) ∧ G f1 f2)
    (kk : ∀ f1 f2, G f1 f2 → lw_St p l e s m b below meth c Dg T3 ad1 ad2 1374 [(0, .ref b), (1, .ref (ad1 0)), (2, .ref (ad2 0)), (3, .int x3)] [] f1 f2) :
    lw_St p l e s m b below meth c Dg T3 ad1 ad2 637 [(0, .ref b), (1, .ref (ad1 0)), (2, .ref (ad2 0)), (3, .int x3)] [] g1 g2 := by
  obtain ⟨hx, hb, hr, hml, hown, hts, hX, hbl, hlocks, hgv⟩ := id C0
  obtain ⟨a1, a2, a3, a4, a5, a6, a7⟩ := id hAd
  obtain ⟨r, r2, f1, f2, hc1, hc2, hG⟩ := hp
  have hM1 := mj_sound (l := l) (T3 := T3) (Dg := Dg) a1 (mj_Cs_of mj_Sok1) mj_hM 900 202 _ _ _ hc1
  have hM2 := mj_sound (l := l) (T3 := T3) (Dg := Dg) a2 (mj_Cs_of mj_Sok2) mj_hM 900 65 _ _ _ hc2
  have kk := kk f1 f2 hG
  intro H locs ls hP1 hP2 hS hl
  refine lv_aload_n hx hb d_law_637 rfl (lv_at hl 1 rfl) ?_
  refine lw_arg C0 hl rfl rfl hS h1 d_law_638 d_law_639 d_law_640 (by decide) d_law_641 d_law_642 ?_
  refine lw_arg C0 hl rfl rfl hS h2 d_law_643 d_law_644 d_law_645 (by decide) d_law_646 d_law_647 ?_
  refine lw_call (as := [.int (xs (x3 + 1).toNatClampNeg), .int (xs (x3 + 2).toNatClampNeg)]) (rest := []) (CC := 200) (SS := 300000) (q := (.int r, f1)) (ad := ad1) (ad' := ad2) hx hb hml hown hts hK a6 a3 a4 lwV_74 trivial hM1 rfl (Nat.le_of_ble_eq_true rfl) d_law_648 ⟨by decide, by decide⟩ hP1 hP2 hS hl.1 (fun H locs hP1 hP2 hS => ?_)
  refine lv_pop hx hb d_law_651 rfl ?_
  refine lv_aload_n hx hb d_law_652 rfl (lv_at hl 2 rfl) ?_
  refine lw_arg C0 hl rfl rfl hS h1 d_law_653 d_law_654 d_law_655 (by decide) d_law_656 d_law_657 ?_
  refine lw_arg C0 hl rfl rfl hS h2 d_law_658 d_law_659 d_law_660 (by decide) d_law_661 d_law_662 ?_
  refine lw_call (as := [.int (xs (x3 + 1).toNatClampNeg), .int (xs (x3 + 2).toNatClampNeg)]) (rest := []) (CC := 200) (SS := 300000) (q := (.int r2, f2)) (ad := ad2) (ad' := ad1) hx hb hml hown hts hK a7 (fun i j hi hj => (a3 j i hj hi).symm) a5 lwV_77 trivial hM2 rfl (Nat.le_of_ble_eq_true rfl) d_law_663 ⟨by decide, by decide⟩ hP2 hP1 hS hl.1 (fun H locs hP2 hP1 hS => ?_)
  refine lv_pop hx hb d_law_666 rfl ?_
  refine lv_goto (tgt := 1374) hx hb d_law_667 (by decide) ?_
  exact kk H locs ls hP1 hP2 hS hl
set_option maxHeartbeats 4000000 in
/-- case 14: front -/
theorem lw_c14 (C0 : lw_At p s m meth c b L xs) (hK : va_K Dg mj_CL (mj_tys T3) s) (hAd : lw_Ad s ad1 ad2) {x3 : Int32} (h1 : vp_in (x3 + 1) L) (h2 : vp_in (x3 + 2) L) (h3 : vp_in (x3 + 3) L) {g1 g2 : mj_H} {G : mj_H → mj_H → Prop}
    (hp : ∃ (r r2 : Int32) (f1 f2 : mj_H), mj_Cl mj_S1 mj_CD 900 203 (.ref 0 :: [.int (xs (x3 + 1).toNatClampNeg), .int (xs (x3 + 2).toNatClampNeg), .int (xs (x3 + 3).toNatClampNeg)]) g1 (.int r, f1) ∧ mj_Cl mj_S2 mj_CD 900 70 (.ref 0 :: [.int (xs (x3 + 1).toNatClampNeg), .int (xs (x3 + 2).toNatClampNeg), .int (xs (x3 + 3).toNatClampNeg)]) g2 (.int r2, f2) ∧ G f1 f2)
    (kk : ∀ f1 f2, G f1 f2 → lw_St p l e s m b below meth c Dg T3 ad1 ad2 1374 [(0, .ref b), (1, .ref (ad1 0)), (2, .ref (ad2 0)), (3, .int x3)] [] f1 f2) :
    lw_St p l e s m b below meth c Dg T3 ad1 ad2 670 [(0, .ref b), (1, .ref (ad1 0)), (2, .ref (ad2 0)), (3, .int x3)] [] g1 g2 := by
  obtain ⟨hx, hb, hr, hml, hown, hts, hX, hbl, hlocks, hgv⟩ := id C0
  obtain ⟨a1, a2, a3, a4, a5, a6, a7⟩ := id hAd
  obtain ⟨r, r2, f1, f2, hc1, hc2, hG⟩ := hp
  have hM1 := mj_sound (l := l) (T3 := T3) (Dg := Dg) a1 (mj_Cs_of mj_Sok1) mj_hM 900 203 _ _ _ hc1
  have hM2 := mj_sound (l := l) (T3 := T3) (Dg := Dg) a2 (mj_Cs_of mj_Sok2) mj_hM 900 70 _ _ _ hc2
  have kk := kk f1 f2 hG
  intro H locs ls hP1 hP2 hS hl
  refine lv_aload_n hx hb d_law_670 rfl (lv_at hl 1 rfl) ?_
  refine lw_arg C0 hl rfl rfl hS h1 d_law_671 d_law_672 d_law_673 (by decide) d_law_674 d_law_675 ?_
  refine lw_arg C0 hl rfl rfl hS h2 d_law_676 d_law_677 d_law_678 (by decide) d_law_679 d_law_680 ?_
  refine lw_arg C0 hl rfl rfl hS h3 d_law_681 d_law_682 d_law_683 (by decide) d_law_684 d_law_685 ?_
  refine lw_call (as := [.int (xs (x3 + 1).toNatClampNeg), .int (xs (x3 + 2).toNatClampNeg), .int (xs (x3 + 3).toNatClampNeg)]) (rest := []) (CC := 200) (SS := 300000) (q := (.int r, f1)) (ad := ad1) (ad' := ad2) hx hb hml hown hts hK a6 a3 a4 lwV_78 trivial hM1 rfl (Nat.le_of_ble_eq_true rfl) d_law_686 ⟨by decide, by decide⟩ hP1 hP2 hS hl.1 (fun H locs hP1 hP2 hS => ?_)
  refine lv_pop hx hb d_law_689 rfl ?_
  refine lv_aload_n hx hb d_law_690 rfl (lv_at hl 2 rfl) ?_
  refine lw_arg C0 hl rfl rfl hS h1 d_law_691 d_law_692 d_law_693 (by decide) d_law_694 d_law_695 ?_
  refine lw_arg C0 hl rfl rfl hS h2 d_law_696 d_law_697 d_law_698 (by decide) d_law_699 d_law_700 ?_
  refine lw_arg C0 hl rfl rfl hS h3 d_law_701 d_law_702 d_law_703 (by decide) d_law_704 d_law_705 ?_
  refine lw_call (as := [.int (xs (x3 + 1).toNatClampNeg), .int (xs (x3 + 2).toNatClampNeg), .int (xs (x3 + 3).toNatClampNeg)]) (rest := []) (CC := 200) (SS := 300000) (q := (.int r2, f2)) (ad := ad2) (ad' := ad1) hx hb hml hown hts hK a7 (fun i j hi hj => (a3 j i hj hi).symm) a5 lwV_81 trivial hM2 rfl (Nat.le_of_ble_eq_true rfl) d_law_706 ⟨by decide, by decide⟩ hP2 hP1 hS hl.1 (fun H locs hP2 hP1 hS => ?_)
  refine lv_pop hx hb d_law_709 rfl ?_
  refine lv_goto (tgt := 1374) hx hb d_law_710 (by decide) ?_
  exact kk H locs ls hP1 hP2 hS hl
set_option maxHeartbeats 4000000 in
/-- case 15: loss -/
theorem lw_c15 (C0 : lw_At p s m meth c b L xs) (hK : va_K Dg mj_CL (mj_tys T3) s) (hAd : lw_Ad s ad1 ad2) {x3 : Int32} (h1 : vp_in (x3 + 1) L) (h2 : vp_in (x3 + 2) L) {g1 g2 : mj_H} {G : mj_H → mj_H → Prop}
    (hp : ∃ (r r2 : Int32) (f1 f2 : mj_H), mj_Cl mj_S1 mj_CD 900 230 (.ref 0 :: [.int (xs (x3 + 1).toNatClampNeg), .int (xs (x3 + 2).toNatClampNeg)]) g1 (.int r, f1) ∧ mj_Cl mj_S2 mj_CD 900 84 (.ref 0 :: [.int (xs (x3 + 1).toNatClampNeg), .int (xs (x3 + 2).toNatClampNeg)]) g2 (.int r2, f2) ∧ G f1 f2)
    (kk : ∀ f1 f2, G f1 f2 → lw_St p l e s m b below meth c Dg T3 ad1 ad2 1374 [(0, .ref b), (1, .ref (ad1 0)), (2, .ref (ad2 0)), (3, .int x3)] [] f1 f2) :
    lw_St p l e s m b below meth c Dg T3 ad1 ad2 713 [(0, .ref b), (1, .ref (ad1 0)), (2, .ref (ad2 0)), (3, .int x3)] [] g1 g2 := by
  obtain ⟨hx, hb, hr, hml, hown, hts, hX, hbl, hlocks, hgv⟩ := id C0
  obtain ⟨a1, a2, a3, a4, a5, a6, a7⟩ := id hAd
  obtain ⟨r, r2, f1, f2, hc1, hc2, hG⟩ := hp
  have hM1 := mj_sound (l := l) (T3 := T3) (Dg := Dg) a1 (mj_Cs_of mj_Sok1) mj_hM 900 230 _ _ _ hc1
  have hM2 := mj_sound (l := l) (T3 := T3) (Dg := Dg) a2 (mj_Cs_of mj_Sok2) mj_hM 900 84 _ _ _ hc2
  have kk := kk f1 f2 hG
  intro H locs ls hP1 hP2 hS hl
  refine lv_aload_n hx hb d_law_713 rfl (lv_at hl 1 rfl) ?_
  refine lw_arg C0 hl rfl rfl hS h1 d_law_714 d_law_715 d_law_716 (by decide) d_law_717 d_law_718 ?_
  refine lw_arg C0 hl rfl rfl hS h2 d_law_719 d_law_720 d_law_721 (by decide) d_law_722 d_law_723 ?_
  refine lw_call (as := [.int (xs (x3 + 1).toNatClampNeg), .int (xs (x3 + 2).toNatClampNeg)]) (rest := []) (CC := 200) (SS := 300000) (q := (.int r, f1)) (ad := ad1) (ad' := ad2) hx hb hml hown hts hK a6 a3 a4 lwV_82 trivial hM1 rfl (Nat.le_of_ble_eq_true rfl) d_law_724 ⟨by decide, by decide⟩ hP1 hP2 hS hl.1 (fun H locs hP1 hP2 hS => ?_)
  refine lv_pop hx hb d_law_727 rfl ?_
  refine lv_aload_n hx hb d_law_728 rfl (lv_at hl 2 rfl) ?_
  refine lw_arg C0 hl rfl rfl hS h1 d_law_729 d_law_730 d_law_731 (by decide) d_law_732 d_law_733 ?_
  refine lw_arg C0 hl rfl rfl hS h2 d_law_734 d_law_735 d_law_736 (by decide) d_law_737 d_law_738 ?_
  refine lw_call (as := [.int (xs (x3 + 1).toNatClampNeg), .int (xs (x3 + 2).toNatClampNeg)]) (rest := []) (CC := 200) (SS := 300000) (q := (.int r2, f2)) (ad := ad2) (ad' := ad1) hx hb hml hown hts hK a7 (fun i j hi hj => (a3 j i hj hi).symm) a5 lwV_85 trivial hM2 rfl (Nat.le_of_ble_eq_true rfl) d_law_739 ⟨by decide, by decide⟩ hP2 hP1 hS hl.1 (fun H locs hP2 hP1 hS => ?_)
  refine lv_pop hx hb d_law_742 rfl ?_
  refine lv_goto (tgt := 1374) hx hb d_law_743 (by decide) ?_
  exact kk H locs ls hP1 hP2 hS hl
set_option maxHeartbeats 4000000 in
/-- case 16: who -/
theorem lw_c16 (C0 : lw_At p s m meth c b L xs) (hK : va_K Dg mj_CL (mj_tys T3) s) (hAd : lw_Ad s ad1 ad2) {x3 : Int32} (h1 : vp_in (x3 + 1) L) {g1 g2 : mj_H} {G : mj_H → mj_H → Prop}
    (hp : ∃ (r r2 : Int32) (f1 f2 : mj_H), mj_Cl mj_S1 mj_CD 900 232 (.ref 0 :: [.int (xs (x3 + 1).toNatClampNeg)]) g1 (.int r, f1) ∧ mj_Cl mj_S2 mj_CD 900 86 (.ref 0 :: [.int (xs (x3 + 1).toNatClampNeg)]) g2 (.int r2, f2) ∧ G f1 f2)
    (kk : ∀ f1 f2, G f1 f2 → lw_St p l e s m b below meth c Dg T3 ad1 ad2 1374 [(0, .ref b), (1, .ref (ad1 0)), (2, .ref (ad2 0)), (3, .int x3)] [] f1 f2) :
    lw_St p l e s m b below meth c Dg T3 ad1 ad2 746 [(0, .ref b), (1, .ref (ad1 0)), (2, .ref (ad2 0)), (3, .int x3)] [] g1 g2 := by
  obtain ⟨hx, hb, hr, hml, hown, hts, hX, hbl, hlocks, hgv⟩ := id C0
  obtain ⟨a1, a2, a3, a4, a5, a6, a7⟩ := id hAd
  obtain ⟨r, r2, f1, f2, hc1, hc2, hG⟩ := hp
  have hM1 := mj_sound (l := l) (T3 := T3) (Dg := Dg) a1 (mj_Cs_of mj_Sok1) mj_hM 900 232 _ _ _ hc1
  have hM2 := mj_sound (l := l) (T3 := T3) (Dg := Dg) a2 (mj_Cs_of mj_Sok2) mj_hM 900 86 _ _ _ hc2
  have kk := kk f1 f2 hG
  intro H locs ls hP1 hP2 hS hl
  refine lv_aload_n hx hb d_law_746 rfl (lv_at hl 1 rfl) ?_
  refine lw_arg C0 hl rfl rfl hS h1 d_law_747 d_law_748 d_law_749 (by decide) d_law_750 d_law_751 ?_
  refine lw_call (as := [.int (xs (x3 + 1).toNatClampNeg)]) (rest := []) (CC := 200) (SS := 300000) (q := (.int r, f1)) (ad := ad1) (ad' := ad2) hx hb hml hown hts hK a6 a3 a4 lwV_86 trivial hM1 rfl (Nat.le_of_ble_eq_true rfl) d_law_752 ⟨by decide, by decide⟩ hP1 hP2 hS hl.1 (fun H locs hP1 hP2 hS => ?_)
  refine lv_pop hx hb d_law_755 rfl ?_
  refine lv_aload_n hx hb d_law_756 rfl (lv_at hl 2 rfl) ?_
  refine lw_arg C0 hl rfl rfl hS h1 d_law_757 d_law_758 d_law_759 (by decide) d_law_760 d_law_761 ?_
  refine lw_call (as := [.int (xs (x3 + 1).toNatClampNeg)]) (rest := []) (CC := 200) (SS := 300000) (q := (.int r2, f2)) (ad := ad2) (ad' := ad1) hx hb hml hown hts hK a7 (fun i j hi hj => (a3 j i hj hi).symm) a5 lwV_89 trivial hM2 rfl (Nat.le_of_ble_eq_true rfl) d_law_762 ⟨by decide, by decide⟩ hP2 hP1 hS hl.1 (fun H locs hP2 hP1 hS => ?_)
  refine lv_pop hx hb d_law_765 rfl ?_
  refine lv_goto (tgt := 1374) hx hb d_law_766 (by decide) ?_
  exact kk H locs ls hP1 hP2 hS hl
set_option maxHeartbeats 4000000 in
/-- case 17: knot -/
theorem lw_c17 (C0 : lw_At p s m meth c b L xs) (hK : va_K Dg mj_CL (mj_tys T3) s) (hAd : lw_Ad s ad1 ad2) {x3 : Int32} (h1 : vp_in (x3 + 1) L) (h2 : vp_in (x3 + 2) L) {g1 g2 : mj_H} {G : mj_H → mj_H → Prop}
    (hp : ∃ (r r2 : Int32) (f1 f2 : mj_H), mj_Cl mj_S1 mj_CD 900 234 (.ref 0 :: [.int (xs (x3 + 1).toNatClampNeg), .int (xs (x3 + 2).toNatClampNeg)]) g1 (.int r, f1) ∧ mj_Cl mj_S2 mj_CD 900 87 (.ref 0 :: [.int (xs (x3 + 1).toNatClampNeg), .int (xs (x3 + 2).toNatClampNeg)]) g2 (.int r2, f2) ∧ G f1 f2)
    (kk : ∀ f1 f2, G f1 f2 → lw_St p l e s m b below meth c Dg T3 ad1 ad2 1374 [(0, .ref b), (1, .ref (ad1 0)), (2, .ref (ad2 0)), (3, .int x3)] [] f1 f2) :
    lw_St p l e s m b below meth c Dg T3 ad1 ad2 769 [(0, .ref b), (1, .ref (ad1 0)), (2, .ref (ad2 0)), (3, .int x3)] [] g1 g2 := by
  obtain ⟨hx, hb, hr, hml, hown, hts, hX, hbl, hlocks, hgv⟩ := id C0
  obtain ⟨a1, a2, a3, a4, a5, a6, a7⟩ := id hAd
  obtain ⟨r, r2, f1, f2, hc1, hc2, hG⟩ := hp
  have hM1 := mj_sound (l := l) (T3 := T3) (Dg := Dg) a1 (mj_Cs_of mj_Sok1) mj_hM 900 234 _ _ _ hc1
  have hM2 := mj_sound (l := l) (T3 := T3) (Dg := Dg) a2 (mj_Cs_of mj_Sok2) mj_hM 900 87 _ _ _ hc2
  have kk := kk f1 f2 hG
  intro H locs ls hP1 hP2 hS hl
  refine lv_aload_n hx hb d_law_769 rfl (lv_at hl 1 rfl) ?_
  refine lw_arg C0 hl rfl rfl hS h1 d_law_770 d_law_771 d_law_772 (by decide) d_law_773 d_law_774 ?_
  refine lw_arg C0 hl rfl rfl hS h2 d_law_775 d_law_776 d_law_777 (by decide) d_law_778 d_law_779 ?_
  refine lw_call (as := [.int (xs (x3 + 1).toNatClampNeg), .int (xs (x3 + 2).toNatClampNeg)]) (rest := []) (CC := 200) (SS := 300000) (q := (.int r, f1)) (ad := ad1) (ad' := ad2) hx hb hml hown hts hK a6 a3 a4 lwV_90 trivial hM1 rfl (Nat.le_of_ble_eq_true rfl) d_law_780 ⟨by decide, by decide⟩ hP1 hP2 hS hl.1 (fun H locs hP1 hP2 hS => ?_)
  refine lv_pop hx hb d_law_783 rfl ?_
  refine lv_aload_n hx hb d_law_784 rfl (lv_at hl 2 rfl) ?_
  refine lw_arg C0 hl rfl rfl hS h1 d_law_785 d_law_786 d_law_787 (by decide) d_law_788 d_law_789 ?_
  refine lw_arg C0 hl rfl rfl hS h2 d_law_790 d_law_791 d_law_792 (by decide) d_law_793 d_law_794 ?_
  refine lw_call (as := [.int (xs (x3 + 1).toNatClampNeg), .int (xs (x3 + 2).toNatClampNeg)]) (rest := []) (CC := 200) (SS := 300000) (q := (.int r2, f2)) (ad := ad2) (ad' := ad1) hx hb hml hown hts hK a7 (fun i j hi hj => (a3 j i hj hi).symm) a5 lwV_93 trivial hM2 rfl (Nat.le_of_ble_eq_true rfl) d_law_795 ⟨by decide, by decide⟩ hP2 hP1 hS hl.1 (fun H locs hP2 hP1 hS => ?_)
  refine lv_pop hx hb d_law_798 rfl ?_
  refine lv_goto (tgt := 1374) hx hb d_law_799 (by decide) ?_
  exact kk H locs ls hP1 hP2 hS hl
set_option maxHeartbeats 4000000 in
/-- case 18: grid -/
theorem lw_c18 (C0 : lw_At p s m meth c b L xs) (hK : va_K Dg mj_CL (mj_tys T3) s) (hAd : lw_Ad s ad1 ad2) {x3 : Int32} (h1 : vp_in (x3 + 1) L) {g1 g2 : mj_H} {G : mj_H → mj_H → Prop}
    (hp : ∃ (r r2 : Int32) (f1 f2 : mj_H), mj_Cl mj_S1 mj_CD 900 236 (.ref 0 :: [.int (xs (x3 + 1).toNatClampNeg)]) g1 (.int r, f1) ∧ mj_Cl mj_S2 mj_CD 900 88 (.ref 0 :: [.int (xs (x3 + 1).toNatClampNeg)]) g2 (.int r2, f2) ∧ G f1 f2)
    (kk : ∀ f1 f2, G f1 f2 → lw_St p l e s m b below meth c Dg T3 ad1 ad2 1374 [(0, .ref b), (1, .ref (ad1 0)), (2, .ref (ad2 0)), (3, .int x3)] [] f1 f2) :
    lw_St p l e s m b below meth c Dg T3 ad1 ad2 802 [(0, .ref b), (1, .ref (ad1 0)), (2, .ref (ad2 0)), (3, .int x3)] [] g1 g2 := by
  obtain ⟨hx, hb, hr, hml, hown, hts, hX, hbl, hlocks, hgv⟩ := id C0
  obtain ⟨a1, a2, a3, a4, a5, a6, a7⟩ := id hAd
  obtain ⟨r, r2, f1, f2, hc1, hc2, hG⟩ := hp
  have hM1 := mj_sound (l := l) (T3 := T3) (Dg := Dg) a1 (mj_Cs_of mj_Sok1) mj_hM 900 236 _ _ _ hc1
  have hM2 := mj_sound (l := l) (T3 := T3) (Dg := Dg) a2 (mj_Cs_of mj_Sok2) mj_hM 900 88 _ _ _ hc2
  have kk := kk f1 f2 hG
  intro H locs ls hP1 hP2 hS hl
  refine lv_aload_n hx hb d_law_802 rfl (lv_at hl 1 rfl) ?_
  refine lw_arg C0 hl rfl rfl hS h1 d_law_803 d_law_804 d_law_805 (by decide) d_law_806 d_law_807 ?_
  refine lw_call (as := [.int (xs (x3 + 1).toNatClampNeg)]) (rest := []) (CC := 200) (SS := 300000) (q := (.int r, f1)) (ad := ad1) (ad' := ad2) hx hb hml hown hts hK a6 a3 a4 lwV_94 trivial hM1 rfl (Nat.le_of_ble_eq_true rfl) d_law_808 ⟨by decide, by decide⟩ hP1 hP2 hS hl.1 (fun H locs hP1 hP2 hS => ?_)
  refine lv_pop hx hb d_law_811 rfl ?_
  refine lv_aload_n hx hb d_law_812 rfl (lv_at hl 2 rfl) ?_
  refine lw_arg C0 hl rfl rfl hS h1 d_law_813 d_law_814 d_law_815 (by decide) d_law_816 d_law_817 ?_
  refine lw_call (as := [.int (xs (x3 + 1).toNatClampNeg)]) (rest := []) (CC := 200) (SS := 300000) (q := (.int r2, f2)) (ad := ad2) (ad' := ad1) hx hb hml hown hts hK a7 (fun i j hi hj => (a3 j i hj hi).symm) a5 lwV_97 trivial hM2 rfl (Nat.le_of_ble_eq_true rfl) d_law_818 ⟨by decide, by decide⟩ hP2 hP1 hS hl.1 (fun H locs hP2 hP1 hS => ?_)
  refine lv_pop hx hb d_law_821 rfl ?_
  refine lv_goto (tgt := 1374) hx hb d_law_822 (by decide) ?_
  exact kk H locs ls hP1 hP2 hS hl
set_option maxHeartbeats 4000000 in
/-- case 19: corner -/
theorem lw_c19 (C0 : lw_At p s m meth c b L xs) (hK : va_K Dg mj_CL (mj_tys T3) s) (hAd : lw_Ad s ad1 ad2) {x3 : Int32} (h1 : vp_in (x3 + 1) L) {g1 g2 : mj_H} {G : mj_H → mj_H → Prop}
    (hp : ∃ (r r2 : Int32) (f1 f2 : mj_H), mj_Cl mj_S1 mj_CD 900 237 (.ref 0 :: [.int (xs (x3 + 1).toNatClampNeg)]) g1 (.int r, f1) ∧ mj_Cl mj_S2 mj_CD 900 89 (.ref 0 :: [.int (xs (x3 + 1).toNatClampNeg)]) g2 (.int r2, f2) ∧ G f1 f2)
    (kk : ∀ f1 f2, G f1 f2 → lw_St p l e s m b below meth c Dg T3 ad1 ad2 1374 [(0, .ref b), (1, .ref (ad1 0)), (2, .ref (ad2 0)), (3, .int x3)] [] f1 f2) :
    lw_St p l e s m b below meth c Dg T3 ad1 ad2 825 [(0, .ref b), (1, .ref (ad1 0)), (2, .ref (ad2 0)), (3, .int x3)] [] g1 g2 := by
  obtain ⟨hx, hb, hr, hml, hown, hts, hX, hbl, hlocks, hgv⟩ := id C0
  obtain ⟨a1, a2, a3, a4, a5, a6, a7⟩ := id hAd
  obtain ⟨r, r2, f1, f2, hc1, hc2, hG⟩ := hp
  have hM1 := mj_sound (l := l) (T3 := T3) (Dg := Dg) a1 (mj_Cs_of mj_Sok1) mj_hM 900 237 _ _ _ hc1
  have hM2 := mj_sound (l := l) (T3 := T3) (Dg := Dg) a2 (mj_Cs_of mj_Sok2) mj_hM 900 89 _ _ _ hc2
  have kk := kk f1 f2 hG
  intro H locs ls hP1 hP2 hS hl
  refine lv_aload_n hx hb d_law_825 rfl (lv_at hl 1 rfl) ?_
  refine lw_arg C0 hl rfl rfl hS h1 d_law_826 d_law_827 d_law_828 (by decide) d_law_829 d_law_830 ?_
  refine lw_call (as := [.int (xs (x3 + 1).toNatClampNeg)]) (rest := []) (CC := 200) (SS := 300000) (q := (.int r, f1)) (ad := ad1) (ad' := ad2) hx hb hml hown hts hK a6 a3 a4 lwV_98 trivial hM1 rfl (Nat.le_of_ble_eq_true rfl) d_law_831 ⟨by decide, by decide⟩ hP1 hP2 hS hl.1 (fun H locs hP1 hP2 hS => ?_)
  refine lv_pop hx hb d_law_834 rfl ?_
  refine lv_aload_n hx hb d_law_835 rfl (lv_at hl 2 rfl) ?_
  refine lw_arg C0 hl rfl rfl hS h1 d_law_836 d_law_837 d_law_838 (by decide) d_law_839 d_law_840 ?_
  refine lw_call (as := [.int (xs (x3 + 1).toNatClampNeg)]) (rest := []) (CC := 200) (SS := 300000) (q := (.int r2, f2)) (ad := ad2) (ad' := ad1) hx hb hml hown hts hK a7 (fun i j hi hj => (a3 j i hj hi).symm) a5 lwV_101 trivial hM2 rfl (Nat.le_of_ble_eq_true rfl) d_law_841 ⟨by decide, by decide⟩ hP2 hP1 hS hl.1 (fun H locs hP2 hP1 hS => ?_)
  refine lv_pop hx hb d_law_844 rfl ?_
  refine lv_goto (tgt := 1374) hx hb d_law_845 (by decide) ?_
  exact kk H locs ls hP1 hP2 hS hl
set_option maxHeartbeats 4000000 in
/-- case 20: weight -/
theorem lw_c20 (C0 : lw_At p s m meth c b L xs) (hK : va_K Dg mj_CL (mj_tys T3) s) (hAd : lw_Ad s ad1 ad2) {x3 : Int32} (h1 : vp_in (x3 + 1) L) (h2 : vp_in (x3 + 2) L) {g1 g2 : mj_H} {G : mj_H → mj_H → Prop}
    (hp : ∃ (r r2 : Int32) (f1 f2 : mj_H), mj_Cl mj_S1 mj_CD 900 240 (.ref 0 :: [.int (xs (x3 + 1).toNatClampNeg), .int (xs (x3 + 2).toNatClampNeg)]) g1 (.int r, f1) ∧ mj_Cl mj_S2 mj_CD 900 94 (.ref 0 :: [.int (xs (x3 + 1).toNatClampNeg), .int (xs (x3 + 2).toNatClampNeg)]) g2 (.int r2, f2) ∧ G f1 f2)
    (kk : ∀ f1 f2, G f1 f2 → lw_St p l e s m b below meth c Dg T3 ad1 ad2 1374 [(0, .ref b), (1, .ref (ad1 0)), (2, .ref (ad2 0)), (3, .int x3)] [] f1 f2) :
    lw_St p l e s m b below meth c Dg T3 ad1 ad2 848 [(0, .ref b), (1, .ref (ad1 0)), (2, .ref (ad2 0)), (3, .int x3)] [] g1 g2 := by
  obtain ⟨hx, hb, hr, hml, hown, hts, hX, hbl, hlocks, hgv⟩ := id C0
  obtain ⟨a1, a2, a3, a4, a5, a6, a7⟩ := id hAd
  obtain ⟨r, r2, f1, f2, hc1, hc2, hG⟩ := hp
  have hM1 := mj_sound (l := l) (T3 := T3) (Dg := Dg) a1 (mj_Cs_of mj_Sok1) mj_hM 900 240 _ _ _ hc1
  have hM2 := mj_sound (l := l) (T3 := T3) (Dg := Dg) a2 (mj_Cs_of mj_Sok2) mj_hM 900 94 _ _ _ hc2
  have kk := kk f1 f2 hG
  intro H locs ls hP1 hP2 hS hl
  refine lv_aload_n hx hb d_law_848 rfl (lv_at hl 1 rfl) ?_
  refine lw_arg C0 hl rfl rfl hS h1 d_law_849 d_law_850 d_law_851 (by decide) d_law_852 d_law_853 ?_
  refine lw_arg C0 hl rfl rfl hS h2 d_law_854 d_law_855 d_law_856 (by decide) d_law_857 d_law_858 ?_
  refine lw_call (as := [.int (xs (x3 + 1).toNatClampNeg), .int (xs (x3 + 2).toNatClampNeg)]) (rest := []) (CC := 200) (SS := 300000) (q := (.int r, f1)) (ad := ad1) (ad' := ad2) hx hb hml hown hts hK a6 a3 a4 lwV_102 trivial hM1 rfl (Nat.le_of_ble_eq_true rfl) d_law_859 ⟨by decide, by decide⟩ hP1 hP2 hS hl.1 (fun H locs hP1 hP2 hS => ?_)
  refine lv_pop hx hb d_law_862 rfl ?_
  refine lv_aload_n hx hb d_law_863 rfl (lv_at hl 2 rfl) ?_
  refine lw_arg C0 hl rfl rfl hS h1 d_law_864 d_law_865 d_law_866 (by decide) d_law_867 d_law_868 ?_
  refine lw_arg C0 hl rfl rfl hS h2 d_law_869 d_law_870 d_law_871 (by decide) d_law_872 d_law_873 ?_
  refine lw_call (as := [.int (xs (x3 + 1).toNatClampNeg), .int (xs (x3 + 2).toNatClampNeg)]) (rest := []) (CC := 200) (SS := 300000) (q := (.int r2, f2)) (ad := ad2) (ad' := ad1) hx hb hml hown hts hK a7 (fun i j hi hj => (a3 j i hj hi).symm) a5 lwV_105 trivial hM2 rfl (Nat.le_of_ble_eq_true rfl) d_law_874 ⟨by decide, by decide⟩ hP2 hP1 hS hl.1 (fun H locs hP2 hP1 hS => ?_)
  refine lv_pop hx hb d_law_877 rfl ?_
  refine lv_goto (tgt := 1374) hx hb d_law_878 (by decide) ?_
  exact kk H locs ls hP1 hP2 hS hl
set_option maxHeartbeats 4000000 in
/-- case 21: near -/
theorem lw_c21 (C0 : lw_At p s m meth c b L xs) (hK : va_K Dg mj_CL (mj_tys T3) s) (hAd : lw_Ad s ad1 ad2) {x3 : Int32} (h1 : vp_in (x3 + 1) L) {g1 g2 : mj_H} {G : mj_H → mj_H → Prop}
    (hp : ∃ (r r2 : Int32) (f1 f2 : mj_H), mj_Cl mj_S1 mj_CD 900 241 (.ref 0 :: [.int (xs (x3 + 1).toNatClampNeg)]) g1 (.int r, f1) ∧ mj_Cl mj_S2 mj_CD 900 95 (.ref 0 :: [.int (xs (x3 + 1).toNatClampNeg)]) g2 (.int r2, f2) ∧ G f1 f2)
    (kk : ∀ f1 f2, G f1 f2 → lw_St p l e s m b below meth c Dg T3 ad1 ad2 1374 [(0, .ref b), (1, .ref (ad1 0)), (2, .ref (ad2 0)), (3, .int x3)] [] f1 f2) :
    lw_St p l e s m b below meth c Dg T3 ad1 ad2 881 [(0, .ref b), (1, .ref (ad1 0)), (2, .ref (ad2 0)), (3, .int x3)] [] g1 g2 := by
  obtain ⟨hx, hb, hr, hml, hown, hts, hX, hbl, hlocks, hgv⟩ := id C0
  obtain ⟨a1, a2, a3, a4, a5, a6, a7⟩ := id hAd
  obtain ⟨r, r2, f1, f2, hc1, hc2, hG⟩ := hp
  have hM1 := mj_sound (l := l) (T3 := T3) (Dg := Dg) a1 (mj_Cs_of mj_Sok1) mj_hM 900 241 _ _ _ hc1
  have hM2 := mj_sound (l := l) (T3 := T3) (Dg := Dg) a2 (mj_Cs_of mj_Sok2) mj_hM 900 95 _ _ _ hc2
  have kk := kk f1 f2 hG
  intro H locs ls hP1 hP2 hS hl
  refine lv_aload_n hx hb d_law_881 rfl (lv_at hl 1 rfl) ?_
  refine lw_arg C0 hl rfl rfl hS h1 d_law_882 d_law_883 d_law_884 (by decide) d_law_885 d_law_886 ?_
  refine lw_call (as := [.int (xs (x3 + 1).toNatClampNeg)]) (rest := []) (CC := 200) (SS := 300000) (q := (.int r, f1)) (ad := ad1) (ad' := ad2) hx hb hml hown hts hK a6 a3 a4 lwV_106 trivial hM1 rfl (Nat.le_of_ble_eq_true rfl) d_law_887 ⟨by decide, by decide⟩ hP1 hP2 hS hl.1 (fun H locs hP1 hP2 hS => ?_)
  refine lv_pop hx hb d_law_890 rfl ?_
  refine lv_aload_n hx hb d_law_891 rfl (lv_at hl 2 rfl) ?_
  refine lw_arg C0 hl rfl rfl hS h1 d_law_892 d_law_893 d_law_894 (by decide) d_law_895 d_law_896 ?_
  refine lw_call (as := [.int (xs (x3 + 1).toNatClampNeg)]) (rest := []) (CC := 200) (SS := 300000) (q := (.int r2, f2)) (ad := ad2) (ad' := ad1) hx hb hml hown hts hK a7 (fun i j hi hj => (a3 j i hj hi).symm) a5 lwV_109 trivial hM2 rfl (Nat.le_of_ble_eq_true rfl) d_law_897 ⟨by decide, by decide⟩ hP2 hP1 hS hl.1 (fun H locs hP2 hP1 hS => ?_)
  refine lv_pop hx hb d_law_900 rfl ?_
  refine lv_goto (tgt := 1374) hx hb d_law_901 (by decide) ?_
  exact kk H locs ls hP1 hP2 hS hl
set_option maxHeartbeats 4000000 in
/-- case 22: standIns -/
theorem lw_c22 (C0 : lw_At p s m meth c b L xs) (hK : va_K Dg mj_CL (mj_tys T3) s) (hAd : lw_Ad s ad1 ad2) {x3 : Int32} (h1 : vp_in (x3 + 1) L) {g1 g2 : mj_H} {G : mj_H → mj_H → Prop}
    (hp : ∃ (r r2 : Int32) (f1 f2 : mj_H), mj_Cl mj_S1 mj_CD 900 249 (.ref 0 :: [.int (xs (x3 + 1).toNatClampNeg)]) g1 (.int r, f1) ∧ mj_Cl mj_S2 mj_CD 900 100 (.ref 0 :: [.int (xs (x3 + 1).toNatClampNeg)]) g2 (.int r2, f2) ∧ G f1 f2)
    (kk : ∀ f1 f2, G f1 f2 → lw_St p l e s m b below meth c Dg T3 ad1 ad2 1374 [(0, .ref b), (1, .ref (ad1 0)), (2, .ref (ad2 0)), (3, .int x3)] [] f1 f2) :
    lw_St p l e s m b below meth c Dg T3 ad1 ad2 904 [(0, .ref b), (1, .ref (ad1 0)), (2, .ref (ad2 0)), (3, .int x3)] [] g1 g2 := by
  obtain ⟨hx, hb, hr, hml, hown, hts, hX, hbl, hlocks, hgv⟩ := id C0
  obtain ⟨a1, a2, a3, a4, a5, a6, a7⟩ := id hAd
  obtain ⟨r, r2, f1, f2, hc1, hc2, hG⟩ := hp
  have hM1 := mj_sound (l := l) (T3 := T3) (Dg := Dg) a1 (mj_Cs_of mj_Sok1) mj_hM 900 249 _ _ _ hc1
  have hM2 := mj_sound (l := l) (T3 := T3) (Dg := Dg) a2 (mj_Cs_of mj_Sok2) mj_hM 900 100 _ _ _ hc2
  have kk := kk f1 f2 hG
  intro H locs ls hP1 hP2 hS hl
  refine lv_aload_n hx hb d_law_904 rfl (lv_at hl 1 rfl) ?_
  refine lw_arg C0 hl rfl rfl hS h1 d_law_905 d_law_906 d_law_907 (by decide) d_law_908 d_law_909 ?_
  refine lw_call (as := [.int (xs (x3 + 1).toNatClampNeg)]) (rest := []) (CC := 200) (SS := 300000) (q := (.int r, f1)) (ad := ad1) (ad' := ad2) hx hb hml hown hts hK a6 a3 a4 lwV_110 trivial hM1 rfl (Nat.le_of_ble_eq_true rfl) d_law_910 ⟨by decide, by decide⟩ hP1 hP2 hS hl.1 (fun H locs hP1 hP2 hS => ?_)
  refine lv_pop hx hb d_law_913 rfl ?_
  refine lv_aload_n hx hb d_law_914 rfl (lv_at hl 2 rfl) ?_
  refine lw_arg C0 hl rfl rfl hS h1 d_law_915 d_law_916 d_law_917 (by decide) d_law_918 d_law_919 ?_
  refine lw_call (as := [.int (xs (x3 + 1).toNatClampNeg)]) (rest := []) (CC := 200) (SS := 300000) (q := (.int r2, f2)) (ad := ad2) (ad' := ad1) hx hb hml hown hts hK a7 (fun i j hi hj => (a3 j i hj hi).symm) a5 lwV_113 trivial hM2 rfl (Nat.le_of_ble_eq_true rfl) d_law_920 ⟨by decide, by decide⟩ hP2 hP1 hS hl.1 (fun H locs hP2 hP1 hS => ?_)
  refine lv_pop hx hb d_law_923 rfl ?_
  refine lv_goto (tgt := 1374) hx hb d_law_924 (by decide) ?_
  exact kk H locs ls hP1 hP2 hS hl
set_option maxHeartbeats 4000000 in
/-- case 23: kept -/
theorem lw_c23 (C0 : lw_At p s m meth c b L xs) (hK : va_K Dg mj_CL (mj_tys T3) s) (hAd : lw_Ad s ad1 ad2) {x3 : Int32} (h1 : vp_in (x3 + 1) L) {g1 g2 : mj_H} {G : mj_H → mj_H → Prop}
    (hp : ∃ (r r2 : Int32) (f1 f2 : mj_H), mj_Cl mj_S1 mj_CD 900 251 (.ref 0 :: [.int (xs (x3 + 1).toNatClampNeg)]) g1 (.int r, f1) ∧ mj_Cl mj_S2 mj_CD 900 101 (.ref 0 :: [.int (xs (x3 + 1).toNatClampNeg)]) g2 (.int r2, f2) ∧ G f1 f2)
    (kk : ∀ f1 f2, G f1 f2 → lw_St p l e s m b below meth c Dg T3 ad1 ad2 1374 [(0, .ref b), (1, .ref (ad1 0)), (2, .ref (ad2 0)), (3, .int x3)] [] f1 f2) :
    lw_St p l e s m b below meth c Dg T3 ad1 ad2 927 [(0, .ref b), (1, .ref (ad1 0)), (2, .ref (ad2 0)), (3, .int x3)] [] g1 g2 := by
  obtain ⟨hx, hb, hr, hml, hown, hts, hX, hbl, hlocks, hgv⟩ := id C0
  obtain ⟨a1, a2, a3, a4, a5, a6, a7⟩ := id hAd
  obtain ⟨r, r2, f1, f2, hc1, hc2, hG⟩ := hp
  have hM1 := mj_sound (l := l) (T3 := T3) (Dg := Dg) a1 (mj_Cs_of mj_Sok1) mj_hM 900 251 _ _ _ hc1
  have hM2 := mj_sound (l := l) (T3 := T3) (Dg := Dg) a2 (mj_Cs_of mj_Sok2) mj_hM 900 101 _ _ _ hc2
  have kk := kk f1 f2 hG
  intro H locs ls hP1 hP2 hS hl
  refine lv_aload_n hx hb d_law_927 rfl (lv_at hl 1 rfl) ?_
  refine lw_arg C0 hl rfl rfl hS h1 d_law_928 d_law_929 d_law_930 (by decide) d_law_931 d_law_932 ?_
  refine lw_call (as := [.int (xs (x3 + 1).toNatClampNeg)]) (rest := []) (CC := 200) (SS := 300000) (q := (.int r, f1)) (ad := ad1) (ad' := ad2) hx hb hml hown hts hK a6 a3 a4 lwV_114 trivial hM1 rfl (Nat.le_of_ble_eq_true rfl) d_law_933 ⟨by decide, by decide⟩ hP1 hP2 hS hl.1 (fun H locs hP1 hP2 hS => ?_)
  refine lv_pop hx hb d_law_936 rfl ?_
  refine lv_aload_n hx hb d_law_937 rfl (lv_at hl 2 rfl) ?_
  refine lw_arg C0 hl rfl rfl hS h1 d_law_938 d_law_939 d_law_940 (by decide) d_law_941 d_law_942 ?_
  refine lw_call (as := [.int (xs (x3 + 1).toNatClampNeg)]) (rest := []) (CC := 200) (SS := 300000) (q := (.int r2, f2)) (ad := ad2) (ad' := ad1) hx hb hml hown hts hK a7 (fun i j hi hj => (a3 j i hj hi).symm) a5 lwV_117 trivial hM2 rfl (Nat.le_of_ble_eq_true rfl) d_law_943 ⟨by decide, by decide⟩ hP2 hP1 hS hl.1 (fun H locs hP2 hP1 hS => ?_)
  refine lv_pop hx hb d_law_946 rfl ?_
  refine lv_goto (tgt := 1374) hx hb d_law_947 (by decide) ?_
  exact kk H locs ls hP1 hP2 hS hl
set_option maxHeartbeats 4000000 in
/-- case 24: cost -/
theorem lw_c24 (C0 : lw_At p s m meth c b L xs) (hK : va_K Dg mj_CL (mj_tys T3) s) (hAd : lw_Ad s ad1 ad2) {x3 : Int32} (h1 : vp_in (x3 + 1) L) (h2 : vp_in (x3 + 2) L) (h3 : vp_in (x3 + 3) L) (h4 : vp_in (x3 + 4) L) {g1 g2 : mj_H} {G : mj_H → mj_H → Prop}
    (hp : ∃ (r r2 : Int32) (f1 f2 : mj_H), mj_Cl mj_S1 mj_CD 900 252 (.ref 0 :: [.int (xs (x3 + 1).toNatClampNeg), .int (xs (x3 + 2).toNatClampNeg), .int (xs (x3 + 3).toNatClampNeg), .int (if (xs (x3 + 4).toNatClampNeg) = 0 then 0 else 1)]) g1 (.int r, f1) ∧ mj_Cl mj_S2 mj_CD 900 102 (.ref 0 :: [.int (xs (x3 + 1).toNatClampNeg), .int (xs (x3 + 2).toNatClampNeg), .int (xs (x3 + 3).toNatClampNeg), .int (if (xs (x3 + 4).toNatClampNeg) = 0 then 0 else 1)]) g2 (.int r2, f2) ∧ G f1 f2)
    (kk : ∀ f1 f2, G f1 f2 → lw_St p l e s m b below meth c Dg T3 ad1 ad2 1374 [(0, .ref b), (1, .ref (ad1 0)), (2, .ref (ad2 0)), (3, .int x3)] [] f1 f2) :
    lw_St p l e s m b below meth c Dg T3 ad1 ad2 950 [(0, .ref b), (1, .ref (ad1 0)), (2, .ref (ad2 0)), (3, .int x3)] [] g1 g2 := by
  obtain ⟨hx, hb, hr, hml, hown, hts, hX, hbl, hlocks, hgv⟩ := id C0
  obtain ⟨a1, a2, a3, a4, a5, a6, a7⟩ := id hAd
  obtain ⟨r, r2, f1, f2, hc1, hc2, hG⟩ := hp
  have hM1 := mj_sound (l := l) (T3 := T3) (Dg := Dg) a1 (mj_Cs_of mj_Sok1) mj_hM 900 252 _ _ _ hc1
  have hM2 := mj_sound (l := l) (T3 := T3) (Dg := Dg) a2 (mj_Cs_of mj_Sok2) mj_hM 900 102 _ _ _ hc2
  have kk := kk f1 f2 hG
  intro H locs ls hP1 hP2 hS hl
  by_cases e4 : (xs (x3 + 4).toNatClampNeg) = 0
  · simp only [e4, if_true] at hM1 hM2
    refine lv_aload_n hx hb d_law_950 rfl (lv_at hl 1 rfl) ?_
    refine lw_arg C0 hl rfl rfl hS h1 d_law_951 d_law_952 d_law_953 (by decide) d_law_954 d_law_955 ?_
    refine lw_arg C0 hl rfl rfl hS h2 d_law_956 d_law_957 d_law_958 (by decide) d_law_959 d_law_960 ?_
    refine lw_arg C0 hl rfl rfl hS h3 d_law_961 d_law_962 d_law_963 (by decide) d_law_964 d_law_965 ?_
    refine lw_arg C0 hl rfl rfl hS h4 d_law_966 d_law_967 d_law_968 (by decide) d_law_969 d_law_970 ?_
    refine lv_if_eq (tgt := 978) hx hb d_law_971 (by decide) (fun _ => ?_) (fun q => absurd e4 q)
    refine lv_iconst (v := 0) hx hb d_law_978 (by decide) ?_
    refine lw_call (as := [.int (xs (x3 + 1).toNatClampNeg), .int (xs (x3 + 2).toNatClampNeg), .int (xs (x3 + 3).toNatClampNeg), .int 0]) (rest := []) (CC := 200) (SS := 300000) (q := (.int r, f1)) (ad := ad1) (ad' := ad2) hx hb hml hown hts hK a6 a3 a4 lwV_118 trivial hM1 rfl (Nat.le_of_ble_eq_true rfl) d_law_979 ⟨by decide, by decide⟩ hP1 hP2 hS hl.1 (fun H locs hP1 hP2 hS => ?_)
    refine lv_pop hx hb d_law_982 rfl ?_
    refine lv_aload_n hx hb d_law_983 rfl (lv_at hl 2 rfl) ?_
    refine lw_arg C0 hl rfl rfl hS h1 d_law_984 d_law_985 d_law_986 (by decide) d_law_987 d_law_988 ?_
    refine lw_arg C0 hl rfl rfl hS h2 d_law_989 d_law_990 d_law_991 (by decide) d_law_992 d_law_993 ?_
    refine lw_arg C0 hl rfl rfl hS h3 d_law_994 d_law_995 d_law_996 (by decide) d_law_997 d_law_998 ?_
    refine lw_arg C0 hl rfl rfl hS h4 d_law_999 d_law_1000 d_law_1001 (by decide) d_law_1002 d_law_1003 ?_
    refine lv_if_eq (tgt := 1011) hx hb d_law_1004 (by decide) (fun _ => ?_) (fun q => absurd e4 q)
    refine lv_iconst (v := 0) hx hb d_law_1011 (by decide) ?_
    refine lw_call (as := [.int (xs (x3 + 1).toNatClampNeg), .int (xs (x3 + 2).toNatClampNeg), .int (xs (x3 + 3).toNatClampNeg), .int 0]) (rest := []) (CC := 200) (SS := 300000) (q := (.int r2, f2)) (ad := ad2) (ad' := ad1) hx hb hml hown hts hK a7 (fun i j hi hj => (a3 j i hj hi).symm) a5 lwV_122 trivial hM2 rfl (Nat.le_of_ble_eq_true rfl) d_law_1012 ⟨by decide, by decide⟩ hP2 hP1 hS hl.1 (fun H locs hP2 hP1 hS => ?_)
    refine lv_pop hx hb d_law_1015 rfl ?_
    refine lv_goto (tgt := 1374) hx hb d_law_1016 (by decide) ?_
    exact kk H locs ls hP1 hP2 hS hl
  · simp only [e4, if_false] at hM1 hM2
    refine lv_aload_n hx hb d_law_950 rfl (lv_at hl 1 rfl) ?_
    refine lw_arg C0 hl rfl rfl hS h1 d_law_951 d_law_952 d_law_953 (by decide) d_law_954 d_law_955 ?_
    refine lw_arg C0 hl rfl rfl hS h2 d_law_956 d_law_957 d_law_958 (by decide) d_law_959 d_law_960 ?_
    refine lw_arg C0 hl rfl rfl hS h3 d_law_961 d_law_962 d_law_963 (by decide) d_law_964 d_law_965 ?_
    refine lw_arg C0 hl rfl rfl hS h4 d_law_966 d_law_967 d_law_968 (by decide) d_law_969 d_law_970 ?_
    refine lv_if_eq (tgt := 978) hx hb d_law_971 (by decide) (fun q => absurd q e4) (fun _ => ?_)
    refine lv_iconst (v := 1) hx hb d_law_974 (by decide) ?_
    refine lv_goto (tgt := 979) hx hb d_law_975 (by decide) ?_
    refine lw_call (as := [.int (xs (x3 + 1).toNatClampNeg), .int (xs (x3 + 2).toNatClampNeg), .int (xs (x3 + 3).toNatClampNeg), .int 1]) (rest := []) (CC := 200) (SS := 300000) (q := (.int r, f1)) (ad := ad1) (ad' := ad2) hx hb hml hown hts hK a6 a3 a4 lwV_118 trivial hM1 rfl (Nat.le_of_ble_eq_true rfl) d_law_979 ⟨by decide, by decide⟩ hP1 hP2 hS hl.1 (fun H locs hP1 hP2 hS => ?_)
    refine lv_pop hx hb d_law_982 rfl ?_
    refine lv_aload_n hx hb d_law_983 rfl (lv_at hl 2 rfl) ?_
    refine lw_arg C0 hl rfl rfl hS h1 d_law_984 d_law_985 d_law_986 (by decide) d_law_987 d_law_988 ?_
    refine lw_arg C0 hl rfl rfl hS h2 d_law_989 d_law_990 d_law_991 (by decide) d_law_992 d_law_993 ?_
    refine lw_arg C0 hl rfl rfl hS h3 d_law_994 d_law_995 d_law_996 (by decide) d_law_997 d_law_998 ?_
    refine lw_arg C0 hl rfl rfl hS h4 d_law_999 d_law_1000 d_law_1001 (by decide) d_law_1002 d_law_1003 ?_
    refine lv_if_eq (tgt := 1011) hx hb d_law_1004 (by decide) (fun q => absurd q e4) (fun _ => ?_)
    refine lv_iconst (v := 1) hx hb d_law_1007 (by decide) ?_
    refine lv_goto (tgt := 1012) hx hb d_law_1008 (by decide) ?_
    refine lw_call (as := [.int (xs (x3 + 1).toNatClampNeg), .int (xs (x3 + 2).toNatClampNeg), .int (xs (x3 + 3).toNatClampNeg), .int 1]) (rest := []) (CC := 200) (SS := 300000) (q := (.int r2, f2)) (ad := ad2) (ad' := ad1) hx hb hml hown hts hK a7 (fun i j hi hj => (a3 j i hj hi).symm) a5 lwV_122 trivial hM2 rfl (Nat.le_of_ble_eq_true rfl) d_law_1012 ⟨by decide, by decide⟩ hP2 hP1 hS hl.1 (fun H locs hP2 hP1 hS => ?_)
    refine lv_pop hx hb d_law_1015 rfl ?_
    refine lv_goto (tgt := 1374) hx hb d_law_1016 (by decide) ?_
    exact kk H locs ls hP1 hP2 hS hl
set_option maxHeartbeats 4000000 in
/-- case 25: hole -/
theorem lw_c25 (C0 : lw_At p s m meth c b L xs) (hK : va_K Dg mj_CL (mj_tys T3) s) (hAd : lw_Ad s ad1 ad2) {x3 : Int32} (h1 : vp_in (x3 + 1) L) {g1 g2 : mj_H} {G : mj_H → mj_H → Prop}
    (hp : ∃ (r r2 : Int32) (f1 f2 : mj_H), mj_Cl mj_S1 mj_CD 900 254 (.ref 0 :: [.int (xs (x3 + 1).toNatClampNeg)]) g1 (.int r, f1) ∧ mj_Cl mj_S2 mj_CD 900 104 (.ref 0 :: [.int (xs (x3 + 1).toNatClampNeg)]) g2 (.int r2, f2) ∧ G f1 f2)
    (kk : ∀ f1 f2, G f1 f2 → lw_St p l e s m b below meth c Dg T3 ad1 ad2 1374 [(0, .ref b), (1, .ref (ad1 0)), (2, .ref (ad2 0)), (3, .int x3)] [] f1 f2) :
    lw_St p l e s m b below meth c Dg T3 ad1 ad2 1019 [(0, .ref b), (1, .ref (ad1 0)), (2, .ref (ad2 0)), (3, .int x3)] [] g1 g2 := by
  obtain ⟨hx, hb, hr, hml, hown, hts, hX, hbl, hlocks, hgv⟩ := id C0
  obtain ⟨a1, a2, a3, a4, a5, a6, a7⟩ := id hAd
  obtain ⟨r, r2, f1, f2, hc1, hc2, hG⟩ := hp
  have hM1 := mj_sound (l := l) (T3 := T3) (Dg := Dg) a1 (mj_Cs_of mj_Sok1) mj_hM 900 254 _ _ _ hc1
  have hM2 := mj_sound (l := l) (T3 := T3) (Dg := Dg) a2 (mj_Cs_of mj_Sok2) mj_hM 900 104 _ _ _ hc2
  have kk := kk f1 f2 hG
  intro H locs ls hP1 hP2 hS hl
  refine lv_aload_n hx hb d_law_1019 rfl (lv_at hl 1 rfl) ?_
  refine lw_arg C0 hl rfl rfl hS h1 d_law_1020 d_law_1021 d_law_1022 (by decide) d_law_1023 d_law_1024 ?_
  refine lw_call (as := [.int (xs (x3 + 1).toNatClampNeg)]) (rest := []) (CC := 200) (SS := 300000) (q := (.int r, f1)) (ad := ad1) (ad' := ad2) hx hb hml hown hts hK a6 a3 a4 lwV_123 trivial hM1 rfl (Nat.le_of_ble_eq_true rfl) d_law_1025 ⟨by decide, by decide⟩ hP1 hP2 hS hl.1 (fun H locs hP1 hP2 hS => ?_)
  refine lv_pop hx hb d_law_1028 rfl ?_
  refine lv_aload_n hx hb d_law_1029 rfl (lv_at hl 2 rfl) ?_
  refine lw_arg C0 hl rfl rfl hS h1 d_law_1030 d_law_1031 d_law_1032 (by decide) d_law_1033 d_law_1034 ?_
  refine lw_call (as := [.int (xs (x3 + 1).toNatClampNeg)]) (rest := []) (CC := 200) (SS := 300000) (q := (.int r2, f2)) (ad := ad2) (ad' := ad1) hx hb hml hown hts hK a7 (fun i j hi hj => (a3 j i hj hi).symm) a5 lwV_126 trivial hM2 rfl (Nat.le_of_ble_eq_true rfl) d_law_1035 ⟨by decide, by decide⟩ hP2 hP1 hS hl.1 (fun H locs hP2 hP1 hS => ?_)
  refine lv_pop hx hb d_law_1038 rfl ?_
  refine lv_goto (tgt := 1374) hx hb d_law_1039 (by decide) ?_
  exact kk H locs ls hP1 hP2 hS hl
set_option maxHeartbeats 4000000 in
/-- case 26: rather -/
theorem lw_c26 (C0 : lw_At p s m meth c b L xs) (hK : va_K Dg mj_CL (mj_tys T3) s) (hAd : lw_Ad s ad1 ad2) {x3 : Int32} (h1 : vp_in (x3 + 1) L) (h2 : vp_in (x3 + 2) L) {g1 g2 : mj_H} {G : mj_H → mj_H → Prop}
    (hp : ∃ (r r2 : Int32) (f1 f2 : mj_H), mj_Cl mj_S1 mj_CD 900 256 (.ref 0 :: [.int (xs (x3 + 1).toNatClampNeg), .int (xs (x3 + 2).toNatClampNeg)]) g1 (.int r, f1) ∧ mj_Cl mj_S2 mj_CD 900 105 (.ref 0 :: [.int (xs (x3 + 1).toNatClampNeg), .int (xs (x3 + 2).toNatClampNeg)]) g2 (.int r2, f2) ∧ G f1 f2)
    (kk : ∀ f1 f2, G f1 f2 → lw_St p l e s m b below meth c Dg T3 ad1 ad2 1374 [(0, .ref b), (1, .ref (ad1 0)), (2, .ref (ad2 0)), (3, .int x3)] [] f1 f2) :
    lw_St p l e s m b below meth c Dg T3 ad1 ad2 1042 [(0, .ref b), (1, .ref (ad1 0)), (2, .ref (ad2 0)), (3, .int x3)] [] g1 g2 := by
  obtain ⟨hx, hb, hr, hml, hown, hts, hX, hbl, hlocks, hgv⟩ := id C0
  obtain ⟨a1, a2, a3, a4, a5, a6, a7⟩ := id hAd
  obtain ⟨r, r2, f1, f2, hc1, hc2, hG⟩ := hp
  have hM1 := mj_sound (l := l) (T3 := T3) (Dg := Dg) a1 (mj_Cs_of mj_Sok1) mj_hM 900 256 _ _ _ hc1
  have hM2 := mj_sound (l := l) (T3 := T3) (Dg := Dg) a2 (mj_Cs_of mj_Sok2) mj_hM 900 105 _ _ _ hc2
  have kk := kk f1 f2 hG
  intro H locs ls hP1 hP2 hS hl
  refine lv_aload_n hx hb d_law_1042 rfl (lv_at hl 1 rfl) ?_
  refine lw_arg C0 hl rfl rfl hS h1 d_law_1043 d_law_1044 d_law_1045 (by decide) d_law_1046 d_law_1047 ?_
  refine lw_arg C0 hl rfl rfl hS h2 d_law_1048 d_law_1049 d_law_1050 (by decide) d_law_1051 d_law_1052 ?_
  refine lw_call (as := [.int (xs (x3 + 1).toNatClampNeg), .int (xs (x3 + 2).toNatClampNeg)]) (rest := []) (CC := 200) (SS := 300000) (q := (.int r, f1)) (ad := ad1) (ad' := ad2) hx hb hml hown hts hK a6 a3 a4 lwV_127 trivial hM1 rfl (Nat.le_of_ble_eq_true rfl) d_law_1053 ⟨by decide, by decide⟩ hP1 hP2 hS hl.1 (fun H locs hP1 hP2 hS => ?_)
  refine lv_pop hx hb d_law_1056 rfl ?_
  refine lv_aload_n hx hb d_law_1057 rfl (lv_at hl 2 rfl) ?_
  refine lw_arg C0 hl rfl rfl hS h1 d_law_1058 d_law_1059 d_law_1060 (by decide) d_law_1061 d_law_1062 ?_
  refine lw_arg C0 hl rfl rfl hS h2 d_law_1063 d_law_1064 d_law_1065 (by decide) d_law_1066 d_law_1067 ?_
  refine lw_call (as := [.int (xs (x3 + 1).toNatClampNeg), .int (xs (x3 + 2).toNatClampNeg)]) (rest := []) (CC := 200) (SS := 300000) (q := (.int r2, f2)) (ad := ad2) (ad' := ad1) hx hb hml hown hts hK a7 (fun i j hi hj => (a3 j i hj hi).symm) a5 lwV_130 trivial hM2 rfl (Nat.le_of_ble_eq_true rfl) d_law_1068 ⟨by decide, by decide⟩ hP2 hP1 hS hl.1 (fun H locs hP2 hP1 hS => ?_)
  refine lv_pop hx hb d_law_1071 rfl ?_
  refine lv_goto (tgt := 1374) hx hb d_law_1072 (by decide) ?_
  exact kk H locs ls hP1 hP2 hS hl
set_option maxHeartbeats 4000000 in
/-- case 27: unsay -/
theorem lw_c27 (C0 : lw_At p s m meth c b L xs) (hK : va_K Dg mj_CL (mj_tys T3) s) (hAd : lw_Ad s ad1 ad2) {x3 : Int32} {g1 g2 : mj_H} {G : mj_H → mj_H → Prop}
    (hp : ∃ (r r2 : Int32) (f1 f2 : mj_H), mj_Cl mj_S1 mj_CD 900 258 (.ref 0 :: []) g1 (.int r, f1) ∧ mj_Cl mj_S2 mj_CD 900 106 (.ref 0 :: []) g2 (.int r2, f2) ∧ G f1 f2)
    (kk : ∀ f1 f2, G f1 f2 → lw_St p l e s m b below meth c Dg T3 ad1 ad2 1374 [(0, .ref b), (1, .ref (ad1 0)), (2, .ref (ad2 0)), (3, .int x3)] [] f1 f2) :
    lw_St p l e s m b below meth c Dg T3 ad1 ad2 1075 [(0, .ref b), (1, .ref (ad1 0)), (2, .ref (ad2 0)), (3, .int x3)] [] g1 g2 := by
  obtain ⟨hx, hb, hr, hml, hown, hts, hX, hbl, hlocks, hgv⟩ := id C0
  obtain ⟨a1, a2, a3, a4, a5, a6, a7⟩ := id hAd
  obtain ⟨r, r2, f1, f2, hc1, hc2, hG⟩ := hp
  have hM1 := mj_sound (l := l) (T3 := T3) (Dg := Dg) a1 (mj_Cs_of mj_Sok1) mj_hM 900 258 _ _ _ hc1
  have hM2 := mj_sound (l := l) (T3 := T3) (Dg := Dg) a2 (mj_Cs_of mj_Sok2) mj_hM 900 106 _ _ _ hc2
  have kk := kk f1 f2 hG
  intro H locs ls hP1 hP2 hS hl
  refine lv_aload_n hx hb d_law_1075 rfl (lv_at hl 1 rfl) ?_
  refine lw_call (as := []) (rest := []) (CC := 200) (SS := 300000) (q := (.int r, f1)) (ad := ad1) (ad' := ad2) hx hb hml hown hts hK a6 a3 a4 lwV_131 trivial hM1 rfl (Nat.le_of_ble_eq_true rfl) d_law_1076 ⟨by decide, by decide⟩ hP1 hP2 hS hl.1 (fun H locs hP1 hP2 hS => ?_)
  refine lv_pop hx hb d_law_1079 rfl ?_
  refine lv_aload_n hx hb d_law_1080 rfl (lv_at hl 2 rfl) ?_
  refine lw_call (as := []) (rest := []) (CC := 200) (SS := 300000) (q := (.int r2, f2)) (ad := ad2) (ad' := ad1) hx hb hml hown hts hK a7 (fun i j hi hj => (a3 j i hj hi).symm) a5 lwV_134 trivial hM2 rfl (Nat.le_of_ble_eq_true rfl) d_law_1081 ⟨by decide, by decide⟩ hP2 hP1 hS hl.1 (fun H locs hP2 hP1 hS => ?_)
  refine lv_pop hx hb d_law_1084 rfl ?_
  refine lv_goto (tgt := 1374) hx hb d_law_1085 (by decide) ?_
  exact kk H locs ls hP1 hP2 hS hl
set_option maxHeartbeats 4000000 in
/-- case 28: agree -/
theorem lw_c28 (C0 : lw_At p s m meth c b L xs) (hK : va_K Dg mj_CL (mj_tys T3) s) (hAd : lw_Ad s ad1 ad2) {x3 : Int32} {g1 g2 : mj_H} {G : mj_H → mj_H → Prop}
    (hp : ∃ (r r2 : Int32) (f1 f2 : mj_H), mj_Cl mj_S1 mj_CD 900 259 (.ref 0 :: []) g1 (.int r, f1) ∧ mj_Cl mj_S2 mj_CD 900 107 (.ref 0 :: []) g2 (.int r2, f2) ∧ G f1 f2)
    (kk : ∀ f1 f2, G f1 f2 → lw_St p l e s m b below meth c Dg T3 ad1 ad2 1374 [(0, .ref b), (1, .ref (ad1 0)), (2, .ref (ad2 0)), (3, .int x3)] [] f1 f2) :
    lw_St p l e s m b below meth c Dg T3 ad1 ad2 1088 [(0, .ref b), (1, .ref (ad1 0)), (2, .ref (ad2 0)), (3, .int x3)] [] g1 g2 := by
  obtain ⟨hx, hb, hr, hml, hown, hts, hX, hbl, hlocks, hgv⟩ := id C0
  obtain ⟨a1, a2, a3, a4, a5, a6, a7⟩ := id hAd
  obtain ⟨r, r2, f1, f2, hc1, hc2, hG⟩ := hp
  have hM1 := mj_sound (l := l) (T3 := T3) (Dg := Dg) a1 (mj_Cs_of mj_Sok1) mj_hM 900 259 _ _ _ hc1
  have hM2 := mj_sound (l := l) (T3 := T3) (Dg := Dg) a2 (mj_Cs_of mj_Sok2) mj_hM 900 107 _ _ _ hc2
  have kk := kk f1 f2 hG
  intro H locs ls hP1 hP2 hS hl
  refine lv_aload_n hx hb d_law_1088 rfl (lv_at hl 1 rfl) ?_
  refine lw_call (as := []) (rest := []) (CC := 200) (SS := 300000) (q := (.int r, f1)) (ad := ad1) (ad' := ad2) hx hb hml hown hts hK a6 a3 a4 lwV_135 trivial hM1 rfl (Nat.le_of_ble_eq_true rfl) d_law_1089 ⟨by decide, by decide⟩ hP1 hP2 hS hl.1 (fun H locs hP1 hP2 hS => ?_)
  refine lv_pop hx hb d_law_1092 rfl ?_
  refine lv_aload_n hx hb d_law_1093 rfl (lv_at hl 2 rfl) ?_
  refine lw_call (as := []) (rest := []) (CC := 200) (SS := 300000) (q := (.int r2, f2)) (ad := ad2) (ad' := ad1) hx hb hml hown hts hK a7 (fun i j hi hj => (a3 j i hj hi).symm) a5 lwV_138 trivial hM2 rfl (Nat.le_of_ble_eq_true rfl) d_law_1094 ⟨by decide, by decide⟩ hP2 hP1 hS hl.1 (fun H locs hP2 hP1 hS => ?_)
  refine lv_pop hx hb d_law_1097 rfl ?_
  refine lv_goto (tgt := 1374) hx hb d_law_1098 (by decide) ?_
  exact kk H locs ls hP1 hP2 hS hl
set_option maxHeartbeats 4000000 in
/-- case 29: could -/
theorem lw_c29 (C0 : lw_At p s m meth c b L xs) (hK : va_K Dg mj_CL (mj_tys T3) s) (hAd : lw_Ad s ad1 ad2) {x3 : Int32} {g1 g2 : mj_H} {G : mj_H → mj_H → Prop}
    (hp : ∃ (r r2 : Int64) (f1 f2 : mj_H), mj_Cl mj_S1 mj_CD 900 262 (.ref 0 :: []) g1 (.long r, f1) ∧ mj_Cl mj_S2 mj_CD 900 111 (.ref 0 :: []) g2 (.long r2, f2) ∧ G f1 f2)
    (kk : ∀ f1 f2, G f1 f2 → lw_St p l e s m b below meth c Dg T3 ad1 ad2 1374 [(0, .ref b), (1, .ref (ad1 0)), (2, .ref (ad2 0)), (3, .int x3)] [] f1 f2) :
    lw_St p l e s m b below meth c Dg T3 ad1 ad2 1101 [(0, .ref b), (1, .ref (ad1 0)), (2, .ref (ad2 0)), (3, .int x3)] [] g1 g2 := by
  obtain ⟨hx, hb, hr, hml, hown, hts, hX, hbl, hlocks, hgv⟩ := id C0
  obtain ⟨a1, a2, a3, a4, a5, a6, a7⟩ := id hAd
  obtain ⟨r, r2, f1, f2, hc1, hc2, hG⟩ := hp
  have hM1 := mj_sound (l := l) (T3 := T3) (Dg := Dg) a1 (mj_Cs_of mj_Sok1) mj_hM 900 262 _ _ _ hc1
  have hM2 := mj_sound (l := l) (T3 := T3) (Dg := Dg) a2 (mj_Cs_of mj_Sok2) mj_hM 900 111 _ _ _ hc2
  have kk := kk f1 f2 hG
  intro H locs ls hP1 hP2 hS hl
  refine lv_aload_n hx hb d_law_1101 rfl (lv_at hl 1 rfl) ?_
  refine lw_call (as := []) (rest := []) (CC := 200) (SS := 300000) (q := (.long r, f1)) (ad := ad1) (ad' := ad2) hx hb hml hown hts hK a6 a3 a4 lwV_139 trivial hM1 rfl (Nat.le_of_ble_eq_true rfl) d_law_1102 ⟨by decide, by decide⟩ hP1 hP2 hS hl.1 (fun H locs hP1 hP2 hS => ?_)
  refine lv_pop2_2 hx hb d_law_1105 rfl ?_
  refine lv_aload_n hx hb d_law_1106 rfl (lv_at hl 2 rfl) ?_
  refine lw_call (as := []) (rest := []) (CC := 200) (SS := 300000) (q := (.long r2, f2)) (ad := ad2) (ad' := ad1) hx hb hml hown hts hK a7 (fun i j hi hj => (a3 j i hj hi).symm) a5 lwV_142 trivial hM2 rfl (Nat.le_of_ble_eq_true rfl) d_law_1107 ⟨by decide, by decide⟩ hP2 hP1 hS hl.1 (fun H locs hP2 hP1 hS => ?_)
  refine lv_pop2_2 hx hb d_law_1110 rfl ?_
  refine lv_goto (tgt := 1374) hx hb d_law_1111 (by decide) ?_
  exact kk H locs ls hP1 hP2 hS hl
set_option maxHeartbeats 4000000 in
/-- case 30: question -/
theorem lw_c30 (C0 : lw_At p s m meth c b L xs) (hK : va_K Dg mj_CL (mj_tys T3) s) (hAd : lw_Ad s ad1 ad2) {x3 : Int32} (h1 : vp_in (x3 + 1) L) {g1 g2 : mj_H} {G : mj_H → mj_H → Prop}
    (hp : ∃ (r r2 : Int32) (f1 f2 : mj_H), mj_Cl mj_S1 mj_CD 900 264 (.ref 0 :: [.int (xs (x3 + 1).toNatClampNeg)]) g1 (.int r, f1) ∧ mj_Cl mj_S2 mj_CD 900 113 (.ref 0 :: [.int (xs (x3 + 1).toNatClampNeg)]) g2 (.int r2, f2) ∧ G f1 f2)
    (kk : ∀ f1 f2, G f1 f2 → lw_St p l e s m b below meth c Dg T3 ad1 ad2 1374 [(0, .ref b), (1, .ref (ad1 0)), (2, .ref (ad2 0)), (3, .int x3)] [] f1 f2) :
    lw_St p l e s m b below meth c Dg T3 ad1 ad2 1114 [(0, .ref b), (1, .ref (ad1 0)), (2, .ref (ad2 0)), (3, .int x3)] [] g1 g2 := by
  obtain ⟨hx, hb, hr, hml, hown, hts, hX, hbl, hlocks, hgv⟩ := id C0
  obtain ⟨a1, a2, a3, a4, a5, a6, a7⟩ := id hAd
  obtain ⟨r, r2, f1, f2, hc1, hc2, hG⟩ := hp
  have hM1 := mj_sound (l := l) (T3 := T3) (Dg := Dg) a1 (mj_Cs_of mj_Sok1) mj_hM 900 264 _ _ _ hc1
  have hM2 := mj_sound (l := l) (T3 := T3) (Dg := Dg) a2 (mj_Cs_of mj_Sok2) mj_hM 900 113 _ _ _ hc2
  have kk := kk f1 f2 hG
  intro H locs ls hP1 hP2 hS hl
  refine lv_aload_n hx hb d_law_1114 rfl (lv_at hl 1 rfl) ?_
  refine lw_arg C0 hl rfl rfl hS h1 d_law_1115 d_law_1116 d_law_1117 (by decide) d_law_1118 d_law_1119 ?_
  refine lw_call (as := [.int (xs (x3 + 1).toNatClampNeg)]) (rest := []) (CC := 200) (SS := 300000) (q := (.int r, f1)) (ad := ad1) (ad' := ad2) hx hb hml hown hts hK a6 a3 a4 lwV_143 trivial hM1 rfl (Nat.le_of_ble_eq_true rfl) d_law_1120 ⟨by decide, by decide⟩ hP1 hP2 hS hl.1 (fun H locs hP1 hP2 hS => ?_)
  refine lv_pop hx hb d_law_1123 rfl ?_
  refine lv_aload_n hx hb d_law_1124 rfl (lv_at hl 2 rfl) ?_
  refine lw_arg C0 hl rfl rfl hS h1 d_law_1125 d_law_1126 d_law_1127 (by decide) d_law_1128 d_law_1129 ?_
  refine lw_call (as := [.int (xs (x3 + 1).toNatClampNeg)]) (rest := []) (CC := 200) (SS := 300000) (q := (.int r2, f2)) (ad := ad2) (ad' := ad1) hx hb hml hown hts hK a7 (fun i j hi hj => (a3 j i hj hi).symm) a5 lwV_146 trivial hM2 rfl (Nat.le_of_ble_eq_true rfl) d_law_1130 ⟨by decide, by decide⟩ hP2 hP1 hS hl.1 (fun H locs hP2 hP1 hS => ?_)
  refine lv_pop hx hb d_law_1133 rfl ?_
  refine lv_goto (tgt := 1374) hx hb d_law_1134 (by decide) ?_
  exact kk H locs ls hP1 hP2 hS hl
set_option maxHeartbeats 4000000 in
/-- case 31: quarrel -/
theorem lw_c31 (C0 : lw_At p s m meth c b L xs) (hK : va_K Dg mj_CL (mj_tys T3) s) (hAd : lw_Ad s ad1 ad2) {x3 : Int32} {g1 g2 : mj_H} {G : mj_H → mj_H → Prop}
    (hp : ∃ (r r2 : Int32) (f1 f2 : mj_H), mj_Cl mj_S1 mj_CD 900 268 (.ref 0 :: []) g1 (.int r, f1) ∧ mj_Cl mj_S2 mj_CD 900 115 (.ref 0 :: []) g2 (.int r2, f2) ∧ G f1 f2)
    (kk : ∀ f1 f2, G f1 f2 → lw_St p l e s m b below meth c Dg T3 ad1 ad2 1374 [(0, .ref b), (1, .ref (ad1 0)), (2, .ref (ad2 0)), (3, .int x3)] [] f1 f2) :
    lw_St p l e s m b below meth c Dg T3 ad1 ad2 1137 [(0, .ref b), (1, .ref (ad1 0)), (2, .ref (ad2 0)), (3, .int x3)] [] g1 g2 := by
  obtain ⟨hx, hb, hr, hml, hown, hts, hX, hbl, hlocks, hgv⟩ := id C0
  obtain ⟨a1, a2, a3, a4, a5, a6, a7⟩ := id hAd
  obtain ⟨r, r2, f1, f2, hc1, hc2, hG⟩ := hp
  have hM1 := mj_sound (l := l) (T3 := T3) (Dg := Dg) a1 (mj_Cs_of mj_Sok1) mj_hM 900 268 _ _ _ hc1
  have hM2 := mj_sound (l := l) (T3 := T3) (Dg := Dg) a2 (mj_Cs_of mj_Sok2) mj_hM 900 115 _ _ _ hc2
  have kk := kk f1 f2 hG
  intro H locs ls hP1 hP2 hS hl
  refine lv_aload_n hx hb d_law_1137 rfl (lv_at hl 1 rfl) ?_
  refine lw_call (as := []) (rest := []) (CC := 200) (SS := 300000) (q := (.int r, f1)) (ad := ad1) (ad' := ad2) hx hb hml hown hts hK a6 a3 a4 lwV_147 trivial hM1 rfl (Nat.le_of_ble_eq_true rfl) d_law_1138 ⟨by decide, by decide⟩ hP1 hP2 hS hl.1 (fun H locs hP1 hP2 hS => ?_)
  refine lv_pop hx hb d_law_1141 rfl ?_
  refine lv_aload_n hx hb d_law_1142 rfl (lv_at hl 2 rfl) ?_
  refine lw_call (as := []) (rest := []) (CC := 200) (SS := 300000) (q := (.int r2, f2)) (ad := ad2) (ad' := ad1) hx hb hml hown hts hK a7 (fun i j hi hj => (a3 j i hj hi).symm) a5 lwV_150 trivial hM2 rfl (Nat.le_of_ble_eq_true rfl) d_law_1143 ⟨by decide, by decide⟩ hP2 hP1 hS hl.1 (fun H locs hP2 hP1 hS => ?_)
  refine lv_pop hx hb d_law_1146 rfl ?_
  refine lv_goto (tgt := 1374) hx hb d_law_1147 (by decide) ?_
  exact kk H locs ls hP1 hP2 hS hl
set_option maxHeartbeats 4000000 in
/-- case 32: stop -/
theorem lw_c32 (C0 : lw_At p s m meth c b L xs) (hK : va_K Dg mj_CL (mj_tys T3) s) (hAd : lw_Ad s ad1 ad2) {x3 : Int32} (h1 : vp_in (x3 + 1) L) {g1 g2 : mj_H} {G : mj_H → mj_H → Prop}
    (hp : ∃ (r r2 : Int32) (f1 f2 : mj_H), mj_Cl mj_S1 mj_CD 900 273 (.ref 0 :: [.int (xs (x3 + 1).toNatClampNeg)]) g1 (.int r, f1) ∧ mj_Cl mj_S2 mj_CD 900 117 (.ref 0 :: [.int (xs (x3 + 1).toNatClampNeg)]) g2 (.int r2, f2) ∧ G f1 f2)
    (kk : ∀ f1 f2, G f1 f2 → lw_St p l e s m b below meth c Dg T3 ad1 ad2 1374 [(0, .ref b), (1, .ref (ad1 0)), (2, .ref (ad2 0)), (3, .int x3)] [] f1 f2) :
    lw_St p l e s m b below meth c Dg T3 ad1 ad2 1150 [(0, .ref b), (1, .ref (ad1 0)), (2, .ref (ad2 0)), (3, .int x3)] [] g1 g2 := by
  obtain ⟨hx, hb, hr, hml, hown, hts, hX, hbl, hlocks, hgv⟩ := id C0
  obtain ⟨a1, a2, a3, a4, a5, a6, a7⟩ := id hAd
  obtain ⟨r, r2, f1, f2, hc1, hc2, hG⟩ := hp
  have hM1 := mj_sound (l := l) (T3 := T3) (Dg := Dg) a1 (mj_Cs_of mj_Sok1) mj_hM 900 273 _ _ _ hc1
  have hM2 := mj_sound (l := l) (T3 := T3) (Dg := Dg) a2 (mj_Cs_of mj_Sok2) mj_hM 900 117 _ _ _ hc2
  have kk := kk f1 f2 hG
  intro H locs ls hP1 hP2 hS hl
  refine lv_aload_n hx hb d_law_1150 rfl (lv_at hl 1 rfl) ?_
  refine lw_arg C0 hl rfl rfl hS h1 d_law_1151 d_law_1152 d_law_1153 (by decide) d_law_1154 d_law_1155 ?_
  refine lw_call (as := [.int (xs (x3 + 1).toNatClampNeg)]) (rest := []) (CC := 200) (SS := 300000) (q := (.int r, f1)) (ad := ad1) (ad' := ad2) hx hb hml hown hts hK a6 a3 a4 lwV_151 trivial hM1 rfl (Nat.le_of_ble_eq_true rfl) d_law_1156 ⟨by decide, by decide⟩ hP1 hP2 hS hl.1 (fun H locs hP1 hP2 hS => ?_)
  refine lv_pop hx hb d_law_1159 rfl ?_
  refine lv_aload_n hx hb d_law_1160 rfl (lv_at hl 2 rfl) ?_
  refine lw_arg C0 hl rfl rfl hS h1 d_law_1161 d_law_1162 d_law_1163 (by decide) d_law_1164 d_law_1165 ?_
  refine lw_call (as := [.int (xs (x3 + 1).toNatClampNeg)]) (rest := []) (CC := 200) (SS := 300000) (q := (.int r2, f2)) (ad := ad2) (ad' := ad1) hx hb hml hown hts hK a7 (fun i j hi hj => (a3 j i hj hi).symm) a5 lwV_154 trivial hM2 rfl (Nat.le_of_ble_eq_true rfl) d_law_1166 ⟨by decide, by decide⟩ hP2 hP1 hS hl.1 (fun H locs hP2 hP1 hS => ?_)
  refine lv_pop hx hb d_law_1169 rfl ?_
  refine lv_goto (tgt := 1374) hx hb d_law_1170 (by decide) ?_
  exact kk H locs ls hP1 hP2 hS hl
set_option maxHeartbeats 4000000 in
/-- case 33: person -/
theorem lw_c33 (C0 : lw_At p s m meth c b L xs) (hK : va_K Dg mj_CL (mj_tys T3) s) (hAd : lw_Ad s ad1 ad2) {x3 : Int32} (h1 : vp_in (x3 + 1) L) (h2 : vp_in (x3 + 2) L) (h3 : vp_in (x3 + 3) L) (h4 : vp_in (x3 + 4) L) (h5 : vp_in (x3 + 5) L) {g1 g2 : mj_H} {G : mj_H → mj_H → Prop}
    (hp : ∃ (r r2 : Int32) (f1 f2 : mj_H), mj_Cl mj_S1 mj_CD 900 274 (.ref 0 :: [.int (xs (x3 + 1).toNatClampNeg), .int (xs (x3 + 2).toNatClampNeg), .int (xs (x3 + 3).toNatClampNeg), .int (xs (x3 + 4).toNatClampNeg), .int (xs (x3 + 5).toNatClampNeg)]) g1 (.int r, f1) ∧ mj_Cl mj_S2 mj_CD 900 118 (.ref 0 :: [.int (xs (x3 + 1).toNatClampNeg), .int (xs (x3 + 2).toNatClampNeg), .int (xs (x3 + 3).toNatClampNeg), .int (xs (x3 + 4).toNatClampNeg), .int (xs (x3 + 5).toNatClampNeg)]) g2 (.int r2, f2) ∧ G f1 f2)
    (kk : ∀ f1 f2, G f1 f2 → lw_St p l e s m b below meth c Dg T3 ad1 ad2 1374 [(0, .ref b), (1, .ref (ad1 0)), (2, .ref (ad2 0)), (3, .int x3)] [] f1 f2) :
    lw_St p l e s m b below meth c Dg T3 ad1 ad2 1173 [(0, .ref b), (1, .ref (ad1 0)), (2, .ref (ad2 0)), (3, .int x3)] [] g1 g2 := by
  obtain ⟨hx, hb, hr, hml, hown, hts, hX, hbl, hlocks, hgv⟩ := id C0
  obtain ⟨a1, a2, a3, a4, a5, a6, a7⟩ := id hAd
  obtain ⟨r, r2, f1, f2, hc1, hc2, hG⟩ := hp
  have hM1 := mj_sound (l := l) (T3 := T3) (Dg := Dg) a1 (mj_Cs_of mj_Sok1) mj_hM 900 274 _ _ _ hc1
  have hM2 := mj_sound (l := l) (T3 := T3) (Dg := Dg) a2 (mj_Cs_of mj_Sok2) mj_hM 900 118 _ _ _ hc2
  have kk := kk f1 f2 hG
  intro H locs ls hP1 hP2 hS hl
  refine lv_aload_n hx hb d_law_1173 rfl (lv_at hl 1 rfl) ?_
  refine lw_arg C0 hl rfl rfl hS h1 d_law_1174 d_law_1175 d_law_1176 (by decide) d_law_1177 d_law_1178 ?_
  refine lw_arg C0 hl rfl rfl hS h2 d_law_1179 d_law_1180 d_law_1181 (by decide) d_law_1182 d_law_1183 ?_
  refine lw_arg C0 hl rfl rfl hS h3 d_law_1184 d_law_1185 d_law_1186 (by decide) d_law_1187 d_law_1188 ?_
  refine lw_arg C0 hl rfl rfl hS h4 d_law_1189 d_law_1190 d_law_1191 (by decide) d_law_1192 d_law_1193 ?_
  refine lw_arg C0 hl rfl rfl hS h5 d_law_1194 d_law_1195 d_law_1196 (by decide) d_law_1197 d_law_1198 ?_
  refine lw_call (as := [.int (xs (x3 + 1).toNatClampNeg), .int (xs (x3 + 2).toNatClampNeg), .int (xs (x3 + 3).toNatClampNeg), .int (xs (x3 + 4).toNatClampNeg), .int (xs (x3 + 5).toNatClampNeg)]) (rest := []) (CC := 200) (SS := 300000) (q := (.int r, f1)) (ad := ad1) (ad' := ad2) hx hb hml hown hts hK a6 a3 a4 lwV_155 trivial hM1 rfl (Nat.le_of_ble_eq_true rfl) d_law_1199 ⟨by decide, by decide⟩ hP1 hP2 hS hl.1 (fun H locs hP1 hP2 hS => ?_)
  refine lv_pop hx hb d_law_1202 rfl ?_
  refine lv_aload_n hx hb d_law_1203 rfl (lv_at hl 2 rfl) ?_
  refine lw_arg C0 hl rfl rfl hS h1 d_law_1204 d_law_1205 d_law_1206 (by decide) d_law_1207 d_law_1208 ?_
  refine lw_arg C0 hl rfl rfl hS h2 d_law_1209 d_law_1210 d_law_1211 (by decide) d_law_1212 d_law_1213 ?_
  refine lw_arg C0 hl rfl rfl hS h3 d_law_1214 d_law_1215 d_law_1216 (by decide) d_law_1217 d_law_1218 ?_
  refine lw_arg C0 hl rfl rfl hS h4 d_law_1219 d_law_1220 d_law_1221 (by decide) d_law_1222 d_law_1223 ?_
  refine lw_arg C0 hl rfl rfl hS h5 d_law_1224 d_law_1225 d_law_1226 (by decide) d_law_1227 d_law_1228 ?_
  refine lw_call (as := [.int (xs (x3 + 1).toNatClampNeg), .int (xs (x3 + 2).toNatClampNeg), .int (xs (x3 + 3).toNatClampNeg), .int (xs (x3 + 4).toNatClampNeg), .int (xs (x3 + 5).toNatClampNeg)]) (rest := []) (CC := 200) (SS := 300000) (q := (.int r2, f2)) (ad := ad2) (ad' := ad1) hx hb hml hown hts hK a7 (fun i j hi hj => (a3 j i hj hi).symm) a5 lwV_159 trivial hM2 rfl (Nat.le_of_ble_eq_true rfl) d_law_1229 ⟨by decide, by decide⟩ hP2 hP1 hS hl.1 (fun H locs hP2 hP1 hS => ?_)
  refine lv_pop hx hb d_law_1232 rfl ?_
  refine lv_goto (tgt := 1374) hx hb d_law_1233 (by decide) ?_
  exact kk H locs ls hP1 hP2 hS hl
set_option maxHeartbeats 4000000 in
/-- case 34: bar -/
theorem lw_c34 (C0 : lw_At p s m meth c b L xs) (hK : va_K Dg mj_CL (mj_tys T3) s) (hAd : lw_Ad s ad1 ad2) {x3 : Int32} (h1 : vp_in (x3 + 1) L) (h2 : vp_in (x3 + 2) L) (h3 : vp_in (x3 + 3) L) {g1 g2 : mj_H} {G : mj_H → mj_H → Prop}
    (hp : ∃ (r r2 : Int32) (f1 f2 : mj_H), mj_Cl mj_S1 mj_CD 900 277 (.ref 0 :: [.int (xs (x3 + 1).toNatClampNeg), .int (xs (x3 + 2).toNatClampNeg), .int (if (xs (x3 + 3).toNatClampNeg) = 0 then 0 else 1)]) g1 (.int r, f1) ∧ mj_Cl mj_S2 mj_CD 900 120 (.ref 0 :: [.int (xs (x3 + 1).toNatClampNeg), .int (xs (x3 + 2).toNatClampNeg), .int (if (xs (x3 + 3).toNatClampNeg) = 0 then 0 else 1)]) g2 (.int r2, f2) ∧ G f1 f2)
    (kk : ∀ f1 f2, G f1 f2 → lw_St p l e s m b below meth c Dg T3 ad1 ad2 1374 [(0, .ref b), (1, .ref (ad1 0)), (2, .ref (ad2 0)), (3, .int x3)] [] f1 f2) :
    lw_St p l e s m b below meth c Dg T3 ad1 ad2 1236 [(0, .ref b), (1, .ref (ad1 0)), (2, .ref (ad2 0)), (3, .int x3)] [] g1 g2 := by
  obtain ⟨hx, hb, hr, hml, hown, hts, hX, hbl, hlocks, hgv⟩ := id C0
  obtain ⟨a1, a2, a3, a4, a5, a6, a7⟩ := id hAd
  obtain ⟨r, r2, f1, f2, hc1, hc2, hG⟩ := hp
  have hM1 := mj_sound (l := l) (T3 := T3) (Dg := Dg) a1 (mj_Cs_of mj_Sok1) mj_hM 900 277 _ _ _ hc1
  have hM2 := mj_sound (l := l) (T3 := T3) (Dg := Dg) a2 (mj_Cs_of mj_Sok2) mj_hM 900 120 _ _ _ hc2
  have kk := kk f1 f2 hG
  intro H locs ls hP1 hP2 hS hl
  by_cases e3 : (xs (x3 + 3).toNatClampNeg) = 0
  · simp only [e3, if_true] at hM1 hM2
    refine lv_aload_n hx hb d_law_1236 rfl (lv_at hl 1 rfl) ?_
    refine lw_arg C0 hl rfl rfl hS h1 d_law_1237 d_law_1238 d_law_1239 (by decide) d_law_1240 d_law_1241 ?_
    refine lw_arg C0 hl rfl rfl hS h2 d_law_1242 d_law_1243 d_law_1244 (by decide) d_law_1245 d_law_1246 ?_
    refine lw_arg C0 hl rfl rfl hS h3 d_law_1247 d_law_1248 d_law_1249 (by decide) d_law_1250 d_law_1251 ?_
    refine lv_if_eq (tgt := 1259) hx hb d_law_1252 (by decide) (fun _ => ?_) (fun q => absurd e3 q)
    refine lv_iconst (v := 0) hx hb d_law_1259 (by decide) ?_
    refine lw_call (as := [.int (xs (x3 + 1).toNatClampNeg), .int (xs (x3 + 2).toNatClampNeg), .int 0]) (rest := []) (CC := 200) (SS := 300000) (q := (.int r, f1)) (ad := ad1) (ad' := ad2) hx hb hml hown hts hK a6 a3 a4 lwV_160 trivial hM1 rfl (Nat.le_of_ble_eq_true rfl) d_law_1260 ⟨by decide, by decide⟩ hP1 hP2 hS hl.1 (fun H locs hP1 hP2 hS => ?_)
    refine lv_pop hx hb d_law_1263 rfl ?_
    refine lv_aload_n hx hb d_law_1264 rfl (lv_at hl 2 rfl) ?_
    refine lw_arg C0 hl rfl rfl hS h1 d_law_1265 d_law_1266 d_law_1267 (by decide) d_law_1268 d_law_1269 ?_
    refine lw_arg C0 hl rfl rfl hS h2 d_law_1270 d_law_1271 d_law_1272 (by decide) d_law_1273 d_law_1274 ?_
    refine lw_arg C0 hl rfl rfl hS h3 d_law_1275 d_law_1276 d_law_1277 (by decide) d_law_1278 d_law_1279 ?_
    refine lv_if_eq (tgt := 1287) hx hb d_law_1280 (by decide) (fun _ => ?_) (fun q => absurd e3 q)
    refine lv_iconst (v := 0) hx hb d_law_1287 (by decide) ?_
    refine lw_call (as := [.int (xs (x3 + 1).toNatClampNeg), .int (xs (x3 + 2).toNatClampNeg), .int 0]) (rest := []) (CC := 200) (SS := 300000) (q := (.int r2, f2)) (ad := ad2) (ad' := ad1) hx hb hml hown hts hK a7 (fun i j hi hj => (a3 j i hj hi).symm) a5 lwV_164 trivial hM2 rfl (Nat.le_of_ble_eq_true rfl) d_law_1288 ⟨by decide, by decide⟩ hP2 hP1 hS hl.1 (fun H locs hP2 hP1 hS => ?_)
    refine lv_pop hx hb d_law_1291 rfl ?_
    refine lv_goto (tgt := 1374) hx hb d_law_1292 (by decide) ?_
    exact kk H locs ls hP1 hP2 hS hl
  · simp only [e3, if_false] at hM1 hM2
    refine lv_aload_n hx hb d_law_1236 rfl (lv_at hl 1 rfl) ?_
    refine lw_arg C0 hl rfl rfl hS h1 d_law_1237 d_law_1238 d_law_1239 (by decide) d_law_1240 d_law_1241 ?_
    refine lw_arg C0 hl rfl rfl hS h2 d_law_1242 d_law_1243 d_law_1244 (by decide) d_law_1245 d_law_1246 ?_
    refine lw_arg C0 hl rfl rfl hS h3 d_law_1247 d_law_1248 d_law_1249 (by decide) d_law_1250 d_law_1251 ?_
    refine lv_if_eq (tgt := 1259) hx hb d_law_1252 (by decide) (fun q => absurd q e3) (fun _ => ?_)
    refine lv_iconst (v := 1) hx hb d_law_1255 (by decide) ?_
    refine lv_goto (tgt := 1260) hx hb d_law_1256 (by decide) ?_
    refine lw_call (as := [.int (xs (x3 + 1).toNatClampNeg), .int (xs (x3 + 2).toNatClampNeg), .int 1]) (rest := []) (CC := 200) (SS := 300000) (q := (.int r, f1)) (ad := ad1) (ad' := ad2) hx hb hml hown hts hK a6 a3 a4 lwV_160 trivial hM1 rfl (Nat.le_of_ble_eq_true rfl) d_law_1260 ⟨by decide, by decide⟩ hP1 hP2 hS hl.1 (fun H locs hP1 hP2 hS => ?_)
    refine lv_pop hx hb d_law_1263 rfl ?_
    refine lv_aload_n hx hb d_law_1264 rfl (lv_at hl 2 rfl) ?_
    refine lw_arg C0 hl rfl rfl hS h1 d_law_1265 d_law_1266 d_law_1267 (by decide) d_law_1268 d_law_1269 ?_
    refine lw_arg C0 hl rfl rfl hS h2 d_law_1270 d_law_1271 d_law_1272 (by decide) d_law_1273 d_law_1274 ?_
    refine lw_arg C0 hl rfl rfl hS h3 d_law_1275 d_law_1276 d_law_1277 (by decide) d_law_1278 d_law_1279 ?_
    refine lv_if_eq (tgt := 1287) hx hb d_law_1280 (by decide) (fun q => absurd q e3) (fun _ => ?_)
    refine lv_iconst (v := 1) hx hb d_law_1283 (by decide) ?_
    refine lv_goto (tgt := 1288) hx hb d_law_1284 (by decide) ?_
    refine lw_call (as := [.int (xs (x3 + 1).toNatClampNeg), .int (xs (x3 + 2).toNatClampNeg), .int 1]) (rest := []) (CC := 200) (SS := 300000) (q := (.int r2, f2)) (ad := ad2) (ad' := ad1) hx hb hml hown hts hK a7 (fun i j hi hj => (a3 j i hj hi).symm) a5 lwV_164 trivial hM2 rfl (Nat.le_of_ble_eq_true rfl) d_law_1288 ⟨by decide, by decide⟩ hP2 hP1 hS hl.1 (fun H locs hP2 hP1 hS => ?_)
    refine lv_pop hx hb d_law_1291 rfl ?_
    refine lv_goto (tgt := 1374) hx hb d_law_1292 (by decide) ?_
    exact kk H locs ls hP1 hP2 hS hl
set_option maxHeartbeats 4000000 in
/-- case 35: choose -/
theorem lw_c35 (C0 : lw_At p s m meth c b L xs) (hK : va_K Dg mj_CL (mj_tys T3) s) (hAd : lw_Ad s ad1 ad2) {x3 : Int32} (h1 : vp_in (x3 + 1) L) {g1 g2 : mj_H} {G : mj_H → mj_H → Prop}
    (hp : ∃ (r r2 : Int32) (f1 f2 : mj_H), mj_Cl mj_S1 mj_CD 900 278 (.ref 0 :: [.int (xs (x3 + 1).toNatClampNeg)]) g1 (.int r, f1) ∧ mj_Cl mj_S2 mj_CD 900 121 (.ref 0 :: [.int (xs (x3 + 1).toNatClampNeg)]) g2 (.int r2, f2) ∧ G f1 f2)
    (kk : ∀ f1 f2, G f1 f2 → lw_St p l e s m b below meth c Dg T3 ad1 ad2 1374 [(0, .ref b), (1, .ref (ad1 0)), (2, .ref (ad2 0)), (3, .int x3)] [] f1 f2) :
    lw_St p l e s m b below meth c Dg T3 ad1 ad2 1295 [(0, .ref b), (1, .ref (ad1 0)), (2, .ref (ad2 0)), (3, .int x3)] [] g1 g2 := by
  obtain ⟨hx, hb, hr, hml, hown, hts, hX, hbl, hlocks, hgv⟩ := id C0
  obtain ⟨a1, a2, a3, a4, a5, a6, a7⟩ := id hAd
  obtain ⟨r, r2, f1, f2, hc1, hc2, hG⟩ := hp
  have hM1 := mj_sound (l := l) (T3 := T3) (Dg := Dg) a1 (mj_Cs_of mj_Sok1) mj_hM 900 278 _ _ _ hc1
  have hM2 := mj_sound (l := l) (T3 := T3) (Dg := Dg) a2 (mj_Cs_of mj_Sok2) mj_hM 900 121 _ _ _ hc2
  have kk := kk f1 f2 hG
  intro H locs ls hP1 hP2 hS hl
  refine lv_aload_n hx hb d_law_1295 rfl (lv_at hl 1 rfl) ?_
  refine lw_arg C0 hl rfl rfl hS h1 d_law_1296 d_law_1297 d_law_1298 (by decide) d_law_1299 d_law_1300 ?_
  refine lw_call (as := [.int (xs (x3 + 1).toNatClampNeg)]) (rest := []) (CC := 200) (SS := 300000) (q := (.int r, f1)) (ad := ad1) (ad' := ad2) hx hb hml hown hts hK a6 a3 a4 lwV_165 trivial hM1 rfl (Nat.le_of_ble_eq_true rfl) d_law_1301 ⟨by decide, by decide⟩ hP1 hP2 hS hl.1 (fun H locs hP1 hP2 hS => ?_)
  refine lv_pop hx hb d_law_1304 rfl ?_
  refine lv_aload_n hx hb d_law_1305 rfl (lv_at hl 2 rfl) ?_
  refine lw_arg C0 hl rfl rfl hS h1 d_law_1306 d_law_1307 d_law_1308 (by decide) d_law_1309 d_law_1310 ?_
  refine lw_call (as := [.int (xs (x3 + 1).toNatClampNeg)]) (rest := []) (CC := 200) (SS := 300000) (q := (.int r2, f2)) (ad := ad2) (ad' := ad1) hx hb hml hown hts hK a7 (fun i j hi hj => (a3 j i hj hi).symm) a5 lwV_168 trivial hM2 rfl (Nat.le_of_ble_eq_true rfl) d_law_1311 ⟨by decide, by decide⟩ hP2 hP1 hS hl.1 (fun H locs hP2 hP1 hS => ?_)
  refine lv_pop hx hb d_law_1314 rfl ?_
  refine lv_goto (tgt := 1374) hx hb d_law_1315 (by decide) ?_
  exact kk H locs ls hP1 hP2 hS hl
set_option maxHeartbeats 4000000 in
/-- case 36: breaks -/
theorem lw_c36 (C0 : lw_At p s m meth c b L xs) (hK : va_K Dg mj_CL (mj_tys T3) s) (hAd : lw_Ad s ad1 ad2) {x3 : Int32} (h1 : vp_in (x3 + 1) L) {g1 g2 : mj_H} {G : mj_H → mj_H → Prop}
    (hp : ∃ (r r2 : Int32) (f1 f2 : mj_H), mj_Cl mj_S1 mj_CD 900 287 (.ref 0 :: [.int (xs (x3 + 1).toNatClampNeg)]) g1 (.int r, f1) ∧ mj_Cl mj_S2 mj_CD 900 131 (.ref 0 :: [.int (xs (x3 + 1).toNatClampNeg)]) g2 (.int r2, f2) ∧ G f1 f2)
    (kk : ∀ f1 f2, G f1 f2 → lw_St p l e s m b below meth c Dg T3 ad1 ad2 1374 [(0, .ref b), (1, .ref (ad1 0)), (2, .ref (ad2 0)), (3, .int x3)] [] f1 f2) :
    lw_St p l e s m b below meth c Dg T3 ad1 ad2 1318 [(0, .ref b), (1, .ref (ad1 0)), (2, .ref (ad2 0)), (3, .int x3)] [] g1 g2 := by
  obtain ⟨hx, hb, hr, hml, hown, hts, hX, hbl, hlocks, hgv⟩ := id C0
  obtain ⟨a1, a2, a3, a4, a5, a6, a7⟩ := id hAd
  obtain ⟨r, r2, f1, f2, hc1, hc2, hG⟩ := hp
  have hM1 := mj_sound (l := l) (T3 := T3) (Dg := Dg) a1 (mj_Cs_of mj_Sok1) mj_hM 900 287 _ _ _ hc1
  have hM2 := mj_sound (l := l) (T3 := T3) (Dg := Dg) a2 (mj_Cs_of mj_Sok2) mj_hM 900 131 _ _ _ hc2
  have kk := kk f1 f2 hG
  intro H locs ls hP1 hP2 hS hl
  refine lv_aload_n hx hb d_law_1318 rfl (lv_at hl 1 rfl) ?_
  refine lw_arg C0 hl rfl rfl hS h1 d_law_1319 d_law_1320 d_law_1321 (by decide) d_law_1322 d_law_1323 ?_
  refine lw_call (as := [.int (xs (x3 + 1).toNatClampNeg)]) (rest := []) (CC := 200) (SS := 300000) (q := (.int r, f1)) (ad := ad1) (ad' := ad2) hx hb hml hown hts hK a6 a3 a4 lwV_169 trivial hM1 rfl (Nat.le_of_ble_eq_true rfl) d_law_1324 ⟨by decide, by decide⟩ hP1 hP2 hS hl.1 (fun H locs hP1 hP2 hS => ?_)
  refine lv_pop hx hb d_law_1327 rfl ?_
  refine lv_aload_n hx hb d_law_1328 rfl (lv_at hl 2 rfl) ?_
  refine lw_arg C0 hl rfl rfl hS h1 d_law_1329 d_law_1330 d_law_1331 (by decide) d_law_1332 d_law_1333 ?_
  refine lw_call (as := [.int (xs (x3 + 1).toNatClampNeg)]) (rest := []) (CC := 200) (SS := 300000) (q := (.int r2, f2)) (ad := ad2) (ad' := ad1) hx hb hml hown hts hK a7 (fun i j hi hj => (a3 j i hj hi).symm) a5 lwV_172 trivial hM2 rfl (Nat.le_of_ble_eq_true rfl) d_law_1334 ⟨by decide, by decide⟩ hP2 hP1 hS hl.1 (fun H locs hP2 hP1 hS => ?_)
  refine lv_pop hx hb d_law_1337 rfl ?_
  refine lv_goto (tgt := 1374) hx hb d_law_1338 (by decide) ?_
  exact kk H locs ls hP1 hP2 hS hl
set_option maxHeartbeats 4000000 in
/-- case 37: place -/
theorem lw_c37 (C0 : lw_At p s m meth c b L xs) (hK : va_K Dg mj_CL (mj_tys T3) s) (hAd : lw_Ad s ad1 ad2) {x3 : Int32} (h1 : vp_in (x3 + 1) L) (h2 : vp_in (x3 + 2) L) {g1 g2 : mj_H} {G : mj_H → mj_H → Prop}
    (hp : ∃ (r r2 : Int32) (f1 f2 : mj_H), mj_Cl mj_S1 mj_CD 900 291 (.ref 0 :: [.int (xs (x3 + 1).toNatClampNeg), .int (xs (x3 + 2).toNatClampNeg)]) g1 (.int r, f1) ∧ mj_Cl mj_S2 mj_CD 900 132 (.ref 0 :: [.int (xs (x3 + 1).toNatClampNeg), .int (xs (x3 + 2).toNatClampNeg)]) g2 (.int r2, f2) ∧ G f1 f2)
    (kk : ∀ f1 f2, G f1 f2 → lw_St p l e s m b below meth c Dg T3 ad1 ad2 1374 [(0, .ref b), (1, .ref (ad1 0)), (2, .ref (ad2 0)), (3, .int x3)] [] f1 f2) :
    lw_St p l e s m b below meth c Dg T3 ad1 ad2 1341 [(0, .ref b), (1, .ref (ad1 0)), (2, .ref (ad2 0)), (3, .int x3)] [] g1 g2 := by
  obtain ⟨hx, hb, hr, hml, hown, hts, hX, hbl, hlocks, hgv⟩ := id C0
  obtain ⟨a1, a2, a3, a4, a5, a6, a7⟩ := id hAd
  obtain ⟨r, r2, f1, f2, hc1, hc2, hG⟩ := hp
  have hM1 := mj_sound (l := l) (T3 := T3) (Dg := Dg) a1 (mj_Cs_of mj_Sok1) mj_hM 900 291 _ _ _ hc1
  have hM2 := mj_sound (l := l) (T3 := T3) (Dg := Dg) a2 (mj_Cs_of mj_Sok2) mj_hM 900 132 _ _ _ hc2
  have kk := kk f1 f2 hG
  intro H locs ls hP1 hP2 hS hl
  refine lv_aload_n hx hb d_law_1341 rfl (lv_at hl 1 rfl) ?_
  refine lw_arg C0 hl rfl rfl hS h1 d_law_1342 d_law_1343 d_law_1344 (by decide) d_law_1345 d_law_1346 ?_
  refine lw_arg C0 hl rfl rfl hS h2 d_law_1347 d_law_1348 d_law_1349 (by decide) d_law_1350 d_law_1351 ?_
  refine lw_call (as := [.int (xs (x3 + 1).toNatClampNeg), .int (xs (x3 + 2).toNatClampNeg)]) (rest := []) (CC := 200) (SS := 300000) (q := (.int r, f1)) (ad := ad1) (ad' := ad2) hx hb hml hown hts hK a6 a3 a4 lwV_173 trivial hM1 rfl (Nat.le_of_ble_eq_true rfl) d_law_1352 ⟨by decide, by decide⟩ hP1 hP2 hS hl.1 (fun H locs hP1 hP2 hS => ?_)
  refine lv_pop hx hb d_law_1355 rfl ?_
  refine lv_aload_n hx hb d_law_1356 rfl (lv_at hl 2 rfl) ?_
  refine lw_arg C0 hl rfl rfl hS h1 d_law_1357 d_law_1358 d_law_1359 (by decide) d_law_1360 d_law_1361 ?_
  refine lw_arg C0 hl rfl rfl hS h2 d_law_1362 d_law_1363 d_law_1364 (by decide) d_law_1365 d_law_1366 ?_
  refine lw_call (as := [.int (xs (x3 + 1).toNatClampNeg), .int (xs (x3 + 2).toNatClampNeg)]) (rest := []) (CC := 200) (SS := 300000) (q := (.int r2, f2)) (ad := ad2) (ad' := ad1) hx hb hml hown hts hK a7 (fun i j hi hj => (a3 j i hj hi).symm) a5 lwV_176 trivial hM2 rfl (Nat.le_of_ble_eq_true rfl) d_law_1367 ⟨by decide, by decide⟩ hP2 hP1 hS hl.1 (fun H locs hP2 hP1 hS => ?_)
  refine lv_pop hx hb d_law_1370 rfl ?_
  refine lv_goto (tgt := 1374) hx hb d_law_1371 (by decide) ?_
  exact kk H locs ls hP1 hP2 hS hl
end LWC
