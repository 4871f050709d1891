/-! reading a test: the two states -/
def stc (d W H : Nat) (B1 B2 : (Nat → Nat → Int32)) (BJ : (Nat → Nat → Int64)) : Prop := d < 2 ∧ W ≤ 4 ∧ H ≤ 12 ∧ B1 15 0 = nI W ∧ B1 15 4 = nI H ∧ B2 2 d = nI W ∧ B2 6 d = nI H ∧ B2 0 35 = nI d ∧ (∀ k, k < W → nmq (B1 16 k) (BJ 8 (4 * d + k))) ∧ (∀ k, k < H → nmq (B1 16 (160 + k)) (BJ 17 (12 * d + k)))
def tsl (j : Nat) : Prop := j ≠ 3 ∧ j ≠ 4 ∧ j ≠ 5 ∧ j ≠ 6 ∧ j ≠ 8 ∧ j ≠ 9 ∧ j ≠ 34 ∧ j ≠ 41 ∧ j ≠ 42 ∧ j ≠ 44 ∧ j ≠ 45
/-- what of the class, of the reference, stays while a test is read -/
def tsC (s0 : Nat) (B I : (Nat → Nat → Int32)) : Prop := ∀ q j, (q ≠ 11 ∨ j < 4) → (q ≠ 14 ∨ j ≠ 9) → (q ≠ 22 ∨ j < s0) → I q j = B q j
def tsR (d f0 : Nat) (B I : (Nat → Nat → Int32)) : Prop := ∀ q j, (q ≠ 0 ∨ tsl j) → ((q ≠ 21 ∧ q ≠ 22) ∨ j < 900 * d + f0 ∨ 900 * d + 900 ≤ j) → (q < 23 ∨ 28 < q) → I q j = B q j
/-- the steps that have been laid down; the reference's open brackets and held back operators -/
def tsA (d s0 f0 op M : Nat) (A1 A2 : (List (Nat × Nat))) (I1 I2 : (Nat → Nat → Int32)) : Prop := I1 14 9 = nI (s0 + A1.length) ∧ cdC I1 22 s0 A1 ∧ I2 0 34 = nI (f0 + A2.length) ∧ cdR I2 (900 * d + f0) A2 ∧ op ≤ 8 ∧ I2 0 42 = nI op ∧ I2 0 44 = nI M
/-- the reference's frame on top -/
def tsF (op kd ph bs : Nat) (bg : Int32) (K : List Nat) (L I2 : (Nat → Nat → Int32)) : Prop := I2 0 41 = nI (op + 1) ∧ I2 23 op = nI kd ∧ I2 24 op = nI ph ∧ I2 25 op = bg ∧ I2 27 op = nI bs ∧ (∀ i y, K[i]? = some y → I2 28 (bs + i) = nI y) ∧ (∀ q, 23 ≤ q → q ≤ 27 → ∀ i, i < op → I2 q i = L q i) ∧ I2 26 op = L 26 op ∧ (∀ i, i < bs → I2 28 i = L 28 i) ∧ kd ≤ 5 ∧ ph ≤ 2 ∧ (bg = 0 ∨ bg = 1) ∧ ∀ c ∈ K, c < 17
def TS (n : Nat) (x : Nat → Nat) (d s0 f0 : Nat) (B1 B2 : (Nat → Nat → Int32)) (BJ : (Nat → Nat → Int64)) (op kd ph bs : Nat) (bg : Int32) (K : List Nat) (L : (Nat → Nat → Int32)) (A1 A2 : (List (Nat × Nat))) (p a t v : Nat) (l : List Nat) (o : Int) (I1 I2 : (Nat → Nat → Int32)) (J2 : (Nat → Nat → Int64)) : Prop :=
  tkR n x p a t v l o I1 I2 J2 ∧ tsC s0 B1 I1 ∧ tsR d f0 B2 I2 ∧ lxgJ BJ J2 ∧ tsA d s0 f0 op (bs + K.length) A1 A2 I1 I2 ∧ tsF op kd ph bs bg K L I2
/-- a fault is found -/
def DD (d s0 f0 : Nat) (B1 B2 : (Nat → Nat → Int32)) (BJ : (Nat → Nat → Int64)) (I1 I2 : (Nat → Nat → Int32)) (J2 : (Nat → Nat → Int64)) : Prop := (∃ k p, tkD k p I1 I2) ∧ tsC s0 B1 I1 ∧ tsR d f0 B2 I2 ∧ lxgJ BJ J2 ∧ ∃ c, s0 ≤ c ∧ c ≤ 900 ∧ I1 14 9 = nI c
section Sa8b
variable {n d s0 f0 W H : Nat} {x : Nat → Nat} {B1 B2 : Nat → Nat → Int32} {BJ : Nat → Nat → Int64}
variable {D D' E op kd ph bs p a t v u : Nat} {l : List Nat} {o : Int} {bg : Int32} {K : List Nat} {A1 A2 : List (Nat × Nat)} {L I1 I2 : Nat → Nat → Int32} {J1 J2 : Nat → Nat → Int64}
theorem tkR_cg {I1' I2' : (Nat → Nat → Int32)} {J2' : (Nat → Nat → Int64)} (h : tkR n x p a t v l o I1 I2 J2) (e1 : ∀ q j, (q = 12 ∨ q = 13 ∨ (q = 11 ∧ j ≠ 9)) → I1' q j = I1 q j) (e2 : ∀ q j, (q = 1 ∨ (q = 0 ∧ j < 10)) → I2' q j = I2 q j) (e3 : J2' 0 7 = J2 0 7) : tkR n x p a t v l o I1' I2' J2' := by
  obtain ⟨h1, h2, h3, h4, h5, h6, h7, h8, h9, h10, h11, h12, h13, h14, h15, h16, h17⟩ := h
  refine ⟨⟨h1.1, fun j hj => by rw [e1 13 j (by omega)]; exact h1.2 j hj⟩, ⟨h2.1, fun j hj => by rw [e2 1 j (by omega)]; exact h2.2 j hj⟩, fun z hz => by rw [e1 12 z (by omega)]; exact h3 z hz, by rw [e1 11 2 (by omega)]; exact h4, by rw [e2 0 2 (by omega)]; exact h5, by rw [e1 11 8 (by omega)]; exact h6, by rw [e2 0 4 (by omega)]; exact h7, by rw [e1 11 4 (by omega)]; exact h8, by rw [e2 0 5 (by omega)]; exact h9, by rw [e1 11 5 (by omega)]; exact h10, by rw [e2 0 3 (by omega)]; exact h11, by rw [e1 11 7 (by omega)]; exact h12, ⟨by rw [e1 11 10 (by omega)]; exact h13.1, by rw [e1 11 11 (by omega)]; exact h13.2⟩, by rw [e2 0 8 (by omega)]; exact h14, by rw [e2 0 9 (by omega)]; exact h15, h16, ?_⟩
  unfold tkS at h17 ⊢
  rw [e1 11 6 (by omega), e2 0 6 (by omega), e3]
  exact h17
theorem tsA_cg {M : Nat} {I1' I2' : (Nat → Nat → Int32)} (h : tsA d s0 f0 op M A1 A2 I1 I2) (e1 : I1' 14 9 = I1 14 9) (e2 : ∀ j, I1' 22 j = I1 22 j) (e3 : I2' 0 34 = I2 0 34) (e4 : ∀ j, I2' 21 j = I2 21 j ∧ I2' 22 j = I2 22 j) (e5 : I2' 0 42 = I2 0 42) (e6 : I2' 0 44 = I2 0 44) : tsA d s0 f0 op M A1 A2 I1' I2' := by
  obtain ⟨h1, h2, h3, h4, h5, h6, h7⟩ := h
  exact ⟨by rw [e1]; exact h1, fun k y z => by rw [e2]; exact h2 k y z, by rw [e3]; exact h3, fun k y z => by rw [(e4 _).1, (e4 _).2]; exact h4 k y z, h5, by rw [e5]; exact h6, by rw [e6]; exact h7⟩
theorem tsF_cg {I2' : (Nat → Nat → Int32)} (h : tsF op kd ph bs bg K L I2) (e1 : I2' 0 41 = I2 0 41) (e2 : ∀ q j, 23 ≤ q → q ≤ 28 → I2' q j = I2 q j) : tsF op kd ph bs bg K L I2' := by
  obtain ⟨h1, h2, h3, h4, h5, h6, h7, h8, h9, h10⟩ := h
  exact ⟨by rw [e1]; exact h1, by rw [e2 _ _ (by omega) (by omega)]; exact h2, by rw [e2 _ _ (by omega) (by omega)]; exact h3, by rw [e2 _ _ (by omega) (by omega)]; exact h4, by rw [e2 _ _ (by omega) (by omega)]; exact h5, fun i y z => by rw [e2 _ _ (by omega) (by omega)]; exact h6 i y z, fun q q1 q2 i hi => by rw [e2 _ _ (by omega) (by omega)]; exact h7 q q1 q2 i hi, by rw [e2 _ _ (by omega) (by omega)]; exact h8, fun i hi => by rw [e2 _ _ (by omega) (by omega)]; exact h9 i hi, h10⟩
theorem TS_d (h : TS n x d s0 f0 B1 B2 BJ op kd ph bs bg K L A1 A2 p a t v l o I1 I2 J2) (hS : stc d W H B1 B2 BJ) : I2 0 35 = nI d := by
  rw [h.2.2.1 0 35 (Or.inr (by unfold tsl; omega)) (by omega) (by omega)]
  exact hS.2.2.2.2.2.2.2.1
theorem TS_45 {r : Int32} (h : TS n x d s0 f0 B1 B2 BJ op kd ph bs bg K L A1 A2 p a t v l o I1 I2 J2) : TS n x d s0 f0 B1 B2 BJ op kd ph bs bg K L A1 A2 p a t v l o I1 (mj_up I2 0 45 r) J2 := by
  obtain ⟨h1, h2, h3, h4, h5, h6⟩ := h
  refine ⟨tkR_cg h1 (fun _ _ _ => rfl) (fun q j z => up_n (by omega)) rfl, h2, fun q j z1 z2 z3 => ?_, h4, tsA_cg h5 rfl (fun _ => rfl) (up_n (by omega)) (fun j => ⟨up_n (by omega), up_n (by omega)⟩) (up_n (by omega)) (up_n (by omega)), tsF_cg h6 (up_n (by omega)) (fun q j z1 z2 => up_n (by omega))⟩
  rw [up_n (by unfold tsl at z1; omega)]
  exact h3 q j z1 z2 z3
theorem DD_45 {r : Int32} (h : DD d s0 f0 B1 B2 BJ I1 I2 J2) : DD d s0 f0 B1 B2 BJ I1 (mj_up I2 0 45 r) J2 := by
  obtain ⟨⟨k, p, b1, b2, b3, b4, b5, b6, b7, b8⟩, h2, h3, h4, h5⟩ := h
  refine ⟨⟨k, p, b1, b2, b3, b4, b5, b6, ?_, ?_⟩, h2, fun q j z1 z2 z3 => ?_, h4, h5⟩
  · rw [up_n (by omega)]; exact b7
  · rw [up_n (by omega)]; exact b8
  · rw [up_n (by unfold tsl at z1; omega)]
    exact h3 q j z1 z2 z3
/-- the class lays one step down -/
theorem c_add {c y s : Nat} (h9 : I1 14 9 = nI s) (hs : s < 900) (hy : y ≤ 9999) : C1 (D + 2) 163 [.ref 14, .int (nI (opc c)), .int (nI y)] I1 J1 .null (mj_up (mj_up I1 22 s (nI (opc c * 16384 + y))) 14 9 (nI (s + 1))) J1 := by
  have e : (if (0 : Int32) < nI y then nI y else 0) = nI y := by
    by_cases z : y = 0
    · rw [z, if_neg (by decide)]; rfl
    · rw [if_pos (show (0 : Int32) < nI y from (nI_ltI (a := 0) (by decide) (by omega)).mpr (by omega))]
  refine mj_mk (e163 _ _ ?_)
  rw [h9, show (900 : Int32) = nI 900 from rfl]
  refine if_le (by decide) (by omega) (fun q => absurd q (by omega)) (fun _ => ?_)
  refine ⟨trivial, _, _, _, c_max, vp_in_nI hs (by decide), ?_⟩
  rw [nI_clamp (by omega), h9, nI_1, e, show (16384 : Int32) = nI 16384 from rfl, pk_mul, nI_add]
theorem c_addD {y z : Int32} {s : Nat} (h9 : I1 14 9 = nI s) (hs : s ≤ 900) : ∃ I1', C1 (D + 2) 163 [.ref 14, .int y, .int z] I1 J1 .null I1' J1 ∧ (∀ q j, (q ≠ 14 ∨ j ≠ 9) → (q ≠ 22 ∨ j < s) → I1' q j = I1 q j) ∧ ∃ c, s ≤ c ∧ c ≤ 900 ∧ I1' 14 9 = nI c := by
  by_cases e : s = 900
  · refine ⟨I1, mj_mk (e163 _ _ ?_), fun _ _ _ _ => rfl, s, Nat.le_refl _, hs, h9⟩
    rw [h9, show (900 : Int32) = nI 900 from rfl]
    exact if_le (by decide) (by omega) (fun _ => rfl) (fun q => absurd q (by omega))
  · refine ⟨mj_up (mj_up I1 22 s (y * 16384 + (if (0 : Int32) < z then z else 0))) 14 9 (nI (s + 1)), mj_mk (e163 _ _ ?_), fun q j z1 z2 => by rw [up_n (by omega), up_n (by omega)], s + 1, by omega, by omega, up_s⟩
    rw [h9, show (900 : Int32) = nI 900 from rfl, nI_clamp (by omega)]
    refine if_le (by decide) (by omega) (fun q => absurd q (by omega)) (fun _ => ?_)
    refine ⟨trivial, _, _, _, c_max, vp_in_nI (by omega) (by decide), ?_⟩
    rw [h9, nI_1]
theorem ts_addC {c y : Nat} (h : TS n x d s0 f0 B1 B2 BJ op kd ph bs bg K L A1 A2 p a t v l o I1 I2 J2) (hs : s0 + A1.length < 900) (hy : y ≤ 9999) : ∃ I1', C1 (D + 2) 163 [.ref 14, .int (nI (opc c)), .int (nI y)] I1 J1 .null I1' J1 ∧ TS n x d s0 f0 B1 B2 BJ op kd ph bs bg K L (A1 ++ [(c, y)]) A2 p a t v l o I1' I2 J2 ∧ I1' 11 9 = I1 11 9 := by
  obtain ⟨h1, h2, h3, h4, ⟨a1, a2, a3, a4, a5, a6, a7⟩, h6⟩ := h
  refine ⟨_, c_add a1 hs hy, ⟨tkR_cg h1 (fun q j z => by rw [up_n (by omega), up_n (by omega)]) (fun _ _ _ => rfl) rfl, fun q j z1 z2 z3 => by rw [up_n (by omega), up_n (by omega)]; exact h2 q j z1 z2 z3, h3, h4, ⟨?_, ?_, a3, a4, a5, a6, a7⟩, h6⟩, by rw [up_n (by omega), up_n (by omega)]⟩
  · rw [up_s, List.length_append]; rfl
  · refine cdC_app a2 (fun j hj => by rw [up_n (by omega), up_n (by omega)]) ?_
    rw [up_n (by omega), up_s]
/-- the reference lays one code down, holds one operator back -/
theorem r_add {y z : Int32} {s : Nat} (h35 : I2 0 35 = nI d) (h34 : I2 0 34 = nI s) (hd : d < 2) (hs : s < 900) : C2 (D + 1) 39 [.ref 0, .int y, .int z] I2 J2 .null (mj_up (mj_up (mj_up I2 21 (900 * d + s) y) 22 (900 * d + s) z) 0 34 (nI (s + 1))) J2 := by
  refine mj_mk (e39 _ _ ?_)
  rw [h35, h34, show (900 : Int32) = nI 900 from rfl, pk_mul, nI_add, nI_clamp (by omega), nI_1]
  exact ⟨vp_in_nI (by omega) (by decide), vp_in_nI (by omega) (by decide), rfl⟩
theorem ts_addR {c y : Nat} (hS : stc d W H B1 B2 BJ) (h : TS n x d s0 f0 B1 B2 BJ op kd ph bs bg K L A1 A2 p a t v l o I1 I2 J2) (hs : f0 + A2.length < 900) : ∃ I2', C2 (D + 1) 39 [.ref 0, .int (nI c), .int (nI y)] I2 J2 .null I2' J2 ∧ TS n x d s0 f0 B1 B2 BJ op kd ph bs bg K L A1 (A2 ++ [(c, y)]) p a t v l o I1 I2' J2 ∧ I2' 0 45 = I2 0 45 := by
  have h35 := TS_d h hS
  have hd := hS.1
  obtain ⟨h1, h2, h3, h4, ⟨a1, a2, a3, a4, a5, a6, a7⟩, h6⟩ := h
  refine ⟨_, r_add h35 a3 hd hs, ⟨tkR_cg h1 (fun _ _ _ => rfl) (fun q j z => by rw [up_n (by omega), up_n (by omega), up_n (by omega)]) rfl, h2, fun q j z1 z2 z3 => ?_, h4, ⟨a1, a2, ?_, ?_, a5, ?_, ?_⟩, tsF_cg h6 (by rw [up_n (by omega), up_n (by omega), up_n (by omega)]) (fun q j z1 z2 => by rw [up_n (by omega), up_n (by omega), up_n (by omega)])⟩, by rw [up_n (by omega), up_n (by omega), up_n (by omega)]⟩
  · rw [up_n (by unfold tsl at z1; omega), up_n (by omega), up_n (by omega)]
    exact h3 q j z1 z2 z3
  · rw [up_s, List.length_append]; rfl
  · refine cdR_app a4 (fun j hj => ⟨by rw [up_n (by omega), up_n (by omega), up_n (by omega)], by rw [up_n (by omega), up_n (by omega), up_n (by omega)]⟩) ⟨?_, ?_⟩
    · rw [up_n (by omega), up_n (by omega), ← Nat.add_assoc, up_s]
    · rw [up_n (by omega), ← Nat.add_assoc, up_s]
  · rw [up_n (by omega), up_n (by omega), up_n (by omega)]; exact a6
  · rw [up_n (by omega), up_n (by omega), up_n (by omega)]; exact a7
theorem ts_hold {c : Nat} (h : TS n x d s0 f0 B1 B2 BJ op kd ph bs bg K L A1 A2 p a t v l o I1 I2 J2) (hM : bs + K.length < 500) (hc : c < 17) : ∃ I2', C2 (D + 1) 37 [.ref 0, .int (nI c)] I2 J2 .null I2' J2 ∧ TS n x d s0 f0 B1 B2 BJ op kd ph bs bg (K ++ [c]) L A1 A2 p a t v l o I1 I2' J2 ∧ I2' 0 45 = I2 0 45 := by
  obtain ⟨h1, h2, h3, h4, ⟨a1, a2, a3, a4, a5, a6, a7⟩, ⟨f1, f2, f3, f4, f5, f6, f7, f8, f9, f10, f11, f12, f13⟩⟩ := h
  refine ⟨mj_up (mj_up I2 28 (bs + K.length) (nI c)) 0 44 (nI (bs + K.length + 1)), mj_mk (e37 _ ?_), ⟨tkR_cg h1 (fun _ _ _ => rfl) (fun q j z => by rw [up_n (by omega), up_n (by omega)]) rfl, h2, fun q j z1 z2 z3 => ?_, h4, ⟨a1, a2, ?_, fun k y z => ?_, a5, ?_, ?_⟩, ⟨?_, ?_, ?_, ?_, ?_, ?_, fun q q1 q2 i hi => ?_, ?_, fun i hi => ?_, f10, f11, f12, fun e he => ?_⟩⟩, ?_⟩
  · rw [a7, nI_clamp (by omega), nI_1]
    exact ⟨vp_in_nI hM (by decide), rfl⟩
  · rw [up_n (by unfold tsl at z1; omega), up_n (by omega)]
    exact h3 q j z1 z2 z3
  · rw [up_n (by omega), up_n (by omega)]; exact a3
  · rw [up_n (by omega), up_n (by omega), up_n (by omega), up_n (by omega)]; exact a4 k y z
  · rw [up_n (by omega), up_n (by omega)]; exact a6
  · rw [up_s, List.length_append]; rfl
  · rw [up_n (by omega), up_n (by omega)]; exact f1
  · rw [up_n (by omega), up_n (by omega)]; exact f2
  · rw [up_n (by omega), up_n (by omega)]; exact f3
  · rw [up_n (by omega), up_n (by omega)]; exact f4
  · rw [up_n (by omega), up_n (by omega)]; exact f5
  · refine ops_app f6 (fun j hj => ?_) ?_
    · rw [up_n (by omega), up_n (by omega)]
    · rw [up_n (by omega), up_s]
  · rw [up_n (by omega), up_n (by omega)]; exact f7 q q1 q2 i hi
  · rw [up_n (by omega), up_n (by omega)]; exact f8
  · rw [up_n (by omega), up_n (by omega)]; exact f9 i hi
  · rcases List.mem_append.mp he with z | z
    · exact f13 e z
    · rw [List.mem_singleton.mp z]; exact hc
  · rw [up_n (by omega), up_n (by omega)]
theorem r_rank {c : Nat} (hc : c < 17) : C2 (D + 1) 43 [.int (nI c)] I2 J2 (.int (nI (rnk c))) I2 J2 := by
  refine mj_mk (e43 _ ?_)
  have eq : ∀ {k : Nat} {y : Int32}, y = nI k → k < 17 → nI c = y → c = k := fun e1 e2 e3 => (nI_eq (by omega) (by omega)).mp (e3.trans e1)
  refine if_i (fun e => ?_) (fun n15 => if_i (fun e => ?_) (fun n14 => if_i (fun e => ?_) (fun n16 => if_i (fun e => ?_) (fun n11 => if_i (fun e => ?_) (fun n12 => if_i (fun e => ?_) (fun n13 => if_i (fun e => ?_) (fun n5 => if_i (fun e => ?_) (fun n6 => ?_))))))))
  · obtain rfl := eq (k := 15) rfl (by decide) e; rfl
  · obtain rfl := eq (k := 14) rfl (by decide) e; rfl
  · obtain rfl := eq (k := 16) rfl (by decide) e; rfl
  · obtain rfl := eq (k := 11) rfl (by decide) e; rfl
  · obtain rfl := eq (k := 12) rfl (by decide) e; rfl
  · obtain rfl := eq (k := 13) rfl (by decide) e; rfl
  · obtain rfl := eq (k := 5) rfl (by decide) e; rfl
  · obtain rfl := eq (k := 6) rfl (by decide) e; rfl
  · have ne : ∀ {k : Nat} {y : Int32}, y = nI k → ¬ nI c = y → c ≠ k := fun e1 e2 e3 => e2 (by rw [e3, e1])
    have m15 := ne (k := 15) rfl n15
    have m14 := ne (k := 14) rfl n14
    have m16 := ne (k := 16) rfl n16
    have m11 := ne (k := 11) rfl n11
    have m12 := ne (k := 12) rfl n12
    have m13 := ne (k := 13) rfl n13
    have m5 := ne (k := 5) rfl n5
    have m6 := ne (k := 6) rfl n6
    have e : rnk c = 6 := by
      unfold rnk
      rw [if_neg m15, if_neg m14, if_neg m16, if_neg (by omega), if_neg (by omega)]
    rw [e]
    rfl
/-- joins: what is held back and binds at least as much is laid down -/
theorem ts_join0 {r : Nat} (hS : stc d W H B1 B2 BJ) (hr : r < 10) (hK : ∀ c, K.getLast? = some c → rnk c < r) : ∀ (m : Nat) (kk : List Nat) (A2 : (List (Nat × Nat))) (I2 : (Nat → Nat → Int32)), kk.length = m → TS n x d s0 f0 B1 B2 BJ op kd ph bs bg (K ++ kk) L A1 A2 p a t v l o I1 I2 J2 → (∀ c ∈ kk, r ≤ rnk c) → f0 + A2.length + kk.length ≤ 900 → bs + K.length + kk.length < 500 → ∀ Q : mj_R → Prop, (∀ I2', TS n x d s0 f0 B1 B2 BJ op kd ph bs bg K L A1 (A2 ++ pops kk) p a t v l o I1 I2' J2 → I2' 0 45 = I2 0 45 → Q (.null, (I2', J2, mj_R2))) → E2 42 (D + 1) Q 0 [(0, .ref 0), (1, .int (nI r))] I2 J2
  | 0, kk, A2, I2, hk, h, hkk, hb, hM, Q, hQ => by
    obtain rfl : kk = [] := List.length_eq_zero_iff.mp hk
    rw [List.append_nil] at h
    have hq0 := hQ I2 (by rw [pops_nil, List.append_nil]; exact h) rfl
    have h8 := h.2.2.2.2.1.2.2.2.2.1
    obtain ⟨-, -, -, -, ⟨-, -, -, -, -, -, a7⟩, ⟨f1, -, -, -, f5, f6, -, -, -, -, -, -, f13⟩⟩ := h
    refine mj_on (s42_0 _ ?_)
    rw [f1, nI_pred, nI_clamp (by omega), a7, f5]
    refine ⟨vp_in_nI (by omega) (by decide), if_le (by omega) (by omega) (fun _ => hq0) (fun z => ?_)⟩
    rcases List.eq_nil_or_concat K with rfl | ⟨K0, c, rfl⟩
    · exact absurd z (by show ¬ bs < bs + 0; omega)
    · rw [List.concat_eq_append] at *
      have hc : c < 17 := f13 c (List.mem_append_right _ List.mem_cons_self)
      have e1 : (K0 ++ [c]).length = K0.length + 1 := by rw [List.length_append]; rfl
      have e2 : I2 28 (bs + K0.length) = nI c := f6 K0.length c (by rw [List.getElem?_append_right (Nat.le_refl _), Nat.sub_self]; rfl)
      have e3 : rnk c < r := hK c (by rw [List.getLast?_append]; rfl)
      have hM2 : bs + (K0.length + 1) < 500 := by rw [e1] at hM; omega
      rw [e1, ← Nat.add_assoc, nI_pred, nI_clamp (by omega), e2]
      refine ⟨vp_in_nI (by omega) (by decide), trivial, _, _, _, r_rank hc, ?_⟩
      have e4 : rnk c < 10 := by omega
      exact if_lt (by omega) (by omega) (fun _ => hq0) (fun w => absurd w (by omega))
  | m + 1, kk, A2, I2, hk, h, hkk, hb, hM, Q, hQ => by
    rcases List.eq_nil_or_concat kk with rfl | ⟨k0, c, rfl⟩
    · cases hk
    rw [List.concat_eq_append] at *
    have e1 : (k0 ++ [c]).length = k0.length + 1 := by rw [List.length_append]; rfl
    rw [e1] at hk hb hM
    have h35 := TS_d h hS
    have hd := hS.1
    rw [← List.append_assoc] at h
    obtain ⟨h1, h2, h3, h4, ⟨a1, a2, a3, a4, a5, a6, a7⟩, ⟨f1, f2, f3, f4, f5, f6, f7, f8, f9, f10, f11, f12, f13⟩⟩ := h
    have e0 : (K ++ k0 ++ [c]).length = (K ++ k0).length + 1 := by rw [List.length_append]; rfl
    have e00 : (K ++ k0).length = K.length + k0.length := List.length_append
    rw [e0, e00, ← Nat.add_assoc] at a7
    have hc : c < 17 := f13 c (List.mem_append_right _ List.mem_cons_self)
    have e2 : I2 28 (bs + (K.length + k0.length)) = nI c := by
      rw [← e00]
      exact f6 (K ++ k0).length c (by rw [List.getElem?_append_right (Nat.le_refl _), Nat.sub_self]; rfl)
    have hrc : r ≤ rnk c := hkk c (List.mem_append_right _ List.mem_cons_self)
    have r10 : rnk c < 10 := by unfold rnk; split <;> (try split) <;> (try split) <;> (try split) <;> (try split) <;> omega
    refine mj_on (s42_0 _ ?_)
    rw [f1, nI_pred, nI_clamp (by omega), a7, f5]
    refine ⟨vp_in_nI (by omega) (by decide), if_le (by omega) (by omega) (fun z => absurd z (by omega)) (fun _ => ?_)⟩
    rw [nI_pred, nI_clamp (by omega), e2]
    refine ⟨vp_in_nI (by omega) (by decide), trivial, _, _, _, r_rank hc, ?_⟩
    refine if_lt (by omega) (by omega) (fun w => absurd w (by omega)) (fun _ => ?_)
    rw [a7, nI_pred, nI_clamp (by omega), e2]
    refine ⟨vp_in_nI (by omega) (by decide), ?_⟩
    have t1 : TS n x d s0 f0 B1 B2 BJ op kd ph bs bg (K ++ k0) L A1 A2 p a t v l o I1 (mj_up I2 0 44 (nI (bs + (K.length + k0.length)))) J2 := by
      refine ⟨tkR_cg h1 (fun _ _ _ => rfl) (fun q j z => by rw [up_n (by omega)]) rfl, h2, fun q j z1 z2 z3 => ?_, h4, ⟨a1, a2, ?_, fun k y z => ?_, a5, ?_, ?_⟩, ⟨?_, ?_, ?_, ?_, ?_, fun i y z => ?_, fun q q1 q2 i hi => ?_, ?_, fun i hi => ?_, f10, f11, f12, fun e he => ?_⟩⟩
      · rw [up_n (by unfold tsl at z1; omega)]
        exact h3 q j z1 z2 z3
      · rw [up_n (by omega)]; exact a3
      · rw [up_n (by omega), up_n (by omega)]; exact a4 k y z
      · rw [up_n (by omega)]; exact a6
      · rw [up_s, e00]
      · rw [up_n (by omega)]; exact f1
      · rw [up_n (by omega)]; exact f2
      · rw [up_n (by omega)]; exact f3
      · rw [up_n (by omega)]; exact f4
      · rw [up_n (by omega)]; exact f5
      · rw [up_n (by omega)]
        exact f6 i y (by rw [List.getElem?_append_left (List.getElem?_eq_some_iff.mp z).1]; exact z)
      · rw [up_n (by omega)]; exact f7 q q1 q2 i hi
      · rw [up_n (by omega)]; exact f8
      · rw [up_n (by omega)]; exact f9 i hi
      · exact f13 e (List.mem_append_left _ he)
    obtain ⟨I2', k1, k2, k3⟩ := ts_addR (D := D) (c := c) (y := 0) hS t1 (by omega)
    refine ⟨trivial, _, _, k1, ?_⟩
    refine ts_join0 hS hr hK m k0 (A2 ++ [(c, 0)]) I2' (by omega) k2 (fun e he => hkk e (List.mem_append_left _ he)) ?_ (by omega) Q (fun I3 q1 q2 => ?_)
    · rw [List.length_append]
      show f0 + (A2.length + 1) + k0.length ≤ 900
      omega
    · refine hQ I3 ?_ ?_
      · rw [pops_app, pops_one]
        rw [List.append_assoc] at q1
        exact q1
      · rw [q2, k3, up_n (by omega)]
theorem ts_join {r : Nat} {kk : List Nat} (hS : stc d W H B1 B2 BJ) (hr : r < 10) (hK : ∀ c ∈ K, rnk c < r) (h : TS n x d s0 f0 B1 B2 BJ op kd ph bs bg (K ++ kk) L A1 A2 p a t v l o I1 I2 J2) (hk : ∀ c ∈ kk, r ≤ rnk c) (hb : f0 + A2.length + kk.length ≤ 900) (hM : bs + K.length + kk.length < 500) : ∃ I2', C2 (D + 2) 42 [.ref 0, .int (nI r)] I2 J2 .null I2' J2 ∧ TS n x d s0 f0 B1 B2 BJ op kd ph bs bg K L A1 (A2 ++ pops kk) p a t v l o I1 I2' J2 ∧ I2' 0 45 = I2 0 45 := by
  obtain ⟨I', J', hc, h1, rfl, h3⟩ := mj_cN (S := mj_S2) (CD := mj_CD) (D := D + 1) (z := 42) (as := [.ref 0, .int (nI r)]) (h := (I2, J2, mj_R2)) (R := mj_R2) (P := fun I' J' => TS n x d s0 f0 B1 B2 BJ op kd ph bs bg K L A1 (A2 ++ pops kk) p a t v l o I1 I' J2 ∧ J' = J2 ∧ I' 0 45 = I2 0 45) (e42 _ (ts_join0 hS hr (fun c q => hK c (List.mem_of_getLast? q)) kk.length kk A2 I2 rfl h hk hb hM _ (fun I3 q1 q2 => ⟨_, _, rfl, q1, rfl, q2⟩)))
  exact ⟨I', hc, h1, h3⟩
end Sa8b
