/-! words for what methods answer -/
noncomputable def tf (P : Prop) : Int32 := @ite _ P (Classical.propDecidable P) 1 0
theorem tf_t {P : Prop} (h : P) : tf P = 1 := @if_pos P (Classical.propDecidable P) h _ _ _
theorem tf_f {P : Prop} (h : ¬ P) : tf P = 0 := @if_neg P (Classical.propDecidable P) h _ _ _
theorem tf_iff {P Q : Prop} (h : P ↔ Q) : tf P = tf Q := by rw [propext h]
theorem tf_01 (P : Prop) : tf P = 0 ∨ tf P = 1 := by
  rcases Classical.em P with h | h
  · exact Or.inr (tf_t h)
  · exact Or.inl (tf_f h)
theorem tf_0 {P : Prop} : tf P = 0 ↔ ¬ P := by
  rcases Classical.em P with h | h
  · rw [tf_t h]; exact ⟨fun q => absurd q (by decide), fun q => absurd h q⟩
  · rw [tf_f h]; exact ⟨fun _ => h, fun _ => rfl⟩
theorem tf_1 {P : Prop} : tf P = 1 ↔ P := by
  rcases Classical.em P with h | h
  · rw [tf_t h]; exact ⟨fun _ => h, fun _ => rfl⟩
  · rw [tf_f h]; exact ⟨fun q => absurd q (by decide), fun q => absurd q h⟩
theorem mqi {a b : Int32} {h : mj_H} (e : a = b) : (Value.int a, h) = (Value.int b, h) := by rw [e]
theorem mqT {P : Prop} {h : mj_H} (p : P) : (Value.int 1, h) = (Value.int (tf P), h) := by rw [tf_t p]
theorem mqF {P : Prop} {h : mj_H} (p : ¬ P) : (Value.int 0, h) = (Value.int (tf P), h) := by rw [tf_f p]
theorem mzT {P : Prop} {h : mj_H} (p : P) : ((1 : Int32) = 0 ∨ (1 : Int32) = 1) ∧ (Value.int 1, h) = (Value.int (tf P), h) := ⟨Or.inr rfl, mqT p⟩
theorem mzF {P : Prop} {h : mj_H} (p : ¬ P) : ((0 : Int32) = 0 ∨ (0 : Int32) = 1) ∧ (Value.int 0, h) = (Value.int (tf P), h) := ⟨Or.inl rfl, mqF p⟩
theorem if_i {c A B : Prop} [Decidable c] (h1 : c → A) (h2 : ¬ c → B) : if c then A else B := by
  by_cases h : c
  · rw [if_pos h]; exact h1 h
  · rw [if_neg h]; exact h2 h
theorem if_tf {P A B : Prop} (h1 : P → B) (h2 : ¬ P → A) : if tf P = 0 then A else B := if_i (fun c => h2 (tf_0.mp c)) (fun c => h1 (Classical.byContradiction fun q => c (tf_f q)))
theorem if_le {a b : Nat} {A B : Prop} (ha : a < 2 ^ 31) (hb : b < 2 ^ 31) (h1 : a ≤ b → A) (h2 : b < a → B) : if nI a ≤ nI b then A else B :=
  if_i (fun c => h1 ((nI_leI ha hb).mp c)) (fun c => h2 (Nat.lt_of_not_le fun q => c ((nI_leI ha hb).mpr q)))
theorem if_lt {a b : Nat} {A B : Prop} (ha : a < 2 ^ 31) (hb : b < 2 ^ 31) (h1 : a < b → A) (h2 : b ≤ a → B) : if nI a < nI b then A else B :=
  if_i (fun c => h1 ((nI_ltI ha hb).mp c)) (fun c => h2 (Nat.le_of_not_lt fun q => c ((nI_ltI ha hb).mpr q)))
theorem if_eq {a b : Nat} {A B : Prop} (ha : a < 2 ^ 31) (hb : b < 2 ^ 31) (h1 : a = b → A) (h2 : a ≠ b → B) : if nI a = nI b then A else B :=
  if_i (fun c => h1 ((nI_eq ha hb).mp c)) (fun c => h2 fun q => c ((nI_eq ha hb).mpr q))
/-- an int against the range 0 .. n - 1 -/
theorem if_rg {x : Int32} {n : Nat} {A B : Prop} (hn : n < 2 ^ 31) (h1 : ∀ j, j < n → x = nI j → B) (h2 : (∀ j, j < n → x ≠ nI j) → A) : if x < 0 then A else (if nI n ≤ x then A else B) := by
  refine if_i (fun c => h2 fun j hj e => ?_) (fun c => if_i (fun d => h2 fun j hj e => ?_) (fun d => ?_))
  · rw [e] at c; exact nI_pos (by omega) c
  · rw [e] at d; exact nI_ge hj (by omega) d
  · rcases pk_ix x hn with h | h | ⟨j, hj, e⟩
    · exact absurd h c
    · exact absurd h d
    · exact h1 j hj e
theorem nI_2 : (2 : Int32) = nI 2 := rfl
theorem ix4 (a b : Nat) : nI a * (4 : Int32) + nI b = nI (4 * a + b) := by
  rw [show (4 : Int32) = nI 4 from rfl, pk_mul, nI_add, Nat.mul_comm]
theorem ix4' (a b : Nat) : (4 : Int32) * nI a + nI b = nI (4 * a + b) := by
  rw [show (4 : Int32) = nI 4 from rfl, pk_mul, nI_add]
theorem ix4m (a : Nat) : nI a * (4 : Int32) = nI (4 * a) := by
  rw [show (4 : Int32) = nI 4 from rfl, pk_mul, Nat.mul_comm]
theorem ix40 (a b : Nat) : (40 : Int32) * nI a + nI b = nI (40 * a + b) := by
  rw [show (40 : Int32) = nI 40 from rfl, pk_mul, nI_add]
theorem n1_sub {n : Nat} : nI (n + 1) - 1 = nI n := nI_pred n
/-- sets of small numbers as bits -/
noncomputable def bs : Nat → (Nat → Prop) → Int64
  | 0, _ => 0
  | n + 1, p => bs n p ||| (@ite _ (p n) (Classical.propDecidable (p n)) ((1 : Int64) <<< ((nI n).toInt64 &&& 63)) 0)
theorem bs_t {n : Nat} {p : Nat → Prop} (h : p n) : bs (n + 1) p = bs n p ||| ((1 : Int64) <<< ((nI n).toInt64 &&& 63)) := congrArg _ (@if_pos (p n) (Classical.propDecidable _) h _ _ _)
theorem bs_f {n : Nat} {p : Nat → Prop} (h : ¬ p n) : bs (n + 1) p = bs n p ||| (0 : Int64) := congrArg _ (@if_neg (p n) (Classical.propDecidable _) h _ _ _)
theorem bs_f0 {n : Nat} {p : Nat → Prop} (h : ¬ p n) : bs (n + 1) p = bs n p := by
  rw [bs_f h]
  simp
theorem bs_iff {p q : Nat → Prop} : ∀ {n : Nat}, (∀ i, i < n → (p i ↔ q i)) → bs n p = bs n q
  | 0, _ => rfl
  | n + 1, h => by
    rcases Classical.em (p n) with c | c
    · rw [bs_t c, bs_t ((h n (Nat.lt_succ_self n)).mp c), bs_iff fun i hi => h i (Nat.lt_succ_of_lt hi)]
    · rw [bs_f c, bs_f (fun d => c ((h n (Nat.lt_succ_self n)).mpr d)), bs_iff fun i hi => h i (Nat.lt_succ_of_lt hi)]
theorem sh_1 : ∀ n, n < 64 → ((1 : Int64) <<< ((nI n).toInt64 &&& 63)).toBitVec = BitVec.twoPow 64 n := by decide +kernel
theorem sh_ub : ∀ n, n < 64 → (((nI n).toInt64.toUInt64 &&& Int64.toUInt64 63).toNat % 64) = n := by decide +kernel
theorem bs_bit {p : Nat → Prop} : ∀ {n : Nat}, n ≤ 64 → ∀ i, (bs n p).toBitVec.getLsbD i = true ↔ i < n ∧ p i
  | 0, _, i => by
    show (0 : Int64).toBitVec.getLsbD i = true ↔ _
    simp
  | n + 1, hn, i => by
    have ih := bs_bit (p := p) (n := n) (by omega) i
    rcases Classical.em (p n) with c | c
    · rw [bs_t c, Int64.toBitVec_or, sh_1 n (by omega), BitVec.getLsbD_or, Bool.or_eq_true, ih, BitVec.getLsbD_twoPow]
      simp only [Bool.and_eq_true, decide_eq_true_eq]
      constructor
      · rintro (⟨h1, h2⟩ | ⟨h1, h2⟩)
        · exact ⟨by omega, h2⟩
        · exact ⟨by omega, h2 ▸ c⟩
      · rintro ⟨h1, h2⟩
        by_cases e : i = n
        · exact Or.inr ⟨by omega, e.symm⟩
        · exact Or.inl ⟨by omega, h2⟩
    · rw [bs_f0 c, ih]
      constructor
      · rintro ⟨h1, h2⟩
        exact ⟨by omega, h2⟩
      · rintro ⟨h1, h2⟩
        refine ⟨?_, h2⟩
        by_cases e : i = n
        · exact absurd (e ▸ h2) c
        · omega
theorem i64_ext {x y : Int64} (h : ∀ i, i < 64 → (x.toBitVec.getLsbD i = true ↔ y.toBitVec.getLsbD i = true)) : x = y := by
  apply Int64.toBitVec_inj.mp
  apply BitVec.eq_of_getLsbD_eq
  intro i hi
  have := h i hi
  cases hx : x.toBitVec.getLsbD i <;> cases hy : y.toBitVec.getLsbD i <;> simp_all
theorem cmp0 {x y : Int64} : lg_cmp x y = 0 ↔ x = y := by
  unfold lg_cmp
  by_cases h : x > y
  · rw [if_pos h]
    refine ⟨fun q => absurd q (by decide), fun q => ?_⟩
    rw [q] at h
    exact absurd h (Int64.lt_irrefl)
  · rw [if_neg h]
    by_cases e : x = y
    · simp [e]
    · rw [if_neg e]
      exact ⟨fun q => absurd q (by decide), fun q => absurd q e⟩
/-! wishes of a method's answer -/
def qN (R : Nat → Nat → Nat) (P : (Nat → Nat → Int32) → (Nat → Nat → Int64) → Prop) : mj_R → Prop := fun x => ∃ I J, x = (.null, (I, J, R)) ∧ P I J
def qI (R : Nat → Nat → Nat) (P : Int32 → (Nat → Nat → Int32) → (Nat → Nat → Int64) → Prop) : mj_R → Prop := fun x => ∃ r I J, x = (.int r, (I, J, R)) ∧ P r I J
def qL (R : Nat → Nat → Nat) (P : Int64 → (Nat → Nat → Int32) → (Nat → Nat → Int64) → Prop) : mj_R → Prop := fun x => ∃ r I J, x = (.long r, (I, J, R)) ∧ P r I J
theorem mj_cN {S : mj_S} {CD : Nat → mj_C} {D z : Nat} {as : List Value} {h : mj_H} {R : Nat → Nat → Nat} {P : (Nat → Nat → Int32) → (Nat → Nat → Int64) → Prop}
    (hm : mj_if (Nat.ble (mj_sz as) (CD z).2.2) (mj_sg S (CD z) (mj_Cl S CD D) (qN R P) (mj_Ev S (CD z) (mj_Cl S CD D) (qN R P)) 100 0 (mj_a0 0 as) [] h)) : ∃ I J, mj_Cl S CD (D + 1) z as h (.null, (I, J, R)) ∧ P I J := by
  obtain ⟨r, ⟨I, J, rfl, hP⟩, hr⟩ := mj_call hm
  exact ⟨I, J, hr, hP⟩
theorem mj_cI {S : mj_S} {CD : Nat → mj_C} {D z : Nat} {as : List Value} {h : mj_H} {R : Nat → Nat → Nat} {P : Int32 → (Nat → Nat → Int32) → (Nat → Nat → Int64) → Prop}
    (hm : mj_if (Nat.ble (mj_sz as) (CD z).2.2) (mj_sg S (CD z) (mj_Cl S CD D) (qI R P) (mj_Ev S (CD z) (mj_Cl S CD D) (qI R P)) 100 0 (mj_a0 0 as) [] h)) : ∃ r I J, mj_Cl S CD (D + 1) z as h (.int r, (I, J, R)) ∧ P r I J := by
  obtain ⟨r, ⟨x, I, J, rfl, hP⟩, hr⟩ := mj_call hm
  exact ⟨x, I, J, hr, hP⟩
theorem mj_cL {S : mj_S} {CD : Nat → mj_C} {D z : Nat} {as : List Value} {h : mj_H} {R : Nat → Nat → Nat} {P : Int64 → (Nat → Nat → Int32) → (Nat → Nat → Int64) → Prop}
    (hm : mj_if (Nat.ble (mj_sz as) (CD z).2.2) (mj_sg S (CD z) (mj_Cl S CD D) (qL R P) (mj_Ev S (CD z) (mj_Cl S CD D) (qL R P)) 100 0 (mj_a0 0 as) [] h)) : ∃ r I J, mj_Cl S CD (D + 1) z as h (.long r, (I, J, R)) ∧ P r I J := by
  obtain ⟨r, ⟨x, I, J, rfl, hP⟩, hr⟩ := mj_call hm
  exact ⟨x, I, J, hr, hP⟩
/-! stores read back -/
section UP
variable {α : Type} {f : Nat → Nat → α} {q k j i : Nat} {v : α}
theorem up_s : mj_up f q j v q j = v := by simp [mj_up]
theorem up_c (h : k ≠ q) : mj_up f q j v k = f k := by
  funext i
  simp [mj_up, h]
theorem up_j (h : i ≠ j) : mj_up f q j v q i = f q i := by simp [mj_up, h]
theorem up_n (h : k ≠ q ∨ i ≠ j) : mj_up f q j v k i = f k i := by
  rcases h with h | h
  · rw [up_c h]
  · simp [mj_up, h]
end UP
/-- counting -/
noncomputable def ct : Nat → (Nat → Prop) → Nat
  | 0, _ => 0
  | n + 1, p => ct n p + @ite _ (p n) (Classical.propDecidable (p n)) 1 0
theorem ct_t {n : Nat} {p : Nat → Prop} (h : p n) : ct (n + 1) p = ct n p + 1 := congrArg _ (@if_pos (p n) (Classical.propDecidable _) h _ _ _)
theorem ct_f {n : Nat} {p : Nat → Prop} (h : ¬ p n) : ct (n + 1) p = ct n p := congrArg _ (@if_neg (p n) (Classical.propDecidable _) h _ _ _)
theorem ct_iff {p q : Nat → Prop} : ∀ {n : Nat}, (∀ i, i < n → (p i ↔ q i)) → ct n p = ct n q
  | 0, _ => rfl
  | n + 1, h => by
    rcases Classical.em (p n) with c | c
    · rw [ct_t c, ct_t ((h n (Nat.lt_succ_self n)).mp c), ct_iff fun i hi => h i (Nat.lt_succ_of_lt hi)]
    · rw [ct_f c, ct_f (fun d => c ((h n (Nat.lt_succ_self n)).mpr d)), ct_iff fun i hi => h i (Nat.lt_succ_of_lt hi)]
theorem ct_le {p : Nat → Prop} : ∀ {n : Nat}, ct n p ≤ n
  | 0 => Nat.le_refl 0
  | n + 1 => by
    have ih := ct_le (p := p) (n := n)
    rcases Classical.em (p n) with c | c
    · rw [ct_t c]; omega
    · rw [ct_f c]; omega
/-- small numbers, signed -/
def iI (x : Int) : Int32 := Int32.ofInt x
theorem iI_nI (n : Nat) : iI n = nI n := rfl
theorem iI_toInt {x : Int} (h1 : -2147483648 ≤ x) (h2 : x < 2147483648) : (iI x).toInt = x := Int32.toInt_ofInt_of_le (by omega) (by omega)
theorem iI_of (x : Int32) : x = iI x.toInt := (Int32.ofInt_toInt x).symm
/-! at a halt of method z of the class, of the reference -/
abbrev E1 (z D : Nat) (Q : mj_R → Prop) (pc : Nat) (l : mj_L) (I : Nat → Nat → Int32) (J : Nat → Nat → Int64) : Prop := mj_Ev mj_S1 (mj_CD z) (mj_Cl mj_S1 mj_CD D) Q pc l [] (I, J, mj_R1)
abbrev E2 (z D : Nat) (Q : mj_R → Prop) (pc : Nat) (l : mj_L) (I : Nat → Nat → Int32) (J : Nat → Nat → Int64) : Prop := mj_Ev mj_S2 (mj_CD z) (mj_Cl mj_S2 mj_CD D) Q pc l [] (I, J, mj_R2)
abbrev C1 (D z : Nat) (as : List Value) (I : Nat → Nat → Int32) (J : Nat → Nat → Int64) (v : Value) (I' : Nat → Nat → Int32) (J' : Nat → Nat → Int64) : Prop := mj_Cl mj_S1 mj_CD D z as (I, J, mj_R1) (v, (I', J', mj_R1))
abbrev C2 (D z : Nat) (as : List Value) (I : Nat → Nat → Int32) (J : Nat → Nat → Int64) (v : Value) (I' : Nat → Nat → Int32) (J' : Nat → Nat → Int64) : Prop := mj_Cl mj_S2 mj_CD D z as (I, J, mj_R2) (v, (I', J', mj_R2))
