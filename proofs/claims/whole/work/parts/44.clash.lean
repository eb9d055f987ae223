/-! which parts are near: masks -/
theorem lmA_bit (s : Nat → Nat) (p l : Nat) : ∀ i, (lmA s p i).testBit l = true ↔ l < i ∧ (s l).testBit p = true := by
  intro i
  induction i with
  | zero =>
    simp only [lmA, Nat.zero_testBit]
    constructor
    · intro h; cases h
    · rintro ⟨h, -⟩; omega
  | succ i ih =>
    simp only [lmA]
    rw [Nat.add_comm, Nat.mul_comm, Nat.testBit_two_pow_mul_add _ (lmA_lt s p i)]
    by_cases q : l < i
    · rw [if_pos q, ih]
      constructor
      · rintro ⟨-, b⟩; exact ⟨by omega, b⟩
      · rintro ⟨-, b⟩; exact ⟨q, b⟩
    · rw [if_neg q]
      by_cases e : l = i
      · subst e
        rw [Nat.sub_self]
        unfold bN
        by_cases h : (s l).testBit p = true
        · rw [if_pos h]; exact ⟨fun _ => ⟨Nat.lt_succ_self _, h⟩, fun _ => by decide⟩
        · rw [if_neg h, Nat.zero_testBit]; exact ⟨fun x => (by cases x), fun x => absurd x.2 h⟩
      · have : bN (s i) p < 2 ^ (l - i) := Nat.lt_of_le_of_lt (bN_le _ _) (Nat.one_lt_two_pow (by omega))
        rw [Nat.testBit_lt_two_pow this]
        exact ⟨fun x => (by cases x), fun x => absurd x.1 (by omega)⟩
def nrA (L : Nat) : Nat → Nat
  | 0 => L
  | i + 1 => nrA L i ||| (L * 2 ^ (i + 1) ||| L / 2 ^ (i + 1))
theorem sh_lt {L : Nat} (hL : L < 2 ^ 40) (k : Nat) : L * 2 ^ k < 2 ^ (40 + k) := by
  rw [Nat.pow_add]
  exact Nat.mul_lt_mul_of_pos_right hL (Nat.two_pow_pos _)
theorem nrA_lt {L : Nat} (hL : L < 2 ^ 40) : ∀ i, nrA L i < 2 ^ (40 + i) := by
  intro i
  induction i with
  | zero => exact hL
  | succ i ih =>
    simp only [nrA]
    refine Nat.or_lt_two_pow (Nat.lt_of_lt_of_le ih (Nat.pow_le_pow_right (by decide) (by omega))) (Nat.or_lt_two_pow (sh_lt hL _) ?_)
    exact Nat.lt_of_le_of_lt (Nat.div_le_self _ _) (Nat.lt_of_lt_of_le hL (Nat.pow_le_pow_right (by decide) (by omega)))
theorem nrA_bit (L j : Nat) : ∀ i, (nrA L i).testBit j = true ↔ ∃ k, L.testBit k = true ∧ j ≤ k + i ∧ k ≤ j + i := by
  intro i
  induction i with
  | zero =>
    simp only [nrA]
    constructor
    · intro h; exact ⟨j, h, by omega, by omega⟩
    · rintro ⟨k, h, h1, h2⟩
      rw [show j = k by omega]; exact h
  | succ i ih =>
    simp only [nrA]
    rw [Nat.testBit_or, Nat.testBit_or, Nat.testBit_mul_two_pow, Nat.testBit_div_two_pow, Bool.or_eq_true, Bool.or_eq_true, ih, Bool.and_eq_true, decide_eq_true_eq]
    constructor
    · rintro (⟨k, h, h1, h2⟩ | ⟨h1, h⟩ | h)
      · exact ⟨k, h, by omega, by omega⟩
      · exact ⟨_, h, by omega, by omega⟩
      · exact ⟨_, h, by omega, by omega⟩
    · rintro ⟨k, h, h1, h2⟩
      by_cases q : j ≤ k + i ∧ k ≤ j + i
      · exact Or.inl ⟨k, h, q.1, q.2⟩
      · by_cases q2 : k + (i + 1) = j
        · refine Or.inr (Or.inl ⟨by omega, ?_⟩)
          rw [show j - (i + 1) = k by omega]; exact h
        · refine Or.inr (Or.inr ?_)
          rw [show j + (i + 1) = k by omega]; exact h
theorem and_ne (a b : Nat) : a &&& b ≠ 0 ↔ ∃ j, a.testBit j = true ∧ b.testBit j = true := by
  constructor
  · intro h
    obtain ⟨i, hi⟩ := Nat.exists_testBit_of_ne_zero h
    rw [Nat.testBit_and, Bool.and_eq_true] at hi
    exact ⟨i, hi⟩
  · rintro ⟨j, h1, h2⟩ e
    have : (a &&& b).testBit j = true := by rw [Nat.testBit_and, h1, h2]; rfl
    rw [e, Nat.zero_testBit] at this
    cases this
/-- a mask out of answers -/
def mB (b : Nat → Bool) : Nat → Nat
  | 0 => 0
  | i + 1 => if b i = true then mB b i ||| 2 ^ i else mB b i
theorem mB_lt (b : Nat → Bool) : ∀ i, mB b i < 2 ^ i := by
  intro i
  induction i with
  | zero => exact Nat.one_pos
  | succ i ih =>
    have h : 2 ^ i < 2 ^ (i + 1) := Nat.pow_lt_pow_right (by decide) (Nat.lt_succ_self i)
    simp only [mB]
    split
    · exact Nat.or_lt_two_pow (by omega) h
    · omega
theorem mB_bit (b : Nat → Bool) (q : Nat) : ∀ i, (mB b i).testBit q = true ↔ q < i ∧ b q = true := by
  intro i
  induction i with
  | zero =>
    simp only [mB, Nat.zero_testBit]
    exact ⟨fun x => (by cases x), fun x => absurd x.1 (by omega)⟩
  | succ i ih =>
    simp only [mB]
    by_cases h : b i = true
    · rw [if_pos h, Nat.testBit_or, Nat.testBit_two_pow, Bool.or_eq_true, ih, decide_eq_true_eq]
      constructor
      · rintro (⟨a, c⟩ | a)
        · exact ⟨by omega, c⟩
        · subst a; exact ⟨by omega, h⟩
      · rintro ⟨a, c⟩
        by_cases e : i = q
        · exact Or.inr e
        · exact Or.inl ⟨by omega, c⟩
    · rw [if_neg h, ih]
      constructor
      · rintro ⟨a, c⟩; exact ⟨by omega, c⟩
      · rintro ⟨a, c⟩
        refine ⟨?_, c⟩
        have : q ≠ i := fun e => h (e ▸ c)
        omega
theorem lg0 {a : Nat} (ha : a < 2 ^ 64) : lg_cmp (lN a) 0 = 0 ↔ a = 0 := by
  rw [lg_cmp_eq]
  exact lN_inj64 (b := 0) ha (by decide)
theorem clm_C (w : Wd) {s : Nat → Nat} {N V : Nat} (hN : N ≤ 40) (hV : V < 2 ^ 64) (h28 : ∀ q, q < 8 → w.2.2 28 q = lN (lmA s q N)) : Ok (L_X0_clashesOf_38 fu (w, lN V, 0, 0)) (fun x => x = (nI (mB (fun q => decide (V &&& lmA s q N ≠ 0)) 8), w)) := by
  obtain ⟨b, hb⟩ : ∃ b : Nat → Bool, b = fun q => decide (V &&& lmA s q N ≠ 0) := ⟨_, rfl⟩
  rw [← hb]
  unfold L_X0_clashesOf_38
  refine Ok.loop (fun a => ∃ i, i ≤ 8 ∧ a.1 = w ∧ a.2.1 = lN V ∧ a.2.2.1 = nI (mB b i) ∧ a.2.2.2 = nI i) (fun a => 41 - a.2.2.2.toNatClampNeg) ?_ fu _ ⟨0, Nat.zero_le _, rfl, rfl, rfl, rfl⟩ (fu_big (by show 41 - _ < _; omega))
  rintro ⟨w1, v3, v5, v6⟩ ⟨i, hi, e1, e2, e3, e4⟩ kk hkk
  dsimp only at e1 e2 e3 e4 hkk ⊢
  subst e1 e2 e3 e4
  unfold F_X0_clashesOf_38
  refine Ok.ite (fun c => ?_) (fun c => ?_)
  · simp (disch := omega) only [Int32.le_iff_toInt_le, Int32.lt_iff_toInt_lt, ← Int32.toInt_inj, nI_toInt, Int32.reduceToInt] at c
    have e : i = 8 := by omega
    subst e
    exact Ok.ret rfl
  · simp (disch := omega) only [Int32.le_iff_toInt_le, Int32.lt_iff_toInt_lt, ← Int32.toInt_inj, nI_toInt, Int32.reduceToInt] at c
    have hlt := lmA_lt s i N
    have h40 := pow40 hN
    refine Ok.gu (gd_nI (by omega) (by omega)) ?_
    rw [cl_nI (by omega), h28 i (by omega), lN_and hV (by omega), bit_1 i (by omega), nI_or, nI_1]
    refine hkk _ ⟨i + 1, by omega, rfl, rfl, ?_, rfl⟩ (by dsimp only; rw [cl_nI (by omega), cl_nI (by omega)]; omega)
    have hz : V &&& lmA s i N < 2 ^ 64 := Nat.lt_of_le_of_lt Nat.and_le_left hV
    dsimp only
    simp only [mB]
    have hbi : b i = true ↔ V &&& lmA s i N ≠ 0 := by rw [hb]; exact decide_eq_true_iff
    by_cases q : V &&& lmA s i N = 0
    · rw [if_pos ((lg0 hz).mpr q), if_neg (fun e => hbi.mp e q)]
    · rw [if_neg (fun e => q ((lg0 hz).mp e)), if_pos (hbi.mpr q)]
theorem near_C (w : Wd) {c L : Nat} (hc : c ≤ 9) (hL : L < 2 ^ 40) (h24 : w.1 24 = nI c) {Q : Int32 × Wd → Prop} (h : Ok (L_X0_clashesOf_38 fu (w, lN (nrA L c), 0, 0)) Q) : Ok (F_X0_clashesOf w (lN L)) Q := by
  unfold F_X0_clashesOf L_X0_clashesOf_5
  refine Ok.loop (fun a => ∃ i, i ≤ c ∧ a.1 = w ∧ a.2.1 = lN L ∧ a.2.2.1 = lN (nrA L i) ∧ a.2.2.2 = nI (i + 1)) (fun a => 41 - a.2.2.2.toNatClampNeg) ?_ fu _ ⟨0, Nat.zero_le _, rfl, rfl, rfl, rfl⟩ (fu_big (by show 41 - _ < _; omega))
  rintro ⟨w1, v1, v3, v5⟩ ⟨i, hi, e1, e2, e3, e4⟩ kk hkk
  dsimp only at e1 e2 e3 e4 hkk ⊢
  subst e1 e2 e3 e4
  unfold F_X0_clashesOf_5
  rw [h24]
  refine Ok.ite (fun d => ?_) (fun d => ?_)
  · simp (disch := omega) only [Int32.le_iff_toInt_le, Int32.lt_iff_toInt_lt, ← Int32.toInt_inj, nI_toInt, Int32.reduceToInt] at d
    have e : i = c := by omega
    subst e
    exact h
  · simp (disch := omega) only [Int32.le_iff_toInt_le, Int32.lt_iff_toInt_lt, ← Int32.toInt_inj, nI_toInt, Int32.reduceToInt] at d
    have b1 := nrA_lt hL i
    have b2 := sh_lt hL (i + 1)
    have p1 : 2 ^ (40 + i) ≤ 562949953421312 := Nat.pow_le_pow_right (n := 2) (j := 49) (by decide) (by omega)
    have p2 : 2 ^ (40 + (i + 1)) ≤ 562949953421312 := Nat.pow_le_pow_right (n := 2) (j := 49) (by decide) (by omega)
    have b3 : L / 2 ^ (i + 1) ≤ L := Nat.div_le_self _ _
    have b4 : L * 2 ^ (i + 1) ||| L / 2 ^ (i + 1) < 2 ^ 64 := Nat.or_lt_two_pow (by omega) (by omega)
    rw [lN_shl _ (by omega), lN_shr (by omega) (by omega), lN_or (by omega) (by omega), lN_or (by omega) b4, nI_1]
    exact hkk (w1, lN L, lN (nrA L (i + 1)), nI (i + 1 + 1)) ⟨i + 1, by omega, rfl, rfl, rfl, rfl⟩ (by dsimp only; rw [cl_nI (by omega), cl_nI (by omega)]; omega)
theorem clOf_C (w : Wd) {s : Nat → Nat} {N c L : Nat} (hN : N ≤ 40) (hc : c ≤ 9) (hL : L < 2 ^ 40) (h24 : w.1 24 = nI c) (h28 : ∀ q, q < 8 → w.2.2 28 q = lN (lmA s q N)) : ∃ M, M < 256 ∧ (∀ q, q < 8 → (M.testBit q = true ↔ ∃ k j, L.testBit k = true ∧ (lmA s q N).testBit j = true ∧ j ≤ k + c ∧ k ≤ j + c)) ∧ F_X0_clashesOf w (lN L) = some (nI M, w) := by
  have b1 := nrA_lt hL c
  have p1 : 2 ^ (40 + c) ≤ 562949953421312 := Nat.pow_le_pow_right (n := 2) (j := 49) (by decide) (by omega)
  refine ⟨mB (fun q => decide (nrA L c &&& lmA s q N ≠ 0)) 8, mB_lt _ 8, fun q hq => ?_, Ok.eq (near_C w hc hL h24 (clm_C w hN (by omega) h28))⟩
  rw [mB_bit, decide_eq_true_iff, and_ne]
  constructor
  · rintro ⟨-, j, h1, h2⟩
    obtain ⟨k, h3, h4, h5⟩ := (nrA_bit L j c).mp h1
    exact ⟨k, j, h3, h2, h4, h5⟩
  · rintro ⟨k, j, h3, h2, h4, h5⟩
    exact ⟨hq, j, (nrA_bit L j c).mpr ⟨k, h3, h4, h5⟩, h2⟩
theorem parts_C (w : Wd) (v : Int32) : F_X0_partsOf w v = some (nI (mB (fun q => decide (w.2.1 27 q = v)) 8), w) := by
  apply Ok.eq
  unfold F_X0_partsOf L_X0_partsOf_4
  refine Ok.loop (fun a => ∃ i, i ≤ 8 ∧ a.1 = w ∧ a.2.1 = v ∧ a.2.2.1 = nI (mB (fun q => decide (w.2.1 27 q = v)) i) ∧ a.2.2.2 = nI i) (fun a => 41 - a.2.2.2.toNatClampNeg) ?_ fu _ ⟨0, Nat.zero_le _, rfl, rfl, rfl, rfl⟩ (fu_big (by show 41 - _ < _; omega))
  rintro ⟨w1, v1, v2, v3⟩ ⟨i, hi, e1, e2, e3, e4⟩ kk hkk
  dsimp only at e1 e2 e3 e4 hkk ⊢
  subst e1 e2 e3 e4
  unfold F_X0_partsOf_4
  refine Ok.ite (fun c => ?_) (fun c => ?_)
  · simp (disch := omega) only [Int32.le_iff_toInt_le, Int32.lt_iff_toInt_lt, ← Int32.toInt_inj, nI_toInt, Int32.reduceToInt] at c
    have e : i = 8 := by omega
    subst e
    exact Ok.ret rfl
  · simp (disch := omega) only [Int32.le_iff_toInt_le, Int32.lt_iff_toInt_lt, ← Int32.toInt_inj, nI_toInt, Int32.reduceToInt] at c
    refine Ok.gu (gd_nI (by omega) (by omega)) ?_
    rw [cl_nI (by omega), bit_1 i (by omega), nI_or, nI_1]
    refine hkk _ ⟨i + 1, by omega, rfl, rfl, ?_, rfl⟩ (by dsimp only; rw [cl_nI (by omega), cl_nI (by omega)]; omega)
    dsimp only
    simp only [mB]
    by_cases q : w1.2.1 27 i = v1
    · rw [if_pos q, if_pos (decide_eq_true q)]
    · rw [if_neg q, if_neg (fun e => q (of_decide_eq_true e))]
