def lmA (s : Nat → Nat) (p : Nat) : Nat → Nat
  | 0 => 0
  | i + 1 => lmA s p i + bN (s i) p * 2 ^ i
def lcA (s : Nat → Nat) (p : Nat) : Nat → Nat
  | 0 => 0
  | i + 1 => lcA s p i + bN (s i) p
theorem bN_le (m q : Nat) : bN m q ≤ 1 := by
  unfold bN
  by_cases h : m.testBit q = true
  · rw [if_pos h]; exact Nat.le_refl _
  · rw [if_neg h]; exact Nat.zero_le _
theorem lmA_lt (s : Nat → Nat) (p : Nat) : ∀ i, lmA s p i < 2 ^ i := by
  intro i
  induction i with
  | zero => exact Nat.one_pos
  | succ i ih =>
    have := bN_le (s i) p
    simp only [lmA]
    rcases (show bN (s i) p = 0 ∨ bN (s i) p = 1 by omega) with h | h <;> rw [h] <;> omega
theorem lcA_le (s : Nat → Nat) (p : Nat) : ∀ i, lcA s p i ≤ i := by
  intro i
  induction i with
  | zero => exact Nat.le_refl _
  | succ i ih => have := bN_le (s i) p; simp only [lcA]; omega
theorem pc_add : ∀ r, r < 8 → ∀ x, x < 2 ^ r → pc (x + 2 ^ r) = pc x + 1 := by decide +kernel
theorem pc5_add {i m : Nat} (hi : i < 40) (hm : m < 2 ^ i) : pc5 (m + 2 ^ i) = pc5 m + 1 := by
  obtain ⟨r, hr, hq⟩ : ∃ r, r < 8 ∧ (i = r ∨ i = r + 8 ∨ i = r + 16 ∨ i = r + 24 ∨ i = r + 32) := ⟨i % 8, by omega, by omega⟩
  have hpc := pc_add r hr
  have ht : 2 ^ r ≤ 128 := Nat.le_trans (Nat.pow_le_pow_right (by decide) (show r ≤ 7 by omega)) (by decide)
  have hz : pc 0 = 0 := rfl
  unfold pc5
  rcases hq with rfl | rfl | rfl | rfl | rfl
  · generalize 2 ^ i = t at *
    rw [show (m + t) / 256 = m / 256 by omega, show (m + t) / 65536 = m / 65536 by omega, show (m + t) / 16777216 = m / 16777216 by omega, show (m + t) / 4294967296 = m / 4294967296 by omega, show (m + t) % 256 = m + t by omega, show m % 256 = m by omega, hpc m hm]
    omega
  · rw [Nat.pow_add, show 2 ^ 8 = 256 by rfl] at *
    generalize 2 ^ r = t at *
    rw [show (m + t * 256) / 256 % 256 = m / 256 + t by omega, show (m + t * 256) / 65536 = m / 65536 by omega, show (m + t * 256) / 16777216 = m / 16777216 by omega, show (m + t * 256) / 4294967296 = m / 4294967296 by omega, show (m + t * 256) % 256 = m % 256 by omega, show m / 256 % 256 = m / 256 by omega, hpc (m / 256) (by omega)]
    omega
  · rw [Nat.pow_add, show 2 ^ 16 = 65536 by rfl] at *
    generalize 2 ^ r = t at *
    rw [show (m + t * 65536) / 256 % 256 = m / 256 % 256 by omega, show (m + t * 65536) / 65536 % 256 = m / 65536 + t by omega, show (m + t * 65536) / 16777216 = m / 16777216 by omega, show (m + t * 65536) / 4294967296 = m / 4294967296 by omega, show (m + t * 65536) % 256 = m % 256 by omega, show m / 65536 % 256 = m / 65536 by omega, hpc (m / 65536) (by omega)]
    omega
  · rw [Nat.pow_add, show 2 ^ 24 = 16777216 by rfl] at *
    generalize 2 ^ r = t at *
    rw [show (m + t * 16777216) / 256 % 256 = m / 256 % 256 by omega, show (m + t * 16777216) / 65536 % 256 = m / 65536 % 256 by omega, show (m + t * 16777216) / 16777216 % 256 = m / 16777216 + t by omega, show (m + t * 16777216) / 4294967296 = m / 4294967296 by omega, show (m + t * 16777216) % 256 = m % 256 by omega, show m / 16777216 % 256 = m / 16777216 by omega, hpc (m / 16777216) (by omega)]
    omega
  · rw [Nat.pow_add, show 2 ^ 32 = 4294967296 by rfl] at *
    generalize 2 ^ r = t at *
    rw [show (m + t * 4294967296) / 256 % 256 = m / 256 % 256 by omega, show (m + t * 4294967296) / 65536 % 256 = m / 65536 % 256 by omega, show (m + t * 4294967296) / 16777216 % 256 = m / 16777216 % 256 by omega, show (m + t * 4294967296) / 4294967296 % 256 = m / 4294967296 + t by omega, show (m + t * 4294967296) % 256 = m % 256 by omega, show m / 4294967296 % 256 = m / 4294967296 by omega, hpc (m / 4294967296) (by omega)]
    omega
theorem pc5_lmA (s : Nat → Nat) (p : Nat) : ∀ i, i ≤ 40 → pc5 (lmA s p i) = lcA s p i := by
  intro i
  induction i with
  | zero => intro _; simp only [lmA, lcA]; decide
  | succ i ih =>
    intro hi
    have := bN_le (s i) p
    have hlt := lmA_lt s p i
    simp only [lmA, lcA]
    rcases (show bN (s i) p = 0 ∨ bN (s i) p = 1 by omega) with h | h
    · rw [h, Nat.zero_mul]
      exact ih (by omega)
    · rw [h, Nat.one_mul, pc5_add (by omega) hlt, ih (by omega)]
theorem pow40 {i : Nat} (h : i ≤ 40) : 2 ^ i ≤ 1099511627776 := Nat.le_trans (Nat.pow_le_pow_right (by decide) h) (by decide)
theorem lOf_C (w : Wd) {s : Nat → Nat} {N p : Nat} (hN : N ≤ 40) (hp : p < 8) (h4 : w.1 4 = nI N) (h7 : ∀ l, l < N → w.2.1 7 l = nI (s l) ∧ s l < 256) : F_X2_linesOf w (nI p) = some (lN (lmA s p N), w) := by
  apply Ok.eq
  unfold F_X2_linesOf L_X2_linesOf_5
  refine Ok.loop (fun a => ∃ i, i ≤ N ∧ a.1 = w ∧ a.2.1 = nI p ∧ a.2.2.1 = lN (lmA s p i) ∧ a.2.2.2 = nI i) (fun a => 41 - a.2.2.2.toNatClampNeg) ?_ fu _ ⟨0, Nat.zero_le _, rfl, rfl, rfl, rfl⟩ (fu_big (by show 41 - _ < _; omega))
  rintro ⟨w1, v1, v2, v4⟩ ⟨i, hi, e1, e2, e3, e4⟩ kk hkk
  dsimp only at e1 e2 e3 e4 hkk ⊢
  subst e1 e2 e3 e4
  unfold F_X2_linesOf_5
  rw [h4]
  refine Ok.ite (fun c => ?_) (fun c => ?_)
  · simp (disch := omega) only [Int32.le_iff_toInt_le, Int32.lt_iff_toInt_lt, ← Int32.toInt_inj, nI_toInt, Int32.reduceToInt] at c
    have e : i = N := by omega
    subst e
    exact Ok.ret rfl
  · simp (disch := omega) only [Int32.le_iff_toInt_le, Int32.lt_iff_toInt_lt, ← Int32.toInt_inj, nI_toInt, Int32.reduceToInt] at c
    have hlt := lmA_lt s p i
    have h40 := pow40 (i := i) (by omega)
    obtain ⟨q1, q2⟩ := h7 i (by omega)
    have hb := bN_le (s i) p
    rw [gd_nI (show i < 40 by omega) (by omega), cl_nI (by omega), q1, bit_at _ q2 _ hp, nI_long (by omega), lN_shl _ (by omega)]
    show Ok (Let _ _) _
    rw [lN_or (by omega) (by rcases (show bN (s i) p = 0 ∨ bN (s i) p = 1 by omega) with h | h <;> rw [h] <;> omega), nI_1, Nat.or_comm, Nat.mul_comm, ← Nat.two_pow_add_eq_or_of_lt hlt, Nat.add_comm, Nat.mul_comm (2 ^ i)]
    exact hkk (w1, nI p, lN (lmA s p (i + 1)), nI (i + 1)) ⟨i + 1, by omega, rfl, rfl, rfl, rfl⟩ (by dsimp only; rw [cl_nI (by omega), cl_nI (by omega)]; omega)
theorem lOf_M (w : Wd) {s : Nat → Nat} {N p : Nat} (hN : N ≤ 40) (hp : p < 8) (h4 : w.1 35 = nI N) (h7 : ∀ l, l < N → w.2.1 43 l = nI (s l) ∧ s l < 256) : F_X6_linesOf w (nI p) = some (nI (lcA s p N), w) := by
  apply Ok.eq
  unfold F_X6_linesOf L_X6_linesOf_4
  refine Ok.loop (fun a => ∃ i, i ≤ N ∧ a.1 = w ∧ a.2.1 = nI p ∧ a.2.2.1 = nI (lcA s p i) ∧ a.2.2.2 = nI i) (fun a => 41 - a.2.2.2.toNatClampNeg) ?_ fu _ ⟨0, Nat.zero_le _, rfl, rfl, rfl, rfl⟩ (fu_big (by show 41 - _ < _; omega))
  rintro ⟨w1, v1, v2, v4⟩ ⟨i, hi, e1, e2, e3, e4⟩ kk hkk
  dsimp only at e1 e2 e3 e4 hkk ⊢
  subst e1 e2 e3 e4
  unfold F_X6_linesOf_4
  rw [h4]
  refine Ok.ite (fun c => ?_) (fun c => ?_)
  · simp (disch := omega) only [Int32.le_iff_toInt_le, Int32.lt_iff_toInt_lt, ← Int32.toInt_inj, nI_toInt, Int32.reduceToInt] at c
    have e : i = N := by omega
    subst e
    exact Ok.ret rfl
  · simp (disch := omega) only [Int32.le_iff_toInt_le, Int32.lt_iff_toInt_lt, ← Int32.toInt_inj, nI_toInt, Int32.reduceToInt] at c
    obtain ⟨q1, q2⟩ := h7 i (by omega)
    rw [gd_nI (show i < 40 by omega) (by omega), cl_nI (by omega), q1, bit_at _ q2 _ hp, nI_add, nI_1]
    exact hkk (w1, nI p, nI (lcA s p (i + 1)), nI (i + 1)) ⟨i + 1, by omega, rfl, rfl, rfl, rfl⟩ (by dsimp only; rw [cl_nI (by omega), cl_nI (by omega)]; omega)
theorem eqv_lines (p1 : Int32) : Eqv (fun w => F_X5_lines w p1) (fun w => F_X6_lines w p1) := by
  by_cases hp : -2 ≤ p1.toInt ∧ p1.toInt < 8
  · have c1 : ¬ p1 < -2 := fun h => by simp (disch := omega) only [Int32.le_iff_toInt_le, Int32.lt_iff_toInt_lt, ← Int32.toInt_inj, nI_toInt, Int32.reduceToInt] at h; omega
    have c2 : p1 < 8 := by simp (disch := omega) only [Int32.le_iff_toInt_le, Int32.lt_iff_toInt_lt, ← Int32.toInt_inj, nI_toInt, Int32.reduceToInt]; omega
    apply Eqv.query
    rintro w ⟨⟨g, n, hc, hm⟩, hrr, -⟩
    have hln := lnA_40 hc
    rcases ref_cases g n with hG | ⟨r, hN, h0, h6⟩
    · have hall := hG.1
      by_cases d2 : p1 = -2
      · refine ⟨nI (cmA g n), ?_, fun w' hw' hs' => ?_⟩
        · unfold F_X5_lines
          rw [if_neg c1, if_pos c2]
          refine Ok.bind (refL_good w hc hG) ?_
          rintro ⟨r, w1⟩ ⟨hs, e, h4, h3, h66, h7⟩
          dsimp only at hs e h4 h3 h7 ⊢
          rw [if_pos e, if_pos d2]
          exact Ok.ret ⟨hs, h3⟩
        · unfold F_X6_lines F_X6_lines_59
          rw [X6_yes (show (-2 : Int64).toInt ≤ p1.toInt ∧ p1.toInt ≤ (7 : Int64).toInt from ⟨hp.1, by rw [show (7 : Int64).toInt = 7 from rfl]; omega⟩), Option.bind_some, if_neg one0]
          refine Ok.bind (refM_good w' (hm.same hs') hG) ?_
          rintro ⟨r, w1⟩ ⟨hs, e, h4, h3, h7⟩
          dsimp only at hs e h4 h3 h7 ⊢
          rw [if_pos e, if_pos d2]
          exact Ok.ret ⟨hs, h3⟩
      · by_cases d1 : p1 = -1
        · refine ⟨nI (lnA g n), ?_, fun w' hw' hs' => ?_⟩
          · unfold F_X5_lines F_X5_lines_65
            rw [if_neg c1, if_pos c2]
            refine Ok.bind (refL_good w hc hG) ?_
            rintro ⟨r, w1⟩ ⟨hs, e, h4, h3, h66, h7⟩
            dsimp only at hs e h4 h3 h7 ⊢
            rw [if_pos e, if_neg d2, if_pos d1]
            exact Ok.ret ⟨hs, h4⟩
          · unfold F_X6_lines F_X6_lines_59
            rw [X6_yes (show (-2 : Int64).toInt ≤ p1.toInt ∧ p1.toInt ≤ (7 : Int64).toInt from ⟨hp.1, by rw [show (7 : Int64).toInt = 7 from rfl]; omega⟩), Option.bind_some, if_neg one0]
            refine Ok.bind (refM_good w' (hm.same hs') hG) ?_
            rintro ⟨r, w1⟩ ⟨hs, e, h4, h3, h7⟩
            dsimp only at hs e h4 h3 h7 ⊢
            rw [if_pos e, if_neg d2, if_pos d1]
            exact Ok.ret ⟨hs, h4⟩
        · have hp0 : 0 ≤ p1.toInt := by
            rw [← Int32.toInt_inj, show (-2 : Int32).toInt = -2 from rfl] at d2
            rw [← Int32.toInt_inj, show (-1 : Int32).toInt = -1 from rfl] at d1
            omega
          obtain ⟨p, hpp, rfl, hp2⟩ := i32_nat hp0
          refine ⟨nI (lcA (onL g n) p (lnA g n)), ?_, fun w' hw' hs' => ?_⟩
          · unfold F_X5_lines F_X5_lines_65
            rw [if_neg c1, if_pos c2]
            refine Ok.bind (refL_good w hc hG) ?_
            rintro ⟨r, w1⟩ ⟨hs, e, h4, h3, h66, h7⟩
            dsimp only at hs e h4 h3 h7 ⊢
            have hlt := lmA_lt (onL g n) p (lnA g n)
            have := pow40 hln
            rw [if_pos e, if_neg d2, if_neg d1, lOf_C w1 hln (by omega) h4 (fun l hl => ⟨h7 l hl, onL_lt hall l hl⟩), Option.bind_some, J13_bc _ (by omega), Option.bind_some, pc5_lmA _ _ _ hln]
            exact Ok.ret ⟨hs, rfl⟩
          · unfold F_X6_lines F_X6_lines_59
            rw [X6_yes (show (-2 : Int64).toInt ≤ (nI p).toInt ∧ (nI p).toInt ≤ (7 : Int64).toInt from ⟨hp.1, by rw [show (7 : Int64).toInt = 7 from rfl]; omega⟩), Option.bind_some, if_neg one0]
            refine Ok.bind (refM_good w' (hm.same hs') hG) ?_
            rintro ⟨r, w1⟩ ⟨hs, e, h4, h3, h7⟩
            dsimp only at hs e h4 h3 h7 ⊢
            rw [if_pos e, if_neg d2, if_neg d1, lOf_M w1 hln (by omega) h4 (fun l hl => ⟨h7 l hl, onL_lt hall l hl⟩), Option.bind_some]
            exact Ok.ret ⟨hs, rfl⟩
    · refine ⟨r, ?_, fun w' hw' hs' => ?_⟩
      · unfold F_X5_lines
        rw [if_neg c1, if_pos c2]
        refine Ok.bind (refL_no w hc hN) ?_
        rintro ⟨r1, w1⟩ ⟨hs, e⟩
        dsimp only at hs e ⊢
        rw [e, if_neg h0]
        exact Ok.ret ⟨hs, rfl⟩
      · unfold F_X6_lines
        rw [X6_yes (show (-2 : Int64).toInt ≤ p1.toInt ∧ p1.toInt ≤ (7 : Int64).toInt from ⟨hp.1, by rw [show (7 : Int64).toInt = 7 from rfl]; omega⟩), Option.bind_some, if_neg one0]
        refine Ok.bind (refM_no w' (hm.same hs') hN) ?_
        rintro ⟨r1, w1⟩ ⟨hs, e⟩
        dsimp only at hs e ⊢
        rw [e, if_neg h6]
        exact Ok.ret ⟨hs, rfl⟩
  · apply Eqv.query
    intro w hw
    refine ⟨-1, ?_, fun w' hw' hs' => ?_⟩
    · unfold F_X5_lines F_X5_lines_12
      refine Ok.ite (fun c => Ok.ret ⟨Same.rf w, rfl⟩) (fun c => ?_)
      rw [if_neg (fun d => by simp (disch := omega) only [Int32.le_iff_toInt_le, Int32.lt_iff_toInt_lt, ← Int32.toInt_inj, nI_toInt, Int32.reduceToInt] at c d; omega)]
      exact Ok.ret ⟨Same.rf w, rfl⟩
    · unfold F_X6_lines
      rw [X6_not (by rw [show (-2 : Int64).toInt = -2 from rfl, show (7 : Int64).toInt = 7 from rfl]; omega), Option.bind_some, if_pos rfl]
      exact Ok.ret ⟨Same.rf w', rfl⟩
