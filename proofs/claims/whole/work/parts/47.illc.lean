/-! who can not be taken over, in the class -/
def tkP (s : Nat → Nat) (N c fr : Nat) (a : Nat → Int32) (n : Nat) (who : Int32) (p : Nat) : Prop := ∃ o, o < n ∧ ¬ nI o = who ∧ ∀ q, q < 8 → a q = nI o → apP s N c q p fr
def lfP (s : Nat → Nat) (N fr p : Nat) : Prop := ∃ k, k < N ∧ fr ≤ k ∧ (s k).testBit p = true
def ilP (s : Nat → Nat) (N c fr : Nat) (a : Nat → Int32) (n : Nat) (who : Int32) (p : Nat) : Prop := a p = who ∧ lfP s N fr p ∧ ¬ tkP s N c fr a n who p
theorem from_bit {s : Nat → Nat} {N fr p k : Nat} : (lmA s p N / 2 ^ fr * 2 ^ fr).testBit k = true ↔ fr ≤ k ∧ k < N ∧ (s k).testBit p = true := by
  rw [Nat.testBit_mul_two_pow, Nat.testBit_div_two_pow, Bool.and_eq_true, decide_eq_true_eq]
  constructor
  · rintro ⟨h1, h2⟩
    rw [show k - fr + fr = k by omega, lmA_bit] at h2
    exact ⟨h1, h2⟩
  · rintro ⟨h1, h2⟩
    rw [show k - fr + fr = k by omega, lmA_bit]
    exact ⟨h1, h2⟩
theorem from_ne {s : Nat → Nat} {N fr p : Nat} : lmA s p N / 2 ^ fr * 2 ^ fr ≠ 0 ↔ lfP s N fr p := by
  constructor
  · intro h
    obtain ⟨l, hl⟩ := Nat.exists_testBit_of_ne_zero h
    have := from_bit.mp hl
    exact ⟨l, this.2.1, this.1, this.2.2⟩
  · rintro ⟨k, h1, h2, h3⟩ e
    have := from_bit.mpr ⟨h2, h1, h3⟩
    rw [e, Nat.zero_testBit] at this
    cases this
def ChosC (w : Wd) (s : Nat → Nat) (N c n : Nat) (a : Nat → Int32) : Prop := w.1 23 = nI n ∧ w.1 24 = nI c ∧ (∀ q, q < 8 → w.2.1 27 q = a q) ∧ ∀ q, q < 8 → w.2.2 28 q = lN (lmA s q N)
theorem take_C (w : Wd) {s : Nat → Nat} {N c n fr p : Nat} {a : Nat → Int32} {who : Int32} (hN : N ≤ 40) (hc : c ≤ 9) (hn : n ≤ 8) (hC : ChosC w s N c n a) : Ok (F_X0_canTakeOver w (lN (lmA s p N / 2 ^ fr * 2 ^ fr)) who) (fun x => x.2 = w ∧ ((x.1 = 1 ∧ tkP s N c fr a n who p) ∨ (x.1 = 0 ∧ ¬ tkP s N c fr a n who p))) := by
  have h40 := pow40 hN
  have hlt := lmA_lt s p N
  have hle : lmA s p N / 2 ^ fr * 2 ^ fr ≤ lmA s p N := Nat.div_mul_le_self _ _
  obtain ⟨h23, h24, h27, h28⟩ := hC
  obtain ⟨M, hM, hb, hcl⟩ := clOf_C w (c := c) (L := lmA s p N / 2 ^ fr * 2 ^ fr) hN hc (by omega) h24 h28
  have hbit : ∀ q, q < 8 → (M.testBit q = true ↔ ¬ apP s N c q p fr) := by
    intro q hq
    rw [hb q hq, apP_not]
    constructor
    · rintro ⟨k, j, a1, a2, a3, a4⟩
      rw [from_bit] at a1
      rw [lmA_bit] at a2
      exact ⟨j, k, a2.1, a1.2.1, a1.1, a2.2, a1.2.2, a4, a3⟩
    · rintro ⟨k, j, a1, a2, a0, a3, a4, a5, a6⟩
      exact ⟨j, k, from_bit.mpr ⟨a0, a2, a4⟩, (lmA_bit s q k N).mpr ⟨a1, a3⟩, a6, a5⟩
  unfold F_X0_canTakeOver
  rw [hcl, Option.bind_some]
  dsimp only
  unfold L_X0_canTakeOver_10
  refine Ok.loop (fun x => ∃ o, o ≤ n ∧ x.1 = w ∧ x.2.1 = who ∧ x.2.2.1 = nI M ∧ x.2.2.2 = nI o ∧ ∀ o', o' < o → ¬ (¬ nI o' = who ∧ ∀ q, q < 8 → a q = nI o' → apP s N c q p fr)) (fun x => 41 - x.2.2.2.toNatClampNeg) ?_ fu _ ⟨0, Nat.zero_le _, rfl, rfl, rfl, rfl, fun o h => absurd h (Nat.not_lt_zero _)⟩ (fu_big (by show 41 - _ < _; omega))
  rintro ⟨w1, v3, v4, v5⟩ ⟨o, ho, e1, e2, e3, e4, hno⟩ kk hkk
  dsimp only at e1 e2 e3 e4 hno hkk ⊢
  subst e1 e2 e3 e4
  have next : (o < n → ¬ (¬ nI o = v3 ∧ ∀ q, q < 8 → a q = nI o → apP s N c q p fr) → Ok (F_X0_canTakeOver_39 kk w1 v3 (nI M) (nI o)) (fun x => x.2 = w1 ∧ ((x.1 = 1 ∧ tkP s N c fr a n v3 p) ∨ (x.1 = 0 ∧ ¬ tkP s N c fr a n v3 p)))) := by
    intro h1 h2
    unfold F_X0_canTakeOver_39
    rw [nI_1]
    exact hkk _ ⟨o + 1, by omega, rfl, rfl, rfl, rfl, upd_more hno h2⟩ (by dsimp only; rw [cl_nI (by omega), cl_nI (by omega)]; omega)
  unfold F_X0_canTakeOver_10
  rw [h23]
  refine Ok.ite (fun d => ?_) (fun d => ?_)
  · simp (disch := omega) only [Int32.le_iff_toInt_le, Int32.lt_iff_toInt_lt, ← Int32.toInt_inj, nI_toInt, Int32.reduceToInt] at d
    refine Ok.ret ⟨rfl, Or.inr ⟨rfl, ?_⟩⟩
    rintro ⟨o', h1, h2⟩
    exact hno o' (by omega) h2
  · simp (disch := omega) only [Int32.le_iff_toInt_le, Int32.lt_iff_toInt_lt, ← Int32.toInt_inj, nI_toInt, Int32.reduceToInt] at d
    refine Ok.ite (fun d2 => next (by omega) (fun x => x.1 d2)) (fun d2 => ?_)
    rw [parts_C, Option.bind_some]
    dsimp only
    have h1 := and_ne M (mB (fun q => decide (w1.2.1 27 q = nI o)) 8)
    refine Ok.ite (fun d3 => ?_) (fun d3 => ?_)
    · rw [and0 _ hM _ (mB_lt _ 8)] at d3
      refine Ok.ret ⟨rfl, Or.inl ⟨rfl, o, by omega, d2, fun q hq hqo => ?_⟩⟩
      apply Classical.byContradiction
      intro hx
      refine h1.mpr ⟨q, (hbit q hq).mpr hx, ?_⟩ d3
      rw [mB_bit]
      exact ⟨hq, decide_eq_true ((h27 q hq).trans hqo)⟩
    · rw [and0 _ hM _ (mB_lt _ 8)] at d3
      refine next (by omega) (fun x => ?_)
      obtain ⟨q, h3, h4⟩ := h1.mp d3
      rw [mB_bit] at h4
      exact (hbit q h4.1).mp h3 (x.2 q h4.1 ((h27 q h4.1).symm.trans (of_decide_eq_true h4.2)))
theorem notTaken_C (w : Wd) {s : Nat → Nat} {N c n fr : Nat} {a : Nat → Int32} {who : Int32} {b : Nat → Bool} (hN : N ≤ 40) (hc : c ≤ 9) (hn : n ≤ 8) (hfr : fr < 40) (hC : ChosC w s N c n a) (hb : ∀ p, b p = true ↔ ilP s N c fr a n who p) : F_X0_notTakenOver w who (nI fr) = some (if who = -6 then 0 else nI (cntW b 8), w) := by
  have h40 := pow40 hN
  apply Ok.eq
  unfold F_X0_notTakenOver
  refine Ok.ite (fun d => ?_) (fun d => ?_)
  · rw [if_pos d]; exact Ok.ret rfl
  · rw [if_neg d]
    unfold L_X0_notTakenOver_13
    refine Ok.loop (fun x => ∃ p, p ≤ 8 ∧ x.1 = w ∧ x.2.1 = who ∧ x.2.2.1 = nI fr ∧ x.2.2.2.1 = nI (cntW b p) ∧ x.2.2.2.2 = nI p) (fun x => 41 - x.2.2.2.2.toNatClampNeg) ?_ fu _ ⟨0, Nat.zero_le _, rfl, rfl, rfl, rfl, rfl⟩ (fu_big (by show 41 - _ < _; omega))
    rintro ⟨w1, v1, v2, v3, v4⟩ ⟨p, hp, e1, e2, e3, e4, e5⟩ kk hkk
    dsimp only at e1 e2 e3 e4 e5 hkk ⊢
    subst e1 e2 e3 e4 e5
    unfold F_X0_notTakenOver_13
    refine Ok.ite (fun d2 => ?_) (fun d2 => ?_)
    · simp (disch := omega) only [Int32.le_iff_toInt_le, Int32.lt_iff_toInt_lt, ← Int32.toInt_inj, nI_toInt, Int32.reduceToInt] at d2
      have e : p = 8 := by omega
      subst e
      exact Ok.ret rfl
    · simp (disch := omega) only [Int32.le_iff_toInt_le, Int32.lt_iff_toInt_lt, ← Int32.toInt_inj, nI_toInt, Int32.reduceToInt] at d2
      have hp8 : p < 8 := by omega
      have hlt := lmA_lt s p N
      have hle : lmA s p N / 2 ^ fr * 2 ^ fr ≤ lmA s p N := Nat.div_mul_le_self _ _
      refine Ok.gu (gd_nI hp8 (by omega)) ?_
      rw [cl_nI (by omega), hC.2.2.2 p hp8, lN_shr (by omega) (by omega), lN_shl _ (by omega)]
      have go : ∀ x, x = cntW b (p + 1) → Ok (F_X0_notTakenOver_64 kk w1 v1 (nI fr) (nI x) (nI p)) (fun x => x = (nI (cntW b 8), w1)) := by
        intro x hx
        unfold F_X0_notTakenOver_64
        rw [nI_1, hx]
        exact hkk _ ⟨p + 1, by omega, rfl, rfl, rfl, rfl, rfl⟩ (by dsimp only; rw [cl_nI (by omega), cl_nI (by omega)]; omega)
      have no : ¬ ilP s N c fr a n v1 p → Ok (F_X0_notTakenOver_64 kk w1 v1 (nI fr) (nI (cntW b p)) (nI p)) (fun x => x = (nI (cntW b 8), w1)) := by
        intro h
        apply go
        simp only [cntW]
        rw [if_neg (fun e => h ((hb p).mp e)), Nat.add_zero]
      show Ok (gu _ _) _
      refine Ok.gu (gd_nI hp8 (by omega)) ?_
      refine Ok.ite (fun d3 => ?_) (fun d3 => no (fun x => d3 ((hC.2.2.1 p hp8).trans x.1)))
      refine Ok.ite (fun d4 => ?_) (fun d4 => ?_)
      · rw [lg0 (by omega)] at d4
        exact no (fun x => from_ne.mpr x.2.1 d4)
      · rw [lg0 (by omega)] at d4
        refine Ok.bind (take_C w1 (fr := fr) (p := p) (who := v1) hN hc hn hC) ?_
        rintro ⟨r, w2⟩ ⟨e, hr⟩
        dsimp only at e hr ⊢
        subst e
        rcases hr with ⟨rfl, ht⟩ | ⟨rfl, ht⟩
        · rw [if_neg one0]
          exact no (fun x => x.2.2 ht)
        · rw [if_pos rfl, nI_1]
          apply go
          simp only [cntW]
          rw [if_pos ((hb p).mpr ⟨(hC.2.2.1 p hp8).symm.trans d3, from_ne.mp d4, ht⟩)]
