/-! the class chooses -/
/-- which two can't be one player: on lines s of N, c lines to change -/
def apP (s : Nat → Nat) (N c p q fr : Nat) : Prop := ∀ k, k < N → ∀ j, j < N → fr ≤ j → (s k).testBit p = true → (s j).testBit q = true → c < (if k < j then j - k else k - j)
theorem apP_not {s : Nat → Nat} {N c p q fr : Nat} : ¬ apP s N c p q fr ↔ ∃ k j, k < N ∧ j < N ∧ fr ≤ j ∧ (s k).testBit p = true ∧ (s j).testBit q = true ∧ j ≤ k + c ∧ k ≤ j + c := by
  constructor
  · intro h
    apply Classical.byContradiction
    intro h2
    apply h
    intro k hk j hj hf h3 h4
    apply Classical.byContradiction
    intro h5
    refine h2 ⟨k, j, hk, hj, hf, h3, h4, ?_, ?_⟩
    · split at h5 <;> omega
    · split at h5 <;> omega
  · rintro ⟨k, j, hk, hj, hf, h3, h4, h5, h6⟩ h
    have := h k hk j hj hf h3 h4
    split at this <;> omega
def CastP (s : Nat → Nat) (N c : Nat) (hs : Nat → Bool) (cl : Nat → Nat → Bool) : Prop := (∀ p, hs p = true ↔ ∃ l, l < N ∧ (s l).testBit p = true) ∧ ∀ q p, cl q p = true ↔ ¬ apP s N c q p 0
theorem CastP_ex (s : Nat → Nat) (N c : Nat) : ∃ hs cl, CastP s N c hs cl :=
  ⟨fun p => @decide (∃ l, l < N ∧ (s l).testBit p = true) (Classical.propDecidable _), fun q p => @decide (¬ apP s N c q p 0) (Classical.propDecidable _), fun p => @decide_eq_true_iff (∃ l, l < N ∧ (s l).testBit p = true) (Classical.propDecidable _), fun q p => @decide_eq_true_iff (¬ apP s N c q p 0) (Classical.propDecidable _)⟩
theorem lm_ne {s : Nat → Nat} {N p : Nat} : lmA s p N ≠ 0 ↔ ∃ l, l < N ∧ (s l).testBit p = true := by
  constructor
  · intro h
    obtain ⟨l, hl⟩ := Nat.exists_testBit_of_ne_zero h
    exact ⟨l, (lmA_bit s p l N).mp hl⟩
  · rintro ⟨l, hl⟩ e
    have := (lmA_bit s p l N).mpr hl
    rw [e, Nat.zero_testBit] at this
    cases this
def WCl (w : Wd) (cl : Nat → Nat → Bool) (n : Nat) : Prop := ∀ p, p < n → ∃ M, w.2.1 29 p = nI M ∧ M < 256 ∧ ∀ q, q < 8 → M.testBit q = cl q p
theorem choose73 (w : Wd) {s : Nat → Nat} {N c n : Nat} {hs : Nat → Bool} {cl : Nat → Nat → Bool} {g : Nat → Nat} (hN : N ≤ 40) (hp : CastP s N c hs cl) (hn : n ≤ 8) (hg : isCs hs cl n g) (h28 : ∀ q, q < 8 → w.2.2 28 q = lN (lmA s q N)) (h29 : WCl w cl 8) (h27 : ∀ q, q < 8 → w.2.1 27 q = -6) : Ok (L_X0_choose_73 fu (w, 0, 0)) (fun w' => Fr [23] [27] w w' ∧ w'.2.2 = w.2.2 ∧ w'.1 23 = nI n ∧ ∀ q, q < 8 → w'.2.1 27 q = plS8 hs g 8 q) := by
  obtain ⟨CM, hCM⟩ := Classical.axiomOfChoice (r := fun p M => p < 8 → w.2.1 29 p = nI M ∧ M < 256 ∧ ∀ q, q < 8 → M.testBit q = cl q p) (fun p => by
    by_cases q : p < 8
    · obtain ⟨M, h⟩ := h29 p q
      exact ⟨M, fun _ => h⟩
    · exact ⟨0, fun h => absurd h q⟩)
  have h40 := pow40 hN
  unfold L_X0_choose_73
  refine Ok.loop (fun a => Fr [23] [27] w a.1 ∧ a.1.2.2 = w.2.2 ∧ ((∃ m, m ≤ n ∧ a.2.1 = 0 ∧ a.2.2 = nI m ∧ ∀ q, q < 8 → a.1.2.1 27 q = -6) ∨ (a.2.1 = 1 ∧ a.2.2 = nI (n + 1) ∧ a.1.1 23 = nI n ∧ ∀ q, q < 8 → a.1.2.1 27 q = plS8 hs g 8 q))) (fun a => 41 - a.2.2.toNatClampNeg) ?_ fu _ ⟨Fr.rf _ _ _, rfl, Or.inl ⟨0, Nat.zero_le _, rfl, rfl, h27⟩⟩ (fu_big (by show 41 - _ < _; omega))
  rintro ⟨w1, v3, v4⟩ ⟨hF, hl, hc⟩ kk hkk
  dsimp only at hF hl hc hkk ⊢
  unfold F_X0_choose_73
  rcases hc with ⟨m, hm, rfl, rfl, h27'⟩ | ⟨rfl, rfl, h23, h27'⟩
  · rw [if_neg (by simp (disch := omega) only [Int32.le_iff_toInt_le, Int32.lt_iff_toInt_lt, ← Int32.toInt_inj, nI_toInt, Int32.reduceToInt]; omega), if_pos rfl]
    have hC : CsC (wI w1 23 (nI m)) hs cl m (fun p => lmA s p N) CM := by
      refine ⟨by simp only [rI_i, rI_a, rI_l, rA_i, rA_a, rA_l, rR_i, rR_a, rR_l, rL_i, rL_a, rL_l, reduceIte, Nat.reduceEqDiff], fun p hp8 => ⟨?_, ?_, ?_⟩, fun p hp8 => ?_⟩
      · show w1.2.2 28 p = _
        rw [hl]; exact h28 p hp8
      · have := lmA_lt s p N
        dsimp only
        omega
      · rw [hp.1 p]; exact lm_ne.symm
      · show w1.2.1 29 p = _ ∧ _
        rw [hF.2 29 (by decide)]
        exact hCM p hp8
    have := isCast_C (hs := hs) (cl := cl) (P := m) (by omega) 8 0 rfl 10 (by decide) (wI w1 23 (nI m)) (fun _ => 0) hC (fun i hi => absurd hi (Nat.not_lt_zero _)) (fun q hq => by rw [plS8_n (by omega)]; exact h27' q hq)
    refine Ok.bind this ?_
    rintro ⟨r, w2⟩ ⟨g1, g2, g3⟩
    dsimp only at g1 g2 g3 ⊢
    have hF2 : Fr [23] [27] w w2 := (hF.wI (by decide)).tr (g1.mono (fun k h => absurd h (by simp)) (fun k h => h))
    have hl2 : w2.2.2 = w.2.2 := g2.trans hl
    rw [nI_1]
    rcases g3 with ⟨rfl, g', g4, g5⟩ | ⟨rfl, g4, g5⟩
    · have e : m = n := by
        rcases Nat.lt_or_ge m n with q | q
        · rw [hg.2 m q] at g4; cases g4
        · omega
      subst e
      rw [hg.1] at g4
      injection g4 with g4
      subst g4
      refine hkk _ ⟨hF2, hl2, Or.inr ⟨rfl, rfl, ?_, g5⟩⟩ (by dsimp only; rw [cl_nI (by omega), cl_nI (by omega)]; omega)
      rw [g1.1 23 (by decide)]
      simp only [rI_i, rI_a, rI_l, rA_i, rA_a, rA_l, rR_i, rR_a, rR_l, rL_i, rL_a, rL_l, reduceIte, Nat.reduceEqDiff]
    · have e : m < n := by
        rcases Nat.lt_or_ge m n with q | q
        · exact q
        · have : m = n := by omega
          rw [this, hg.1] at g4
          cases g4
      exact hkk _ ⟨hF2, hl2, Or.inl ⟨m + 1, by omega, rfl, rfl, fun q hq => (g5 q hq).trans (h27' q hq)⟩⟩ (by dsimp only; rw [cl_nI (by omega), cl_nI (by omega)]; omega)
  · have fin : Ok (F_X0_choose_103 w1) (fun w' => Fr [23] [27] w w' ∧ w'.2.2 = w.2.2 ∧ w'.1 23 = nI n ∧ ∀ q, q < 8 → w'.2.1 27 q = plS8 hs g 8 q) := Ok.ret ⟨hF, hl, h23, h27'⟩
    rw [if_neg one0]
    exact Ok.ite (fun _ => fin) (fun _ => fin)
theorem chooseC (w : Wd) {s : Nat → Nat} {N c n : Nat} {hs : Nat → Bool} {cl : Nat → Nat → Bool} {g : Nat → Nat} (hN : N ≤ 40) (hc : c ≤ 9) (h4 : w.1 4 = nI N) (h7 : ∀ l, l < N → w.2.1 7 l = nI (s l) ∧ s l < 256) (hp : CastP s N c hs cl) (hn : n ≤ 8) (hg : isCs hs cl n g) : Ok (F_X0_choose w (nI c)) (fun w' => Fr [23, 24] [27, 29] w w' ∧ w'.1 23 = nI n ∧ w'.1 24 = nI c ∧ (∀ q, q < 8 → w'.2.1 27 q = plS8 hs g 8 q) ∧ ∀ q, q < 8 → w'.2.2 28 q = lN (lmA s q N)) := by
  have h40 := pow40 hN
  unfold F_X0_choose L_X0_choose_7
  refine Ok.loop (fun a => ∃ i, i ≤ 8 ∧ Fr [23, 24] [27, 29] w a.1 ∧ a.1.1 24 = nI c ∧ a.2 = nI i ∧ ∀ q, q < i → a.1.2.1 27 q = -6 ∧ a.1.2.2 28 q = lN (lmA s q N)) (fun a => 41 - a.2.toNatClampNeg) ?_ fu _ ⟨0, Nat.zero_le _, (Fr.rf _ _ _).wI (by decide), by simp only [rI_i, rI_a, rI_l, rA_i, rA_a, rA_l, rR_i, rR_a, rR_l, rL_i, rL_a, rL_l, reduceIte, Nat.reduceEqDiff], rfl, fun q hq => absurd hq (Nat.not_lt_zero _)⟩ (fu_big (by show 41 - _ < _; omega))
  rintro ⟨w1, v3⟩ ⟨i, hi, hF, h24, e, hq⟩ kk hkk
  dsimp only at hF h24 e hq hkk ⊢
  subst e
  unfold F_X0_choose_7
  refine Ok.ite (fun d => ?_) (fun d => ?_)
  · simp (disch := omega) only [Int32.le_iff_toInt_le, Int32.lt_iff_toInt_lt, ← Int32.toInt_inj, nI_toInt, Int32.reduceToInt] at d
    have e : i = 8 := by omega
    subst e
    unfold L_X0_choose_40
    refine Ok.loop (fun a => ∃ i, i ≤ 8 ∧ Fr [23, 24] [27, 29] w a.1 ∧ a.1.1 24 = nI c ∧ a.2 = nI i ∧ (∀ q, q < 8 → a.1.2.1 27 q = -6 ∧ a.1.2.2 28 q = lN (lmA s q N)) ∧ WCl a.1 cl i) (fun a => 41 - a.2.toNatClampNeg) ?_ fu _ ⟨0, Nat.zero_le _, hF, h24, rfl, hq, fun q hq => absurd hq (Nat.not_lt_zero _)⟩ (fu_big (by show 41 - _ < _; omega))
    rintro ⟨w2, v3⟩ ⟨i, hi, hF2, h24', e, hq2, hW⟩ k2 hk2
    dsimp only at hF2 h24' e hq2 hW hk2 ⊢
    subst e
    unfold F_X0_choose_40
    refine Ok.ite (fun d => ?_) (fun d => ?_)
    · simp (disch := omega) only [Int32.le_iff_toInt_le, Int32.lt_iff_toInt_lt, ← Int32.toInt_inj, nI_toInt, Int32.reduceToInt] at d
      have e : i = 8 := by omega
      subst e
      refine (choose73 w2 hN hp hn hg (fun q h => (hq2 q h).2) hW (fun q h => (hq2 q h).1)).mono ?_
      rintro w3 ⟨g1, g2, g3, g4⟩
      refine ⟨hF2.tr (g1.mono (fun k h => by simp only [List.mem_cons, List.not_mem_nil, or_false] at h ⊢; exact Or.inl h) (fun k h => by simp only [List.mem_cons, List.not_mem_nil, or_false] at h ⊢; exact Or.inl h)), g3, ?_, g4, fun q h => by rw [g2]; exact (hq2 q h).2⟩
      rw [g1.1 24 (by decide)]
      exact h24'
    · simp (disch := omega) only [Int32.le_iff_toInt_le, Int32.lt_iff_toInt_lt, ← Int32.toInt_inj, nI_toInt, Int32.reduceToInt] at d
      have hi8 : i < 8 := by omega
      have hlt := lmA_lt s i N
      refine Ok.gu (gd_nI hi8 (by omega)) ?_
      obtain ⟨M, hM, hb, hcl⟩ := clOf_C w2 (c := c) (L := lmA s i N) hN hc (by omega) h24' (fun q h => (hq2 q h).2)
      rw [cl_nI (by omega), (hq2 i hi8).2, hcl, Option.bind_some]
      refine Ok.gu (gd_nI hi8 (by omega)) ?_
      rw [nI_1]
      refine hk2 _ ⟨i + 1, by omega, hF2.wA (by decide), h24', rfl, hq2, fun p hp2 => ?_⟩ (by dsimp only; rw [cl_nI (by omega), cl_nI (by omega)]; omega)
      by_cases e : p = i
      · subst e
        refine ⟨M, ?_, hM, fun q h => ?_⟩
        · simp only [rI_i, rI_a, rI_l, rA_i, rA_a, rA_l, rR_i, rR_a, rR_l, rL_i, rL_a, rL_l, reduceIte, Nat.reduceEqDiff]
          rw [cl_nI (by omega), upd_at, if_pos rfl]
        · apply Bool.eq_iff_iff.mpr
          rw [hb q h, hp.2 q p, apP_not]
          constructor
          · rintro ⟨k, j, a1, a2, a3, a4⟩
            rw [lmA_bit] at a1 a2
            exact ⟨j, k, a2.1, a1.1, Nat.zero_le _, a2.2, a1.2, a4, a3⟩
          · rintro ⟨k, j, a1, a2, -, a3, a4, a5, a6⟩
            exact ⟨j, k, (lmA_bit s p j N).mpr ⟨a2, a4⟩, (lmA_bit s q k N).mpr ⟨a1, a3⟩, a6, a5⟩
      · obtain ⟨M', q1, q2⟩ := hW p (by omega)
        refine ⟨M', ?_, q2⟩
        simp only [rI_i, rI_a, rI_l, rA_i, rA_a, rA_l, rR_i, rR_a, rR_l, rL_i, rL_a, rL_l, reduceIte, Nat.reduceEqDiff]
        rw [cl_nI (by omega), upd_at, if_neg e]
        exact q1
  · simp (disch := omega) only [Int32.le_iff_toInt_le, Int32.lt_iff_toInt_lt, ← Int32.toInt_inj, nI_toInt, Int32.reduceToInt] at d
    have hi8 : i < 8 := by omega
    have f4 : w1.1 4 = nI N := by rw [hF.1 4 (by decide)]; exact h4
    have f7 : ∀ l, l < N → w1.2.1 7 l = nI (s l) ∧ s l < 256 := fun l hl => by rw [hF.2 7 (by decide)]; exact h7 l hl
    rw [lOf_C w1 hN hi8 f4 f7, Option.bind_some]
    refine Ok.gu (gd_nI hi8 (by omega)) (Ok.gu (gd_nI hi8 (by omega)) ?_)
    dsimp only
    rw [nI_1]
    refine hkk _ ⟨i + 1, by omega, (hF.wL).wA (by decide), h24, rfl, fun q h => ⟨?_, ?_⟩⟩ (by dsimp only; rw [cl_nI (by omega), cl_nI (by omega)]; omega)
    · simp only [rI_i, rI_a, rI_l, rA_i, rA_a, rA_l, rR_i, rR_a, rR_l, rL_i, rL_a, rL_l, reduceIte, Nat.reduceEqDiff]
      rw [cl_nI (by omega), upd_at]
      by_cases e : q = i
      · rw [if_pos e]
      · rw [if_neg e]; exact (hq q (by omega)).1
    · show vp_updL (w1.2.2 28) (nI i).toNatClampNeg (lN (lmA s i N)) q = _
      rw [cl_nI (by omega)]
      unfold vp_updL
      by_cases e : q = i
      · rw [if_pos e, e]
      · rw [if_neg e]; exact (hq q (by omega)).2
