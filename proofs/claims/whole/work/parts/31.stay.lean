def curS (k : Nat) (m : Nat → Nat) (i j : Nat) : Nat := if m i < k then 0 else 1 + bst (lisT k m i) m (m i) j
theorem lisT_k {k : Nat} {m : Nat → Nat} {i j : Nat} (hj : j < i) (h : m j < k) : lisT k m i j = 0 := by
  rw [lisT_lt hj, lisT_at, if_pos h]
theorem curS_le (k : Nat) (m : Nat → Nat) {i j : Nat} (h : j ≤ i) : curS k m i j ≤ i + 1 := by
  unfold curS
  have := bst_le (lisT k m i) m (m i) i j (fun q hq => by have := lisT_le k m i q (by omega); omega)
  split <;> omega
theorem curS_s {k : Nat} {m : Nat → Nat} {i j : Nat} (hj : j < i) : curS k m i (j + 1) = if 0 < lisT k m i j ∧ m j ≤ m i ∧ curS k m i j < lisT k m i j + 1 then lisT k m i j + 1 else curS k m i j := by
  unfold curS
  simp only [bst]
  by_cases q : m i < k
  · rw [if_pos q, if_pos q]
    by_cases q2 : 0 < lisT k m i j ∧ m j ≤ m i ∧ 0 < lisT k m i j + 1
    · exfalso
      have := lisT_k (k := k) (m := m) hj (by omega)
      omega
    · rw [if_neg q2]
  · rw [if_neg q, if_neg q]
    by_cases q1 : m j ≤ m i
    · rw [if_pos q1]
      by_cases q2 : 0 < lisT k m i j ∧ m j ≤ m i ∧ 1 + bst (lisT k m i) m (m i) j < lisT k m i j + 1
      · rw [if_pos q2]; omega
      · rw [if_neg q2]; omega
    · rw [if_neg q1, if_neg (by omega)]
      omega
theorem stayM (w : Wd) {g : Nat → Nat} {n k : Nat} (hall0 : allOk g n) (hn : lnA g n ≤ 40) (hL : LinesM w g n) (hk : k ≤ 8) (e9 : w.1 30 = nI k) : Ok (F_X6_mostStay w) (fun x => Fr [] [44] w x.2 ∧ x.1 = nI (lisM k (fun i => pc (onL g n i)) (lnA g n))) := by
  obtain ⟨m, em⟩ : ∃ m, m = fun i => pc (onL g n i) := ⟨_, rfl⟩
  have hm8 : ∀ i, m i ≤ 8 := fun i => by rw [em]; exact pc_le _
  have ho : ∀ w1 : Wd, ∀ i, i < lnA g n → F_X6_ones w1 (nI (onL g n i)) = some (nI (m i), w1) := fun w1 i hi => by rw [em]; exact X6_ones w1 (onL_lt hall0 i hi)
  rw [← em]
  unfold F_X6_mostStay L_X6_mostStay_4
  refine Ok.loop (fun a => ∃ i, i ≤ lnA g n ∧ Fr [] [44] w a.1 ∧ a.2.2 = nI i ∧ a.2.1 = nI (lisM k m i) ∧ ∀ j, j < i → a.1.2.1 44 j = nI (lisT k m (j + 1) j)) (fun a => 41 - a.2.2.toNatClampNeg) ?_ fu _ ⟨0, Nat.zero_le _, Fr.rf _ _ _, rfl, rfl, fun j hj => absurd hj (Nat.not_lt_zero _)⟩ (fu_big (by show 41 - _ < _; omega))
  rintro ⟨w1, v1, v2⟩ ⟨i, hi, hs, e1, e2, hst⟩ kk hkk
  dsimp only at hs e1 e2 hst hkk ⊢
  subst e1 e2
  have e4 : w1.1 35 = nI (lnA g n) := by rw [hs.1 35 (by decide)]; exact hL.1
  have f9 : w1.1 30 = nI k := by rw [hs.1 30 (by decide)]; exact e9
  unfold F_X6_mostStay_4
  rw [e4]
  refine Ok.ite (fun c => ?_) (fun c => ?_)
  · simp (disch := omega) only [Int32.le_iff_toInt_le, Int32.lt_iff_toInt_lt, ← Int32.toInt_inj, nI_toInt, Int32.reduceToInt] at c
    have e : i = lnA g n := by omega
    subst e
    exact Ok.ret ⟨hs, rfl⟩
  · simp (disch := omega) only [Int32.le_iff_toInt_le, Int32.lt_iff_toInt_lt, ← Int32.toInt_inj, nI_toInt, Int32.reduceToInt] at c
    have hin : i < lnA g n := by omega
    have hm := hm8 i
    have hle := lisM_le k m i
    refine Ok.gu (gd_nI (by omega) (by omega)) ?_
    rw [cl_nI (by omega), hs.2 43 (by decide), hL.2.2 i hin, ho w1 i hin, Option.bind_some]
    dsimp only
    refine Ok.gu (gd_nI (by omega) (by omega)) ?_
    rw [f9]
    unfold L_X6_mostStay_44
    refine Ok.loop (fun a => ∃ j, j ≤ i ∧ Fr [] [44] w a.1 ∧ a.2.1 = nI (lisM k m i) ∧ a.2.2.1 = nI i ∧ a.2.2.2.1 = nI (m i) ∧ a.2.2.2.2 = nI j ∧ (∀ q, q < i → a.1.2.1 44 q = nI (lisT k m (q + 1) q)) ∧ a.1.2.1 44 i = nI (curS k m i j)) (fun a => 41 - a.2.2.2.2.toNatClampNeg) ?_ fu _ ⟨0, Nat.zero_le _, hs.wA (by decide), rfl, rfl, rfl, rfl, ?_, ?_⟩ (fu_big (by show 41 - _ < _; omega))
    · rintro ⟨w2, u1, u2, u3, u4⟩ ⟨j, hj, hs2, d1, d2, d3, d4, hst2, hcur⟩ k2 hk2
      dsimp only at hs2 d1 d2 d3 d4 hst2 hcur hk2 ⊢
      subst d1 d2 d3 d4
      have hcl := curS_le k m hj
      unfold F_X6_mostStay_44
      refine Ok.ite (fun c2 => ?_) (fun c2 => ?_)
      · simp (disch := omega) only [Int32.le_iff_toInt_le, Int32.lt_iff_toInt_lt, ← Int32.toInt_inj, nI_toInt, Int32.reduceToInt] at c2
        have ej : j = i := by omega
        subst ej
        have hfin : curS k m j j = lisT k m (j + 1) j := (lisT_at k m j).symm
        unfold F_X6_mostStay_154
        refine Ok.gu (gd_nI (by omega) (by omega)) ?_
        rw [cl_nI (by omega), hcur, nI_1]
        refine Ok.ite (fun q => ?_) (fun q => ?_)
        · simp (disch := omega) only [Int32.le_iff_toInt_le, Int32.lt_iff_toInt_lt, ← Int32.toInt_inj, nI_toInt, Int32.reduceToInt] at q
          refine hkk _ ⟨j + 1, by omega, hs2, rfl, ?_, ?_⟩ (by dsimp only; rw [cl_nI (by omega), cl_nI (by omega)]; omega)
          · simp only [lisM]
            congr 1
            omega
          · exact more hst2 (by rw [← hfin]; exact hcur)
        · simp (disch := omega) only [Int32.le_iff_toInt_le, Int32.lt_iff_toInt_lt, ← Int32.toInt_inj, nI_toInt, Int32.reduceToInt] at q
          refine Ok.gu (gd_nI (by omega) (by omega)) ?_
          refine hkk _ ⟨j + 1, by omega, hs2, rfl, ?_, ?_⟩ (by dsimp only; rw [cl_nI (by omega), cl_nI (by omega)]; omega)
          · simp only [lisM]
            congr 1
            omega
          · exact more hst2 (by rw [← hfin]; exact hcur)
      · simp (disch := omega) only [Int32.le_iff_toInt_le, Int32.lt_iff_toInt_lt, ← Int32.toInt_inj, nI_toInt, Int32.reduceToInt] at c2
        have hji : j < i := by omega
        have hTj := hst2 j hji
        have hTl := lisT_le k m (j + 1) j (by omega)
        have hTe : lisT k m i j = lisT k m (j + 1) j := lisT_lt hji
        have hstep := curS_s (k := k) (m := m) hji
        rw [hTe] at hstep
        have put : ∀ x : Nat, x = curS k m i (j + 1) → Ok (k2 (wA w2 44 (nI i) (nI x), nI (lisM k m i), nI i, nI (m i), nI j + 1)) (fun x => Fr [] [44] w x.2 ∧ x.1 = nI (lisM k m (lnA g n))) := by
          intro x hx
          rw [nI_1]
          refine hk2 _ ⟨j + 1, by omega, hs2.wA (by decide), rfl, rfl, rfl, rfl, ?_, ?_⟩ (by dsimp only; rw [cl_nI (by omega), cl_nI (by omega)]; omega)
          · intro q hq
            simp only [rI_i, rI_a, rI_l, rA_i, rA_a, rA_l, rR_i, rR_a, rR_l, rL_i, rL_a, rL_l, reduceIte, Nat.reduceEqDiff]
            rw [cl_nI (by omega), upd_at, if_neg (by omega)]
            exact hst2 q hq
          · simp only [rI_i, rI_a, rI_l, rA_i, rA_a, rA_l, rR_i, rR_a, rR_l, rL_i, rL_a, rL_l, reduceIte, Nat.reduceEqDiff]
            rw [cl_nI (by omega), upd_at, if_pos rfl, hx]
        have keep : curS k m i (j + 1) = curS k m i j → Ok (F_X6_mostStay_121 kk k2 w2 (nI (lisM k m i)) (nI i) (nI (m i)) (nI j) (nI i)) (fun x => Fr [] [44] w x.2 ∧ x.1 = nI (lisM k m (lnA g n))) := by
          intro hx
          unfold F_X6_mostStay_121 F_X6_mostStay_127
          refine Ok.gu (gd_nI (by omega) (by omega)) (Ok.gu (gd_nI (by omega) (by omega)) ?_)
          rw [cl_nI (by omega), hcur]
          exact put _ hx.symm
        refine Ok.gu (gd_nI (by omega) (by omega)) ?_
        rw [cl_nI (show j < 2 ^ 31 by omega), hTj]
        refine Ok.ite (fun q => ?_) (fun q => ?_)
        · simp (disch := omega) only [Int32.le_iff_toInt_le, Int32.lt_iff_toInt_lt, ← Int32.toInt_inj, nI_toInt, Int32.reduceToInt] at q
          unfold F_X6_mostStay_78 F_X6_mostStay_79
          rw [if_pos rfl]
          exact keep (by rw [hstep, if_neg (by omega)])
        · simp (disch := omega) only [Int32.le_iff_toInt_le, Int32.lt_iff_toInt_lt, ← Int32.toInt_inj, nI_toInt, Int32.reduceToInt] at q
          refine Ok.gu (gd_nI (by omega) (by omega)) ?_
          have hmj := hm8 j
          rw [hs2.2 43 (by decide), hL.2.2 j (by omega), ho w2 j (by omega), Option.bind_some]
          dsimp only
          by_cases q2 : m j ≤ m i
          · rw [if_neg (show ¬ nI (m i) < nI (m j) by simp (disch := omega) only [Int32.le_iff_toInt_le, Int32.lt_iff_toInt_lt, ← Int32.toInt_inj, nI_toInt, Int32.reduceToInt]; omega), if_neg one0]
            refine Ok.gu (gd_nI (by omega) (by omega)) (Ok.gu (gd_nI (by omega) (by omega)) ?_)
            rw [cl_nI (show i < 2 ^ 31 by omega), hTj, hcur]
            refine Ok.ite (fun q3 => ?_) (fun q3 => ?_)
            · rw [nI_1] at q3
              simp (disch := omega) only [Int32.le_iff_toInt_le, Int32.lt_iff_toInt_lt, ← Int32.toInt_inj, nI_toInt, Int32.reduceToInt] at q3
              exact keep (by rw [hstep, if_neg (by omega)])
            · rw [nI_1] at q3 ⊢
              simp (disch := omega) only [Int32.le_iff_toInt_le, Int32.lt_iff_toInt_lt, ← Int32.toInt_inj, nI_toInt, Int32.reduceToInt] at q3
              unfold F_X6_mostStay_127
              refine Ok.gu (gd_nI (by omega) (by omega)) (Ok.gu (gd_nI (by omega) (by omega)) ?_)
              exact put _ (by rw [hstep, if_pos (by omega)])
          · rw [if_pos (show nI (m i) < nI (m j) by simp (disch := omega) only [Int32.le_iff_toInt_le, Int32.lt_iff_toInt_lt, ← Int32.toInt_inj, nI_toInt, Int32.reduceToInt]; omega), if_pos rfl]
            exact keep (by rw [hstep, if_neg (by omega)])
    · intro q hq
      simp only [rI_i, rI_a, rI_l, rA_i, rA_a, rA_l, rR_i, rR_a, rR_l, rL_i, rL_a, rL_l, reduceIte, Nat.reduceEqDiff]
      rw [cl_nI (by omega), upd_at, if_neg (by omega)]
      exact hst q hq
    · simp only [rI_i, rI_a, rI_l, rA_i, rA_a, rA_l, rR_i, rR_a, rR_l, rL_i, rL_a, rL_l, reduceIte, Nat.reduceEqDiff]
      rw [cl_nI (by omega), upd_at, if_pos rfl]
      unfold curS
      simp only [bst]
      by_cases q : m i < k
      · rw [if_pos q, if_pos (by simp (disch := omega) only [Int32.le_iff_toInt_le, Int32.lt_iff_toInt_lt, ← Int32.toInt_inj, nI_toInt, Int32.reduceToInt]; omega)]; rfl
      · rw [if_neg q, if_neg (by simp (disch := omega) only [Int32.le_iff_toInt_le, Int32.lt_iff_toInt_lt, ← Int32.toInt_inj, nI_toInt, Int32.reduceToInt]; omega)]; rfl
theorem eqv_cuts : Eqv (fun w => F_X5_cuts w) (fun w => F_X6_cuts w) := by
  apply Eqv.query
  rintro w ⟨⟨g, n, hc, hm⟩, hrr, -⟩
  have hln := lnA_40 hc
  obtain ⟨l, k, c, hl, hk, hch, e8, e9, e10, e29, e30, e31, -⟩ := RR.lk hrr
  rcases ref_cases g n with hG | ⟨r, hN, h0, h6⟩
  · refine ⟨if l = 2 then nI (lnA g n) - nI (lisM k (fun i => pc (onL g n i)) (lnA g n)) else nI (lnA g n) - nI (cntA l k (fun i => pc (onL g n i)) (lnA g n)), ?_, fun w' hw' hs' => ?_⟩
    · unfold F_X5_cuts F_X5_cuts_60
      refine Ok.bind (refL_good w hc hG) ?_
      rintro ⟨r, w1⟩ ⟨hs, e, hL⟩
      dsimp only at hs e hL ⊢
      have f8 : w1.1 8 = nI l := by rw [hs.1 8 (by unfold PI; omega)]; exact e8
      have f9 : w1.1 9 = nI k := by rw [hs.1 9 (by unfold PI; omega)]; exact e9
      rw [if_pos e]
      refine Ok.let (fun y ey => ?_)
      rw [f8] at ey
      by_cases q : l = 2
      · rw [if_neg (by simp (disch := omega) only [Int32.le_iff_toInt_le, Int32.lt_iff_toInt_lt, ← Int32.toInt_inj, nI_toInt, Int32.reduceToInt]; omega), if_neg (by simp (disch := omega) only [Int32.le_iff_toInt_le, Int32.lt_iff_toInt_lt, ← Int32.toInt_inj, nI_toInt, Int32.reduceToInt]; omega)] at ey
        rw [ey, if_pos rfl, if_pos q]
        refine Ok.bind (risingC w1 hln hL hk f9) ?_
        rintro x ⟨hx1, hx2⟩
        refine Ok.ret ⟨hs.tr (hx1.same rfl rfl), ?_⟩
        show w1.1 4 - x.1 = _
        rw [hL.1, hx2]
      · have : y = 1 := by
          rw [ey]
          by_cases q0 : l = 0
          · rw [if_pos (by rw [q0]; rfl)]
          · rw [if_neg (by simp (disch := omega) only [Int32.le_iff_toInt_le, Int32.lt_iff_toInt_lt, ← Int32.toInt_inj, nI_toInt, Int32.reduceToInt]; omega), if_pos (by simp (disch := omega) only [Int32.le_iff_toInt_le, Int32.lt_iff_toInt_lt, ← Int32.toInt_inj, nI_toInt, Int32.reduceToInt]; omega)]
        rw [this, if_neg one0, if_neg q, inLawC w1 hln hL hl hk f8 f9, Option.bind_some]
        refine Ok.ret ⟨hs, ?_⟩
        show w1.1 4 - _ = _
        rw [hL.1]
    · unfold F_X6_cuts
      refine Ok.bind (refM_good w' (hm.same hs') hG) ?_
      rintro ⟨r, w1⟩ ⟨hs, e, hL⟩
      dsimp only at hs e hL ⊢
      have f8 : w1.1 29 = nI l := by rw [(hs'.tr hs).1 29 (by unfold PI; omega)]; exact e29
      have f9 : w1.1 30 = nI k := by rw [(hs'.tr hs).1 30 (by unfold PI; omega)]; exact e30
      rw [if_pos e, f8]
      by_cases q : l = 2
      · rw [if_pos (by rw [q]; rfl), if_pos q]
        refine Ok.bind (stayM w1 hG.1 hln hL hk f9) ?_
        rintro x ⟨hx1, hx2⟩
        refine Ok.ret ⟨hs.tr (hx1.same rfl rfl), ?_⟩
        show w1.1 35 - x.1 = _
        rw [hL.1, hx2]
      · rw [if_neg (by simp (disch := omega) only [Int32.le_iff_toInt_le, Int32.lt_iff_toInt_lt, ← Int32.toInt_inj, nI_toInt, Int32.reduceToInt]; omega), if_neg q, cutsM01 w1 hG.1 hln hL (by omega) hk f8 f9]
        exact Ok.ret ⟨hs, rfl⟩
  · refine ⟨r, ?_, fun w' hw' hs' => ?_⟩
    · unfold F_X5_cuts
      refine Ok.bind (refL_no w hc hN) ?_
      rintro ⟨r1, w1⟩ ⟨hs, e⟩
      dsimp only at hs e ⊢
      rw [e, if_neg h0]
      exact Ok.ret ⟨hs, rfl⟩
    · unfold F_X6_cuts
      refine Ok.bind (refM_no w' (hm.same hs') hN) ?_
      rintro ⟨r1, w1⟩ ⟨hs, e⟩
      dsimp only at hs e ⊢
      rw [e, if_neg h6]
      exact Ok.ret ⟨hs, rfl⟩
