theorem X5_yes {w : Wd} {v m : Int32} (h : 0 ≤ v.toInt ∧ v.toInt ≤ m.toInt) : F_X5_isWithin w v m = some (1, w) := by rw [X5_within, if_pos h]
theorem X5_not {w : Wd} {v m : Int32} (h : ¬ (0 ≤ v.toInt ∧ v.toInt ≤ m.toInt)) : F_X5_isWithin w v m = some (0, w) := by rw [X5_within, if_neg h]
theorem X6_yes {w : Wd} {v : Int32} {b c : Int64} (h : b.toInt ≤ v.toInt ∧ v.toInt ≤ c.toInt) : F_X6_in w v.toInt64 b c = some (1, w) := by rw [X6_within, if_pos h]
theorem X6_not {w : Wd} {v : Int32} {b c : Int64} (h : ¬ (b.toInt ≤ v.toInt ∧ v.toInt ≤ c.toInt)) : F_X6_in w v.toInt64 b c = some (0, w) := by rw [X6_within, if_neg h]
/-! set -/
theorem set_refl (w w' : Wd) (h : w' = w) (hw : Rel w) : Rel w' := h ▸ hw
theorem setM_no (w : Wd) (p1 p2 : Int32) (h : ¬ ((p1 = 0 ∧ 0 ≤ p2.toInt ∧ p2.toInt ≤ 2) ∨ (p1 = 1 ∧ 0 ≤ p2.toInt ∧ p2.toInt ≤ 8) ∨ (p1 = 2 ∧ 0 ≤ p2.toInt ∧ p2.toInt ≤ 9))) : F_X6_set w p1 p2 = some (-2, w) := by
  unfold F_X6_set F_X6_set_45
  by_cases hp : 0 ≤ p1.toInt ∧ p1.toInt ≤ 2
  · obtain ⟨v, hv, rfl, hv2⟩ := i32_nat hp.1
    rw [X6_yes (show (0 : Int64).toInt ≤ (nI v).toInt ∧ (nI v).toInt ≤ (2 : Int64).toInt from hp), Option.bind_some, if_neg one0]
    rcases (show v = 0 ∨ v = 1 ∨ v = 2 by omega) with rfl | rfl | rfl
    · rw [if_pos (by decide), X6_not (v := p2) (b := 0) (c := 2) (fun z => h (Or.inl ⟨by decide, z⟩)), Option.bind_some, if_pos rfl]
    · rw [if_neg (by decide), if_pos (by decide), X6_not (v := p2) (b := 0) (c := 8) (fun z => h (Or.inr (Or.inl ⟨by decide, z⟩))), Option.bind_some, if_pos rfl]
    · rw [if_neg (by decide), if_neg (by decide), X6_not (v := p2) (b := 0) (c := 9) (fun z => h (Or.inr (Or.inr ⟨by decide, z⟩))), Option.bind_some, if_pos rfl]
  · rw [X6_not (show ¬ ((0 : Int64).toInt ≤ p1.toInt ∧ p1.toInt ≤ (2 : Int64).toInt) from hp), Option.bind_some, if_pos rfl]
theorem setC_no (w : Wd) (p1 p2 : Int32) (h : ¬ ((p1 = 0 ∧ 0 ≤ p2.toInt ∧ p2.toInt ≤ 2) ∨ (p1 = 1 ∧ 0 ≤ p2.toInt ∧ p2.toInt ≤ 8) ∨ (p1 = 2 ∧ 0 ≤ p2.toInt ∧ p2.toInt ≤ 9))) : F_X5_set w p1 p2 = some (-2, w) := by
  have e2 : F_X5_set_64 w p1 p2 = some (-2, w) := by
    unfold F_X5_set_64 F_X5_set_97 F_X5_set_100
    by_cases q : p1 = 2
    · rw [if_pos q, X5_not (fun z => h (Or.inr (Or.inr ⟨q, z⟩))), Option.bind_some, if_pos rfl]
    · rw [if_neg q]
  have e1 : F_X5_set_31 w p1 p2 = some (-2, w) := by
    unfold F_X5_set_31
    by_cases q : p1 = 1
    · rw [if_pos q, X5_not (fun z => h (Or.inr (Or.inl ⟨q, z⟩))), Option.bind_some, if_pos rfl]
      exact e2
    · rw [if_neg q]
      exact e2
  unfold F_X5_set
  by_cases q : p1 = 0
  · rw [if_pos q, X5_not (fun z => h (Or.inl ⟨q, z⟩)), Option.bind_some, if_pos rfl]
    exact e1
  · rw [if_neg q]
    exact e1
theorem eqv_set (p1 p2 : Int32) : Eqv (fun w => F_X5_set w p1 p2) (fun w => F_X6_set w p1 p2) := by
  rintro w ⟨hpad, hr, hi0, hi1⟩
  show Ok (F_X5_set w p1 p2) _
  obtain ⟨l, k, c, hl, hk, hc, e8, e9, e10, e29, e30, e31, hput⟩ := RR.lk hr
  by_cases h : (p1 = 0 ∧ 0 ≤ p2.toInt ∧ p2.toInt ≤ 2) ∨ (p1 = 1 ∧ 0 ≤ p2.toInt ∧ p2.toInt ≤ 8) ∨ (p1 = 2 ∧ 0 ≤ p2.toInt ∧ p2.toInt ≤ 9)
  · rcases h with ⟨rfl, h⟩ | ⟨rfl, h⟩ | ⟨rfl, h⟩
    · obtain ⟨v, hv, rfl, hv2⟩ := i32_nat h.1
      unfold F_X5_set F_X5_set_100
      rw [if_pos rfl, X5_yes (show 0 ≤ (nI v).toInt ∧ (nI v).toInt ≤ (2 : Int32).toInt from h), Option.bind_some, if_neg one0]
      refine Ok.ret ?_
      show Ok (F_X6_set (wI w 8 (nI v)) 0 (nI v)) _
      unfold F_X6_set
      rw [X6_yes (show (0 : Int64).toInt ≤ (0 : Int32).toInt ∧ (0 : Int32).toInt ≤ (2 : Int64).toInt by decide), Option.bind_some, if_neg one0, if_pos rfl, X6_yes (show (0 : Int64).toInt ≤ (nI v).toInt ∧ (nI v).toInt ≤ (2 : Int64).toInt from h), Option.bind_some, if_neg one0]
      refine Ok.let (fun y ey => Ok.ret ⟨?_, hpad, ?_, hi0, hi1⟩)
      · rw [ey, if_pos rfl]
        exact e29.trans e8.symm
      · have := hput v k c (by omega) hk hc
        unfold RulesRel
        simp only [rI_i, rI_a, reduceIte, Nat.reduceEqDiff, show ((0 : Int32) = 1) = False from by decide, show ((0 : Int32) = 2) = False from by decide]
        rw [e9, e10, e30, e31]
        exact this
    · obtain ⟨v, hv, rfl, hv2⟩ := i32_nat h.1
      unfold F_X5_set F_X5_set_31 F_X5_set_100
      rw [if_neg (by decide), if_pos rfl, X5_yes (show 0 ≤ (nI v).toInt ∧ (nI v).toInt ≤ (8 : Int32).toInt from h), Option.bind_some, if_neg one0]
      refine Ok.ret ?_
      show Ok (F_X6_set (wI w 9 (nI v)) 1 (nI v)) _
      unfold F_X6_set
      rw [X6_yes (show (0 : Int64).toInt ≤ (1 : Int32).toInt ∧ (1 : Int32).toInt ≤ (2 : Int64).toInt by decide), Option.bind_some, if_neg one0, if_neg (by decide), if_pos rfl, X6_yes (show (0 : Int64).toInt ≤ (nI v).toInt ∧ (nI v).toInt ≤ (8 : Int64).toInt from h), Option.bind_some, if_neg one0]
      refine Ok.let (fun y ey => Ok.ret ⟨?_, hpad, ?_, hi0, hi1⟩)
      · rw [ey, if_neg (by decide), if_pos rfl]
        exact e30.trans e9.symm
      · have := hput l v c hl (by omega) hc
        unfold RulesRel
        simp only [rI_i, rI_a, reduceIte, Nat.reduceEqDiff, show ((1 : Int32) = 0) = False from by decide, show ((1 : Int32) = 2) = False from by decide]
        rw [e8, e10, e29, e31]
        exact this
    · obtain ⟨v, hv, rfl, hv2⟩ := i32_nat h.1
      unfold F_X5_set F_X5_set_31 F_X5_set_64 F_X5_set_100
      rw [if_neg (by decide), if_neg (by decide), if_pos rfl, X5_yes (show 0 ≤ (nI v).toInt ∧ (nI v).toInt ≤ (9 : Int32).toInt from h), Option.bind_some, if_neg one0]
      refine Ok.ret ?_
      show Ok (F_X6_set (wI w 10 (nI v)) 2 (nI v)) _
      unfold F_X6_set
      rw [X6_yes (show (0 : Int64).toInt ≤ (2 : Int32).toInt ∧ (2 : Int32).toInt ≤ (2 : Int64).toInt by decide), Option.bind_some, if_neg one0, if_neg (by decide), if_neg (by decide), X6_yes (show (0 : Int64).toInt ≤ (nI v).toInt ∧ (nI v).toInt ≤ (9 : Int64).toInt from h), Option.bind_some, if_neg one0]
      refine Ok.let (fun y ey => Ok.ret ⟨?_, hpad, ?_, hi0, hi1⟩)
      · rw [ey, if_neg (by decide), if_neg (by decide)]
        exact e31.trans e10.symm
      · have := hput l k v hl hk (by omega)
        unfold RulesRel
        simp only [rI_i, rI_a, reduceIte, Nat.reduceEqDiff, show ((2 : Int32) = 0) = False from by decide, show ((2 : Int32) = 1) = False from by decide]
        rw [e8, e9, e29, e30]
        exact this
  · rw [setC_no w p1 p2 h]
    refine Ok.ret ?_
    show Ok (F_X6_set w p1 p2) _
    rw [setM_no w p1 p2 h]
    exact Ok.ret ⟨rfl, hpad, hr, hi0, hi1⟩
/-! told -/
theorem eqv_told (p1 : Int32) : Eqv (fun w => F_X5_told w p1) (fun w => F_X6_told w p1) := by
  apply Eqv.query
  rintro w ⟨⟨g, n, hc, hm⟩, hrr, -⟩
  obtain ⟨l, k, c, hl, hk, hch, e8, e9, e10, e29, e30, e31, -⟩ := RR.lk hrr
  obtain ⟨s, hs, e11, e32, hsc, -⟩ := RR.sc hrr
  obtain ⟨m, hm6, e12, e33, -, -⟩ := RR.si hrr
  by_cases hq : 10 ≤ p1.toInt ∧ p1.toInt < 10 + s
  · obtain ⟨v, hv, rfl, hv2⟩ := i32_nat (show 0 ≤ p1.toInt by omega)
    obtain ⟨u, rfl⟩ : ∃ u, v = u + 10 := ⟨v - 10, by omega⟩
    have hu : u < s := by omega
    have es : nI (u + 10) - 10 = nI u := pk_sub (b := 10) (by omega) |>.trans (by congr 1)
    refine ⟨w.2.1 11 u, ?_, fun w' hw' hs' => ?_⟩
    · unfold F_X5_told
      rw [if_neg (by simp (disch := omega) only [Int32.le_iff_toInt_le, Int32.lt_iff_toInt_lt, ← Int32.toInt_inj, nI_toInt, Int32.reduceToInt]; omega), e11, es, if_neg (by simp (disch := omega) only [Int32.le_iff_toInt_le, Int32.lt_iff_toInt_lt, ← Int32.toInt_inj, nI_toInt, Int32.reduceToInt]; omega), gd_nI (by omega) (by omega), cl_nI (by omega)]
      exact Ok.ret ⟨Same.rf w, rfl⟩
    · unfold F_X6_told
      have f32 : w'.1 32 = nI s := by rw [hs'.1 32 (by unfold PI; omega)]; exact e32
      rw [f32, show (9 : Int32) + nI s = nI (9 + s) from nI_add 9 s]
      rw [X6_yes (by rw [Int32.toInt_toInt64, nI_toInt (by omega), nI_toInt (by omega), show (10 : Int64).toInt = 10 from rfl]; omega), Option.bind_some, if_neg one0, es, gd_nI (by omega) (by omega), cl_nI (by omega)]
      refine Ok.ret ⟨Same.rf w', ?_⟩
      show w'.2.1 38 u = _
      rw [hs'.2 38 (by unfold PA; omega)]
      exact (hsc u hu).1
  · have tail : ∃ r : Int32, Ok (F_X5_told_33 w p1) (fun x => Same w x.2 ∧ x.1 = r) ∧ ∀ w', Rel w' → Same w w' → (if p1 = 0 then some (w'.1 34, w') else if p1 = 1 then some (w'.1 29, w') else if p1 = 2 then some (w'.1 30, w') else if p1 = 3 then some (w'.1 31, w') else if p1 = 4 then some (w'.1 32, w') else if p1 = 5 then some (w'.1 33, w') else some ((-2 : Int32), w')) = some (r, w') := by
      unfold F_X5_told_33
      refine ⟨if p1 = 0 then w.1 0 else if p1 = 1 then w.1 8 else if p1 = 2 then w.1 9 else if p1 = 3 then w.1 10 else if p1 = 4 then w.1 11 else if p1 = 5 then w.1 12 else -2, ?_, fun w' hw' hs' => ?_⟩
      · by_cases q0 : p1 = 0
        · rw [if_pos q0, if_pos q0]; exact Ok.ret ⟨Same.rf w, rfl⟩
        rw [if_neg q0, if_neg q0]
        by_cases q1 : p1 = 1
        · rw [if_pos q1, if_pos q1]; exact Ok.ret ⟨Same.rf w, rfl⟩
        rw [if_neg q1, if_neg q1]
        by_cases q2 : p1 = 2
        · rw [if_pos q2, if_pos q2]; exact Ok.ret ⟨Same.rf w, rfl⟩
        rw [if_neg q2, if_neg q2]
        by_cases q3 : p1 = 3
        · rw [if_pos q3, if_pos q3]; exact Ok.ret ⟨Same.rf w, rfl⟩
        rw [if_neg q3, if_neg q3]
        by_cases q4 : p1 = 4
        · rw [if_pos q4, if_pos q4]; exact Ok.ret ⟨Same.rf w, rfl⟩
        rw [if_neg q4, if_neg q4]
        by_cases q5 : p1 = 5
        · rw [if_pos q5, if_pos q5]; exact Ok.ret ⟨Same.rf w, rfl⟩
        rw [if_neg q5, if_neg q5]
        exact Ok.ret ⟨Same.rf w, rfl⟩
      · rw [hs'.1 34 (by unfold PI; omega), hs'.1 29 (by unfold PI; omega), hs'.1 30 (by unfold PI; omega), hs'.1 31 (by unfold PI; omega), hs'.1 32 (by unfold PI; omega), hs'.1 33 (by unfold PI; omega), hm.1, e29, e30, e31, e32, e33, hc.1, e8, e9, e10, e11, e12]
        by_cases q0 : p1 = 0
        · rw [if_pos q0, if_pos q0]
        rw [if_neg q0, if_neg q0]
        by_cases q1 : p1 = 1
        · rw [if_pos q1, if_pos q1]
        rw [if_neg q1, if_neg q1]
        by_cases q2 : p1 = 2
        · rw [if_pos q2, if_pos q2]
        rw [if_neg q2, if_neg q2]
        by_cases q3 : p1 = 3
        · rw [if_pos q3, if_pos q3]
        rw [if_neg q3, if_neg q3]
        by_cases q4 : p1 = 4
        · rw [if_pos q4, if_pos q4]
        rw [if_neg q4, if_neg q4]
        by_cases q5 : p1 = 5
        · rw [if_pos q5, if_pos q5]
        rw [if_neg q5, if_neg q5]
    obtain ⟨r, h1, h2⟩ := tail
    refine ⟨r, ?_, fun w' hw' hs' => ?_⟩
    · unfold F_X5_told
      refine Ok.ite (fun _ => h1) (fun c1 => ?_)
      rw [Int32.lt_iff_toInt_lt, show (10 : Int32).toInt = 10 from rfl] at c1
      obtain ⟨v, hv, rfl, hv2⟩ := i32_nat (show 0 ≤ p1.toInt by omega)
      obtain ⟨u, rfl⟩ : ∃ u, v = u + 10 := ⟨v - 10, by omega⟩
      have es : nI (u + 10) - 10 = nI u := pk_sub (b := 10) (by omega) |>.trans (by congr 1)
      rw [e11, es, if_pos (by simp (disch := omega) only [Int32.le_iff_toInt_le, Int32.lt_iff_toInt_lt, ← Int32.toInt_inj, nI_toInt, Int32.reduceToInt]; omega)]
      exact h1
    · unfold F_X6_told
      have f32 : w'.1 32 = nI s := by rw [hs'.1 32 (by unfold PI; omega)]; exact e32
      rw [show w'.1 32 = nI s from f32, show (9 : Int32) + nI s = nI (9 + s) from nI_add 9 s]
      rw [X6_not (by rw [Int32.toInt_toInt64, nI_toInt (show 9 + s < 2 ^ 31 by omega), show (10 : Int64).toInt = 10 from rfl]; omega), Option.bind_some, if_pos rfl]
      have h3 := h2 w' hw' hs'
      dsimp only
      rw [h3]
      exact Ok.ret ⟨Same.rf w', rfl⟩
/-! on -/
theorem X5_isLine (w : Wd) (v : Int32) {n : Nat} (h4 : w.1 4 = nI n) (hn : n ≤ 40) : F_X5_isLine w v = some (if 0 ≤ v.toInt ∧ v.toInt < n then 1 else 0, w) := by
  have e : (if v < 0 then (0 : Int32) else (if nI n ≤ v then 0 else 1)) = if 0 ≤ v.toInt ∧ v.toInt < n then 1 else 0 := by
    simp (disch := omega) only [Int32.le_iff_toInt_le, Int32.lt_iff_toInt_lt, nI_toInt, Int32.reduceToInt]
    by_cases h1 : v.toInt < 0
    · rw [if_pos h1, if_neg (by omega)]
    · rw [if_neg h1]
      by_cases h2 : (n : Int) ≤ v.toInt
      · rw [if_pos h2, if_neg (by omega)]
      · rw [if_neg h2, if_pos (by omega)]
  unfold F_X5_isLine
  rw [h4, e, isB_ite]
  rfl
theorem eqv_on (p1 : Int32) : Eqv (fun w => F_X5_on w p1) (fun w => F_X6_on w p1) := by
  apply Eqv.query
  rintro w ⟨⟨g, n, hc, hm⟩, hrr, -⟩
  have hln := lnA_40 hc
  rcases ref_cases g n with hG | ⟨r, hN, h0, h6⟩
  · by_cases hq : 0 ≤ p1.toInt ∧ p1.toInt < lnA g n
    · obtain ⟨v, hv, rfl, hv2⟩ := i32_nat hq.1
      refine ⟨nI (onL g n v), ?_, fun w' hw' hs' => ?_⟩
      · unfold F_X5_on F_X5_on_33
        refine Ok.bind (refL_good w hc hG) ?_
        rintro ⟨r, w1⟩ ⟨hs, e, h4, h3, h66, h7⟩
        dsimp only at hs e h4 h7 ⊢
        rw [if_pos e, X5_isLine w1 _ h4 hln, Option.bind_some, if_pos hq, if_neg one0, gd_nI (by omega) (by omega), cl_nI (by omega)]
        refine Ok.ret ⟨hs, h7 v (by omega)⟩
      · unfold F_X6_on F_X6_on_40
        refine Ok.bind (refM_good w' (hm.same hs') hG) ?_
        rintro ⟨r, w1⟩ ⟨hs, e, h4, h3, h7⟩
        dsimp only at hs e h4 h7 ⊢
        obtain ⟨j, hj⟩ : ∃ j, lnA g n = j + 1 := ⟨lnA g n - 1, by omega⟩
        rw [if_pos e, h4, hj, show nI (j + 1) - (1 : Int32) = nI j from nI_pred j]
        rw [X6_yes (by rw [Int32.toInt_toInt64, nI_toInt (by omega), nI_toInt (by omega), show (0 : Int64).toInt = 0 from rfl]; omega), Option.bind_some, if_neg one0, gd_nI (by omega) (by omega), cl_nI (by omega)]
        exact Ok.ret ⟨hs, h7 v (by omega)⟩
    · refine ⟨-2, ?_, fun w' hw' hs' => ?_⟩
      · unfold F_X5_on F_X5_on_33
        refine Ok.bind (refL_good w hc hG) ?_
        rintro ⟨r, w1⟩ ⟨hs, e, h4, h3, h66, h7⟩
        dsimp only at hs e h4 h7 ⊢
        rw [if_pos e, X5_isLine w1 _ h4 hln, Option.bind_some, if_neg hq, if_pos rfl]
        exact Ok.ret ⟨hs, rfl⟩
      · unfold F_X6_on F_X6_on_40
        refine Ok.bind (refM_good w' (hm.same hs') hG) ?_
        rintro ⟨r, w1⟩ ⟨hs, e, h4, h3, h7⟩
        dsimp only at hs e h4 h7 ⊢
        have hz : ¬ ((0 : Int64).toInt ≤ p1.toInt ∧ p1.toInt ≤ ((nI (lnA g n) - 1).toInt64).toInt) := by
          rw [Int32.toInt_toInt64, show (0 : Int64).toInt = 0 from rfl]
          rcases Nat.eq_zero_or_pos (lnA g n) with q | q
          · rw [q, show (nI 0 - (1 : Int32)).toInt = -1 from by decide]; omega
          · obtain ⟨j, hj⟩ : ∃ j, lnA g n = j + 1 := ⟨lnA g n - 1, by omega⟩
            rw [hj, show nI (j + 1) - (1 : Int32) = nI j from nI_pred j, nI_toInt (by omega)]
            omega
        rw [if_pos e, h4, X6_not hz, Option.bind_some, if_pos rfl]
        exact Ok.ret ⟨hs, rfl⟩
  · refine ⟨r, ?_, fun w' hw' hs' => ?_⟩
    · unfold F_X5_on
      refine Ok.bind (refL_no w hc hN) ?_
      rintro ⟨r1, w1⟩ ⟨hs, e⟩
      dsimp only at hs e ⊢
      rw [e, if_neg h0]
      exact Ok.ret ⟨hs, rfl⟩
    · unfold F_X6_on
      refine Ok.bind (refM_no w' (hm.same hs') hN) ?_
      rintro ⟨r1, w1⟩ ⟨hs, e⟩
      dsimp only at hs e ⊢
      rw [e, if_neg h6]
      exact Ok.ret ⟨hs, rfl⟩
