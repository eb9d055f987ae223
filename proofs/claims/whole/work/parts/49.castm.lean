/-! the reference casts -/
theorem with_M (w : Wd) {s : Nat → Nat} {N c P : Nat} {hs : Nat → Bool} {cl : Nat → Nat → Bool} (hN : N ≤ 40) (hc : c ≤ 9) (hL : LinM w s N c) (hP : CastP s N c hs cl) (h1P : 1 ≤ P) (hP8 : P ≤ 8) : Ok (F_X6_castWith w (nI P)) (fun x => Fr [] [45] w x.2 ∧ ((x.1 = 1 ∧ ∃ g, dfS hs cl P 8 (fun _ => 0) = some g ∧ ∀ i, i < 8 → x.2.2.1 45 i = nI (g i)) ∨ (x.1 = 0 ∧ dfS hs cl P 8 (fun _ => 0) = none))) := by
  unfold F_X6_castWith L_X6_castWith_9
  refine Ok.gu (by decide) ?_
  refine Ok.loopR (fun m a => Fr [] [45] w a.1 ∧ a.2.1 = nI P ∧ ((∃ p v f, p < 8 ∧ a.2.2 = nI p ∧ (∀ i, i < p → a.1.2.1 45 i = nI (f i) ∧ f i ≤ i) ∧ a.1.2.1 45 p + 1 = nI v ∧ v ≤ p + 1 ∧ dfV hs cl P p v f = dfS hs cl P 8 (fun _ => 0) ∧ m = dfN f p v) ∨ (a.2.2 = -1 ∧ dfS hs cl P 8 (fun _ => 0) = none ∧ m = 0) ∨ (a.2.2 = nI 8 ∧ m = 0 ∧ ∃ g, dfS hs cl P 8 (fun _ => 0) = some g ∧ ∀ i, i < 8 → a.1.2.1 45 i = nI (g i)))) ?_ fu 52147 _ ⟨(Fr.rf _ _ _).wA (by decide), rfl, Or.inl ⟨0, 0, fun _ => 0, by decide, rfl, fun i hi => absurd hi (Nat.not_lt_zero _), by simp only [rI_i, rI_a, rI_l, rA_i, rA_a, rA_l, rR_i, rR_a, rR_l, rL_i, rL_a, rL_l, reduceIte, Nat.reduceEqDiff]; rw [upd_at, if_pos (by decide)]; decide, Nat.zero_le _, dfV_0 _, (dfN_0 _).symm⟩⟩ (by decide)
  rintro m ⟨w1, v1, v2⟩ ⟨hF, e1, hcase⟩ kk hkk
  dsimp only at hF e1 hcase hkk ⊢
  subst e1
  unfold F_X6_castWith_9
  rcases hcase with ⟨p, v, f, hp, rfl, hf, hv, hvp, hV, rfl⟩ | ⟨rfl, hR, rfl⟩ | ⟨rfl, rfl, g, hg, hgi⟩
  · rw [if_neg (by simp (disch := omega) only [Int32.le_iff_toInt_le, Int32.lt_iff_toInt_lt, ← Int32.toInt_inj, nI_toInt, Int32.reduceToInt]; omega), if_neg (by simp (disch := omega) only [Int32.le_iff_toInt_le, Int32.lt_iff_toInt_lt, ← Int32.toInt_inj, nI_toInt, Int32.reduceToInt]; omega)]
    refine Ok.gu (gd_nI hp (by omega)) (Ok.gu (gd_nI hp (by omega)) ?_)
    rw [cl_nI (by omega), hv]
    have hF2 : Fr [] [45] w (wA w1 45 (nI p) (nI v)) := hF.wA (by decide)
    obtain ⟨w2, hw2⟩ : ∃ w2, w2 = wA w1 45 (nI p) (nI v) := ⟨_, rfl⟩
    have f45 : ∀ i, w2.2.1 45 i = if i = p then nI v else w1.2.1 45 i := by
      intro i
      rw [hw2]
      simp only [rI_i, rI_a, rI_l, rA_i, rA_a, rA_l, rR_i, rR_a, rR_l, rL_i, rL_a, rL_l, reduceIte, Nat.reduceEqDiff]
      rw [cl_nI (by omega), upd_at]
    rw [← hw2] at hF2 ⊢
    have hL2 : LinM w2 s N c := hL.fr (hF2.mono (fun k h => absurd h (by simp)) (fun k h => by simp only [List.mem_cons, List.not_mem_nil, or_false] at h ⊢; exact Or.inl h))
    have hf2 : ∀ i, i < p → w2.2.1 45 i = nI (f i) ∧ f i ≤ i := fun i hi => by
      rw [f45, if_neg (by omega)]; exact hf i hi
    have hv2 : w2.2.1 45 p = nI v := by rw [f45, if_pos rfl]
    have hfle : ∀ i, i < p → f i ≤ i := fun i hi => (hf i hi).2
    have hU := dfU_le (hs := hs) p hfle
    have hCle := dfC_le (hs := hs) (P := P) hfle
    obtain ⟨i1, i2⟩ := hiI (dfU hs f p) (by omega)
    rw [lOfM w2 hN hp hL2, Option.bind_some]
    dsimp only
    rw [high_M w2 hN hp hL2 hP hf2, Option.bind_some]
    dsimp only
    rw [i2, hv2]
    have hlc := lcA_le s p N
    have hlp := lc_pos (s := s) (p := p) N
    rw [← hP.1 p] at hlp
    have hP1 : nI P - 1 = nI (P - 1) := pk_sub (b := 1) h1P
    have hy3 : (if nI P - 1 ≤ nI (dfU hs f p) then nI P - 1 else nI (dfU hs f p)) = nI (min (P - 1) (dfU hs f p)) := by
      rw [hP1]
      by_cases x : P - 1 ≤ dfU hs f p
      · rw [if_pos (by simp (disch := omega) only [Int32.le_iff_toInt_le, Int32.lt_iff_toInt_lt, ← Int32.toInt_inj, nI_toInt, Int32.reduceToInt]; omega), Nat.min_eq_left x]
      · rw [if_neg (by simp (disch := omega) only [Int32.le_iff_toInt_le, Int32.lt_iff_toInt_lt, ← Int32.toInt_inj, nI_toInt, Int32.reduceToInt]; omega), Nat.min_eq_right (by omega)]
    rw [hy3]
    show Ok (gu _ _) _
    refine Ok.gu (gd_nI hp (by omega)) ?_
    have hy1 : (if nI (lcA s p N) ≤ 0 then (0 : Int32) else 1) = okI (hs p) := by
      unfold okI
      by_cases x : hs p = true
      · have := hlp.mpr x
        rw [if_pos x, if_neg (by simp (disch := omega) only [Int32.le_iff_toInt_le, Int32.lt_iff_toInt_lt, ← Int32.toInt_inj, nI_toInt, Int32.reduceToInt]; omega)]
      · rw [if_neg x, if_pos (by
          have : ¬ 0 < lcA s p N := fun y => x (hlp.mp y)
          simp (disch := omega) only [Int32.le_iff_toInt_le, Int32.lt_iff_toInt_lt, ← Int32.toInt_inj, nI_toInt, Int32.reduceToInt]
          omega)]
    rw [hy1]
    have hends : (if nI v ≤ (if okI (hs p) = 0 then 0 else nI (min (P - 1) (dfU hs f p))) then (0 : Int32) else 1) = if v < dfC hs P f p then 0 else 1 := by
      unfold dfC okI
      by_cases x : hs p = true
      · rw [if_pos x, if_neg one0, if_pos x]
        by_cases y : v < min (dfU hs f p + 1) P
        · rw [if_pos y, if_pos (by simp (disch := omega) only [Int32.le_iff_toInt_le, Int32.lt_iff_toInt_lt, ← Int32.toInt_inj, nI_toInt, Int32.reduceToInt]; omega)]
        · rw [if_neg y, if_neg (by simp (disch := omega) only [Int32.le_iff_toInt_le, Int32.lt_iff_toInt_lt, ← Int32.toInt_inj, nI_toInt, Int32.reduceToInt]; omega)]
      · rw [if_neg x, if_pos rfl, if_neg x]
        by_cases y : v < 1
        · rw [if_pos y, if_pos (by simp (disch := omega) only [Int32.le_iff_toInt_le, Int32.lt_iff_toInt_lt, ← Int32.toInt_inj, nI_toInt, Int32.reduceToInt]; omega)]
        · rw [if_neg y, if_neg (by simp (disch := omega) only [Int32.le_iff_toInt_le, Int32.lt_iff_toInt_lt, ← Int32.toInt_inj, nI_toInt, Int32.reduceToInt]; omega)]
    show Ok (if (if nI v ≤ (if okI (hs p) = 0 then 0 else nI (min (P - 1) (dfU hs f p))) then (0 : Int32) else 1) = 0 then _ else _) _
    rw [hends]
    by_cases hvC : v < dfC hs P f p
    · rw [if_pos (show (if v < dfC hs P f p then (0 : Int32) else 1) = 0 by rw [if_pos hvC])]
      have next : dfO hs cl f p v = true → Ok (F_X6_castWith_119 kk w2 (nI P) (nI p)) (fun x => Fr [] [45] w x.2 ∧ ((x.1 = 1 ∧ ∃ g, dfS hs cl P 8 (fun _ => 0) = some g ∧ ∀ i, i < 8 → x.2.2.1 45 i = nI (g i)) ∨ (x.1 = 0 ∧ dfS hs cl P 8 (fun _ => 0) = none))) := by
        intro ho
        unfold F_X6_castWith_119 F_X6_castWith_135
        rw [nI_1]
        by_cases h7 : p = 7
        · subst h7
          rw [if_pos (by decide)]
          refine hkk 0 _ (by unfold dfN; omega) ⟨hF2, rfl, Or.inr (Or.inr ⟨rfl, rfl, _, hV.symm.trans (dfV_done hvC ho), fun i hi => ?_⟩)⟩
          dsimp only
          rw [f45, if_pos hi, dfUp_at]
          by_cases x : i = 7
          · rw [if_pos x, if_pos x]
          · rw [if_neg x, if_neg x]
            exact (hf i (by omega)).1
        · rw [if_neg (by simp (disch := omega) only [Int32.le_iff_toInt_le, Int32.lt_iff_toInt_lt, ← Int32.toInt_inj, nI_toInt, Int32.reduceToInt]; omega)]
          refine Ok.gu (gd_nI (by omega) (by omega)) ?_
          refine hkk _ _ (dfN_next (f := f) (by omega) (show v ≤ p by omega)) ⟨hF2.wA (by decide), rfl, Or.inl ⟨p + 1, 0, dfUp f p v, by omega, rfl, fun i hi => ⟨?_, up_le hfle (show v ≤ p by omega) i hi⟩, ?_, Nat.zero_le _, (dfV_next hvC ho (by omega)).symm.trans hV, rfl⟩⟩
          · simp only [rI_i, rI_a, rI_l, rA_i, rA_a, rA_l, rR_i, rR_a, rR_l, rL_i, rL_a, rL_l, reduceIte, Nat.reduceEqDiff]
            rw [cl_nI (by omega), upd_at, if_neg (by omega), f45, dfUp_at]
            by_cases x : i = p
            · rw [if_pos x, if_pos x]
            · rw [if_neg x, if_neg x]
              exact (hf i (by omega)).1
          · simp only [rI_i, rI_a, rI_l, rA_i, rA_a, rA_l, rR_i, rR_a, rR_l, rL_i, rL_a, rL_l, reduceIte, Nat.reduceEqDiff]
            rw [cl_nI (by omega), upd_at, if_pos rfl]
            rfl
      by_cases x : hs p = true
      · rw [if_neg (by unfold okI; rw [if_pos x]; exact one0), canBe_M w2 hN hc hp hL2 hP hf2 hv2 (by omega) x, Option.bind_some]
        dsimp only
        cases ho : dfO hs cl f p v
        · rw [if_pos (by decide)]
          unfold F_X6_castWith_135
          refine hkk _ _ (dfN_bad hp (show v ≤ p by omega)) ⟨hF2, rfl, Or.inl ⟨p, v + 1, f, hp, rfl, hf2, by dsimp only; rw [hv2, nI_1], by omega, (dfV_bad hvC ho).symm.trans hV, rfl⟩⟩
        · rw [if_neg (by decide)]
          exact next ho
      · rw [if_pos (by unfold okI; rw [if_neg x])]
        exact next (dfO_iff.mpr (fun y => absurd y x))
    · rw [if_neg (show ¬ (if v < dfC hs P f p then (0 : Int32) else 1) = 0 by rw [if_neg hvC]; exact one0)]
      unfold F_X6_castWith_135
      rcases Nat.eq_zero_or_pos p with h0 | h0
      · subst h0
        refine hkk 0 _ (by unfold dfN; omega) ⟨hF2, rfl, Or.inr (Or.inl ⟨show nI 0 + -1 = -1 by decide, ?_, rfl⟩)⟩
        rw [← hV]
        exact dfV_end0 (by omega)
      · obtain ⟨q, rfl⟩ : ∃ q, p = q + 1 := ⟨p - 1, by omega⟩
        rw [nI_m1]
        have hq := hf q (by omega)
        refine hkk _ _ (dfN_end (f := f) (v := v) hq.2) ⟨hF2, rfl, Or.inl ⟨q, f q + 1, f, by omega, rfl, fun i hi => hf2 i (by omega), ?_, by omega, ?_, rfl⟩⟩
        · dsimp only
          rw [f45, if_neg (by omega), hq.1, nI_1]
        · rw [← hV]
          exact (dfV_end (by omega)).symm
  · rw [if_pos (by decide)]
    unfold F_X6_castWith_138
    exact Ok.gu (by decide) (Ok.ret ⟨hF, Or.inr ⟨show (if (-1 : Int32) = 8 then (1 : Int32) else 0) = 0 by decide, hR⟩⟩)
  · rw [if_neg (by decide), if_pos (by decide)]
    unfold F_X6_castWith_138
    exact Ok.gu (by decide) (Ok.ret ⟨hF, Or.inl ⟨show (if nI 8 = 8 then (1 : Int32) else 0) = 1 by decide, g, hg, hgi⟩⟩)
theorem all65 (w : Wd) {s : Nat → Nat} {N c n : Nat} {hs : Nat → Bool} {cl : Nat → Nat → Bool} {g : Nat → Nat} (hN : N ≤ 40) (hL : LinM w s N c) (hP : CastP s N c hs cl) (h45 : ∀ i, i < 8 → hs i = true → w.2.1 45 i = nI (g i)) : Ok (L_X6_castAll_65 fu (w, nI n, 0)) (fun x => Fr [] [45, 46] w x.2 ∧ x.1 = nI n ∧ ∀ q, q < 8 → x.2.2.1 46 q = plS8 hs g 8 q) := by
  unfold L_X6_castAll_65
  refine Ok.loop (fun a => ∃ i, i ≤ 8 ∧ Fr [] [46] w a.1 ∧ a.2.1 = nI n ∧ a.2.2 = nI i ∧ ∀ q, q < i → a.1.2.1 46 q = plS8 hs g 8 q) (fun a => 41 - a.2.2.toNatClampNeg) ?_ fu _ ⟨0, Nat.zero_le _, Fr.rf _ _ _, rfl, rfl, fun q hq => absurd hq (Nat.not_lt_zero _)⟩ (fu_big (by show 41 - _ < _; omega))
  rintro ⟨w1, v1, v4⟩ ⟨i, hi, hF, e1, e2, ha⟩ kk hkk
  dsimp only at hF e1 e2 ha hkk ⊢
  subst e1 e2
  have hF' : Fr [] [45, 46] w w1 := hF.mono (fun k h => h) (fun k h => by simp only [List.mem_cons, List.not_mem_nil, or_false] at h ⊢; exact Or.inr h)
  unfold F_X6_castAll_65
  refine Ok.ite (fun d => ?_) (fun d => ?_)
  · simp (disch := omega) only [Int32.le_iff_toInt_le, Int32.lt_iff_toInt_lt, ← Int32.toInt_inj, nI_toInt, Int32.reduceToInt] at d
    have e : i = 8 := by omega
    subst e
    exact Ok.ret ⟨hF', rfl, ha⟩
  · simp (disch := omega) only [Int32.le_iff_toInt_le, Int32.lt_iff_toInt_lt, ← Int32.toInt_inj, nI_toInt, Int32.reduceToInt] at d
    have hi8 : i < 8 := by omega
    have put : ∀ y, y = plS8 hs g 8 i → Ok (F_X6_castAll_99 kk w1 (nI n) (nI i) y (nI i)) (fun x => Fr [] [45, 46] w x.2 ∧ x.1 = nI n ∧ ∀ q, q < 8 → x.2.2.1 46 q = plS8 hs g 8 q) := by
      intro y hy
      unfold F_X6_castAll_99
      refine Ok.gu (gd_nI hi8 (by omega)) ?_
      rw [nI_1]
      refine hkk _ ⟨i + 1, by omega, hF.wA (by decide), rfl, rfl, ?_⟩ (by dsimp only; rw [cl_nI (by omega), cl_nI (by omega)]; omega)
      refine upd_more (fun q hq => ?_) ?_
      · simp only [rI_i, rI_a, rI_l, rA_i, rA_a, rA_l, rR_i, rR_a, rR_l, rL_i, rL_a, rL_l, reduceIte, Nat.reduceEqDiff]
        rw [cl_nI (by omega), upd_at, if_neg (by omega)]
        exact ha q hq
      · simp only [rI_i, rI_a, rI_l, rA_i, rA_a, rA_l, rR_i, rR_a, rR_l, rL_i, rL_a, rL_l, reduceIte, Nat.reduceEqDiff]
        rw [cl_nI (by omega), upd_at, if_pos rfl]
        exact hy
    rw [lOfM w1 hN hi8 (hL.fr hF'), Option.bind_some]
    dsimp only
    have hlc := lcA_le s i N
    have hlp := lc_pos (s := s) (p := i) N
    rw [← hP.1 i] at hlp
    refine Ok.ite (fun d4 => ?_) (fun d4 => ?_)
    · simp (disch := omega) only [Int32.le_iff_toInt_le, Int32.lt_iff_toInt_lt, ← Int32.toInt_inj, nI_toInt, Int32.reduceToInt] at d4
      refine put _ (plS8_n (fun x => ?_)).symm
      have := hlp.mpr x.2
      omega
    · simp (disch := omega) only [Int32.le_iff_toInt_le, Int32.lt_iff_toInt_lt, ← Int32.toInt_inj, nI_toInt, Int32.reduceToInt] at d4
      have hq1 : hs i = true := hlp.mp (by omega)
      refine Ok.gu (gd_nI hi8 (by omega)) ?_
      rw [cl_nI (by omega), hF.2 45 (by decide), h45 i hi8 hq1]
      exact put _ (plS8_y ⟨hi8, hq1⟩).symm
theorem castAllM (w : Wd) {s : Nat → Nat} {N c n : Nat} {hs : Nat → Bool} {cl : Nat → Nat → Bool} {g : Nat → Nat} (hN : N ≤ 40) (hc : c ≤ 9) (hL : LinM w s N c) (hP : CastP s N c hs cl) (hn : n ≤ 8) (hg : isCs hs cl n g) (hn0 : n = 0 ↔ ∀ p, p < 8 → hs p = false) : Ok (F_X6_castAll w) (fun x => Fr [] [45, 46] w x.2 ∧ x.1 = nI n ∧ ∀ q, q < 8 → x.2.2.1 46 q = plS8 hs g 8 q) := by
  unfold F_X6_castAll L_X6_castAll_6
  refine Ok.loop (fun a => ∃ i, i ≤ 8 ∧ a.1 = w ∧ a.2.1 = 0 ∧ a.2.2.2 = nI i ∧ ((a.2.2.1 = 0 ∧ ∀ q, q < i → hs q = false) ∨ (a.2.2.1 = 1 ∧ ∃ q, q < i ∧ hs q = true))) (fun a => 41 - a.2.2.2.toNatClampNeg) ?_ fu _ ⟨0, Nat.zero_le _, rfl, rfl, rfl, Or.inl ⟨rfl, fun q hq => absurd hq (Nat.not_lt_zero _)⟩⟩ (fu_big (by show 41 - _ < _; omega))
  rintro ⟨w1, v1, v2, v3⟩ ⟨i, hi, e1, e2, e3, hr⟩ kk hkk
  dsimp only at e1 e2 e3 hr hkk ⊢
  subst e1 e2 e3
  unfold F_X6_castAll_6
  refine Ok.ite (fun d => ?_) (fun d => ?_)
  · simp (disch := omega) only [Int32.le_iff_toInt_le, Int32.lt_iff_toInt_lt, ← Int32.toInt_inj, nI_toInt, Int32.reduceToInt] at d
    have e : i = 8 := by omega
    subst e
    unfold L_X6_castAll_46
    refine Ok.loop (fun a => ∃ m, m ≤ n ∧ Fr [] [45] w1 a.1 ∧ a.2.1 = nI m ∧ ((a.2.2 = 0 ∧ m < n) ∨ (a.2.2 = 1 ∧ m = n ∧ ∀ i, i < 8 → hs i = true → a.1.2.1 45 i = nI (g i)))) (fun a => 41 - a.2.1.toNatClampNeg) ?_ fu _ ⟨0, Nat.zero_le _, Fr.rf _ _ _, rfl, ?_⟩ (fu_big (by show 41 - _ < _; omega))
    · rintro ⟨w2, u1, u3⟩ ⟨m, hm, hF, e1, hr2⟩ k2 hk2
      dsimp only at hF e1 hr2 hk2 ⊢
      subst e1
      have hF' : Fr [] [45, 46] w1 w2 := hF.mono (fun k h => h) (fun k h => by simp only [List.mem_cons, List.not_mem_nil, or_false] at h ⊢; exact Or.inl h)
      unfold F_X6_castAll_46
      rcases hr2 with ⟨rfl, hlt⟩ | ⟨rfl, rfl, h45⟩
      · rw [if_pos rfl, nI_1]
        refine Ok.bind (with_M w2 (P := m + 1) hN hc (hL.fr hF') hP (by omega) (by omega)) ?_
        rintro ⟨r, w3⟩ ⟨g1, g2⟩
        dsimp only at g1 g2 ⊢
        rcases g2 with ⟨rfl, g', g3, g4⟩ | ⟨rfl, g3⟩
        · have e : m + 1 = n := by
            rcases Nat.lt_or_ge (m + 1) n with q | q
            · rw [hg.2 (m + 1) q] at g3; cases g3
            · omega
          subst e
          rw [hg.1] at g3
          injection g3 with g3
          subst g3
          exact hk2 _ ⟨m + 1, Nat.le_refl _, hF.tr g1, rfl, Or.inr ⟨rfl, rfl, fun i hi _ => g4 i hi⟩⟩ (by dsimp only; rw [cl_nI (by omega), cl_nI (by omega)]; omega)
        · have e : m + 1 < n := by
            rcases Nat.lt_or_ge (m + 1) n with q | q
            · exact q
            · have : m + 1 = n := by omega
              rw [this, hg.1] at g3
              cases g3
          exact hk2 _ ⟨m + 1, hlt, hF.tr g1, rfl, Or.inl ⟨rfl, e⟩⟩ (by dsimp only; rw [cl_nI (by omega), cl_nI (by omega)]; omega)
      · rw [if_neg one0]
        refine (all65 w2 hN (hL.fr hF') hP h45).mono ?_
        rintro x ⟨g1, g2⟩
        exact ⟨hF'.tr g1, g2⟩
    · dsimp only
      rcases hr with ⟨rfl, h⟩ | ⟨rfl, q, hq, h⟩
      · refine Or.inr ⟨by rw [if_pos rfl], (hn0.mpr h).symm, fun i hi hx => ?_⟩
        rw [h i hi] at hx
        cases hx
      · refine Or.inl ⟨by rw [if_neg one0], ?_⟩
        rcases Nat.eq_zero_or_pos n with e | e
        · rw [hn0.mp e q hq] at h
          cases h
        · exact e
  · simp (disch := omega) only [Int32.le_iff_toInt_le, Int32.lt_iff_toInt_lt, ← Int32.toInt_inj, nI_toInt, Int32.reduceToInt] at d
    have hi8 : i < 8 := by omega
    refine Ok.ite (fun d2 => ?_) (fun d2 => ?_)
    · rcases hr with ⟨rfl, h⟩ | ⟨rfl, h⟩
      · rw [lOfM w1 hN hi8 hL, Option.bind_some]
        dsimp only
        have hlc := lcA_le s i N
        have hlp := lc_pos (s := s) (p := i) N
        rw [← hP.1 i] at hlp
        rw [nI_1]
        refine hkk _ ⟨i + 1, by omega, rfl, rfl, rfl, ?_⟩ (by dsimp only; rw [cl_nI (by omega), cl_nI (by omega)]; omega)
        dsimp only
        by_cases x : hs i = true
        · have := hlp.mpr x
          exact Or.inr ⟨by rw [if_neg (by simp (disch := omega) only [Int32.le_iff_toInt_le, Int32.lt_iff_toInt_lt, ← Int32.toInt_inj, nI_toInt, Int32.reduceToInt]; omega)], i, by omega, x⟩
        · have hx : ¬ 0 < lcA s i N := fun y => x (hlp.mp y)
          exact Or.inl ⟨by rw [if_pos (by simp (disch := omega) only [Int32.le_iff_toInt_le, Int32.lt_iff_toInt_lt, ← Int32.toInt_inj, nI_toInt, Int32.reduceToInt]; omega)], upd_more h (by simpa using x)⟩
      · exact absurd d2 one0
    · rcases hr with ⟨rfl, h⟩ | ⟨rfl, q, hq, h⟩
      · exact absurd rfl d2
      · unfold F_X6_castAll_24 F_X6_castAll_29
        rw [nI_1]
        exact hkk _ ⟨i + 1, by omega, rfl, rfl, rfl, Or.inr ⟨rfl, q, by omega, h⟩⟩ (by dsimp only; rw [cl_nI (by omega), cl_nI (by omega)]; omega)
