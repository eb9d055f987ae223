/-! the reference: who can not be taken over -/
theorem last40 : ∀ A, A < 41 → ((nI A - 1).toInt64).toInt = (A : Int) - 1 := by decide +kernel
theorem from_M (w : Wd) {s : Nat → Nat} {N c p fr : Nat} (hN : N ≤ 40) (hfr : fr ≤ N) (hp : p < 8) (hL : LinM w s N c) : Ok (F_X6_hasFrom w (nI p) (nI fr)) (fun x => x.2 = w ∧ ((x.1 = 1 ∧ lfP s N fr p) ∨ (x.1 = 0 ∧ ¬ lfP s N fr p))) := by
  obtain ⟨h35, h31, h43⟩ := hL
  unfold F_X6_hasFrom L_X6_hasFrom_5
  refine Ok.loop (fun a => ∃ k, fr ≤ k ∧ k ≤ N ∧ a.1 = w ∧ a.2.1 = nI p ∧ a.2.2.2 = nI k ∧ ((a.2.2.1 = 0 ∧ ∀ k', k' < k → fr ≤ k' → ¬ (s k').testBit p = true) ∨ (a.2.2.1 = 1 ∧ lfP s N fr p))) (fun a => 41 - a.2.2.2.toNatClampNeg) ?_ fu _ ⟨fr, Nat.le_refl _, hfr, rfl, rfl, rfl, Or.inl ⟨rfl, fun k h1 h2 => by omega⟩⟩ (fu_big (by show 41 - _ < _; omega))
  rintro ⟨w1, v1, v3, v4⟩ ⟨k, hfk, hk, e1, e2, e3, hr⟩ kk hkk
  dsimp only at e1 e2 e3 hr hkk ⊢
  subst e1 e2 e3
  unfold F_X6_hasFrom_5
  rw [h35]
  refine Ok.ite (fun d => ?_) (fun d => ?_)
  · simp (disch := omega) only [Int32.le_iff_toInt_le, Int32.lt_iff_toInt_lt, ← Int32.toInt_inj, nI_toInt, Int32.reduceToInt] at d
    have e : k = N := by omega
    subst e
    rcases hr with ⟨rfl, h⟩ | ⟨rfl, h⟩
    · refine Ok.gu isB_0 (Ok.ret ⟨rfl, Or.inr ⟨rfl, ?_⟩⟩)
      rintro ⟨k', h1, h2, h3⟩
      exact h k' h1 h2 h3
    · exact Ok.gu isB_1 (Ok.ret ⟨rfl, Or.inl ⟨rfl, h⟩⟩)
  · simp (disch := omega) only [Int32.le_iff_toInt_le, Int32.lt_iff_toInt_lt, ← Int32.toInt_inj, nI_toInt, Int32.reduceToInt] at d
    have hkN : k < N := by omega
    obtain ⟨a1, a2⟩ := h43 k hkN
    rcases hr with ⟨rfl, h⟩ | ⟨rfl, h⟩
    · rw [if_pos rfl]
      refine Ok.gu (gd_nI (by omega) (by omega)) ?_
      rw [cl_nI (by omega), a1, bit_at _ a2 _ hp, nI_1]
      by_cases x : (s k).testBit p = true
      · rw [show (if nI (bN (s k) p) = 1 then (1 : Int32) else 0) = 1 from if_pos (bN_1.mpr x)]
        exact hkk (w1, nI p, 1, nI (k + 1)) ⟨k + 1, by omega, by omega, rfl, rfl, rfl, Or.inr ⟨rfl, k, hkN, hfk, x⟩⟩ (by dsimp only; rw [cl_nI (by omega), cl_nI (by omega)]; omega)
      · rw [show (if nI (bN (s k) p) = 1 then (1 : Int32) else 0) = 0 from if_neg (fun y => x (bN_1.mp y))]
        exact hkk (w1, nI p, 0, nI (k + 1)) ⟨k + 1, by omega, by omega, rfl, rfl, rfl, Or.inl ⟨rfl, upd_more h (fun _ => x)⟩⟩ (by dsimp only; rw [cl_nI (by omega), cl_nI (by omega)]; omega)
    · rw [if_neg one0]
      unfold F_X6_hasFrom_33 F_X6_hasFrom_38
      rw [nI_1]
      exact hkk _ ⟨k + 1, by omega, by omega, rfl, rfl, rfl, Or.inr ⟨rfl, h⟩⟩ (by dsimp only; rw [cl_nI (by omega), cl_nI (by omega)]; omega)
theorem taken_M (w : Wd) {s : Nat → Nat} {N c n fr p : Nat} {a : Nat → Int32} {who : Int32} (hN : N ≤ 40) (hfr : fr ≤ N) (hc : c ≤ 9) (hn : n ≤ 8) (hp : p < 8) (hL : LinM w s N c) (h46 : ∀ q, q < 8 → w.2.1 46 q = a q) (hwho : a p = who) : Ok (F_X6_isTaken w (nI p) (nI fr) (nI n)) (fun x => x.2 = w ∧ ((x.1 = 1 ∧ tkP s N c fr a n who p) ∨ (x.1 = 0 ∧ ¬ tkP s N c fr a n who p))) := by
  unfold F_X6_isTaken L_X6_isTaken_3
  refine Ok.loop (fun x => ∃ o, o ≤ n ∧ x.1 = w ∧ x.2.1 = nI p ∧ x.2.2.1 = nI fr ∧ x.2.2.2.1 = nI n ∧ x.2.2.2.2 = nI o ∧ ∀ o', o' < o → ¬ (¬ nI o' = who ∧ ∀ q, q < 8 → a q = nI o' → apP s N c q p fr)) (fun x => 41 - x.2.2.2.2.toNatClampNeg) ?_ fu _ ⟨0, Nat.zero_le _, rfl, rfl, rfl, rfl, rfl, fun o h => absurd h (Nat.not_lt_zero _)⟩ (fu_big (by show 41 - _ < _; omega))
  rintro ⟨w1, v1, v2, v3, v4⟩ ⟨o, ho, e1, e2, e3, e4, e5, hno⟩ kk hkk
  dsimp only at e1 e2 e3 e4 e5 hno hkk ⊢
  subst e1 e2 e3 e4 e5
  unfold F_X6_isTaken_3
  refine Ok.ite (fun d => ?_) (fun d => ?_)
  · simp (disch := omega) only [Int32.le_iff_toInt_le, Int32.lt_iff_toInt_lt, ← Int32.toInt_inj, nI_toInt, Int32.reduceToInt] at d
    refine Ok.ret ⟨rfl, Or.inr ⟨rfl, ?_⟩⟩
    rintro ⟨o', h1, h2⟩
    exact hno o' (by omega) h2
  · simp (disch := omega) only [Int32.le_iff_toInt_le, Int32.lt_iff_toInt_lt, ← Int32.toInt_inj, nI_toInt, Int32.reduceToInt] at d
    refine Ok.gu (gd_nI hp (by omega)) ?_
    rw [cl_nI (by omega), h46 p hp, hwho]
    refine Ok.let (fun y ey => ?_)
    unfold L_X6_isTaken_30
    refine Ok.loop (fun x => ∃ q, q ≤ 8 ∧ x.1 = w1 ∧ x.2.1 = nI p ∧ x.2.2.1 = nI fr ∧ x.2.2.2.1 = nI n ∧ x.2.2.2.2.1 = nI o ∧ x.2.2.2.2.2.2 = nI q ∧ ((x.2.2.2.2.2.1 = 1 ∧ ¬ nI o = who ∧ ∀ q', q' < q → a q' = nI o → apP s N c q' p fr) ∨ (x.2.2.2.2.2.1 = 0 ∧ ¬ (¬ nI o = who ∧ ∀ q, q < 8 → a q = nI o → apP s N c q p fr)))) (fun x => 41 - x.2.2.2.2.2.2.toNatClampNeg) ?_ fu _ ⟨0, Nat.zero_le _, rfl, rfl, rfl, rfl, rfl, rfl, ?_⟩ (fu_big (by show 41 - _ < _; omega))
    · rintro ⟨w2, u1, u2, u3, u4, u5, u6⟩ ⟨q, hq, e1, e2, e3, e4, e5, e6, hr⟩ k2 hk2
      dsimp only at e1 e2 e3 e4 e5 e6 hr hk2 ⊢
      subst e1 e2 e3 e4 e5 e6
      unfold F_X6_isTaken_30
      refine Ok.ite (fun d2 => ?_) (fun d2 => ?_)
      · simp (disch := omega) only [Int32.le_iff_toInt_le, Int32.lt_iff_toInt_lt, ← Int32.toInt_inj, nI_toInt, Int32.reduceToInt] at d2
        have e : q = 8 := by omega
        subst e
        rcases hr with ⟨rfl, h1, h2⟩ | ⟨rfl, h⟩
        · rw [if_neg one0]
          exact Ok.ret ⟨rfl, Or.inl ⟨rfl, o, by omega, h1, h2⟩⟩
        · rw [if_pos rfl, nI_1]
          exact hkk _ ⟨o + 1, by omega, rfl, rfl, rfl, rfl, rfl, upd_more hno h⟩ (by dsimp only; rw [cl_nI (by omega), cl_nI (by omega)]; omega)
      · simp (disch := omega) only [Int32.le_iff_toInt_le, Int32.lt_iff_toInt_lt, ← Int32.toInt_inj, nI_toInt, Int32.reduceToInt] at d2
        have hq8 : q < 8 := by omega
        rcases hr with ⟨rfl, h1, h2⟩ | ⟨rfl, h⟩
        · rw [if_neg one0]
          refine Ok.gu (gd_nI hq8 (by omega)) ?_
          rw [cl_nI (by omega), h46 q hq8]
          refine Ok.ite (fun d3 => ?_) (fun d3 => ?_)
          · refine Ok.bind (both_M w2 hN hfr hq8 hp hc hL) ?_
            rintro ⟨r, w3⟩ ⟨e, hr⟩
            dsimp only at e hr ⊢
            subst e
            rw [nI_1]
            rcases hr with ⟨rfl, h⟩ | ⟨rfl, h⟩
            · rw [if_neg one0]
              exact hk2 _ ⟨q + 1, by omega, rfl, rfl, rfl, rfl, rfl, rfl, Or.inl ⟨rfl, h1, upd_more h2 (fun _ => h)⟩⟩ (by dsimp only; rw [cl_nI (by omega), cl_nI (by omega)]; omega)
            · rw [if_pos rfl]
              exact hk2 _ ⟨q + 1, by omega, rfl, rfl, rfl, rfl, rfl, rfl, Or.inr ⟨rfl, fun x => h (x.2 q hq8 d3)⟩⟩ (by dsimp only; rw [cl_nI (by omega), cl_nI (by omega)]; omega)
          · unfold F_X6_isTaken_65 F_X6_isTaken_70
            rw [nI_1]
            exact hk2 _ ⟨q + 1, by omega, rfl, rfl, rfl, rfl, rfl, rfl, Or.inl ⟨rfl, h1, upd_more h2 (fun x => absurd x d3)⟩⟩ (by dsimp only; rw [cl_nI (by omega), cl_nI (by omega)]; omega)
        · rw [if_pos rfl]
          unfold F_X6_isTaken_69 F_X6_isTaken_70
          rw [nI_1]
          exact hk2 _ ⟨q + 1, by omega, rfl, rfl, rfl, rfl, rfl, rfl, Or.inr ⟨rfl, h⟩⟩ (by dsimp only; rw [cl_nI (by omega), cl_nI (by omega)]; omega)
    · dsimp only
      by_cases x : nI o = who
      · rw [if_pos x] at ey
        exact Or.inr ⟨ey, fun z => z.1 x⟩
      · rw [if_neg x] at ey
        exact Or.inl ⟨ey, x, fun q h => absurd h (Nat.not_lt_zero _)⟩
theorem ill61 (w : Wd) {s : Nat → Nat} {N c n fr : Nat} {a : Nat → Int32} {who : Int32} {b : Nat → Bool} (hN : N ≤ 40) (hfr : fr ≤ N) (hc : c ≤ 9) (hn : n ≤ 8) (hL : LinM w s N c) (h46 : ∀ q, q < 8 → w.2.1 46 q = a q) (hwho : who = -6 ∨ ∃ j, j < 100 ∧ who = nI j) (hb : ∀ p, b p = true ↔ ¬ who = -6 ∧ ilP s N c fr a n who p) : L_X6_ill_61 fu (w, nI fr, nI n, who, 0, 0) = some (nI (cntW b 8), w) := by
  apply Ok.eq
  unfold L_X6_ill_61
  refine Ok.loop (fun x => ∃ p, p ≤ 8 ∧ x.1 = w ∧ x.2.1 = nI fr ∧ x.2.2.1 = nI n ∧ x.2.2.2.1 = who ∧ x.2.2.2.2.1 = nI (cntW b p) ∧ x.2.2.2.2.2 = nI p) (fun x => 41 - x.2.2.2.2.2.toNatClampNeg) ?_ fu _ ⟨0, Nat.zero_le _, rfl, rfl, rfl, rfl, rfl, rfl⟩ (fu_big (by show 41 - _ < _; omega))
  rintro ⟨w1, v2, v4, v5, v6, v7⟩ ⟨p, hp, e1, e2, e3, e4, e5, e6⟩ kk hkk
  dsimp only at e1 e2 e3 e4 e5 e6 hkk ⊢
  subst e1 e2 e3 e4 e5 e6
  unfold F_X6_ill_61
  refine Ok.ite (fun d => ?_) (fun d => ?_)
  · simp (disch := omega) only [Int32.le_iff_toInt_le, Int32.lt_iff_toInt_lt, ← Int32.toInt_inj, nI_toInt, Int32.reduceToInt] at d
    have e : p = 8 := by omega
    subst e
    exact Ok.ret rfl
  · simp (disch := omega) only [Int32.le_iff_toInt_le, Int32.lt_iff_toInt_lt, ← Int32.toInt_inj, nI_toInt, Int32.reduceToInt] at d
    have hp8 : p < 8 := by omega
    have go : ∀ x : Nat, x = cntW b (p + 1) → Ok (kk (w1, nI fr, nI n, v5, nI x, nI p + 1)) (fun x => x = (nI (cntW b 8), w1)) := by
      intro x hx
      rw [nI_1, hx]
      exact hkk _ ⟨p + 1, by omega, rfl, rfl, rfl, rfl, rfl, rfl⟩ (by dsimp only; rw [cl_nI (by omega), cl_nI (by omega)]; omega)
    have no : ¬ (¬ v5 = -6 ∧ ilP s N c fr a n v5 p) → Ok (F_X6_ill_125 kk w1 (nI fr) (nI n) v5 (nI p) (nI (cntW b p))) (fun x => x = (nI (cntW b 8), w1)) := by
      intro h
      unfold F_X6_ill_125 F_X6_ill_126
      rw [show nI (cntW b p) + 0 = nI (cntW b p + 0) from nI_add _ 0]
      apply go
      simp only [cntW]
      rw [if_neg (fun e => h ((hb p).mp e))]
    have no2 : ¬ (¬ v5 = -6 ∧ ilP s N c fr a n v5 p) → Ok (F_X6_ill_99 kk w1 (nI fr) (nI n) v5 (nI (cntW b p)) (nI p)) (fun x => x = (nI (cntW b 8), w1)) := by
      intro h
      unfold F_X6_ill_99 F_X6_ill_100
      rw [if_pos rfl]
      exact no h
    refine Ok.ite (fun d2 => ?_) (fun d2 => ?_)
    · apply no2
      rintro ⟨x, -⟩
      rcases hwho with h | ⟨j, hj, rfl⟩
      · exact x h
      · simp (disch := omega) only [Int32.le_iff_toInt_le, Int32.lt_iff_toInt_lt, ← Int32.toInt_inj, nI_toInt, Int32.reduceToInt] at d2
        omega
    · have hne : ¬ v5 = -6 := fun x => by rw [x] at d2; exact d2 (by decide)
      refine Ok.gu (gd_nI hp8 (by omega)) ?_
      rw [cl_nI (by omega), h46 p hp8]
      refine Ok.ite (fun d3 => ?_) (fun d3 => no2 (fun x => d3 x.2.1))
      refine Ok.bind (from_M w1 hN hfr hp8 hL) ?_
      rintro ⟨r, w2⟩ ⟨e, hr⟩
      dsimp only at e hr ⊢
      subst e
      rcases hr with ⟨rfl, hf⟩ | ⟨rfl, hf⟩
      · rw [if_neg (show ¬ (if (1 : Int32) = 0 then (0 : Int32) else 1) = 0 by decide)]
        refine Ok.bind (taken_M w2 hN hfr hc hn hp8 hL h46 d3) ?_
        rintro ⟨r, w3⟩ ⟨e, hr⟩
        dsimp only at e hr ⊢
        subst e
        rcases hr with ⟨rfl, ht⟩ | ⟨rfl, ht⟩
        · show Ok (kk (w3, nI fr, nI n, v5, nI (cntW b p) + (if (1 : Int32) = 0 then (1 : Int32) else 0), nI p + 1)) _
          rw [if_neg one0, show nI (cntW b p) + 0 = nI (cntW b p + 0) from nI_add _ 0]
          apply go
          simp only [cntW]
          rw [if_neg (fun e => ((hb p).mp e).2.2.2 ht)]
        · show Ok (kk (w3, nI fr, nI n, v5, nI (cntW b p) + (if (0 : Int32) = 0 then (1 : Int32) else 0), nI p + 1)) _
          rw [if_pos rfl, nI_1]
          apply go
          simp only [cntW]
          rw [if_pos ((hb p).mpr ⟨hne, d3, hf, ht⟩)]
      · rw [if_pos (show (if (0 : Int32) = 0 then (0 : Int32) else 1) = 0 by decide)]
        exact no (fun x => hf x.2.2.1)
