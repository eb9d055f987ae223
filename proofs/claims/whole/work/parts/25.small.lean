theorem one0 : ¬ (1 : Int32) = 0 := by decide
theorem i32_nat {x : Int32} (h : 0 ≤ x.toInt) : ∃ n : Nat, n < 2 ^ 31 ∧ x = nI n ∧ x.toInt = n := by
  rcases i32_cases x with q | ⟨n, h1, rfl⟩
  · omega
  · exact ⟨n, h1, rfl, nI_toInt h1⟩
theorem RR.sc {l1 k1 c1 s1 m1 : Int32} {ap tg sc sl sm : Nat → Int32} {l2 k2 c2 s2 m2 : Int32} {my sc2 sl2 sm2 : Nat → Int32} (h : RR l1 k1 c1 s1 m1 ap tg sc sl sm l2 k2 c2 s2 m2 my sc2 sl2 sm2) : ∃ s, s ≤ 6 ∧ s1 = nI s ∧ s2 = nI s ∧ (∀ i, i < s → sc2 i = sc i ∧ ∃ v, v < 256 ∧ sc i = nI v) ∧ ∀ (s' : Nat) (f f2 : Nat → Int32), s' ≤ 6 → (∀ i, i < s' → f2 i = f i ∧ ∃ v, v < 256 ∧ f i = nI v) → RR l1 k1 c1 (nI s') m1 ap tg f sl sm l2 k2 c2 (nI s') m2 my f2 sl2 sm2 := by
  obtain ⟨⟨e1, e2, e3, e4, e5⟩, hl, hk, hc, ⟨s, hs, hs1, hs2⟩, hm, hy⟩ := h
  exact ⟨s, hs, hs1, e4.trans hs1, hs2, fun s' f f2 h1 h2 => ⟨⟨e1, e2, e3, rfl, e5⟩, hl, hk, hc, ⟨s', h1, rfl, h2⟩, hm, hy⟩⟩
theorem RR.si {l1 k1 c1 s1 m1 : Int32} {ap tg sc sl sm : Nat → Int32} {l2 k2 c2 s2 m2 : Int32} {my sc2 sl2 sm2 : Nat → Int32} (h : RR l1 k1 c1 s1 m1 ap tg sc sl sm l2 k2 c2 s2 m2 my sc2 sl2 sm2) : ∃ m, m ≤ 6 ∧ m1 = nI m ∧ m2 = nI m ∧ (∀ i, i < m → sl2 i = sl i ∧ sm2 i = sm i ∧ (∃ v, v < 40 ∧ sl i = nI v) ∧ ∃ v, v ≤ 8 ∧ sm i = nI v) ∧ ∀ (m' : Nat) (f g f2 g2 : Nat → Int32), m' ≤ 6 → (∀ i, i < m' → f2 i = f i ∧ g2 i = g i ∧ (∃ v, v < 40 ∧ f i = nI v) ∧ ∃ v, v ≤ 8 ∧ g i = nI v) → RR l1 k1 c1 s1 (nI m') ap tg sc f g l2 k2 c2 s2 (nI m') my sc2 f2 g2 := by
  obtain ⟨⟨e1, e2, e3, e4, e5⟩, hl, hk, hc, hs, ⟨m, hm, hm1, hm2⟩, hy⟩ := h
  exact ⟨m, hm, hm1, e5.trans hm1, hm2, fun m' f g f2 g2 h1 h2 => ⟨⟨e1, e2, e3, e4, rfl⟩, hl, hk, hc, hs, ⟨m', h1, rfl, h2⟩, hy⟩⟩
theorem RR.lk {l1 k1 c1 s1 m1 : Int32} {ap tg sc sl sm : Nat → Int32} {l2 k2 c2 s2 m2 : Int32} {my sc2 sl2 sm2 : Nat → Int32} (h : RR l1 k1 c1 s1 m1 ap tg sc sl sm l2 k2 c2 s2 m2 my sc2 sl2 sm2) : ∃ l k c, l ≤ 2 ∧ k ≤ 8 ∧ c ≤ 9 ∧ l1 = nI l ∧ k1 = nI k ∧ c1 = nI c ∧ l2 = nI l ∧ k2 = nI k ∧ c2 = nI c ∧ ∀ l' k' c', l' ≤ 2 → k' ≤ 8 → c' ≤ 9 → RR (nI l') (nI k') (nI c') s1 m1 ap tg sc sl sm (nI l') (nI k') (nI c') s2 m2 my sc2 sl2 sm2 := by
  obtain ⟨⟨e1, e2, e3, e4, e5⟩, ⟨l, hl, hl1⟩, ⟨k, hk, hk1⟩, ⟨c, hc, hc1⟩, hs, hm, hy⟩ := h
  exact ⟨l, k, c, hl, hk, hc, hl1, hk1, hc1, e1.trans hl1, e2.trans hk1, e3.trans hc1, fun l' k' c' h1 h2 h3 => ⟨⟨rfl, rfl, rfl, e4, e5⟩, ⟨l', h1, rfl⟩, ⟨k', h2, rfl⟩, ⟨c', h3, rfl⟩, hs, hm, hy⟩⟩
theorem upd_more {P : Nat → Prop} {s : Nat} (h : ∀ i, i < s → P i) (hs : P s) : ∀ i, i < s + 1 → P i := fun i hi => by
  by_cases e : i = s
  · rw [e]; exact hs
  · exact h i (by omega)
theorem eqv_scene (p1 : Int32) : Eqv (fun w => F_X5_scene w p1) (fun w => F_X6_scene w p1) := by
  rintro w ⟨hpad, hr, hi0, hi1⟩
  show Ok (F_X5_scene w p1) _
  unfold F_X5_scene
  rw [X5_within, Option.bind_some, show (255 : Int32).toInt = 255 from rfl]
  dsimp only
  by_cases hp : 0 ≤ p1.toInt ∧ p1.toInt ≤ 255
  · rw [if_pos hp, if_neg (by decide)]
    obtain ⟨v, hv, rfl, hv2⟩ := i32_nat hp.1
    obtain ⟨s, hs, e1, e2, hsc, hput⟩ := RR.sc hr
    unfold F_X3_addScene
    rw [e1]
    by_cases h6 : s < 6
    · rw [if_pos (by simp (disch := omega) only [Int32.le_iff_toInt_le, Int32.lt_iff_toInt_lt, ← Int32.toInt_inj, nI_toInt, Int32.reduceToInt]; omega), gd_nI h6 (by omega)]
      refine Ok.ret ?_
      show Ok (F_X6_scene (wI (wA w 11 (nI s) (nI v)) 11 (nI s + 1)) (nI v)) _
      unfold F_X6_scene
      rw [X6_within, Option.bind_some, if_pos (show (0 : Int64).toInt ≤ (nI v).toInt ∧ (nI v).toInt ≤ (255 : Int64).toInt from hp), if_neg one0]
      dsimp only
      rw [show (wI (wA w 11 (nI s) (nI v)) 11 (nI s + 1)).1 32 = nI s from e2, if_neg (by simp (disch := omega) only [Int32.le_iff_toInt_le, Int32.lt_iff_toInt_lt, ← Int32.toInt_inj, nI_toInt, Int32.reduceToInt]; omega), gd_nI h6 (by omega)]
      refine Ok.ret ⟨rfl, hpad, ?_, hi0, hi1⟩
      have := hput (s + 1) (upd (w.2.1 11) s (nI v)) (upd (w.2.1 38) s (nI v)) (by omega) (upd_more (fun i hi => by rw [upd_at, upd_at, if_neg (by omega), if_neg (by omega)]; exact hsc i hi) (by rw [upd_at, upd_at, if_pos rfl, if_pos rfl]; exact ⟨rfl, v, by omega, rfl⟩))
      rw [← nI_1] at this
      rw [show s = (nI s).toNatClampNeg from (cl_nI (by omega)).symm] at this
      rw [cl_nI (show s < 2 ^ 31 by omega)] at this
      unfold RulesRel
      simp only [rI_i, rI_a, rI_l, rA_i, rA_a, rA_l, rR_i, rR_a, rR_l, rL_i, rL_a, rL_l, reduceIte, Nat.reduceEqDiff]
      rw [cl_nI (show s < 2 ^ 31 by omega)]
      exact this
    · have : s = 6 := by omega
      subst this
      rw [if_neg (by decide)]
      refine Ok.ret ?_
      show Ok (F_X6_scene w (nI v)) _
      unfold F_X6_scene
      rw [X6_within, Option.bind_some, if_pos (show (0 : Int64).toInt ≤ (nI v).toInt ∧ (nI v).toInt ≤ (255 : Int64).toInt from hp), if_neg one0]
      dsimp only
      rw [e2, if_pos (by decide)]
      exact Ok.ret ⟨rfl, hpad, hr, hi0, hi1⟩
  · rw [if_neg hp, if_pos rfl]
    refine Ok.ret ?_
    show Ok (F_X6_scene w p1) _
    unfold F_X6_scene
    rw [X6_within, Option.bind_some, if_neg (show ¬ ((0 : Int64).toInt ≤ p1.toInt ∧ p1.toInt ≤ (255 : Int64).toInt) from hp), if_pos rfl]
    exact Ok.ret ⟨rfl, hpad, hr, hi0, hi1⟩
theorem eqv_strike : Eqv (fun w => F_X5_strike w) (fun w => F_X6_strike w) := by
  rintro w ⟨hpad, hr, hi0, hi1⟩
  obtain ⟨s, hs, e1, e2, hsc, hput⟩ := RR.sc hr
  show Ok (F_X5_strike w) _
  unfold F_X5_strike
  refine Ok.ret ?_
  show Ok (F_X6_strike (wI w 11 0)) _
  unfold F_X6_strike
  refine Ok.ret ⟨?_, hpad, ?_, hi0, hi1⟩
  · exact e2.trans e1.symm
  · exact hput 0 _ _ (by omega) (fun i hi => absurd hi (Nat.not_lt_zero _))
theorem eqv_forget : Eqv (fun w => F_X5_forget w) (fun w => F_X6_forget w) := by
  rintro w ⟨hpad, hr, hi0, hi1⟩
  obtain ⟨s, hs, e1, e2, hsc, hput⟩ := RR.si hr
  show Ok (F_X5_forget w) _
  unfold F_X5_forget
  refine Ok.ret ?_
  show Ok (F_X6_forget (wI w 12 0)) _
  unfold F_X6_forget
  refine Ok.ret ⟨?_, hpad, ?_, hi0, hi1⟩
  · exact e2.trans e1.symm
  · exact hput 0 _ _ _ _ (by omega) (fun i hi => absurd hi (Nat.not_lt_zero _))
theorem eqv_wipe : Eqv (fun w => F_X5_wipe w) (fun w => F_X6_wipe w) := by
  rintro w ⟨⟨g, n, hc, hm⟩, hr, hi0, hi1⟩
  show Ok (F_X5_wipe w) _
  unfold F_X5_wipe
  refine Ok.ret ?_
  show Ok (F_X6_wipe (wI w 0 0)) _
  unfold F_X6_wipe
  refine Ok.ret ⟨?_, ⟨g, 0, ⟨rfl, Nat.zero_le _, fun i hi => absurd hi (Nat.not_lt_zero _)⟩, ⟨rfl, Nat.zero_le _, fun i hi => absurd hi (Nat.not_lt_zero _)⟩⟩, hr, hi0, hi1⟩
  exact hm.1.trans hc.1.symm
theorem eqv_seen (p1 p2 : Int32) : Eqv (fun w => F_X5_seen w p1 p2) (fun w => F_X6_seen w p1 p2) := by
  rintro w ⟨hpad, hr, hi0, hi1⟩
  show Ok (F_X5_seen w p1 p2) _
  unfold F_X5_seen
  rw [X5_within, Option.bind_some, show (39 : Int32).toInt = 39 from rfl]
  dsimp only
  by_cases hp : 0 ≤ p1.toInt ∧ p1.toInt ≤ 39
  · rw [if_pos hp, if_neg (by decide), X5_within, Option.bind_some, show (8 : Int32).toInt = 8 from rfl]
    dsimp only
    by_cases hq : 0 ≤ p2.toInt ∧ p2.toInt ≤ 8
    · rw [if_pos hq, if_neg (by decide)]
      obtain ⟨v, hv, rfl, hv2⟩ := i32_nat hp.1
      obtain ⟨u, hu, rfl, hu2⟩ := i32_nat hq.1
      obtain ⟨s, hs, e1, e2, hsc, hput⟩ := RR.si hr
      unfold F_X3_addSight
      rw [e1]
      by_cases h6 : s < 6
      · rw [if_pos (by simp (disch := omega) only [Int32.le_iff_toInt_le, Int32.lt_iff_toInt_lt, ← Int32.toInt_inj, nI_toInt, Int32.reduceToInt]; omega), gd_nI h6 (by omega)]
        refine Ok.ret ?_
        show Ok (F_X6_seen (wI (wA (wA w 12 (nI s) (nI v)) 13 (nI s) (nI u)) 12 (nI s + 1)) (nI v) (nI u)) _
        unfold F_X6_seen
        rw [X6_within, Option.bind_some, if_pos (show (0 : Int64).toInt ≤ (nI v).toInt ∧ (nI v).toInt ≤ (39 : Int64).toInt from hp), if_neg one0]
        rw [X6_within, Option.bind_some, if_pos (show (0 : Int64).toInt ≤ (nI u).toInt ∧ (nI u).toInt ≤ (8 : Int64).toInt from hq), if_neg one0]
        dsimp only
        rw [show (wI (wA (wA w 12 (nI s) (nI v)) 13 (nI s) (nI u)) 12 (nI s + 1)).1 33 = nI s from e2, if_neg (by simp (disch := omega) only [Int32.le_iff_toInt_le, Int32.lt_iff_toInt_lt, ← Int32.toInt_inj, nI_toInt, Int32.reduceToInt]; omega), gd_nI h6 (by omega)]
        refine Ok.ret ⟨rfl, hpad, ?_, hi0, hi1⟩
        have := hput (s + 1) (upd (w.2.1 12) s (nI v)) (upd (w.2.1 13) s (nI u)) (upd (w.2.1 39) s (nI v)) (upd (w.2.1 40) s (nI u)) (by omega) (upd_more (fun i hi => by rw [upd_at, upd_at, upd_at, upd_at, if_neg (by omega), if_neg (by omega), if_neg (by omega), if_neg (by omega)]; exact hsc i hi) (by rw [upd_at, upd_at, upd_at, upd_at, if_pos rfl, if_pos rfl, if_pos rfl, if_pos rfl]; exact ⟨rfl, rfl, ⟨v, by omega, rfl⟩, u, by omega, rfl⟩))
        rw [← nI_1] at this
        unfold RulesRel
        simp only [rI_i, rI_a, rI_l, rA_i, rA_a, rA_l, rR_i, rR_a, rR_l, rL_i, rL_a, rL_l, reduceIte, Nat.reduceEqDiff]
        rw [cl_nI (show s < 2 ^ 31 by omega)]
        exact this
      · have : s = 6 := by omega
        subst this
        rw [if_neg (by decide)]
        refine Ok.ret ?_
        show Ok (F_X6_seen w (nI v) (nI u)) _
        unfold F_X6_seen
        rw [X6_within, Option.bind_some, if_pos (show (0 : Int64).toInt ≤ (nI v).toInt ∧ (nI v).toInt ≤ (39 : Int64).toInt from hp), if_neg one0]
        rw [X6_within, Option.bind_some, if_pos (show (0 : Int64).toInt ≤ (nI u).toInt ∧ (nI u).toInt ≤ (8 : Int64).toInt from hq), if_neg one0]
        dsimp only
        rw [e2, if_pos (by decide)]
        exact Ok.ret ⟨rfl, hpad, hr, hi0, hi1⟩
    · rw [if_neg hq, if_pos rfl]
      unfold F_X5_seen_18
      refine Ok.ret ?_
      show Ok (F_X6_seen w p1 p2) _
      unfold F_X6_seen
      rw [X6_within, Option.bind_some, if_pos (show (0 : Int64).toInt ≤ p1.toInt ∧ p1.toInt ≤ (39 : Int64).toInt from hp), if_neg one0]
      rw [X6_within, Option.bind_some, if_neg (show ¬ ((0 : Int64).toInt ≤ p2.toInt ∧ p2.toInt ≤ (8 : Int64).toInt) from hq), if_pos rfl]
      exact Ok.ret ⟨rfl, hpad, hr, hi0, hi1⟩
  · rw [if_neg hp, if_pos rfl]
    unfold F_X5_seen_18
    refine Ok.ret ?_
    show Ok (F_X6_seen w p1 p2) _
    unfold F_X6_seen
    rw [X6_within, Option.bind_some, if_neg (show ¬ ((0 : Int64).toInt ≤ p1.toInt ∧ p1.toInt ≤ (39 : Int64).toInt) from hp), if_pos rfl]
    exact Ok.ret ⟨rfl, hpad, hr, hi0, hi1⟩
theorem eqv_say (p1 : Int32) : Eqv (fun w => F_X5_say w p1) (fun w => F_X6_say w p1) := by
  rintro w ⟨⟨g, n, hc, hm⟩, hr, hi0, hi1⟩
  show Ok (F_X5_say w p1) _
  unfold F_X5_say
  by_cases hp : 33 ≤ p1.toInt ∧ p1.toInt ≤ 126
  · obtain ⟨v, hv, rfl, hv2⟩ := i32_nat (show 0 ≤ p1.toInt by omega)
    have hn := hc.2.1
    rw [if_neg (by simp (disch := omega) only [Int32.le_iff_toInt_le, Int32.lt_iff_toInt_lt, ← Int32.toInt_inj, nI_toInt, Int32.reduceToInt]; omega), if_pos (by simp (disch := omega) only [Int32.le_iff_toInt_le, Int32.lt_iff_toInt_lt, ← Int32.toInt_inj, nI_toInt, Int32.reduceToInt]; omega)]
    unfold F_X2_add
    rw [hc.1]
    by_cases h40 : n < 40
    · rw [if_pos (by simp (disch := omega) only [Int32.le_iff_toInt_le, Int32.lt_iff_toInt_lt, ← Int32.toInt_inj, nI_toInt, Int32.reduceToInt]; omega), gd_nI h40 (by omega)]
      refine Ok.ret ?_
      show Ok (F_X6_say (wI (wA w 5 (nI n) (nI v)) 0 (nI n + 1)) (nI v)) _
      unfold F_X6_say
      rw [X6_within, Option.bind_some, if_pos (show (33 : Int64).toInt ≤ (nI v).toInt ∧ (nI v).toInt ≤ (126 : Int64).toInt from hp), if_neg one0]
      dsimp only
      rw [show (wI (wA w 5 (nI n) (nI v)) 0 (nI n + 1)).1 34 = nI n from hm.1, if_neg (by simp (disch := omega) only [Int32.le_iff_toInt_le, Int32.lt_iff_toInt_lt, ← Int32.toInt_inj, nI_toInt, Int32.reduceToInt]; omega), gd_nI h40 (by omega)]
      have big : ∀ f : Nat → Int32, (∀ i, i < n → f i = nI (g i) ∧ g i < 128) → ∀ i, i < n + 1 → upd f n (nI v) i = nI ((fun i => if i = n then v else g i) i) ∧ (fun i => if i = n then v else g i) i < 128 := by
        intro f hf i hi
        dsimp only
        rw [upd_at]
        by_cases e : i = n
        · rw [if_pos e, if_pos e]; exact ⟨rfl, by omega⟩
        · rw [if_neg e, if_neg e]; exact hf i (by omega)
      refine Ok.ret ⟨rfl, ⟨fun i => if i = n then v else g i, n + 1, ⟨?_, by omega, ?_⟩, ⟨?_, by omega, ?_⟩⟩, hr, hi0, hi1⟩
      · show nI n + 1 = _
        exact nI_1 n
      · show ∀ i, i < n + 1 → upd (w.2.1 5) (nI n).toNatClampNeg (nI v) i = _ ∧ _
        rw [cl_nI (by omega)]
        exact big _ hc.2.2
      · show nI n + 1 = _
        exact nI_1 n
      · show ∀ i, i < n + 1 → upd (w.2.1 41) (nI n).toNatClampNeg (nI v) i = _ ∧ _
        rw [cl_nI (by omega)]
        exact big _ hm.2.2
    · have : n = 40 := by omega
      subst this
      rw [if_neg (by decide)]
      refine Ok.ret ?_
      show Ok (F_X6_say w (nI v)) _
      unfold F_X6_say
      rw [X6_within, Option.bind_some, if_pos (show (33 : Int64).toInt ≤ (nI v).toInt ∧ (nI v).toInt ≤ (126 : Int64).toInt from hp), if_neg one0]
      dsimp only
      rw [hm.1, if_pos (by decide)]
      exact Ok.ret ⟨rfl, ⟨g, 40, hc, hm⟩, hr, hi0, hi1⟩
  · have e : Ok (F_X6_say w p1) (fun y => y.1 = -2 ∧ Rel y.2) := by
      unfold F_X6_say
      rw [X6_within, Option.bind_some, if_neg (show ¬ ((33 : Int64).toInt ≤ p1.toInt ∧ p1.toInt ≤ (126 : Int64).toInt) from hp), if_pos rfl]
      exact Ok.ret ⟨rfl, ⟨g, n, hc, hm⟩, hr, hi0, hi1⟩
    refine Ok.ite (fun c => ?_) (fun c => ?_)
    · unfold F_X5_say_12
      exact Ok.ret e
    · refine Ok.ite (fun c2 => ?_) (fun c2 => ?_)
      · exfalso
        rw [Int32.lt_iff_toInt_lt] at c
        rw [Int32.le_iff_toInt_le] at c2
        simp only [Int32.reduceToInt] at c c2
        omega
      · unfold F_X5_say_12
        exact Ok.ret e
theorem eqv_fault : Eqv (fun w => F_X5_fault w) (fun w => F_X6_fault w) := by
  apply Eqv.query
  rintro w ⟨⟨g, n, hc, hm⟩, -⟩
  have hone : ∃ r, (∀ f, isFault g n f → r = nI f) ∧ (allOk g n → r = -6) := by
    rcases first_or (n := n) (okS g) with h | ⟨f, h1, h2, h3⟩
    · exact ⟨-6, fun f hf => (fault_not hf h).elim, fun _ => rfl⟩
    · exact ⟨nI f, fun f' hf' => by rw [fault_one hf' ⟨h1, h2, h3⟩], fun h => (fault_not ⟨h1, h2, h3⟩ h).elim⟩
  obtain ⟨r, hr1, hr2⟩ := hone
  refine ⟨r, ?_, fun w' _ hs => ?_⟩
  · unfold F_X5_fault
    refine Ok.bind (survey_ok w hc) ?_
    rintro w1 ⟨hs, hcase⟩
    refine Ok.ret ⟨hs, ?_⟩
    rcases hcase with ⟨f, hf, e⟩ | ⟨ha, e, -⟩
    · exact e.trans (hr1 f hf).symm
    · exact e.trans (hr2 ha).symm
  · refine (faultM_ok w' (hm.same hs)).mono ?_
    rintro ⟨r1, w2⟩ ⟨e, hcase⟩
    refine ⟨by rw [show w2 = w' from e]; exact Same.rf _, ?_⟩
    rcases hcase with ⟨f, hf, e⟩ | ⟨ha, e⟩
    · exact e.trans (hr1 f hf).symm
    · exact e.trans (hr2 ha).symm
