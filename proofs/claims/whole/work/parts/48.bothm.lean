/-! the reference: who can be one player -/
theorem lc_pos {s : Nat → Nat} {p : Nat} : ∀ N, 0 < lcA s p N ↔ ∃ l, l < N ∧ (s l).testBit p = true := by
  intro N
  induction N with
  | zero =>
    simp only [lcA]
    exact ⟨fun h => absurd h (Nat.lt_irrefl _), fun ⟨l, h, _⟩ => absurd h (Nat.not_lt_zero _)⟩
  | succ N ih =>
    simp only [lcA]
    have hb := bN_le (s N) p
    constructor
    · intro h
      by_cases q : (s N).testBit p = true
      · exact ⟨N, Nat.lt_succ_self N, q⟩
      · have : bN (s N) p = 0 := by unfold bN; rw [if_neg q]
        obtain ⟨l, h1, h2⟩ := ih.mp (by omega)
        exact ⟨l, by omega, h2⟩
    · rintro ⟨l, h1, h2⟩
      by_cases e : l = N
      · subst e
        have : bN (s l) p = 1 := by unfold bN; rw [if_pos h2]
        omega
      · have := ih.mpr ⟨l, by omega, h2⟩
        omega
def LinM (w : Wd) (s : Nat → Nat) (N c : Nat) : Prop := w.1 35 = nI N ∧ w.1 31 = nI c ∧ ∀ l, l < N → w.2.1 43 l = nI (s l) ∧ s l < 256
theorem LinM.fr {w w' : Wd} {s : Nat → Nat} {N c : Nat} (h : LinM w s N c) (hF : Fr [] [45, 46] w w') : LinM w' s N c := by
  unfold LinM
  rw [hF.1 35 (by decide), hF.1 31 (by decide), hF.2 43 (by decide)]
  exact h
def prP (s : Nat → Nat) (c p q k j : Nat) : Prop := (s k).testBit p = true → (s j).testBit q = true → c < (if k < j then j - k else k - j)
theorem both_M (w : Wd) {s : Nat → Nat} {N c p q fr : Nat} (hN : N ≤ 40) (hfr : fr ≤ N) (hp : p < 8) (hq : q < 8) (hc : c ≤ 9) (hL : LinM w s N c) : Ok (F_X6_canBoth w (nI p) (nI q) (nI fr)) (fun x => x.2 = w ∧ ((x.1 = 1 ∧ apP s N c p q fr) ∨ (x.1 = 0 ∧ ¬ apP s N c p q fr))) := by
  obtain ⟨h35, h31, h43⟩ := hL
  unfold F_X6_canBoth L_X6_canBoth_6
  refine Ok.loop (fun a => ∃ k, k ≤ N ∧ a.1 = w ∧ a.2.1 = nI p ∧ a.2.2.1 = nI q ∧ a.2.2.2.1 = nI fr ∧ a.2.2.2.2.2 = nI k ∧ ((a.2.2.2.2.1 = 1 ∧ ∀ k', k' < k → ∀ j, j < N → fr ≤ j → prP s c p q k' j) ∨ (a.2.2.2.2.1 = 0 ∧ ¬ apP s N c p q fr))) (fun a => 41 - a.2.2.2.2.2.toNatClampNeg) ?_ fu _ ⟨0, Nat.zero_le _, rfl, rfl, rfl, rfl, rfl, Or.inl ⟨rfl, fun k h => absurd h (Nat.not_lt_zero _)⟩⟩ (fu_big (by show 41 - _ < _; omega))
  rintro ⟨w1, v1, v2, v3, v4, v5⟩ ⟨k, hk, e1, e2, e3, e4, e5, hr⟩ kk hkk
  dsimp only at e1 e2 e3 e4 e5 hr hkk ⊢
  subst e1 e2 e3 e4 e5
  unfold F_X6_canBoth_6
  rw [h35]
  refine Ok.ite (fun d => ?_) (fun d => ?_)
  · simp (disch := omega) only [Int32.le_iff_toInt_le, Int32.lt_iff_toInt_lt, ← Int32.toInt_inj, nI_toInt, Int32.reduceToInt] at d
    have e : k = N := by omega
    subst e
    rcases hr with ⟨rfl, h⟩ | ⟨rfl, h⟩
    · exact Ok.gu isB_1 (Ok.ret ⟨rfl, Or.inl ⟨rfl, fun k' hk' j hj hf => h k' hk' j hj hf⟩⟩)
    · exact Ok.gu isB_0 (Ok.ret ⟨rfl, Or.inr ⟨rfl, h⟩⟩)
  · simp (disch := omega) only [Int32.le_iff_toInt_le, Int32.lt_iff_toInt_lt, ← Int32.toInt_inj, nI_toInt, Int32.reduceToInt] at d
    have hkN : k < N := by omega
    unfold L_X6_canBoth_18
    refine Ok.loop (fun a => ∃ j, fr ≤ j ∧ j ≤ N ∧ a.1 = w1 ∧ a.2.1 = nI p ∧ a.2.2.1 = nI q ∧ a.2.2.2.1 = nI fr ∧ a.2.2.2.2.2.1 = nI k ∧ a.2.2.2.2.2.2 = nI j ∧ ((a.2.2.2.2.1 = 1 ∧ (∀ k', k' < k → ∀ j, j < N → fr ≤ j → prP s c p q k' j) ∧ ∀ j', j' < j → fr ≤ j' → prP s c p q k j') ∨ (a.2.2.2.2.1 = 0 ∧ ¬ apP s N c p q fr))) (fun a => 41 - a.2.2.2.2.2.2.toNatClampNeg) ?_ fu _ ⟨fr, Nat.le_refl _, hfr, rfl, rfl, rfl, rfl, rfl, rfl, ?_⟩ (fu_big (by show 41 - _ < _; omega))
    · rintro ⟨w2, u1, u2, u3, u4, u5, u6⟩ ⟨j, hfj, hj, e1, e2, e3, e4, e5, e6, hr2⟩ k2 hk2
      dsimp only at e1 e2 e3 e4 e5 e6 hr2 hk2 ⊢
      subst e1 e2 e3 e4 e5 e6
      unfold F_X6_canBoth_18
      rw [h35]
      refine Ok.ite (fun d2 => ?_) (fun d2 => ?_)
      · simp (disch := omega) only [Int32.le_iff_toInt_le, Int32.lt_iff_toInt_lt, ← Int32.toInt_inj, nI_toInt, Int32.reduceToInt] at d2
        have e : j = N := by omega
        subst e
        rw [nI_1]
        refine hkk _ ⟨k + 1, by omega, rfl, rfl, rfl, rfl, rfl, ?_⟩ (by dsimp only; rw [cl_nI (by omega), cl_nI (by omega)]; omega)
        rcases hr2 with ⟨rfl, h1, h2⟩ | h
        · exact Or.inl ⟨rfl, upd_more h1 (fun j hj hf => h2 j hj hf)⟩
        · exact Or.inr h
      · simp (disch := omega) only [Int32.le_iff_toInt_le, Int32.lt_iff_toInt_lt, ← Int32.toInt_inj, nI_toInt, Int32.reduceToInt] at d2
        have hjN : j < N := by omega
        obtain ⟨a1, a2⟩ := h43 k hkN
        obtain ⟨b1, b2⟩ := h43 j hjN
        have hdist : (if nI j ≤ nI k then nI k - nI j else nI j - nI k) = nI (if k < j then j - k else k - j) := by
          by_cases x : k < j
          · rw [if_pos x, if_neg (by simp (disch := omega) only [Int32.le_iff_toInt_le, Int32.lt_iff_toInt_lt, ← Int32.toInt_inj, nI_toInt, Int32.reduceToInt]; omega), pk_sub (by omega)]
          · rw [if_neg x, if_pos (by simp (disch := omega) only [Int32.le_iff_toInt_le, Int32.lt_iff_toInt_lt, ← Int32.toInt_inj, nI_toInt, Int32.reduceToInt]; omega), pk_sub (by omega)]
        obtain ⟨D, hD⟩ : ∃ D, D = if k < j then j - k else k - j := ⟨_, rfl⟩
        have hD40 : D ≤ 40 := by rw [hD]; split <;> omega
        have step : ∀ y : Int32, ((u4 = 1 ∧ y = 1 ∧ prP s c p q k j) ∨ (u4 = 1 ∧ y = 0 ∧ ¬ prP s c p q k j) ∨ (u4 = 0 ∧ y = 0)) → Ok (k2 (w2, nI p, nI q, nI fr, y, nI k, nI j + 1)) (fun x => x.2 = w2 ∧ ((x.1 = 1 ∧ apP s N c p q fr) ∨ (x.1 = 0 ∧ ¬ apP s N c p q fr))) := by
          intro y hy
          rw [nI_1]
          refine hk2 _ ⟨j + 1, by omega, by omega, rfl, rfl, rfl, rfl, rfl, rfl, ?_⟩ (by dsimp only; rw [cl_nI (by omega), cl_nI (by omega)]; omega)
          rcases hr2 with ⟨rfl, h1, h2⟩ | ⟨rfl, h⟩
          · rcases hy with ⟨-, rfl, h3⟩ | ⟨-, rfl, h3⟩ | ⟨h3, -⟩
            · exact Or.inl ⟨rfl, h1, upd_more h2 (fun _ => h3)⟩
            · exact Or.inr ⟨rfl, fun h => h3 (fun x y => h k hkN j hjN hfj x y)⟩
            · exact absurd h3 (by decide)
          · rcases hy with ⟨h3, -⟩ | ⟨h3, -⟩ | ⟨-, rfl⟩
            · exact absurd h3 (by decide)
            · exact absurd h3 (by decide)
            · exact Or.inr ⟨rfl, h⟩
        have h01 : u4 = 1 ∨ u4 = 0 := by rcases hr2 with ⟨h, -⟩ | ⟨h, -⟩; exact Or.inl h; exact Or.inr h
        rw [hdist, ← hD, cl_nI (by omega), cl_nI (by omega), a1, b1, bit_at _ a2 _ hp, bit_at _ b2 _ hq, h31]
        show Ok (gu _ _) _
        refine Ok.gu (gd_nI (by omega) (by omega)) ?_
        refine Ok.ite (fun d3 => ?_) (fun d3 => ?_)
        · rw [bN_1] at d3
          refine Ok.gu (gd_nI (by omega) (by omega)) ?_
          show Ok (k2 (w2, nI p, nI q, nI fr, (if u4 = 0 then 0 else (if (if nI (bN (s j) q) = 1 then (1 : Int32) else 0) = 0 then 1 else (if nI D ≤ nI c then (0 : Int32) else 1))), nI k, nI j + 1)) _
          apply step
          rcases h01 with rfl | rfl
          · rw [if_neg one0]
            by_cases x : (s j).testBit q = true
            · rw [if_pos (show nI (bN (s j) q) = 1 from bN_1.mpr x), if_neg one0]
              by_cases y : D ≤ c
              · rw [if_pos (by simp (disch := omega) only [Int32.le_iff_toInt_le, Int32.lt_iff_toInt_lt, ← Int32.toInt_inj, nI_toInt, Int32.reduceToInt]; omega)]
                refine Or.inr (Or.inl ⟨rfl, rfl, fun h => ?_⟩)
                have := h d3 x
                rw [← hD] at this
                omega
              · rw [if_neg (by simp (disch := omega) only [Int32.le_iff_toInt_le, Int32.lt_iff_toInt_lt, ← Int32.toInt_inj, nI_toInt, Int32.reduceToInt]; omega)]
                refine Or.inl ⟨rfl, rfl, fun _ _ => ?_⟩
                rw [← hD]
                omega
            · rw [if_neg (show ¬ nI (bN (s j) q) = 1 from fun h => x (bN_1.mp h)), if_pos rfl]
              exact Or.inl ⟨rfl, rfl, fun _ h => absurd h x⟩
          · rw [if_pos rfl]
            exact Or.inr (Or.inr ⟨rfl, rfl⟩)
        · rw [bN_1] at d3
          unfold F_X6_canBoth_83 F_X6_canBoth_84
          show Ok (k2 (w2, nI p, nI q, nI fr, (if u4 = 0 then 0 else (if (0 : Int32) = 0 then 1 else (if nI D ≤ w2.1 31 then (0 : Int32) else 1))), nI k, nI j + 1)) _
          apply step
          rcases h01 with rfl | rfl
          · rw [if_neg one0, if_pos rfl]
            exact Or.inl ⟨rfl, rfl, fun h => absurd h d3⟩
          · rw [if_pos rfl]
            exact Or.inr (Or.inr ⟨rfl, rfl⟩)
    · rcases hr with ⟨rfl, h⟩ | h
      · exact Or.inl ⟨rfl, h, fun j h1 h2 => by omega⟩
      · exact Or.inr h
theorem lOfM (w : Wd) {s : Nat → Nat} {N c p : Nat} (hN : N ≤ 40) (hp : p < 8) (hL : LinM w s N c) : F_X6_linesOf w (nI p) = some (nI (lcA s p N), w) := lOf_M w hN hp hL.1 hL.2.2
theorem canBe_M (w : Wd) {s f : Nat → Nat} {N c p v : Nat} {hs : Nat → Bool} {cl : Nat → Nat → Bool} (hN : N ≤ 40) (hc : c ≤ 9) (hp : p < 8) (hL : LinM w s N c) (hP : CastP s N c hs cl) (hf : ∀ i, i < p → w.2.1 45 i = nI (f i) ∧ f i ≤ i) (hv : w.2.1 45 p = nI v) (hv9 : v < 100) (hyp : hs p = true) : F_X6_canBe w (nI p) = some (okI (dfO hs cl f p v), w) := by
  apply Ok.eq
  have hO : dfO hs cl f p v = dfK hs cl f p v p := by unfold dfO; rw [hyp]; rfl
  rw [hO]
  unfold F_X6_canBe L_X6_canBe_4
  refine Ok.loop (fun a => ∃ q, q ≤ p ∧ a.1 = w ∧ a.2.1 = nI p ∧ a.2.2.1 = okI (dfK hs cl f p v q) ∧ a.2.2.2 = nI q) (fun a => 41 - a.2.2.2.toNatClampNeg) ?_ fu _ ⟨0, Nat.zero_le _, rfl, rfl, rfl, rfl⟩ (fu_big (by show 41 - _ < _; omega))
  rintro ⟨w1, v1, v2, v3⟩ ⟨q, hq, e1, e2, e3, e4⟩ kk hkk
  dsimp only at e1 e2 e3 e4 hkk ⊢
  subst e1 e2 e3 e4
  have go : ∀ y : Int32, y = okI (dfK hs cl f p v (q + 1)) → q < p → Ok (kk (w1, nI p, y, nI q + 1)) (fun x => x = (okI (dfK hs cl f p v p), w1)) := by
    intro y hy hqp
    rw [nI_1]
    exact hkk _ ⟨q + 1, by omega, rfl, rfl, hy, rfl⟩ (by dsimp only; rw [cl_nI (by omega), cl_nI (by omega)]; omega)
  unfold F_X6_canBe_4
  refine Ok.ite (fun d => ?_) (fun d => ?_)
  · simp (disch := omega) only [Int32.le_iff_toInt_le, Int32.lt_iff_toInt_lt, ← Int32.toInt_inj, nI_toInt, Int32.reduceToInt] at d
    have e : q = p := by omega
    subst e
    refine Ok.gu ?_ (Ok.ret rfl)
    unfold okI
    split
    · rfl
    · rfl
  · simp (disch := omega) only [Int32.le_iff_toInt_le, Int32.lt_iff_toInt_lt, ← Int32.toInt_inj, nI_toInt, Int32.reduceToInt] at d
    have hqp : q < p := by omega
    refine Ok.ite (fun d2 => ?_) (fun d2 => ?_)
    · unfold F_X6_canBe_50 F_X6_canBe_51
      refine go _ ?_ hqp
      simp only [dfK]
      cases x : dfK hs cl f p v q
      · rfl
      · rw [x] at d2; exact absurd d2 one0
    · have hKq : dfK hs cl f p v q = true := by
        cases x : dfK hs cl f p v q
        · rw [x] at d2; exact absurd rfl d2
        · rfl
      have hK1 : dfK hs cl f p v (q + 1) = !(hs q && (decide (f q = v) && cl q p)) := by
        simp only [dfK]
        rw [hKq]
        rfl
      have put : (hs q && (decide (f q = v) && cl q p)) = false → Ok (F_X6_canBe_46 kk w1 (nI p) (nI q)) (fun x => x = (okI (dfK hs cl f p v p), w1)) := by
        intro h
        unfold F_X6_canBe_46 F_X6_canBe_51
        refine go _ ?_ hqp
        rw [hK1, h]
        rfl
      obtain ⟨f1, f2⟩ := hf q hqp
      refine Ok.gu (gd_nI (by omega) (by omega)) (Ok.gu (gd_nI (by omega) (by omega)) ?_)
      rw [cl_nI (by omega), cl_nI (by omega), f1, hv]
      refine Ok.ite (fun d3 => ?_) (fun d3 => ?_)
      · rw [nI_eq (by omega) (by omega)] at d3
        rw [lOfM w1 hN (by omega) hL, Option.bind_some]
        dsimp only
        have hlc := lcA_le s q N
        have hlp := lc_pos (s := s) (p := q) N
        rw [← hP.1 q] at hlp
        refine Ok.ite (fun d4 => ?_) (fun d4 => ?_)
        · rw [show (0 : Int32) = nI 0 from rfl, nI_eq (by omega) (by omega)] at d4
          apply put
          cases x : hs q
          · rfl
          · have := hlp.mpr x; omega
        · rw [show (0 : Int32) = nI 0 from rfl, nI_eq (by omega) (by omega)] at d4
          have hq1 : hs q = true := hlp.mp (by omega)
          refine Ok.bind (both_M w1 (fr := 0) hN (Nat.zero_le _) (show q < 8 by omega) hp hc hL) ?_
          rintro ⟨r, w2⟩ ⟨e, hr⟩
          dsimp only at e hr ⊢
          subst e
          refine go _ ?_ hqp
          rw [hK1, hq1, decide_eq_true d3]
          rcases hr with ⟨rfl, h⟩ | ⟨rfl, h⟩
          · have : cl q p = false := by
              cases x : cl q p
              · rfl
              · exact absurd h ((hP.2 q p).mp x)
            rw [this]
            rfl
          · rw [(hP.2 q p).mpr h]
            rfl
      · apply put
        rw [nI_eq (by omega) (by omega)] at d3
        rw [decide_eq_false d3, Bool.false_and, Bool.and_false]
theorem hiI : ∀ U, U < 10 → (nI U - 1).toInt = (U : Int) - 1 ∧ (nI U - 1) + 1 = nI U := by decide +kernel
theorem high_M (w : Wd) {s f : Nat → Nat} {N c p : Nat} {hs : Nat → Bool} {cl : Nat → Nat → Bool} (hN : N ≤ 40) (hp : p < 8) (hL : LinM w s N c) (hP : CastP s N c hs cl) (hf : ∀ i, i < p → w.2.1 45 i = nI (f i) ∧ f i ≤ i) : F_X6_highest w (nI p) = some (nI (dfU hs f p) - 1, w) := by
  apply Ok.eq
  unfold F_X6_highest L_X6_highest_4
  refine Ok.loop (fun a => ∃ q, q ≤ p ∧ a.1 = w ∧ a.2.1 = nI p ∧ a.2.2.1 = nI (dfU hs f q) - 1 ∧ a.2.2.2 = nI q) (fun a => 41 - a.2.2.2.toNatClampNeg) ?_ fu _ ⟨0, Nat.zero_le _, rfl, rfl, rfl, rfl⟩ (fu_big (by show 41 - _ < _; omega))
  rintro ⟨w1, v1, v2, v3⟩ ⟨q, hq, e1, e2, e3, e4⟩ kk hkk
  dsimp only at e1 e2 e3 e4 hkk ⊢
  subst e1 e2 e3 e4
  unfold F_X6_highest_4
  refine Ok.ite (fun d => ?_) (fun d => ?_)
  · simp (disch := omega) only [Int32.le_iff_toInt_le, Int32.lt_iff_toInt_lt, ← Int32.toInt_inj, nI_toInt, Int32.reduceToInt] at d
    have e : q = p := by omega
    subst e
    exact Ok.ret rfl
  · simp (disch := omega) only [Int32.le_iff_toInt_le, Int32.lt_iff_toInt_lt, ← Int32.toInt_inj, nI_toInt, Int32.reduceToInt] at d
    have hqp : q < p := by omega
    have hU := dfU_le (hs := hs) (f := f) q (fun i hi => (hf i (by omega)).2)
    obtain ⟨f1, f2⟩ := hf q hqp
    have keep : dfU hs f (q + 1) = dfU hs f q → Ok (F_X6_highest_36 kk w1 (nI p) (nI (dfU hs f q) - 1) (nI q)) (fun x => x = (nI (dfU hs f p) - 1, w1)) := by
      intro h
      unfold F_X6_highest_36 F_X6_highest_37
      rw [nI_1]
      exact hkk _ ⟨q + 1, by omega, rfl, rfl, by rw [h], rfl⟩ (by dsimp only; rw [cl_nI (by omega), cl_nI (by omega)]; omega)
    rw [lOfM w1 hN (by omega) hL, Option.bind_some]
    dsimp only
    have hlc := lcA_le s q N
    have hlp := lc_pos (s := s) (p := q) N
    rw [← hP.1 q] at hlp
    refine Ok.ite (fun d4 => ?_) (fun d4 => ?_)
    · simp (disch := omega) only [Int32.le_iff_toInt_le, Int32.lt_iff_toInt_lt, ← Int32.toInt_inj, nI_toInt, Int32.reduceToInt] at d4
      apply keep
      simp only [dfU]
      rw [if_neg (fun x => by have := hlp.mpr x; omega)]
    · simp (disch := omega) only [Int32.le_iff_toInt_le, Int32.lt_iff_toInt_lt, ← Int32.toInt_inj, nI_toInt, Int32.reduceToInt] at d4
      have hq1 : hs q = true := hlp.mp (by omega)
      have hUs : dfU hs f (q + 1) = max (dfU hs f q) (f q + 1) := by simp only [dfU]; rw [if_pos hq1]
      refine Ok.gu (gd_nI (by omega) (by omega)) ?_
      rw [cl_nI (by omega), f1]
      obtain ⟨i1, i2⟩ := hiI (dfU hs f q) (by omega)
      refine Ok.ite (fun d5 => ?_) (fun d5 => ?_)
      · rw [Int32.le_iff_toInt_le, i1, nI_toInt (by omega)] at d5
        exact keep (by omega)
      · rw [Int32.le_iff_toInt_le, i1, nI_toInt (by omega)] at d5
        refine Ok.gu (gd_nI (by omega) (by omega)) ?_
        unfold F_X6_highest_37
        rw [nI_1]
        refine hkk _ ⟨q + 1, by omega, rfl, rfl, ?_, rfl⟩ (by dsimp only; rw [cl_nI (by omega), cl_nI (by omega)]; omega)
        dsimp only
        rw [hUs, Nat.max_eq_right (by omega), nI_pred]
