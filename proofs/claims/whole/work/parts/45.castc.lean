/-! the class's cast -/
def plS8 (hs : Nat → Bool) (f : Nat → Nat) (p q : Nat) : Int32 := if q < p ∧ hs q = true then nI (f q) else -6
theorem plS8_y {hs : Nat → Bool} {f : Nat → Nat} {p q : Nat} (h : q < p ∧ hs q = true) : plS8 hs f p q = nI (f q) := if_pos h
theorem plS8_n {hs : Nat → Bool} {f : Nat → Nat} {p q : Nat} (h : ¬ (q < p ∧ hs q = true)) : plS8 hs f p q = -6 := if_neg h
theorem plS8_up {hs : Nat → Bool} {f : Nat → Nat} {p v : Nat} (q : Nat) : plS8 hs (dfUp f p v) (p + 1) q = if q = p then (if hs p = true then nI v else -6) else plS8 hs f p q := by
  by_cases e : q = p
  · subst e
    rw [if_pos rfl]
    by_cases h : hs q = true
    · rw [if_pos h, plS8_y ⟨Nat.lt_succ_self _, h⟩, dfUp_at, if_pos rfl]
    · rw [if_neg h, plS8_n (fun x => h x.2)]
  · rw [if_neg e]
    by_cases h : q < p ∧ hs q = true
    · rw [plS8_y h, plS8_y ⟨by omega, h.2⟩, dfUp_at, if_neg e]
    · rw [plS8_n h, plS8_n (fun x => h ⟨by omega, x.2⟩)]
def CsC (w : Wd) (hs : Nat → Bool) (cl : Nat → Nat → Bool) (P : Nat) (lm CM : Nat → Nat) : Prop := w.1 23 = nI P ∧ (∀ p, p < 8 → w.2.2 28 p = lN (lm p) ∧ lm p < 2 ^ 64 ∧ (hs p = true ↔ lm p ≠ 0)) ∧ ∀ p, p < 8 → w.2.1 29 p = nI (CM p) ∧ CM p < 256 ∧ ∀ q, q < 8 → (CM p).testBit q = cl q p
theorem CsC.fr {w w' : Wd} {hs : Nat → Bool} {cl : Nat → Nat → Bool} {P : Nat} {lm CM : Nat → Nat} (h : CsC w hs cl P lm CM) (hF : Fr [] [27] w w') (hl : w'.2.2 = w.2.2) : CsC w' hs cl P lm CM := by
  refine ⟨by rw [hF.1 23 (by decide)]; exact h.1, fun p hp => ?_, fun p hp => ?_⟩
  · rw [hl]; exact h.2.1 p hp
  · rw [hF.2 29 (by decide)]; exact h.2.2 p hp
theorem m6_ne {n : Nat} (h : n < 100) : ¬ (-6 : Int32) = nI n := by
  intro e
  rw [← Int32.toInt_inj, nI_toInt (by omega), show (-6 : Int32).toInt = -6 from rfl] at e
  omega
theorem ok_C {hs : Nat → Bool} {cl : Nat → Nat → Bool} {CM v p : Nat} {f : Nat → Nat} {a : Nat → Int32} (hp : p < 8) (hhs : hs p = true) (hM : CM < 256) (hcl : ∀ q, q < 8 → CM.testBit q = cl q p) (ha : ∀ q, q < 8 → a q = plS8 hs f p q) (hf : ∀ i, i < p → f i ≤ i) (hv : v < 100) : nI CM &&& nI (mB (fun q => decide (a q = nI v)) 8) = 0 ↔ dfO hs cl f p v = true := by
  rw [and0 _ hM _ (mB_lt _ 8), dfO_iff]
  have h1 := and_ne CM (mB (fun q => decide (a q = nI v)) 8)
  constructor
  · intro h _ q hq hc
    refine (h1.mpr ⟨q, ?_, ?_⟩) h
    · rw [hcl q (by omega)]; exact hc.2.2
    · rw [mB_bit]
      refine ⟨by omega, decide_eq_true ?_⟩
      rw [ha q (by omega), plS8_y ⟨hq, hc.1⟩, hc.2.1]
  · intro h
    apply Classical.byContradiction
    intro h2
    obtain ⟨q, h3, h4⟩ := h1.mp h2
    rw [mB_bit] at h4
    have h5 := of_decide_eq_true h4.2
    rw [ha q h4.1] at h5
    by_cases e : q < p ∧ hs q = true
    · rw [plS8_y e] at h5
      have hfq := hf q e.1
      rw [nI_eq (by omega) (by omega)] at h5
      exact h hhs q e.1 ⟨e.2, h5, by rw [← hcl q h4.1]; exact h3⟩
    · rw [plS8_n e] at h5
      exact m6_ne hv h5
theorem isB_1 : isB 1 = true := rfl
theorem isB_0 : isB 0 = true := rfl
theorem isCast_C {hs : Nat → Bool} {cl : Nat → Nat → Bool} {P : Nat} {lm CM : Nat → Nat} (hP : P ≤ 8) : ∀ e p, p + e = 8 → ∀ d, e < d → ∀ (w : Wd) (f : Nat → Nat), CsC w hs cl P lm CM → (∀ i, i < p → f i ≤ i) → (∀ q, q < 8 → w.2.1 27 q = plS8 hs f p q) → Ok (F_X0_isCast d w (nI p) (nI (dfU hs f p))) (fun x => Fr [] [27] w x.2 ∧ x.2.2.2 = w.2.2 ∧ ((x.1 = 1 ∧ ∃ g, dfS hs cl P e f = some g ∧ ∀ q, q < 8 → x.2.2.1 27 q = plS8 hs g 8 q) ∨ (x.1 = 0 ∧ dfS hs cl P e f = none ∧ ∀ q, q < 8 → x.2.2.1 27 q = w.2.1 27 q))) := by
  intro e
  induction e with
  | zero =>
    intro p hp d hd w f hC hf ha
    have hp8 : p = 8 := by omega
    subst hp8
    obtain ⟨d', rfl⟩ : ∃ d', d = d' + 1 := ⟨d - 1, by omega⟩
    simp only [F_X0_isCast]
    unfold F_X0_isCast_b
    rw [if_neg (by decide)]
    refine Ok.ret ⟨Fr.rf _ _ _, rfl, Or.inl ⟨rfl, _, rfl, fun q hq => ?_⟩⟩
    show w.2.1 27 q = _
    rw [ha q hq]
    unfold plS8
    dsimp only
    rw [if_pos hq]
  | succ e ih =>
    intro p hp d hd w f hC hf ha
    have hp8 : p < 8 := by omega
    obtain ⟨d', rfl⟩ : ∃ d', d = d' + 1 := ⟨d - 1, by omega⟩
    obtain ⟨h23, hlm, hcm⟩ := id hC
    have hU := dfU_le (hs := hs) p hf
    have hS : dfS hs cl P (e + 1) f = dfTr (dfF hs cl P p f) (dfC hs P f p) 0 := by rw [← dfS_at hp8, show 8 - p = e + 1 by omega]
    have hFv : ∀ v, dfF hs cl P p f v = if dfO hs cl f p v = true then dfS hs cl P e (dfUp f p v) else none := by
      intro v
      unfold dfF
      rw [show 7 - p = e by omega]
    simp only [F_X0_isCast]
    unfold F_X0_isCast_b
    rw [if_pos (show nI p < 8 by simp (disch := omega) only [Int32.le_iff_toInt_le, Int32.lt_iff_toInt_lt, ← Int32.toInt_inj, nI_toInt, Int32.reduceToInt]; omega)]
    refine Ok.gu (gd_nI hp8 (by omega)) ?_
    obtain ⟨l1, l2, l3⟩ := hlm p hp8
    rw [cl_nI (by omega), l1]
    refine Ok.ite (fun c => ?_) (fun c => ?_)
    · rw [lg0 l2] at c
      have hnp : ¬ hs p = true := fun x => l3.mp x c
      have hu : dfU hs f p = dfU hs (dfUp f p 0) (p + 1) := by
        simp only [dfU]
        rw [if_neg hnp, dfU_congr p (agr_up f p 0)]
      rw [nI_1, hu]
      refine Ok.bind (ih (p + 1) (by omega) d' (by omega) w (dfUp f p 0) hC (up_le hf (Nat.zero_le _)) (fun q hq => ?_)) ?_
      · rw [ha q hq, plS8_up]
        by_cases q2 : q = p
        · rw [if_pos q2, if_neg hnp, plS8_n (by omega)]
        · rw [if_neg q2]
      · rintro ⟨r, w1⟩ ⟨h1, h2, h3⟩
        dsimp only at h1 h2 h3 ⊢
        have hz : dfS hs cl P (e + 1) f = dfS hs cl P e (dfUp f p 0) := by
          have e1 : dfC hs P f p = 1 := by unfold dfC; rw [if_neg hnp]
          rw [hS, e1]
          simp only [dfTr]
          rw [hFv, if_pos (dfO_iff.mpr (fun x => absurd x hnp))]
          exact dfOe_r _
        rw [hz]
        rcases h3 with ⟨rfl, h4⟩ | ⟨rfl, h4⟩
        · exact Ok.gu isB_1 (Ok.ret ⟨h1, h2, Or.inl ⟨rfl, h4⟩⟩)
        · exact Ok.gu isB_0 (Ok.ret ⟨h1, h2, Or.inr ⟨rfl, h4⟩⟩)
    · rw [lg0 l2] at c
      have hyp : hs p = true := l3.mpr c
      have hCv : dfC hs P f p = min (dfU hs f p + 1) P := by unfold dfC; rw [if_pos hyp]
      rw [hS]
      unfold L_X0_isCast_30
      refine Ok.loop (fun a => ∃ v, v ≤ dfC hs P f p ∧ Fr [] [27] w a.1 ∧ a.1.2.2 = w.2.2 ∧ (∀ q, q < 8 → a.1.2.1 27 q = w.2.1 27 q) ∧ a.2.1 = nI p ∧ a.2.2.1 = nI (dfU hs f p) ∧ a.2.2.2 = nI v ∧ dfTr (dfF hs cl P p f) (dfC hs P f p) 0 = dfTr (dfF hs cl P p f) (dfC hs P f p - v) v) (fun a => 41 - a.2.2.2.toNatClampNeg) ?_ fu _ ⟨0, Nat.zero_le _, Fr.rf _ _ _, rfl, fun _ _ => rfl, rfl, rfl, rfl, rfl⟩ (fu_big (by show 41 - _ < _; omega))
      rintro ⟨w1, v1, v2, v3⟩ ⟨v, hv, hF, hl, harr, e1, e2, e3, hT⟩ kk hkk
      dsimp only at hF hl harr e1 e2 e3 hT hkk ⊢
      subst e1 e2 e3
      have hC1 := hC.fr hF hl
      have stop : dfC hs P f p ≤ v → Ok (F_X0_isCast_98 (F_X0_isCast d') w1) (fun x => Fr [] [27] w x.2 ∧ x.2.2.2 = w.2.2 ∧ ((x.1 = 1 ∧ ∃ g, dfTr (dfF hs cl P p f) (dfC hs P f p) 0 = some g ∧ ∀ q, q < 8 → x.2.2.1 27 q = plS8 hs g 8 q) ∨ (x.1 = 0 ∧ dfTr (dfF hs cl P p f) (dfC hs P f p) 0 = none ∧ ∀ q, q < 8 → x.2.2.1 27 q = w.2.1 27 q))) := by
        intro hle
        refine Ok.ret ⟨hF, hl, Or.inr ⟨rfl, ?_, harr⟩⟩
        rw [hT, show dfC hs P f p - v = 0 by omega]
        rfl
      unfold F_X0_isCast_30
      refine Ok.ite (fun c1 => ?_) (fun c1 => ?_)
      · simp (disch := omega) only [Int32.le_iff_toInt_le, Int32.lt_iff_toInt_lt, ← Int32.toInt_inj, nI_toInt, Int32.reduceToInt] at c1
        exact stop (by omega)
      · simp (disch := omega) only [Int32.le_iff_toInt_le, Int32.lt_iff_toInt_lt, ← Int32.toInt_inj, nI_toInt, Int32.reduceToInt] at c1
        rw [hC1.1]
        refine Ok.ite (fun c2 => ?_) (fun c2 => ?_)
        · simp (disch := omega) only [Int32.le_iff_toInt_le, Int32.lt_iff_toInt_lt, ← Int32.toInt_inj, nI_toInt, Int32.reduceToInt] at c2
          exact stop (by omega)
        · simp (disch := omega) only [Int32.le_iff_toInt_le, Int32.lt_iff_toInt_lt, ← Int32.toInt_inj, nI_toInt, Int32.reduceToInt] at c2
          have hvC : v < dfC hs P f p := by omega
          refine Ok.gu (gd_nI hp8 (by omega)) ?_
          obtain ⟨m1, m2, m3⟩ := hC1.2.2 p hp8
          rw [parts_C, Option.bind_some]
          dsimp only
          rw [cl_nI (by omega), m1]
          have hok := ok_C (hs := hs) (cl := cl) (v := v) (f := f) (a := w1.2.1 27) hp8 hyp m2 m3 (fun q hq => (harr q hq).trans (ha q hq)) hf (by omega)
          have hT1 : dfTr (dfF hs cl P p f) (dfC hs P f p - v) v = dfOe (dfF hs cl P p f v) (dfTr (dfF hs cl P p f) (dfC hs P f p - (v + 1)) (v + 1)) := by
            rw [show dfC hs P f p - v = (dfC hs P f p - (v + 1)) + 1 by omega]
            rfl
          refine Ok.ite (fun c3 => ?_) (fun c3 => ?_)
          · rw [hok] at c3
            have hFe : dfF hs cl P p f v = dfS hs cl P e (dfUp f p v) := by rw [hFv, if_pos c3]
            have hu : (if nI (dfU hs f p) < nI v + 1 then nI v + 1 else nI (dfU hs f p)) = nI (dfU hs (dfUp f p v) (p + 1)) := by
              simp only [dfU]
              rw [if_pos hyp, dfU_congr p (agr_up f p v), dfUp_at, if_pos rfl, nI_1]
              by_cases q : dfU hs f p < v + 1
              · rw [if_pos (by simp (disch := omega) only [Int32.le_iff_toInt_le, Int32.lt_iff_toInt_lt, ← Int32.toInt_inj, nI_toInt, Int32.reduceToInt]; omega), Nat.max_eq_right (by omega)]
              · rw [if_neg (by simp (disch := omega) only [Int32.le_iff_toInt_le, Int32.lt_iff_toInt_lt, ← Int32.toInt_inj, nI_toInt, Int32.reduceToInt]; omega), Nat.max_eq_left (by omega)]
            rw [hu, nI_1]
            refine Ok.gu (gd_nI hp8 (by omega)) (Ok.bind (ih (p + 1) (by omega) d' (by omega) (wA w1 27 (nI p) (nI v)) (dfUp f p v) (hC1.fr ((Fr.rf _ _ _).wA (by decide)) rfl) (up_le hf (by omega)) (fun q hq => ?_)) ?_)
            · simp only [rI_i, rI_a, rI_l, rA_i, rA_a, rA_l, rR_i, rR_a, rR_l, rL_i, rL_a, rL_l, reduceIte, Nat.reduceEqDiff]
              rw [cl_nI (by omega), upd_at, plS8_up]
              by_cases q2 : q = p
              · rw [if_pos q2, if_pos q2, if_pos hyp]
              · rw [if_neg q2, if_neg q2, harr q hq, ha q hq]
            · rintro ⟨r, w2⟩ ⟨g1, g2, g3⟩
              dsimp only at g1 g2 g3 ⊢
              have hF2 : Fr [] [27] w w2 := (hF.wA (by decide)).tr g1
              have hl2 : w2.2.2 = w.2.2 := g2.trans hl
              rcases g3 with ⟨rfl, g, g4, g5⟩ | ⟨rfl, g4, g5⟩
              · rw [if_neg one0]
                refine Ok.ret ⟨hF2, hl2, Or.inl ⟨rfl, g, ?_, g5⟩⟩
                rw [hT, hT1, hFe, g4]
                rfl
              · rw [if_pos rfl]
                refine Ok.gu (gd_nI hp8 (by omega)) ?_
                unfold F_X0_isCast_92
                rw [nI_1]
                refine hkk _ ⟨v + 1, by omega, hF2.wA (by decide), hl2, fun q hq => ?_, rfl, rfl, rfl, ?_⟩ (by dsimp only; rw [cl_nI (by omega), cl_nI (by omega)]; omega)
                · simp only [rI_i, rI_a, rI_l, rA_i, rA_a, rA_l, rR_i, rR_a, rR_l, rL_i, rL_a, rL_l, reduceIte, Nat.reduceEqDiff]
                  rw [cl_nI (by omega), upd_at]
                  by_cases q2 : q = p
                  · rw [if_pos q2, q2, ha p hp8, plS8_n (by omega)]
                  · rw [if_neg q2, g5 q hq]
                    simp only [rI_i, rI_a, rI_l, rA_i, rA_a, rA_l, rR_i, rR_a, rR_l, rL_i, rL_a, rL_l, reduceIte, Nat.reduceEqDiff]
                    rw [cl_nI (by omega), upd_at, if_neg q2]
                    exact harr q hq
                · rw [hT, hT1, hFe, g4]
                  rfl
          · rw [hok] at c3
            unfold F_X0_isCast_92
            rw [nI_1]
            refine hkk _ ⟨v + 1, by omega, hF, hl, harr, rfl, rfl, rfl, ?_⟩ (by dsimp only; rw [cl_nI (by omega), cl_nI (by omega)]; omega)
            rw [hT, hT1, hFv, if_neg c3]
            rfl
