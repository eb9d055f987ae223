/-! plays: what a text of signs says -/
def mkA (g : Nat → Nat) : Nat → Nat
  | 0 => 0
  | i + 1 => mkA g i + if g i = 63 then 1 else 0
def cmA (g : Nat → Nat) : Nat → Nat
  | 0 => 0
  | i + 1 => cmA g i + if 65 ≤ g i ∧ g i ≤ 72 then 1 else 0
def goA (g : Nat → Nat) : Nat → Nat
  | 0 => 0
  | i + 1 => goA g i + if 97 ≤ g i ∧ g i ≤ 104 then 1 else 0
def lnA (g : Nat → Nat) : Nat → Nat
  | 0 => 0
  | i + 1 => lnA g i + if g i = 46 then 1 else 0
def okS (g : Nat → Nat) (i : Nat) : Prop := g i = 46 ∨ (g i = 63 ∧ mkA g i < 3) ∨ (65 ≤ g i ∧ g i ≤ 72) ∨ (97 ≤ g i ∧ g i ≤ 104)
def allOk (g : Nat → Nat) (n : Nat) : Prop := ∀ j, j < n → okS g j
def isFault (g : Nat → Nat) (n f : Nat) : Prop := f < n ∧ ¬ okS g f ∧ ∀ j, j < f → okS g j
theorem mkA_le (g : Nat → Nat) (i : Nat) : mkA g i ≤ i := by
  induction i with
  | zero => exact Nat.le_refl _
  | succ i ih => simp only [mkA]; split <;> omega
theorem cmA_le (g : Nat → Nat) (i : Nat) : cmA g i ≤ i := by
  induction i with
  | zero => exact Nat.le_refl _
  | succ i ih => simp only [cmA]; split <;> omega
theorem goA_le (g : Nat → Nat) (i : Nat) : goA g i ≤ i := by
  induction i with
  | zero => exact Nat.le_refl _
  | succ i ih => simp only [goA]; split <;> omega
theorem lnA_le (g : Nat → Nat) (i : Nat) : lnA g i ≤ i := by
  induction i with
  | zero => exact Nat.le_refl _
  | succ i ih => simp only [lnA]; split <;> omega
theorem mkA_ok {g : Nat → Nat} {n : Nat} (h : allOk g n) : mkA g n ≤ 3 := by
  induction n with
  | zero => exact Nat.zero_le _
  | succ n ih =>
    have h1 := ih (fun j hj => h j (by omega))
    simp only [mkA]
    rcases h n (by omega) with q | q | q | q
    · rw [if_neg (by omega)]; omega
    · rw [if_pos q.1]; omega
    · rw [if_neg (by omega)]; omega
    · rw [if_neg (by omega)]; omega
/-- what is written at the lines: the l-th '.' has the value that f has there -/
def atG {α : Type} (d : α) (f : Nat → α) (g : Nat → Nat) : Nat → Nat → α
  | 0 => fun _ => d
  | i + 1 => if g i = 46 then (fun l => if l = lnA g i then f i else atG d f g i l) else atG d f g i
theorem lnA_y {g : Nat → Nat} {i : Nat} (h : g i = 46) : lnA g (i + 1) = lnA g i + 1 := by simp only [lnA, if_pos h]
theorem lnA_n {g : Nat → Nat} {i : Nat} (h : ¬ g i = 46) : lnA g (i + 1) = lnA g i := by simp only [lnA, if_neg h, Nat.add_zero]
theorem mkA_y {g : Nat → Nat} {i : Nat} (h : g i = 63) : mkA g (i + 1) = mkA g i + 1 := by simp only [mkA, if_pos h]
theorem mkA_n {g : Nat → Nat} {i : Nat} (h : ¬ g i = 63) : mkA g (i + 1) = mkA g i := by simp only [mkA, if_neg h, Nat.add_zero]
theorem cmA_y {g : Nat → Nat} {i : Nat} (h : 65 ≤ g i ∧ g i ≤ 72) : cmA g (i + 1) = cmA g i + 1 := by simp only [cmA, if_pos h]
theorem cmA_n {g : Nat → Nat} {i : Nat} (h : ¬ (65 ≤ g i ∧ g i ≤ 72)) : cmA g (i + 1) = cmA g i := by simp only [cmA, if_neg h, Nat.add_zero]
theorem atG_n {α : Type} {d : α} {f : Nat → α} {g : Nat → Nat} {i : Nat} (h : ¬ g i = 46) : atG d f g (i + 1) = atG d f g i := by simp only [atG, if_neg h]
theorem atG_put {α : Type} {d : α} {f : Nat → α} {g : Nat → Nat} {i : Nat} (h : g i = 46) {a : Nat → Int32} {c : α → Int32} (ha : ∀ l, l < lnA g i → a l = c (atG d f g i l)) {v : Int32} (hv : v = c (f i)) : ∀ l, l < lnA g (i + 1) → upd a (lnA g i) v l = c (atG d f g (i + 1) l) := by
  intro l hl
  rw [lnA_y h] at hl
  simp only [atG, if_pos h, upd_at]
  by_cases e : l = lnA g i
  · rw [if_pos e, if_pos e, hv]
  · rw [if_neg e, if_neg e]
    exact ha l (by omega)
theorem atG_keep {α : Type} {d : α} {f : Nat → α} {g : Nat → Nat} {i : Nat} (h : ¬ g i = 46) {a : Nat → Int32} {c : α → Int32} (ha : ∀ l, l < lnA g i → a l = c (atG d f g i l)) : ∀ l, l < lnA g (i + 1) → a l = c (atG d f g (i + 1) l) := by
  rw [lnA_n h, atG_n h]
  exact ha
theorem allOk_s {g : Nat → Nat} {i : Nat} (h : allOk g i) (h1 : okS g i) : allOk g (i + 1) := fun j hj => by
  by_cases e : j = i
  · rw [e]; exact h1
  · exact h j (by omega)
def PadC (w : Wd) (g : Nat → Nat) (n : Nat) : Prop := w.1 0 = nI n ∧ n ≤ 40 ∧ ∀ i, i < n → w.2.1 5 i = nI (g i) ∧ g i < 128
def PadM (w : Wd) (g : Nat → Nat) (n : Nat) : Prop := w.1 34 = nI n ∧ n ≤ 40 ∧ ∀ i, i < n → w.2.1 41 i = nI (g i) ∧ g i < 128
theorem PadC.same {w w' : Wd} {g : Nat → Nat} {n : Nat} (h : PadC w g n) (hs : Same w w') : PadC w' g n := by
  obtain ⟨h1, h2, h3⟩ := h
  refine ⟨by rw [hs.1 0 (Or.inl rfl)]; exact h1, h2, fun i hi => ?_⟩
  rw [hs.2 5 (by unfold PA; omega)]
  exact h3 i hi
theorem PadM.same {w w' : Wd} {g : Nat → Nat} {n : Nat} (h : PadM w g n) (hs : Same w w') : PadM w' g n := by
  obtain ⟨h1, h2, h3⟩ := h
  refine ⟨by rw [hs.1 34 (by unfold PI; omega)]; exact h1, h2, fun i hi => ?_⟩
  rw [hs.2 41 (by unfold PA; omega)]
  exact h3 i hi
theorem X2_isComing (w : Wd) {a : Nat} (h : a < 128) : F_X2_isComing w (nI a) = some (if 65 ≤ a ∧ a ≤ 72 then 1 else 0, w) := by
  have e : (if nI a < 65 then (0 : Int32) else (if 72 < nI a then 0 else 1)) = if 65 ≤ a ∧ a ≤ 72 then 1 else 0 := by
    simp (disch := omega) only [Int32.le_iff_toInt_le, Int32.lt_iff_toInt_lt, ← Int32.toInt_inj, nI_toInt, Int32.reduceToInt]
    by_cases h1 : 65 ≤ a ∧ a ≤ 72
    · rw [if_pos h1, if_neg (by omega), if_neg (by omega)]
    · rw [if_neg h1]
      by_cases h2 : (a : Int) < 65
      · rw [if_pos h2]
      · rw [if_neg h2, if_pos (by omega)]
  unfold F_X2_isComing
  rw [e, isB_ite]
  rfl
theorem X2_isGoing (w : Wd) {a : Nat} (h : a < 128) : F_X2_isGoing w (nI a) = some (if 97 ≤ a ∧ a ≤ 104 then 1 else 0, w) := by
  have e : (if nI a < 97 then (0 : Int32) else (if 104 < nI a then 0 else 1)) = if 97 ≤ a ∧ a ≤ 104 then 1 else 0 := by
    simp (disch := omega) only [Int32.le_iff_toInt_le, Int32.lt_iff_toInt_lt, ← Int32.toInt_inj, nI_toInt, Int32.reduceToInt]
    by_cases h1 : 97 ≤ a ∧ a ≤ 104
    · rw [if_pos h1, if_neg (by omega), if_neg (by omega)]
    · rw [if_neg h1]
      by_cases h2 : (a : Int) < 97
      · rw [if_pos h2]
      · rw [if_neg h2, if_pos (by omega)]
  unfold F_X2_isGoing
  rw [e, isB_ite]
  rfl
/-- how many are on, by comings and goings alone -/
def manyA (g : Nat → Nat) (i : Nat) : Int32 := nI (cmA g i + mkA g i) - nI (goA g i)
theorem manyA_s (g : Nat → Nat) (i : Nat) : manyA g (i + 1) = if (65 ≤ g i ∧ g i ≤ 72) ∨ g i = 63 then manyA g i + 1 else if 97 ≤ g i ∧ g i ≤ 104 then manyA g i + (-1) else manyA g i := by
  unfold manyA
  simp only [cmA, mkA, goA]
  by_cases h1 : 65 ≤ g i ∧ g i ≤ 72
  · rw [if_pos h1, if_neg (by omega), if_neg (by omega), if_pos (Or.inl h1)]
    rw [show cmA g i + 1 + (mkA g i + 0) = cmA g i + mkA g i + 1 by omega, ← nI_1]
    simp only [Nat.add_zero]
    rw [Int32.sub_eq_add_neg, Int32.sub_eq_add_neg, Int32.add_assoc, Int32.add_assoc, Int32.add_comm 1]
  · rw [if_neg h1]
    by_cases h2 : g i = 63
    · rw [if_pos h2, if_neg (by omega), if_pos (Or.inr h2)]
      rw [show cmA g i + 0 + (mkA g i + 1) = cmA g i + mkA g i + 1 by omega, ← nI_1]
      simp only [Nat.add_zero]
      rw [Int32.sub_eq_add_neg, Int32.sub_eq_add_neg, Int32.add_assoc, Int32.add_assoc, Int32.add_comm 1]
    · rw [if_neg h2]
      by_cases h3 : 97 ≤ g i ∧ g i ≤ 104
      · rw [if_pos h3, if_neg (by omega), if_pos h3, ← nI_1]
        simp only [Nat.add_zero]
        rw [Int32.sub_eq_add_neg, Int32.sub_eq_add_neg, Int32.neg_add, Int32.sub_eq_add_neg, ← Int32.add_assoc]
      · rw [if_neg h3, if_neg (by omega), if_neg h3]
        rfl
theorem survey_ok (w : Wd) {g : Nat → Nat} {n : Nat} (hp : PadC w g n) : Ok (F_X2_survey w) (fun w' => Same w w' ∧ ((∃ f, isFault g n f ∧ w'.1 1 = nI f) ∨ (allOk g n ∧ w'.1 1 = -6 ∧ w'.1 2 = nI (mkA g n) ∧ w'.1 3 = nI (cmA g n) ∧ w'.1 4 = nI (lnA g n) ∧ ∀ l, l < lnA g n → w'.2.1 6 l = id (atG 0 (manyA g) g n l)))) := by
  unfold F_X2_survey L_X2_survey_25
  refine Ok.loop (fun a => ∃ i, i ≤ n ∧ Same w a.1 ∧ a.2.2 = nI i ∧ ((a.1.1 1 = -6 ∧ allOk g i ∧ a.2.1 = manyA g i ∧ a.1.1 2 = nI (mkA g i) ∧ a.1.1 3 = nI (cmA g i) ∧ a.1.1 4 = nI (lnA g i) ∧ ∀ l, l < lnA g i → a.1.2.1 6 l = id (atG 0 (manyA g) g i l)) ∨ (∃ f, isFault g n f ∧ a.1.1 1 = nI f))) (fun a => 41 - a.2.2.toNatClampNeg) ?_ fu _ ?_ (fu_big (by show 41 - _ < _; omega))
  · rintro ⟨w1, v1, v2⟩ ⟨i, hi, hs, rfl, hcase⟩ k hk
    dsimp only at hs hcase hk ⊢
    obtain ⟨e0, hn, hsg⟩ := hp.same hs
    unfold F_X2_survey_25
    rw [e0]
    refine Ok.ite (fun c => ?_) (fun c => ?_)
    · simp (disch := omega) only [Int32.le_iff_toInt_le, Int32.lt_iff_toInt_lt, ← Int32.toInt_inj, nI_toInt, Int32.reduceToInt] at c
      have e : i = n := by omega
      subst e
      refine Ok.ret ⟨hs, ?_⟩
      rcases hcase with ⟨h1, h2, h3, h4⟩ | hf
      · exact Or.inr ⟨h2, h1, h4⟩
      · exact Or.inl hf
    · simp (disch := omega) only [Int32.le_iff_toInt_le, Int32.lt_iff_toInt_lt, ← Int32.toInt_inj, nI_toInt, Int32.reduceToInt] at c
      have hin : i < n := by omega
      obtain ⟨hgi, hg⟩ := hsg i hin
      refine Ok.ite (fun c1 => ?_) (fun c1 => ?_)
      · rcases hcase with ⟨h1, hall, rfl, ha, hcm, hln, hat⟩ | ⟨f, hf, hf1⟩
        · have hk3 : mkA g i ≤ 3 := mkA_ok hall
          have hl := lnA_le g i
          have hc := cmA_le g i
          refine Ok.gu (gd_nI (by omega) (by omega)) ?_
          rw [cl_nI (by omega), hgi, X2_isComing _ hg, Option.bind_some]
          dsimp only
          by_cases hA : 65 ≤ g i ∧ g i ≤ 72
          · rw [if_pos hA, if_neg (by decide)]
            unfold F_X2_survey_149
            rw [nI_1, hcm, nI_1]
            refine hk _ ⟨i + 1, by omega, hs.wI (by unfold PI; omega), rfl, Or.inl ⟨?_, allOk_s hall (Or.inr (Or.inr (Or.inl hA))), ?_, ?_, ?_, ?_, ?_⟩⟩ (by dsimp only; rw [cl_nI (by omega), cl_nI (by omega)]; omega)
            · simp only [rI_i, rI_a, rI_l, rA_i, rA_a, rA_l, rR_i, rR_a, rR_l, rL_i, rL_a, rL_l, reduceIte, Nat.reduceEqDiff]; exact h1
            · rw [manyA_s, if_pos (Or.inl hA)]
            · rw [mkA_n (by omega)]; simp only [rI_i, rI_a, rI_l, rA_i, rA_a, rA_l, rR_i, rR_a, rR_l, rL_i, rL_a, rL_l, reduceIte, Nat.reduceEqDiff]; exact ha
            · rw [cmA_y hA]; simp only [rI_i, rI_a, rI_l, rA_i, rA_a, rA_l, rR_i, rR_a, rR_l, rL_i, rL_a, rL_l, reduceIte, Nat.reduceEqDiff]
            · rw [lnA_n (by omega)]; simp only [rI_i, rI_a, rI_l, rA_i, rA_a, rA_l, rR_i, rR_a, rR_l, rL_i, rL_a, rL_l, reduceIte, Nat.reduceEqDiff]; exact hln
            · simp only [rI_i, rI_a, rI_l, rA_i, rA_a, rA_l, rR_i, rR_a, rR_l, rL_i, rL_a, rL_l, reduceIte, Nat.reduceEqDiff]; exact atG_keep (by omega) hat
          · rw [if_neg hA, if_pos rfl, X2_isGoing _ hg, Option.bind_some]
            dsimp only
            by_cases hB : 97 ≤ g i ∧ g i ≤ 104
            · rw [if_pos hB, if_neg (by decide)]
              unfold F_X2_survey_149
              rw [nI_1]
              refine hk _ ⟨i + 1, by omega, hs, rfl, Or.inl ⟨h1, allOk_s hall (Or.inr (Or.inr (Or.inr hB))), ?_, ?_, ?_, ?_, ?_⟩⟩ (by dsimp only; rw [cl_nI (by omega), cl_nI (by omega)]; omega)
              · rw [manyA_s, if_neg (by omega), if_pos hB]
              · rw [mkA_n (by omega)]; exact ha
              · rw [cmA_n hA]; exact hcm
              · rw [lnA_n (by omega)]; exact hln
              · exact atG_keep (by omega) hat
            · rw [if_neg hB, if_pos rfl]
              by_cases hL : g i = 46
              · rw [if_pos (by rw [hL]; rfl), hln]
                refine Ok.gu (gd_nI (by omega) (by omega)) ?_
                unfold F_X2_survey_149
                rw [nI_1, nI_1]
                refine hk _ ⟨i + 1, by omega, (hs.wA (by unfold PA; omega)).wI (by unfold PI; omega), rfl, Or.inl ⟨?_, allOk_s hall (Or.inl hL), ?_, ?_, ?_, ?_, ?_⟩⟩ (by dsimp only; rw [cl_nI (by omega), cl_nI (by omega)]; omega)
                · simp only [rI_i, rI_a, rI_l, rA_i, rA_a, rA_l, rR_i, rR_a, rR_l, rL_i, rL_a, rL_l, reduceIte, Nat.reduceEqDiff]; exact h1
                · rw [manyA_s, if_neg (by omega), if_neg hB]
                · rw [mkA_n (by omega)]; simp only [rI_i, rI_a, rI_l, rA_i, rA_a, rA_l, rR_i, rR_a, rR_l, rL_i, rL_a, rL_l, reduceIte, Nat.reduceEqDiff]; exact ha
                · rw [cmA_n hA]; simp only [rI_i, rI_a, rI_l, rA_i, rA_a, rA_l, rR_i, rR_a, rR_l, rL_i, rL_a, rL_l, reduceIte, Nat.reduceEqDiff]; exact hcm
                · rw [lnA_y hL]; simp only [rI_i, rI_a, rI_l, rA_i, rA_a, rA_l, rR_i, rR_a, rR_l, rL_i, rL_a, rL_l, reduceIte, Nat.reduceEqDiff]
                · simp only [rI_i, rI_a, rI_l, rA_i, rA_a, rA_l, rR_i, rR_a, rR_l, rL_i, rL_a, rL_l, reduceIte, Nat.reduceEqDiff]; rw [cl_nI (by omega)]; exact atG_put hL hat rfl
              · rw [if_neg (by simp (disch := omega) only [Int32.le_iff_toInt_le, Int32.lt_iff_toInt_lt, ← Int32.toInt_inj, nI_toInt, Int32.reduceToInt]; omega)]
                by_cases hQ : g i = 63
                · rw [if_pos (by rw [hQ]; rfl), ha]
                  refine Ok.ite (fun c2 => ?_) (fun c2 => ?_)
                  · simp (disch := omega) only [Int32.le_iff_toInt_le, Int32.lt_iff_toInt_lt, ← Int32.toInt_inj, nI_toInt, Int32.reduceToInt] at c2
                    unfold F_X2_survey_144 F_X2_survey_149
                    rw [nI_1]
                    refine hk _ ⟨i + 1, by omega, hs.wI (by unfold PI; omega), rfl, Or.inr ⟨i, ⟨hin, ?_, hall⟩, by simp only [rI_i, rI_a, rI_l, rA_i, rA_a, rA_l, rR_i, rR_a, rR_l, rL_i, rL_a, rL_l, reduceIte, Nat.reduceEqDiff]⟩⟩ (by dsimp only; rw [cl_nI (by omega), cl_nI (by omega)]; omega)
                    unfold okS
                    omega
                  · simp (disch := omega) only [Int32.le_iff_toInt_le, Int32.lt_iff_toInt_lt, ← Int32.toInt_inj, nI_toInt, Int32.reduceToInt] at c2
                    unfold F_X2_survey_149
                    rw [nI_1, nI_1]
                    refine hk _ ⟨i + 1, by omega, hs.wI (by unfold PI; omega), rfl, Or.inl ⟨?_, allOk_s hall (Or.inr (Or.inl ⟨hQ, by omega⟩)), ?_, ?_, ?_, ?_, ?_⟩⟩ (by dsimp only; rw [cl_nI (by omega), cl_nI (by omega)]; omega)
                    · simp only [rI_i, rI_a, rI_l, rA_i, rA_a, rA_l, rR_i, rR_a, rR_l, rL_i, rL_a, rL_l, reduceIte, Nat.reduceEqDiff]; exact h1
                    · rw [manyA_s, if_pos (Or.inr hQ)]
                    · rw [mkA_y hQ]; simp only [rI_i, rI_a, rI_l, rA_i, rA_a, rA_l, rR_i, rR_a, rR_l, rL_i, rL_a, rL_l, reduceIte, Nat.reduceEqDiff]
                    · rw [cmA_n hA]; simp only [rI_i, rI_a, rI_l, rA_i, rA_a, rA_l, rR_i, rR_a, rR_l, rL_i, rL_a, rL_l, reduceIte, Nat.reduceEqDiff]; exact hcm
                    · rw [lnA_n hL]; simp only [rI_i, rI_a, rI_l, rA_i, rA_a, rA_l, rR_i, rR_a, rR_l, rL_i, rL_a, rL_l, reduceIte, Nat.reduceEqDiff]; exact hln
                    · simp only [rI_i, rI_a, rI_l, rA_i, rA_a, rA_l, rR_i, rR_a, rR_l, rL_i, rL_a, rL_l, reduceIte, Nat.reduceEqDiff]; exact atG_keep hL hat
                · rw [if_neg (by simp (disch := omega) only [Int32.le_iff_toInt_le, Int32.lt_iff_toInt_lt, ← Int32.toInt_inj, nI_toInt, Int32.reduceToInt]; omega)]
                  unfold F_X2_survey_144 F_X2_survey_149
                  rw [nI_1]
                  refine hk _ ⟨i + 1, by omega, hs.wI (by unfold PI; omega), rfl, Or.inr ⟨i, ⟨hin, ?_, hall⟩, by simp only [rI_i, rI_a, rI_l, rA_i, rA_a, rA_l, rR_i, rR_a, rR_l, rL_i, rL_a, rL_l, reduceIte, Nat.reduceEqDiff]⟩⟩ (by dsimp only; rw [cl_nI (by omega), cl_nI (by omega)]; omega)
                  unfold okS
                  omega
        · exfalso
          have := hf.1
          rw [hf1] at c1
          simp (disch := omega) only [Int32.le_iff_toInt_le, Int32.lt_iff_toInt_lt, ← Int32.toInt_inj, nI_toInt, Int32.reduceToInt] at c1
          omega
      · unfold F_X2_survey_155
        refine Ok.ret ⟨hs, ?_⟩
        rcases hcase with ⟨h1, h2⟩ | hf
        · exact absurd h1 c1
        · exact Or.inl hf
  · refine ⟨0, Nat.zero_le _, ?_, rfl, Or.inl ⟨?_, fun j hj => absurd hj (Nat.not_lt_zero _), (by show (0 : Int32) = nI (0 + 0) - nI 0; decide), ?_, ?_, ?_, fun l hl => absurd hl (Nat.not_lt_zero _)⟩⟩
    · exact ((((Same.rf w).wI (by unfold PI; omega)).wI (by unfold PI; omega)).wI (by unfold PI; omega)).wI (by unfold PI; omega)
    · simp only [rI_i, rI_a, rI_l, rA_i, rA_a, rA_l, rR_i, rR_a, rR_l, rL_i, rL_a, rL_l, reduceIte, Nat.reduceEqDiff]
    · simp only [rI_i, rI_a, rI_l, rA_i, rA_a, rA_l, rR_i, rR_a, rR_l, rL_i, rL_a, rL_l, reduceIte, Nat.reduceEqDiff]; rfl
    · simp only [rI_i, rI_a, rI_l, rA_i, rA_a, rA_l, rR_i, rR_a, rR_l, rL_i, rL_a, rL_l, reduceIte, Nat.reduceEqDiff]; rfl
    · simp only [rI_i, rI_a, rI_l, rA_i, rA_a, rA_l, rR_i, rR_a, rR_l, rL_i, rL_a, rL_l, reduceIte, Nat.reduceEqDiff]; rfl
