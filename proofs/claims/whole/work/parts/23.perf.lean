theorem Ok.eq {β : Type} {o : Option β} {b : β} (h : Ok o (fun x => x = b)) : o = some b := by
  obtain ⟨x, h1, rfl⟩ := h
  exact h1
theorem X5_within (w : Wd) (v m : Int32) : F_X5_isWithin w v m = some (if 0 ≤ v.toInt ∧ v.toInt ≤ m.toInt then 1 else 0, w) := by
  rw [X5_isWithin]
  simp only [Int32.le_iff_toInt_le, Int32.reduceToInt]
theorem X6_in (w : Wd) (a b c : Int64) : F_X6_in w a b c = some (if b ≤ a ∧ a ≤ c then 1 else 0, w) := by
  have e : (if (lg_cmp a b) < 0 then (0 : Int32) else (if 0 < (lg_cmp a c) then 0 else 1)) = if b ≤ a ∧ a ≤ c then 1 else 0 := by
    simp only [lg_cmp_lt, lg_cmp_gt, Int64.lt_iff_toInt_lt, Int64.le_iff_toInt_le]
    by_cases h1 : a.toInt < b.toInt
    · rw [if_pos h1, if_neg (by omega)]
    · rw [if_neg h1]
      by_cases h2 : c.toInt < a.toInt
      · rw [if_pos h2, if_neg (by omega)]
      · rw [if_neg h2, if_pos (by omega)]
  unfold F_X6_in
  rw [e, isB_ite]
  rfl
theorem X6_within (w : Wd) (v : Int32) (b c : Int64) : F_X6_in w v.toInt64 b c = some (if b.toInt ≤ v.toInt ∧ v.toInt ≤ c.toInt then 1 else 0, w) := by
  rw [X6_in]
  simp only [Int64.le_iff_toInt_le, Int32.toInt_toInt64]
theorem marks_eq {w : Wd} {g : Nat → Nat} {n : Nat} (hp : PadM w g n) : F_X6_marks w = some (nI (mkA g n), w) := by
  apply Ok.eq
  obtain ⟨h34, hn, hsg⟩ := hp
  unfold F_X6_marks L_X6_marks_4
  refine Ok.loop (fun a => ∃ i, i ≤ n ∧ a.1 = w ∧ a.2.2 = nI i ∧ a.2.1 = nI (mkA g i)) (fun a => 41 - a.2.2.toNatClampNeg) ?_ fu _ ⟨0, Nat.zero_le _, rfl, rfl, rfl⟩ (fu_big (by show 41 - _ < _; omega))
  rintro ⟨w1, v1, v2⟩ ⟨i, hi, e1, e2, e3⟩ k hk
  dsimp only at e1 e2 e3 hk ⊢
  subst e1 e2 e3
  unfold F_X6_marks_4
  rw [h34]
  refine Ok.ite (fun c => ?_) (fun c => ?_)
  · simp (disch := omega) only [Int32.le_iff_toInt_le, Int32.lt_iff_toInt_lt, ← Int32.toInt_inj, nI_toInt, Int32.reduceToInt] at c
    have e : i = n := by omega
    subst e
    exact Ok.ret rfl
  · simp (disch := omega) only [Int32.le_iff_toInt_le, Int32.lt_iff_toInt_lt, ← Int32.toInt_inj, nI_toInt, Int32.reduceToInt] at c
    have hin : i < n := by omega
    obtain ⟨hgi, hg⟩ := hsg i hin
    refine Ok.gu (gd_nI (by omega) (by omega)) (Ok.let (fun y e => ?_))
    rw [nI_1]
    refine hk _ ⟨i + 1, by omega, rfl, rfl, ?_⟩ (by dsimp only; rw [cl_nI (by omega), cl_nI (by omega)]; omega)
    subst e
    rw [cl_nI (by omega), hgi]
    show nI (mkA g i) + (if nI (g i) = 63 then (1 : Int32) else 0) = nI (mkA g (i + 1))
    by_cases q : g i = 63
    · rw [mkA_y q, if_pos (by rw [q]; rfl), nI_1]
    · rw [mkA_n q, if_neg (by simp (disch := omega) only [Int32.le_iff_toInt_le, Int32.lt_iff_toInt_lt, ← Int32.toInt_inj, nI_toInt, Int32.reduceToInt]; omega)]
      exact Int32.add_zero _
theorem faultM_ok (w : Wd) {g : Nat → Nat} {n : Nat} (hp : PadM w g n) : Ok (F_X6_fault w) (fun x => x.2 = w ∧ ((∃ f, isFault g n f ∧ x.1 = nI f) ∨ (allOk g n ∧ x.1 = -6))) := by
  obtain ⟨h34, hn, hsg⟩ := hp
  unfold F_X6_fault L_X6_fault_4
  refine Ok.loop (fun a => ∃ i, i ≤ n ∧ a.1 = w ∧ a.2.2 = nI i ∧ a.2.1 = nI (mkA g i) ∧ allOk g i) (fun a => 41 - a.2.2.toNatClampNeg) ?_ fu _ ⟨0, Nat.zero_le _, rfl, rfl, rfl, fun j hj => absurd hj (Nat.not_lt_zero _)⟩ (fu_big (by show 41 - _ < _; omega))
  rintro ⟨w1, v1, v2⟩ ⟨i, hi, e1, e2, e3, hall⟩ k hk
  dsimp only at e1 e2 e3 hk ⊢
  subst e1 e2 e3
  unfold F_X6_fault_4
  rw [h34]
  refine Ok.ite (fun c => ?_) (fun c => ?_)
  · simp (disch := omega) only [Int32.le_iff_toInt_le, Int32.lt_iff_toInt_lt, ← Int32.toInt_inj, nI_toInt, Int32.reduceToInt] at c
    have e : i = n := by omega
    subst e
    exact Ok.ret ⟨rfl, Or.inr ⟨hall, rfl⟩⟩
  · simp (disch := omega) only [Int32.le_iff_toInt_le, Int32.lt_iff_toInt_lt, ← Int32.toInt_inj, nI_toInt, Int32.reduceToInt] at c
    have hin : i < n := by omega
    have hm3 := mkA_ok hall
    obtain ⟨hgi, hg⟩ := hsg i hin
    refine Ok.gu (gd_nI (by omega) (by omega)) (Ok.let (fun y e => ?_))
    rw [cl_nI (by omega), hgi] at e
    rw [cl_nI (by omega), hgi]
    have ey : y = nI (mkA g (i + 1)) := by
      rw [e]
      by_cases q : g i = 63
      · rw [mkA_y q, if_pos (by rw [q]; rfl), nI_1]
      · rw [mkA_n q, if_neg (by simp (disch := omega) only [Int32.le_iff_toInt_le, Int32.lt_iff_toInt_lt, ← Int32.toInt_inj, nI_toInt, Int32.reduceToInt]; omega)]
        exact Int32.add_zero _
    have hm4 := mkA_le g (i + 1)
    clear e
    subst ey
    have good : okS g i → Ok (F_X6_fault_78 k w1 (nI (mkA g (i + 1))) (nI i)) (fun x => x.2 = w1 ∧ ((∃ f, isFault g n f ∧ x.1 = nI f) ∨ (allOk g n ∧ x.1 = -6))) := by
      intro ho
      unfold F_X6_fault_78 F_X6_fault_83
      rw [if_neg (by decide), nI_1]
      exact hk _ ⟨i + 1, by omega, rfl, rfl, rfl, allOk_s hall ho⟩ (by dsimp only; rw [cl_nI (by omega), cl_nI (by omega)]; omega)
    have other : ¬ g i = 46 → (g i = 63 → ¬ mkA g i < 3) → Ok (F_X6_fault_50 k w1 (nI (mkA g (i + 1))) (nI i) (nI (g i))) (fun x => x.2 = w1 ∧ ((∃ f, isFault g n f ∧ x.1 = nI f) ∨ (allOk g n ∧ x.1 = -6))) := by
      intro h46 h63
      unfold F_X6_fault_50
      rw [X6_within, Option.bind_some]
      simp only [Int64.reduceToInt]
      rw [nI_toInt (by omega)]
      by_cases hA : 65 ≤ g i ∧ g i ≤ 72
      · rw [if_pos (show (65 : Int) ≤ (g i : Int) ∧ (g i : Int) ≤ 72 by omega), if_neg (by decide)]
        exact good (Or.inr (Or.inr (Or.inl hA)))
      · rw [if_neg (show ¬ ((65 : Int) ≤ (g i : Int) ∧ (g i : Int) ≤ 72) by omega), if_pos rfl, X6_within]
        simp only [Int64.reduceToInt]
        rw [nI_toInt (by omega)]
        by_cases hB : 97 ≤ g i ∧ g i ≤ 104
        · rw [if_pos (show (97 : Int) ≤ (g i : Int) ∧ (g i : Int) ≤ 104 by omega), Option.bind_some]
          simp only [show ((1 : Int32) = 0) = False from by decide, if_false]
          rw [nI_1]
          exact hk _ ⟨i + 1, by omega, rfl, rfl, rfl, allOk_s hall (Or.inr (Or.inr (Or.inr hB)))⟩ (by dsimp only; rw [cl_nI (by omega), cl_nI (by omega)]; omega)
        · rw [if_neg (show ¬ ((97 : Int) ≤ (g i : Int) ∧ (g i : Int) ≤ 104) by omega), Option.bind_some]
          simp only [if_true]
          refine Ok.ret ⟨rfl, Or.inl ⟨i, ⟨hin, ?_, hall⟩, rfl⟩⟩
          unfold okS
          omega
    refine Ok.ite (fun c2 => ?_) (fun c2 => ?_)
    · simp (disch := omega) only [Int32.le_iff_toInt_le, Int32.lt_iff_toInt_lt, ← Int32.toInt_inj, nI_toInt, Int32.reduceToInt] at c2
      exact good (Or.inl (by omega))
    · simp (disch := omega) only [Int32.le_iff_toInt_le, Int32.lt_iff_toInt_lt, ← Int32.toInt_inj, nI_toInt, Int32.reduceToInt] at c2
      refine Ok.ite (fun c3 => ?_) (fun c3 => ?_)
      · simp (disch := omega) only [Int32.le_iff_toInt_le, Int32.lt_iff_toInt_lt, ← Int32.toInt_inj, nI_toInt, Int32.reduceToInt] at c3
        have q : g i = 63 := by omega
        rw [mkA_y q] at good other hm4 ⊢
        refine Ok.ite (fun c4 => ?_) (fun c4 => ?_)
        · simp (disch := omega) only [Int32.le_iff_toInt_le, Int32.lt_iff_toInt_lt, ← Int32.toInt_inj, nI_toInt, Int32.reduceToInt] at c4
          exact good (Or.inr (Or.inl ⟨q, by omega⟩))
        · simp (disch := omega) only [Int32.le_iff_toInt_le, Int32.lt_iff_toInt_lt, ← Int32.toInt_inj, nI_toInt, Int32.reduceToInt] at c4
          exact other (by omega) (fun _ => by omega)
      · simp (disch := omega) only [Int32.le_iff_toInt_le, Int32.lt_iff_toInt_lt, ← Int32.toInt_inj, nI_toInt, Int32.reduceToInt] at c3
        exact other (by omega) (fun _ => by omega)
/-- no ? stands in it: who its events are -/
def ev0 (g : Nat → Nat) : Nat → Nat := evA g (fun _ => 0)
theorem layEvents_ok (w : Wd) {g : Nat → Nat} {n : Nat} (hp : PadM w g n) (hall : allOk g n) : Ok (F_X6_layEvents w) (fun w' => Fr [] [42] w w' ∧ ∀ i, i < n → g i ≠ 63 → w'.2.1 42 i = nI (ev0 g i)) := by
  obtain ⟨h34, hn, hsg⟩ := hp
  unfold F_X6_layEvents L_X6_layEvents_2
  refine Ok.loop (fun a => ∃ i, i ≤ n ∧ Fr [] [42] w a.1 ∧ a.2 = nI i ∧ ∀ j, j < i → g j ≠ 63 → a.1.2.1 42 j = nI (ev0 g j)) (fun a => 41 - a.2.toNatClampNeg) ?_ fu _ ⟨0, Nat.zero_le _, Fr.rf _ _ _, rfl, fun j hj => absurd hj (Nat.not_lt_zero _)⟩ (fu_big (by show 41 - _ < _; omega))
  rintro ⟨w1, v1⟩ ⟨i, hi, hs, e2, hlay⟩ k hk
  dsimp only at hs e2 hlay hk ⊢
  subst e2
  have e0 : w1.1 34 = nI n := by rw [hs.1 34 (by decide)]; exact h34
  unfold F_X6_layEvents_2
  rw [e0]
  refine Ok.ite (fun c => ?_) (fun c => ?_)
  · simp (disch := omega) only [Int32.le_iff_toInt_le, Int32.lt_iff_toInt_lt, ← Int32.toInt_inj, nI_toInt, Int32.reduceToInt] at c
    have e : i = n := by omega
    subst e
    exact Ok.ret ⟨hs, hlay⟩
  · simp (disch := omega) only [Int32.le_iff_toInt_le, Int32.lt_iff_toInt_lt, ← Int32.toInt_inj, nI_toInt, Int32.reduceToInt] at c
    have hin : i < n := by omega
    obtain ⟨hgi, hg⟩ := hsg i hin
    have hg2 : w1.2.1 41 i = nI (g i) := by rw [hs.2 41 (by decide)]; exact hgi
    refine Ok.gu (gd_nI (by omega) (by omega)) (Ok.gu (gd_nI (by omega) (by omega)) ?_)
    rw [cl_nI (by omega), hg2, nI_1]
    refine hk _ ⟨i + 1, by omega, hs.wA (by decide), rfl, fun j hj hj63 => ?_⟩ (by dsimp only; rw [cl_nI (by omega), cl_nI (by omega)]; omega)
    simp only [rI_i, rI_a, rI_l, rA_i, rA_a, rA_l, rR_i, rR_a, rR_l, rL_i, rL_a, rL_l, reduceIte, Nat.reduceEqDiff]
    rw [cl_nI (by omega), upd_at]
    by_cases e : j = i
    · subst e
      rw [if_pos rfl]
      have ho := hall j hin
      unfold ev0 evA
      by_cases h46 : g j = 46
      · rw [if_pos (by rw [h46]; rfl), if_pos h46]
        rfl
      · rw [if_neg (by simp (disch := omega) only [Int32.le_iff_toInt_le, Int32.lt_iff_toInt_lt, ← Int32.toInt_inj, nI_toInt, Int32.reduceToInt]; omega), if_neg h46]
        by_cases h97 : 97 ≤ g j
        · rw [if_neg (by simp (disch := omega) only [Int32.le_iff_toInt_le, Int32.lt_iff_toInt_lt, ← Int32.toInt_inj, nI_toInt, Int32.reduceToInt]; omega), if_pos h97]
          rw [show (16 : Int32) + nI (g j) = nI (16 + g j) from nI_add 16 (g j)]
          rw [show nI (16 + g j) - (97 : Int32) = nI (16 + g j - 97) from pk_sub (b := 97) (by omega)]
          congr 1
          omega
        · have h65 : 65 ≤ g j := by rcases ho with q | q | q | q <;> omega
          rw [if_pos (by simp (disch := omega) only [Int32.le_iff_toInt_le, Int32.lt_iff_toInt_lt, ← Int32.toInt_inj, nI_toInt, Int32.reduceToInt]; omega), if_neg h97, if_neg hj63]
          exact pk_sub (b := 65) h65
    · rw [if_neg e]
      exact hlay j (by omega) hj63
/-! the class: perform -/
def digA (A way j : Nat) : Nat := way / 2 ^ (3 * (A - 1 - j)) % 8
theorem digA_lt (A way j : Nat) : digA A way j < 8 := Nat.mod_lt _ (by decide)
theorem guessed_num : ∀ A, A < 4 → ∀ j, j < A → ∀ way, way < 512 → ((nI way >>> ((3 * ((nI A - 1) - nI j)) &&& 31)) &&& 7) = nI (digA A way j) := by decide +kernel
theorem X2_guessed (w : Wd) {A way j : Nat} (hA : A < 4) (h2 : w.1 2 = nI A) (hj : j < A) (hw : way < 512) : F_X2_guessed w (nI way) (nI j) = some (nI (digA A way j), w) := by
  unfold F_X2_guessed
  rw [h2, guessed_num A hA j hj way hw]
theorem X2_refuse (w : Wd) (c : Prop) (d : Decidable c) (a b : Int32) : F_X2_refuseUnless w (if c then 1 else 0) a b = some (if c then w else wI (wI w 5 a) 6 b) := by
  unfold F_X2_refuseUnless F_X2_refuseUnless_14
  by_cases h : c
  · rw [if_pos h, if_pos h, if_neg (by decide)]
  · rw [if_neg h, if_neg h, if_pos rfl]
theorem X2_refuse' (w : Wd) (c : Prop) (d : Decidable c) (a b : Int32) : F_X2_refuseUnless w (if c then 0 else 1) a b = some (if c then wI (wI w 5 a) 6 b else w) := by
  unfold F_X2_refuseUnless F_X2_refuseUnless_14
  by_cases h : c
  · rw [if_pos h, if_pos h, if_pos rfl]
  · rw [if_neg h, if_neg h, if_neg (by decide)]
theorem mkA_mono (g : Nat → Nat) {i n : Nat} (h : i ≤ n) : mkA g i ≤ mkA g n := by
  induction n with
  | zero => rw [show i = 0 by omega]; exact Nat.le_refl _
  | succ n ih =>
    by_cases e : i = n + 1
    · rw [e]; exact Nat.le_refl _
    · have := ih (by omega)
      simp only [mkA]
      omega
theorem perform_ok (w : Wd) {g : Nat → Nat} {n way : Nat} (hp : PadC w g n) (hall : allOk g n) (h2 : w.1 2 = nI (mkA g n)) (hw : way < 512) :
    Ok (F_X2_perform w (nI way)) (fun w' => Fr [5, 6, 7] [7] w w' ∧ ((allGood (evA g (digA (mkA g n) way)) n ∧ w'.1 5 = -6 ∧ w'.1 6 = -6 ∧ w'.1 7 = nI (mkA g n) ∧ ∀ l, l < lnA g n → w'.2.1 7 l = nI (atG 0 (mskA (evA g (digA (mkA g n) way))) g n l)) ∨ (∃ b, isBad (evA g (digA (mkA g n) way)) n b ∧ w'.1 5 = nI b ∧ w'.1 6 = (if evA g (digA (mkA g n) way) b < 16 then 1 else 2) ∧ w'.1 7 = nI (mkA g (b + 1))))) := by
  obtain ⟨h0, hn, hsg⟩ := hp
  have hA3 := mkA_ok hall
  obtain ⟨dg, edg⟩ : ∃ dg, dg = digA (mkA g n) way := ⟨_, rfl⟩
  rw [← edg]
  have hd : ∀ j, dg j < 8 := fun j => by rw [edg]; exact digA_lt _ _ _
  obtain ⟨ev, eev⟩ : ∃ ev, ev = evA g dg := ⟨_, rfl⟩
  rw [← eev]
  have hok : evOk ev n := by rw [eev]; exact evA_ok hall hd
  have mono : ∀ i, i ≤ n → mkA g i ≤ mkA g n := fun i hi => mkA_mono g hi
  unfold F_X2_perform L_X2_perform_24
  refine Ok.loop (fun a => ∃ i, i ≤ n ∧ Fr [5, 6, 7] [7] w a.1 ∧ a.2.1 = nI way ∧ a.2.2.2.2 = nI i ∧ ((allGood ev i ∧ a.2.2.1 = nI (mskA ev i) ∧ a.2.2.2.1 = nI (lnA g i) ∧ a.1.1 5 = -6 ∧ a.1.1 6 = -6 ∧ a.1.1 7 = nI (mkA g i) ∧ ∀ l, l < lnA g i → a.1.2.1 7 l = nI (atG 0 (mskA ev) g i l)) ∨ (∃ b, isBad ev n b ∧ a.1.1 5 = nI b ∧ a.1.1 6 = (if ev b < 16 then 1 else 2) ∧ a.1.1 7 = nI (mkA g (b + 1))))) (fun a => 41 - a.2.2.2.2.toNatClampNeg) ?_ fu _ ?_ (fu_big (by show 41 - _ < _; omega))
  · rintro ⟨w1, v1, v2, v3, v4⟩ ⟨i, hi, hs, e1, e4, hcase⟩ k hk
    dsimp only at hs e1 e4 hcase hk ⊢
    subst e1 e4
    have e0 : w1.1 0 = nI n := by rw [hs.1 0 (by decide)]; exact h0
    have e2 : w1.1 2 = nI (mkA g n) := by rw [hs.1 2 (by decide)]; exact h2
    unfold F_X2_perform_24
    rw [e0]
    refine Ok.ite (fun c => ?_) (fun c => ?_)
    · simp (disch := omega) only [Int32.le_iff_toInt_le, Int32.lt_iff_toInt_lt, ← Int32.toInt_inj, nI_toInt, Int32.reduceToInt] at c
      have e : i = n := by omega
      subst e
      unfold F_X2_perform_158
      refine Ok.ret ⟨hs, ?_⟩
      rcases hcase with ⟨h1, h2, h3, h4, h5, h6, h7⟩ | hb
      · exact Or.inl ⟨h1, h4, h5, h6, h7⟩
      · exact Or.inr hb
    · simp (disch := omega) only [Int32.le_iff_toInt_le, Int32.lt_iff_toInt_lt, ← Int32.toInt_inj, nI_toInt, Int32.reduceToInt] at c
      have hin : i < n := by omega
      have mi := mono (i + 1) hin
      obtain ⟨hgi, hg⟩ := hsg i hin
      have hg2 : w1.2.1 5 i = nI (g i) := by rw [hs.2 5 (by decide)]; exact hgi
      refine Ok.ite (fun c1 => ?_) (fun c1 => ?_)
      · rcases hcase with ⟨hgood, rfl, rfl, h5, h6, h7, hat⟩ | ⟨b, hb, hb1, hb2⟩
        · have hm := mskA_lt hok i (by omega)
          have hl1 := lnA_le g i
          have hm1 := mkA_le g i
          have ho := hall i hin
          have hev : ev i = if g i = 46 then 32 else if 97 ≤ g i then 16 + (g i - 97) else if g i = 63 then dg (mkA g i) else g i - 65 := by rw [eev]; rfl
          refine Ok.gu (gd_nI (by omega) (by omega)) ?_
          rw [cl_nI (by omega), hg2]
          by_cases hL : g i = 46
          · rw [if_pos hL] at hev
            rw [if_pos (by rw [hL]; rfl)]
            refine Ok.gu (gd_nI (by omega) (by omega)) ?_
            unfold F_X2_perform_152
            rw [nI_1, nI_1]
            refine hk _ ⟨i + 1, by omega, hs.wA (by decide), rfl, rfl, Or.inl ⟨allGood_s hgood (fun q => q.1 hev), ?_, ?_, h5, h6, ?_, ?_⟩⟩ (by dsimp only; rw [cl_nI (by omega), cl_nI (by omega)]; omega)
            · simp only [mskA, if_pos hev]
            · rw [lnA_y hL]
            · rw [mkA_n (by omega)]; exact h7
            · simp only [rI_i, rI_a, rI_l, rA_i, rA_a, rA_l, rR_i, rR_a, rR_l, rL_i, rL_a, rL_l, reduceIte, Nat.reduceEqDiff]; rw [cl_nI (by omega)]; exact atG_put hL hat rfl
          · rw [if_neg hL] at hev
            rw [if_neg (by simp (disch := omega) only [Int32.le_iff_toInt_le, Int32.lt_iff_toInt_lt, ← Int32.toInt_inj, nI_toInt, Int32.reduceToInt]; omega), X2_isGoing _ hg, Option.bind_some]
            dsimp only
            by_cases hB : 97 ≤ g i ∧ g i ≤ 104
            · rw [if_pos hB, if_neg (by decide)]
              rw [if_pos hB.1] at hev
              refine Ok.let (fun y ey => ?_)
              rw [show nI (g i) - (97 : Int32) = nI (g i - 97) from pk_sub (b := 97) hB.1, bit_1 _ (by omega)] at ey
              subst ey
              have hp : g i - 97 < 8 := by omega
              have hpe : ev i % 16 = g i - 97 := by rw [hev]; omega
              have hba := bit_and _ hm _ hp
              have hbad : badE ev i ↔ (mskA ev i).testBit (g i - 97) = false := by
                unfold badE
                rw [hpe, decide_eq_false (by omega)]
                exact ⟨fun q => q.2, fun q => ⟨by omega, q⟩⟩
              rw [X2_refuse', Option.bind_some]
              unfold F_X2_perform_152
              rw [nI_1]
              by_cases hz : (mskA ev i).testBit (g i - 97) = false
              · rw [if_pos (hba.mpr hz)]
                refine hk _ ⟨i + 1, by omega, (hs.wI (by decide)).wI (by decide), rfl, rfl, Or.inr ⟨i, ⟨hin, hbad.mpr hz, hgood⟩, ?_, ?_, ?_⟩⟩ (by dsimp only; rw [cl_nI (by omega), cl_nI (by omega)]; omega)
                · simp only [rI_i, rI_a, rI_l, rA_i, rA_a, rA_l, rR_i, rR_a, rR_l, rL_i, rL_a, rL_l, reduceIte, Nat.reduceEqDiff]
                · simp only [rI_i, rI_a, rI_l, rA_i, rA_a, rA_l, rR_i, rR_a, rR_l, rL_i, rL_a, rL_l, reduceIte, Nat.reduceEqDiff]; rw [if_neg (by omega)]
                · rw [mkA_n (by omega)]; simp only [rI_i, rI_a, rI_l, rA_i, rA_a, rA_l, rR_i, rR_a, rR_l, rL_i, rL_a, rL_l, reduceIte, Nat.reduceEqDiff]; exact h7
              · rw [if_neg (fun q => hz (hba.mp q)), bit_out _ hm _ hp (by simpa using hz)]
                refine hk _ ⟨i + 1, by omega, hs, rfl, rfl, Or.inl ⟨allGood_s hgood (fun q => hz (hbad.mp q)), ?_, ?_, h5, h6, ?_, ?_⟩⟩ (by dsimp only; rw [cl_nI (by omega), cl_nI (by omega)]; omega)
                · simp only [mskA, if_neg (show ¬ ev i = 32 by omega), hpe]
                · rw [lnA_n hL]
                · rw [mkA_n (by omega)]; exact h7
                · exact atG_keep hL hat
            · rw [if_neg hB, if_pos rfl]
              have h97 : ¬ 97 ≤ g i := by rcases ho with q | q | q | q <;> omega
              rw [if_neg h97] at hev
              have hcom : Ok (F_X2_comer w1 (nI (g i)) (nI way)) (fun x => Fr [5, 6, 7] [7] w x.2 ∧ x.1 = nI (ev i) ∧ x.2.1 5 = w1.1 5 ∧ x.2.1 6 = w1.1 6 ∧ x.2.1 7 = nI (mkA g (i + 1)) ∧ x.2.2.1 7 = w1.2.1 7) := by
                unfold F_X2_comer
                by_cases hQ : g i = 63
                · rw [if_pos hQ] at hev
                  rw [if_pos (by rw [hQ]; rfl), h7, nI_1]
                  rw [mkA_y hQ] at mi ⊢
                  rw [show nI (mkA g i + 1) - (1 : Int32) = nI (mkA g i) from nI_pred _]
                  rw [X2_guessed (A := mkA g n) _ (by omega) (by simp only [rI_i, rI_a, rI_l, rA_i, rA_a, rA_l, rR_i, rR_a, rR_l, rL_i, rL_a, rL_l, reduceIte, Nat.reduceEqDiff]; exact e2) (by omega) hw, Option.bind_some]
                  refine Ok.ret ⟨hs.wI (by decide), ?_, ?_, ?_, ?_, ?_⟩
                  · rw [hev, edg]
                  · simp only [rI_i, rI_a, rI_l, rA_i, rA_a, rA_l, rR_i, rR_a, rR_l, rL_i, rL_a, rL_l, reduceIte, Nat.reduceEqDiff]
                  · simp only [rI_i, rI_a, rI_l, rA_i, rA_a, rA_l, rR_i, rR_a, rR_l, rL_i, rL_a, rL_l, reduceIte, Nat.reduceEqDiff]
                  · simp only [rI_i, rI_a, rI_l, rA_i, rA_a, rA_l, rR_i, rR_a, rR_l, rL_i, rL_a, rL_l, reduceIte, Nat.reduceEqDiff]
                  · simp only [rI_i, rI_a, rI_l, rA_i, rA_a, rA_l, rR_i, rR_a, rR_l, rL_i, rL_a, rL_l, reduceIte, Nat.reduceEqDiff]
                · rw [if_neg hQ] at hev
                  have h65 : 65 ≤ g i := by rcases ho with q | q | q | q <;> omega
                  rw [if_neg (by simp (disch := omega) only [Int32.le_iff_toInt_le, Int32.lt_iff_toInt_lt, ← Int32.toInt_inj, nI_toInt, Int32.reduceToInt]; omega), mkA_n hQ]
                  refine Ok.ret ⟨hs, ?_, rfl, rfl, h7, rfl⟩
                  rw [hev]
                  exact pk_sub (b := 65) h65
              have hp : ev i < 8 := by
                have := hok i hin
                by_cases hQ : g i = 63
                · rw [hev, if_pos hQ]; exact hd _
                · rw [hev, if_neg hQ]
                  rcases ho with q | q | q | q <;> omega
              refine Ok.bind hcom ?_
              rintro ⟨y, w2⟩ ⟨hs2, ey, f5, f6, f7, fa⟩
              dsimp only at hs2 ey f5 f6 f7 fa ⊢
              subst ey
              rw [bit_1 _ hp]
              have hba := bit_and _ hm _ hp
              have hpe : ev i % 16 = ev i := by omega
              have hbad : badE ev i ↔ (mskA ev i).testBit (ev i) = true := by
                unfold badE
                rw [hpe, decide_eq_true (by omega)]
                exact ⟨fun q => q.2, fun q => ⟨by omega, q⟩⟩
              rw [X2_refuse, Option.bind_some]
              unfold F_X2_perform_152
              rw [nI_1]
              by_cases hz : (mskA ev i).testBit (ev i) = false
              · rw [if_pos (hba.mpr hz), bit_or _ hm _ hp hz]
                refine hk _ ⟨i + 1, by omega, hs2, rfl, rfl, Or.inl ⟨allGood_s hgood (fun q => by rw [hbad.mp q] at hz; cases hz), ?_, ?_, f5.trans h5, f6.trans h6, f7, ?_⟩⟩ (by dsimp only; rw [cl_nI (by omega), cl_nI (by omega)]; omega)
                · simp only [mskA, if_neg (show ¬ ev i = 32 by omega), hpe]
                · rw [lnA_n hL]
                · dsimp only; rw [fa]; exact atG_keep hL hat
              · rw [if_neg (fun q => hz (hba.mp q))]
                refine hk _ ⟨i + 1, by omega, (hs2.wI (by decide)).wI (by decide), rfl, rfl, Or.inr ⟨i, ⟨hin, hbad.mpr (by simpa using hz), hgood⟩, ?_, ?_, ?_⟩⟩ (by dsimp only; rw [cl_nI (by omega), cl_nI (by omega)]; omega)
                · simp only [rI_i, rI_a, rI_l, rA_i, rA_a, rA_l, rR_i, rR_a, rR_l, rL_i, rL_a, rL_l, reduceIte, Nat.reduceEqDiff]
                · simp only [rI_i, rI_a, rI_l, rA_i, rA_a, rA_l, rR_i, rR_a, rR_l, rL_i, rL_a, rL_l, reduceIte, Nat.reduceEqDiff]; rw [if_pos (by omega)]
                · simp only [rI_i, rI_a, rI_l, rA_i, rA_a, rA_l, rR_i, rR_a, rR_l, rL_i, rL_a, rL_l, reduceIte, Nat.reduceEqDiff]; exact f7
        · exfalso
          have := hb.1
          rw [hb1] at c1
          simp (disch := omega) only [Int32.le_iff_toInt_le, Int32.lt_iff_toInt_lt, ← Int32.toInt_inj, nI_toInt, Int32.reduceToInt] at c1
          omega
      · unfold F_X2_perform_158
        refine Ok.ret ⟨hs, ?_⟩
        rcases hcase with ⟨h1, h2, h3, h4, h5⟩ | hb
        · exact absurd h4 c1
        · exact Or.inr hb
  · refine ⟨0, Nat.zero_le _, ?_, rfl, rfl, Or.inl ⟨fun j hj => absurd hj (Nat.not_lt_zero _), rfl, rfl, ?_, ?_, ?_, fun l hl => absurd hl (Nat.not_lt_zero _)⟩⟩
    · exact (((Fr.rf _ _ w).wI (by decide)).wI (by decide)).wI (by decide)
    · simp only [rI_i, rI_a, rI_l, rA_i, rA_a, rA_l, rR_i, rR_a, rR_l, rL_i, rL_a, rL_l, reduceIte, Nat.reduceEqDiff]
    · simp only [rI_i, rI_a, rI_l, rA_i, rA_a, rA_l, rR_i, rR_a, rR_l, rL_i, rL_a, rL_l, reduceIte, Nat.reduceEqDiff]
    · simp only [rI_i, rI_a, rI_l, rA_i, rA_a, rA_l, rR_i, rR_a, rR_l, rL_i, rL_a, rL_l, reduceIte, Nat.reduceEqDiff]; rfl
