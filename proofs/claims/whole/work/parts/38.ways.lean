/-! ways to fill what is not told -/
def cntW (ok : Nat → Bool) : Nat → Nat
  | 0 => 0
  | t + 1 => cntW ok t + if ok t = true then 1 else 0
def fsW (ok : Nat → Bool) : Nat → Nat
  | 0 => 0
  | t + 1 => if cntW ok t = 0 ∧ ok t = true then t else fsW ok t
def orW (ok : Nat → Bool) (A j : Nat) : Nat → Nat
  | 0 => 0
  | t + 1 => if ok t = true then orW ok A j t ||| 2 ^ digA A t j else orW ok A j t
theorem cntW_le (ok : Nat → Bool) : ∀ t, cntW ok t ≤ t := by
  intro t
  induction t with
  | zero => exact Nat.le_refl _
  | succ t ih =>
    simp only [cntW]
    by_cases h : ok t = true
    · rw [if_pos h]; omega
    · rw [if_neg h]; omega
theorem skipW {ok : Nat → Bool} {t : Nat} (d : Nat) (h : ∀ j, t ≤ j → j < t + d → ok j = false) (A : Nat) : cntW ok (t + d) = cntW ok t ∧ fsW ok (t + d) = fsW ok t ∧ ∀ j, orW ok A j (t + d) = orW ok A j t := by
  induction d with
  | zero => exact ⟨rfl, rfl, fun _ => rfl⟩
  | succ d ih =>
    obtain ⟨h1, h2, h3⟩ := ih (fun j q1 q2 => h j q1 (by omega))
    have hf := h (t + d) (by omega) (by omega)
    have hn : ¬ ok (t + d) = true := by rw [hf]; decide
    rw [← Nat.add_assoc]
    refine ⟨?_, ?_, fun j => ?_⟩
    · simp only [cntW, if_neg hn, Nat.add_zero, h1]
    · simp only [fsW, if_neg (fun q : cntW ok (t + d) = 0 ∧ ok (t + d) = true => hn q.2), h2]
    · simp only [orW, if_neg hn, h3 j]
theorem fsW_lt {ok : Nat → Bool} : ∀ t, 0 < cntW ok t → fsW ok t < t := by
  intro t
  induction t with
  | zero => intro h; exact absurd h (Nat.lt_irrefl _)
  | succ t ih =>
    intro h
    simp only [fsW]
    by_cases q : cntW ok t = 0 ∧ ok t = true
    · rw [if_pos q]; omega
    · rw [if_neg q]
      have : 0 < cntW ok t := by
        rcases Nat.eq_zero_or_pos (cntW ok t) with z | z
        · by_cases q2 : ok t = true
          · exact absurd ⟨z, q2⟩ q
          · simp only [cntW, z, if_neg q2] at h
            omega
        · exact z
      have := ih this
      omega
theorem orW_lt (ok : Nat → Bool) (A j : Nat) : ∀ t, orW ok A j t < 256 := by
  intro t
  induction t with
  | zero => exact Nat.zero_lt_succ _
  | succ t ih =>
    simp only [orW]
    by_cases h : ok t = true
    · rw [if_pos h]
      refine Nat.or_lt_two_pow (n := 8) ih ?_
      exact Nat.pow_lt_pow_right (by decide) (digA_lt A t j)
    · rw [if_neg h]; exact ih
theorem dig_same {A M way way' j : Nat} (hM : M ≤ A) (hj : j < M) (h : way / 2 ^ (3 * (A - M)) = way' / 2 ^ (3 * (A - M))) : digA A way j = digA A way' j := by
  unfold digA
  rw [show 3 * (A - 1 - j) = 3 * (A - M) + 3 * (M - 1 - j) by omega, Nat.pow_add, ← Nat.div_div_eq_div_mul, ← Nat.div_div_eq_div_mul, h]
theorem evA_congr {g dg dg' : Nat → Nat} {i : Nat} (h : g i = 63 → dg (mkA g i) = dg' (mkA g i)) : evA g dg i = evA g dg' i := by
  unfold evA
  by_cases q : g i = 63
  · rw [h q]
  · rw [if_neg q, if_neg q]
theorem mskA_congr {ev ev' : Nat → Nat} : ∀ i, (∀ j, j < i → ev j = ev' j) → mskA ev i = mskA ev' i := by
  intro i
  induction i with
  | zero => intro _; rfl
  | succ i ih =>
    intro h
    simp only [mskA]
    rw [h i (by omega), ih (fun j hj => h j (by omega))]
theorem badE_congr {ev ev' : Nat → Nat} {b : Nat} (h : ∀ j, j ≤ b → ev j = ev' j) : badE ev b → badE ev' b := by
  unfold badE
  rw [h b (Nat.le_refl _), mskA_congr b (fun j hj => h j (by omega))]
  exact id
theorem isBad_congr {ev ev' : Nat → Nat} {n b : Nat} (h : ∀ j, j ≤ b → ev j = ev' j) (hb : isBad ev n b) : isBad ev' n b :=
  ⟨hb.1, badE_congr h hb.2.1, fun j hj q => hb.2.2 j hj (badE_congr (fun i hi => (h i (by omega)).symm) q)⟩
/-- a way that fails at b fails so for all that say the same of who came up to there -/
theorem bad_block {g : Nat → Nat} {n b way way' : Nat} (hb : isBad (evA g (digA (mkA g n) way)) n b) (h : way / 2 ^ (3 * (mkA g n - mkA g (b + 1))) = way' / 2 ^ (3 * (mkA g n - mkA g (b + 1)))) : isBad (evA g (digA (mkA g n) way')) n b := by
  refine isBad_congr (fun j hj => evA_congr (fun q => ?_)) hb
  have h1 := mkA_mono g (show j + 1 ≤ b + 1 by omega)
  have h2 := mkA_mono g (show b + 1 ≤ n by have := hb.1; omega)
  rw [mkA_y q] at h1
  exact dig_same (M := mkA g (b + 1)) h2 (by omega) h
theorem way_step : ∀ A, A < 4 → ∀ M, M ≤ A → (1 : Int32) <<< ((3 * (nI A - nI M)) &&& 31) = nI (2 ^ (3 * (A - M))) := by decide +kernel
theorem way_all : ∀ A, A < 4 → (1 : Int32) <<< ((3 * nI A) &&& 31) = nI (2 ^ (3 * A)) := by decide +kernel
theorem pow_le512 {A : Nat} (h : A < 4) : 2 ^ (3 * A) ≤ 512 := Nat.le_trans (Nat.pow_le_pow_right (by decide) (show 3 * A ≤ 9 by omega)) (by decide)
theorem pow_dvd {A M way : Nat} (hM : M ≤ A) (h : way < 2 ^ (3 * A)) : way / 2 ^ (3 * (A - M)) * 2 ^ (3 * (A - M)) + 2 ^ (3 * (A - M)) ≤ 2 ^ (3 * A) := by
  have e : 2 ^ (3 * A) = 2 ^ (3 * M) * 2 ^ (3 * (A - M)) := by rw [← Nat.pow_add]; congr 1; omega
  rw [e] at h ⊢
  have hp : 0 < 2 ^ (3 * (A - M)) := Nat.two_pow_pos _
  have h1 : way / 2 ^ (3 * (A - M)) < 2 ^ (3 * M) := (Nat.div_lt_iff_lt_mul hp).mpr h
  rw [← Nat.succ_mul]
  exact Nat.mul_le_mul_right _ h1
/-! what has been seen -/
def sightP (g : Nat → Nat) (n m : Nat) (SL SM : Nat → Nat) : Prop := ∀ i, i < m → SL i < lnA g n ∧ atG 0 (manyA g) g n (SL i) = nI (SM i)
theorem sightsC (w : Wd) {g SL SM : Nat → Nat} {n m : Nat} (hn : lnA g n ≤ 40) (h4 : w.1 4 = nI (lnA g n)) (h6 : ∀ l, l < lnA g n → w.2.1 6 l = atG 0 (manyA g) g n l) (hm : m ≤ 6) (h12 : w.1 12 = nI m) (hs : ∀ i, i < m → w.2.1 12 i = nI (SL i) ∧ w.2.1 13 i = nI (SM i) ∧ SL i < 40 ∧ SM i ≤ 8) : ∃ r : Int32, F_X3_sightsHold w = some (r, w) ∧ ((r = 1 ∧ sightP g n m SL SM) ∨ (r = 0 ∧ ¬ sightP g n m SL SM)) := by
  have key : Ok (F_X3_sightsHold w) (fun x => x.2 = w ∧ ((x.1 = 1 ∧ sightP g n m SL SM) ∨ (x.1 = 0 ∧ ¬ sightP g n m SL SM))) := by
    unfold F_X3_sightsHold L_X3_sightsHold_2
    refine Ok.loop (fun a => ∃ i, i ≤ m ∧ a.1 = w ∧ a.2 = nI i ∧ sightP g n i SL SM) (fun a => 41 - a.2.toNatClampNeg) ?_ fu _ ⟨0, Nat.zero_le _, rfl, rfl, fun j hj => absurd hj (Nat.not_lt_zero _)⟩ (fu_big (by show 41 - _ < _; omega))
    rintro ⟨w1, v1⟩ ⟨i, hi, e1, e2, hall⟩ kk hkk
    dsimp only at e1 e2 hkk ⊢
    subst e1 e2
    unfold F_X3_sightsHold_2 F_X3_sightsHold_40
    rw [h12]
    refine Ok.ite (fun c => ?_) (fun c => ?_)
    · simp (disch := omega) only [Int32.le_iff_toInt_le, Int32.lt_iff_toInt_lt, ← Int32.toInt_inj, nI_toInt, Int32.reduceToInt] at c
      have e : i = m := by omega
      subst e
      exact Ok.ret ⟨rfl, Or.inl ⟨rfl, hall⟩⟩
    · simp (disch := omega) only [Int32.le_iff_toInt_le, Int32.lt_iff_toInt_lt, ← Int32.toInt_inj, nI_toInt, Int32.reduceToInt] at c
      obtain ⟨s1, s2, s3, s4⟩ := hs i (by omega)
      rw [gd_nI (show i < 6 by omega) (by omega), cl_nI (by omega), s1, h4]
      refine Ok.ite (fun q => ?_) (fun q => ?_)
      · simp (disch := omega) only [Int32.le_iff_toInt_le, Int32.lt_iff_toInt_lt, ← Int32.toInt_inj, nI_toInt, Int32.reduceToInt] at q
        exact Ok.ret ⟨rfl, Or.inr ⟨rfl, fun z => by have := (z i (by omega)).1; omega⟩⟩
      · simp (disch := omega) only [Int32.le_iff_toInt_le, Int32.lt_iff_toInt_lt, ← Int32.toInt_inj, nI_toInt, Int32.reduceToInt] at q
        rw [gd_nI (show SL i < 40 by omega) (by omega), cl_nI (by omega), h6 _ (by omega), s2]
        refine Ok.ite (fun q2 => ?_) (fun q2 => ?_)
        · rw [nI_1]
          exact hkk _ ⟨i + 1, by omega, rfl, rfl, more (P := fun i => SL i < lnA g n ∧ atG 0 (manyA g) g n (SL i) = nI (SM i)) hall ⟨by omega, q2⟩⟩ (by dsimp only; rw [cl_nI (by omega), cl_nI (by omega)]; omega)
        · exact Ok.ret ⟨rfl, Or.inr ⟨rfl, fun z => q2 (z i (by omega)).2⟩⟩
  obtain ⟨⟨r, w2⟩, h1, h2, h3⟩ := key
  dsimp only at h2 h3
  exact ⟨r, by rw [h1, h2], h3⟩
theorem fillG (w : Wd) : Ok (F_J7_fill_guess_who w 0) (fun w' => Fr [] [35] w w' ∧ ∀ j, j < 3 → w'.2.1 35 j = 0) := by
  unfold F_J7_fill_guess_who L_J7_fill_guess_who_5
  refine Ok.loop (fun a => ∃ i, i ≤ 3 ∧ Fr [] [35] w a.1 ∧ a.2.1 = 0 ∧ a.2.2.1 = nI i ∧ a.2.2.2 = 3 ∧ ∀ j, j < i → a.1.2.1 35 j = 0) (fun a => 10 - a.2.2.1.toNatClampNeg) ?_ fu _ ⟨0, Nat.zero_le _, Fr.rf _ _ _, rfl, rfl, rfl, fun j hj => absurd hj (Nat.not_lt_zero _)⟩ (fu_big (by show 10 - _ < _; omega))
  rintro ⟨w1, v1, v2, v3⟩ ⟨i, hi, hs, e1, e2, e3, hz⟩ kk hkk
  dsimp only at hs e1 e2 e3 hz hkk ⊢
  subst e1 e2 e3
  unfold F_J7_fill_guess_who_5
  refine Ok.ite (fun c => ?_) (fun c => ?_)
  · simp (disch := omega) only [Int32.le_iff_toInt_le, Int32.lt_iff_toInt_lt, ← Int32.toInt_inj, nI_toInt, Int32.reduceToInt] at c
    have e : i = 3 := by omega
    subst e
    exact Ok.ret ⟨hs, hz⟩
  · simp (disch := omega) only [Int32.le_iff_toInt_le, Int32.lt_iff_toInt_lt, ← Int32.toInt_inj, nI_toInt, Int32.reduceToInt] at c
    refine Ok.gu (gd_nI (by omega) (by omega)) ?_
    rw [nI_1]
    refine hkk _ ⟨i + 1, by omega, hs.wA (by decide), rfl, rfl, rfl, fun j hj => ?_⟩ (by dsimp only; rw [cl_nI (by omega), cl_nI (by omega)]; omega)
    simp only [rI_i, rI_a, rI_l, rA_i, rA_a, rA_l, rR_i, rR_a, rR_l, rL_i, rL_a, rL_l, reduceIte, Nat.reduceEqDiff]
    rw [cl_nI (by omega), upd_at]
    by_cases e : j = i
    · rw [if_pos e]
    · rw [if_neg e]; exact hz j (by omega)
theorem keep12 (w : Wd) {A way : Nat} (hA : A < 4) (h2 : w.1 2 = nI A) (hw : way < 512) : Ok (F_X1_keep_12 w (nI way)) (fun w' => Fr [27] [35] w w' ∧ w'.1 27 = w.1 27 + 1 ∧ ∀ j, j < A → w'.2.1 35 j = w.2.1 35 j ||| nI (2 ^ digA A way j)) := by
  unfold F_X1_keep_12 L_X1_keep_24
  refine Ok.loop (fun a => ∃ i, i ≤ A ∧ Fr [27] [35] w a.1 ∧ a.1.1 27 = w.1 27 + 1 ∧ a.2.1 = nI way ∧ a.2.2 = nI i ∧ (∀ j, j < i → a.1.2.1 35 j = w.2.1 35 j ||| nI (2 ^ digA A way j)) ∧ ∀ j, i ≤ j → a.1.2.1 35 j = w.2.1 35 j) (fun a => 10 - a.2.2.toNatClampNeg) ?_ fu _ ⟨0, Nat.zero_le _, (Fr.rf _ _ _).wI (by decide), by simp only [rI_i, rI_a, rI_l, rA_i, rA_a, rA_l, rR_i, rR_a, rR_l, rL_i, rL_a, rL_l, reduceIte, Nat.reduceEqDiff], rfl, rfl, fun j hj => absurd hj (Nat.not_lt_zero _), fun j _ => by simp only [rI_i, rI_a, rI_l, rA_i, rA_a, rA_l, rR_i, rR_a, rR_l, rL_i, rL_a, rL_l, reduceIte, Nat.reduceEqDiff]⟩ (fu_big (by show 10 - _ < _; omega))
  rintro ⟨w1, v1, v2⟩ ⟨i, hi, hs, e0, e1, e2, hz, hr⟩ kk hkk
  dsimp only at hs e0 e1 e2 hz hr hkk ⊢
  subst e1 e2
  unfold F_X1_keep_24
  have h21 : w1.1 2 = nI A := by rw [hs.1 2 (by decide)]; exact h2
  rw [h21]
  refine Ok.ite (fun c => ?_) (fun c => ?_)
  · simp (disch := omega) only [Int32.le_iff_toInt_le, Int32.lt_iff_toInt_lt, ← Int32.toInt_inj, nI_toInt, Int32.reduceToInt] at c
    have e : i = A := by omega
    subst e
    exact Ok.ret ⟨hs, e0, hz⟩
  · simp (disch := omega) only [Int32.le_iff_toInt_le, Int32.lt_iff_toInt_lt, ← Int32.toInt_inj, nI_toInt, Int32.reduceToInt] at c
    rw [gd_nI (show i < 3 by omega) (by omega), X2_guessed w1 hA h21 (by omega) hw]
    show Ok (kk (wA w1 35 (nI i) _, nI way, nI i + 1)) _
    rw [nI_1, cl_nI (by omega), hr i (Nat.le_refl _), bit_1 _ (digA_lt A way i)]
    refine hkk _ ⟨i + 1, by omega, hs.wA (by decide), e0, rfl, rfl, fun j hj => ?_, fun j hj => ?_⟩ (by dsimp only; rw [cl_nI (by omega), cl_nI (by omega)]; omega)
    · simp only [rI_i, rI_a, rI_l, rA_i, rA_a, rA_l, rR_i, rR_a, rR_l, rL_i, rL_a, rL_l, reduceIte, Nat.reduceEqDiff]
      rw [cl_nI (by omega), upd_at]
      by_cases e : j = i
      · rw [if_pos e, e]
      · rw [if_neg e]; exact hz j (by omega)
    · simp only [rI_i, rI_a, rI_l, rA_i, rA_a, rA_l, rR_i, rR_a, rR_l, rL_i, rL_a, rL_l, reduceIte, Nat.reduceEqDiff]
      rw [cl_nI (by omega), upd_at, if_neg (by omega)]
      exact hr j (by omega)
theorem keep_ok (w : Wd) {A way : Nat} (hA : A < 4) (h2 : w.1 2 = nI A) (hw : way < 512) : Ok (F_X1_keep w (nI way)) (fun w' => Fr [27, 28] [35] w w' ∧ w'.1 27 = w.1 27 + 1 ∧ w'.1 28 = (if w.1 27 = 0 then nI way else w.1 28) ∧ ∀ j, j < A → w'.2.1 35 j = w.2.1 35 j ||| nI (2 ^ digA A way j)) := by
  unfold F_X1_keep
  refine Ok.ite (fun c => ?_) (fun c => ?_)
  · refine (keep12 (wI w 28 (nI way)) hA (by simp only [rI_i, rI_a, rI_l, rA_i, rA_a, rA_l, rR_i, rR_a, rR_l, rL_i, rL_a, rL_l, reduceIte, Nat.reduceEqDiff]; exact h2) hw).mono ?_
    rintro w' ⟨hs, e, hj⟩
    refine ⟨((Fr.rf [27, 28] [35] w).wI (by decide)).tr (hs.mono (by decide) (by decide)), e, ?_, hj⟩
    rw [if_pos c, hs.1 28 (by decide)]
    simp only [rI_i, rI_a, rI_l, rA_i, rA_a, rA_l, rR_i, rR_a, rR_l, rL_i, rL_a, rL_l, reduceIte, Nat.reduceEqDiff]
  · refine (keep12 w hA h2 hw).mono ?_
    rintro w' ⟨hs, e, hj⟩
    refine ⟨hs.mono (by decide) (by decide), e, ?_, hj⟩
    rw [if_neg c, hs.1 28 (by decide)]
/-- the class's search -/
def WaysC (w' : Wd) (ok : Nat → Bool) (A : Nat) : Prop := w'.1 27 = nI (cntW ok (2 ^ (3 * A))) ∧ (0 < cntW ok (2 ^ (3 * A)) → w'.1 28 = nI (fsW ok (2 ^ (3 * A)))) ∧ ∀ j, j < A → w'.2.1 35 j = nI (orW ok A j (2 ^ (3 * A)))
/-- where the search goes on, a block that failed has come to its end -/
def AlW (g : Nat → Nat) (n u : Nat) : Prop := u = 0 ∨ ∀ b, isBad (evA g (digA (mkA g n) (u - 1))) n b → u % 2 ^ (3 * (mkA g n - mkA g (b + 1))) = 0
theorem same_blk {t P : Nat} (hP : 0 < P) (h : ¬ t % P = 0) : (t - 1) / P = t / P := by
  have h1 := Nat.div_add_mod t P
  rw [Nat.div_eq_iff hP]
  rw [Nat.mul_comm] at h1
  have h2 := Nat.mod_lt t hP
  generalize t / P * P = q at h1 ⊢
  omega
theorem try43 (w : Wd) {g : Nat → Nat} {n : Nat} {ok : Nat → Bool} (hp : PadC w g n) (hall : allOk g n) (h2 : w.1 2 = nI (mkA g n)) (hok : ∀ t, ok t = true ↔ allGood (evA g (digA (mkA g n) t)) n) (h27 : w.1 27 = 0) (h35 : ∀ j, j < 3 → w.2.1 35 j = 0) : Ok (L_X1_tryAll_43 fu (w, nI (2 ^ (3 * mkA g n)), 0, 0)) (fun w' => Fr [5, 6, 7, 27, 28] [7, 35] w w' ∧ WaysC w' ok (mkA g n)) := by
  have hA : mkA g n < 4 := by have := mkA_ok hall; omega
  have h512 := pow_le512 hA
  unfold L_X1_tryAll_43
  refine Ok.loop (fun a => ∃ t nx, t ≤ nx ∧ nx ≤ 2 ^ (3 * mkA g n) ∧ Fr [5, 6, 7, 27, 28] [7, 35] w a.1 ∧ a.2.1 = nI (2 ^ (3 * mkA g n)) ∧ a.2.2.1 = nI nx ∧ a.2.2.2 = nI t ∧ a.1.1 27 = nI (cntW ok t) ∧ (0 < cntW ok t → a.1.1 28 = nI (fsW ok t)) ∧ (∀ j, j < mkA g n → a.1.2.1 35 j = nI (orW ok (mkA g n) j t)) ∧ (∀ j, t ≤ j → j < nx → ok j = false) ∧ AlW g n nx) (fun a => 513 - a.2.2.2.toNatClampNeg) ?_ fu _ ⟨0, 0, Nat.le_refl _, Nat.zero_le _, Fr.rf _ _ _, rfl, rfl, rfl, h27, fun h => absurd h (Nat.lt_irrefl _), fun j hj => h35 j (by omega), fun j _ hj => absurd hj (Nat.not_lt_zero _), Or.inl rfl⟩ (fu_big (by show 513 - _ < _; omega))
  rintro ⟨w1, v3, v4, v5⟩ ⟨t, nx, htn, hnx, hs, e1, e2, e3, i27, i28, i35, hsk, hal⟩ kk hkk
  dsimp only at hs e1 e2 e3 i27 i28 i35 hkk ⊢
  subst e1 e2 e3
  unfold F_X1_tryAll_43
  refine Ok.ite (fun c => ?_) (fun c => ?_)
  · simp (disch := omega) only [Int32.le_iff_toInt_le, Int32.lt_iff_toInt_lt, ← Int32.toInt_inj, nI_toInt, Int32.reduceToInt] at c
    have e : t = 2 ^ (3 * mkA g n) := by omega
    subst e
    exact Ok.ret ⟨hs, i27, i28, i35⟩
  · simp (disch := omega) only [Int32.le_iff_toInt_le, Int32.lt_iff_toInt_lt, ← Int32.toInt_inj, nI_toInt, Int32.reduceToInt] at c
    have ht2 : t < 2 ^ (3 * mkA g n) := by omega
    refine Ok.ite (fun c2 => ?_) (fun c2 => ?_)
    · simp (disch := omega) only [Int32.le_iff_toInt_le, Int32.lt_iff_toInt_lt, ← Int32.toInt_inj, nI_toInt, Int32.reduceToInt] at c2
      obtain ⟨s1, s2, s3⟩ := skipW (t := t) 1 (fun j q1 q2 => hsk j q1 (by omega)) (mkA g n)
      unfold F_X1_tryAll_96
      rw [nI_1]
      exact hkk _ ⟨t + 1, nx, by omega, hnx, hs, rfl, rfl, rfl, by rw [i27, s1], fun z => by rw [s2]; exact i28 (by omega), fun j hj => by rw [s3]; exact i35 j hj, fun j q1 q2 => hsk j (by omega) q2, hal⟩ (by dsimp only; rw [cl_nI (by omega), cl_nI (by omega)]; omega)
    · simp (disch := omega) only [Int32.le_iff_toInt_le, Int32.lt_iff_toInt_lt, ← Int32.toInt_inj, nI_toInt, Int32.reduceToInt] at c2
      have e : nx = t := by omega
      subst e
      have hsame : Same w w1 := hs.same rfl rfl
      have h21 : w1.1 2 = nI (mkA g n) := by rw [hs.1 2 (by decide)]; exact h2
      refine Ok.bind (perform_ok w1 (hp.same hsame) hall h21 (by omega)) ?_
      rintro w2 ⟨hs2, hcase⟩
      have hs2' : Fr [5, 6, 7, 27, 28] [7, 35] w w2 := hs.tr (hs2.mono (by decide) (by decide))
      have h22 : w2.1 2 = nI (mkA g n) := by rw [hs2.1 2 (by decide)]; exact h21
      have j27 : w2.1 27 = nI (cntW ok nx) := by rw [hs2.1 27 (by decide)]; exact i27
      have j28 : w2.1 28 = w1.1 28 := hs2.1 28 (by decide)
      have j35 : w2.2.1 35 = w1.2.1 35 := hs2.2 35 (by decide)
      have hcl := cntW_le ok nx
      unfold F_X1_tryAll_78 F_X1_tryAll_96
      rcases hcase with ⟨hg, g5, g6, g7, g8⟩ | ⟨b, hb, b5, b6, b7⟩
      · have okt : ok nx = true := (hok nx).mpr hg
        rw [if_pos g5]
        refine Ok.bind (keep_ok w2 hA h22 (by omega)) ?_
        rintro w3 ⟨hs3, k27, k28, k35⟩
        rw [hs3.1 2 (by decide), h22, hs3.1 7 (by decide), g7, way_step _ hA _ (Nat.le_refl _), Nat.sub_self, show 2 ^ (3 * 0) = 1 by rfl, nI_add]
        show Ok (kk (w3, nI (2 ^ (3 * mkA g n)), nI (nx + 1), nI nx + 1)) _
        rw [nI_1]
        refine hkk _ ⟨nx + 1, nx + 1, Nat.le_refl _, by omega, hs2'.tr (hs3.mono (by decide) (by decide)), rfl, rfl, rfl, ?_, fun _ => ?_, fun j hj => ?_, fun j q1 q2 => by omega, Or.inr (fun b hb => (bad_not hb hg).elim)⟩ (by dsimp only; rw [cl_nI (by omega), cl_nI (by omega)]; omega)
        · rw [k27, j27, nI_1]
          simp only [cntW, if_pos okt]
        · rw [k28, j27, j28]
          simp only [fsW]
          by_cases q : cntW ok nx = 0
          · rw [if_pos (by rw [q]; rfl), if_pos ⟨q, okt⟩]
          · rw [if_neg (fun z => q (by have z2 : nI (cntW ok nx) = nI 0 := z; rwa [nI_eq (by omega) (by omega)] at z2)), if_neg (fun z => q z.1)]
            exact i28 (by omega)
        · rw [k35 j hj, j35, i35 j hj, nI_or]
          simp only [orW, if_pos okt]
      · have hbn := hb.1
        have hn40 := hp.2.1
        have hM := mkA_mono g (show b + 1 ≤ n by omega)
        rw [if_neg (by rw [b5]; intro z; simp (disch := omega) only [Int32.le_iff_toInt_le, Int32.lt_iff_toInt_lt, ← Int32.toInt_inj, nI_toInt, Int32.reduceToInt] at z; omega)]
        rw [h22, b7, way_step _ hA _ hM, nI_add]
        have hdv := pow_dvd hM ht2
        have hal0 : nx % 2 ^ (3 * (mkA g n - mkA g (b + 1))) = 0 := by
          by_cases q : nx % 2 ^ (3 * (mkA g n - mkA g (b + 1))) = 0
          · exact q
          · rcases hal with h | h
            · rw [h]; exact Nat.zero_mod _
            · exact h b (bad_block (way' := nx - 1) hb (same_blk (Nat.two_pow_pos _) q).symm)
        have hall2 : ∀ j, nx ≤ j → j < nx + 2 ^ (3 * (mkA g n - mkA g (b + 1))) → isBad (evA g (digA (mkA g n) j)) n b := fun j q1 q2 => by
          refine bad_block hb ?_
          have hP0 : 0 < 2 ^ (3 * (mkA g n - mkA g (b + 1))) := Nat.two_pow_pos _
          have hdm := Nat.div_add_mod nx (2 ^ (3 * (mkA g n - mkA g (b + 1))))
          rw [hal0, Nat.add_zero, Nat.mul_comm] at hdm
          symm
          rw [Nat.div_eq_iff hP0, hdm]
          omega
        have hadd : (nx + 2 ^ (3 * (mkA g n - mkA g (b + 1)))) % 2 ^ (3 * (mkA g n - mkA g (b + 1))) = 0 := by
          rw [Nat.add_mod_right]; exact hal0
        have hdm := Nat.div_add_mod nx (2 ^ (3 * (mkA g n - mkA g (b + 1))))
        rw [hal0, Nat.add_zero, Nat.mul_comm] at hdm
        rw [hdm] at hdv
        have hP0 : 0 < 2 ^ (3 * (mkA g n - mkA g (b + 1))) := Nat.two_pow_pos _
        obtain ⟨P, hP⟩ : ∃ P, P = 2 ^ (3 * (mkA g n - mkA g (b + 1))) := ⟨_, rfl⟩
        rw [← hP] at hdv hall2 hP0 ⊢
        have hno : ∀ j, nx ≤ j → j < nx + P → ok j = false := fun j q1 q2 => by
          cases hoj : ok j with
          | false => rfl
          | true => exact (bad_not (hall2 j q1 q2) ((hok j).mp hoj)).elim
        obtain ⟨s1, s2, s3⟩ := skipW (t := nx) 1 (fun j q1 q2 => hno j q1 (by omega)) (mkA g n)
        show Ok (kk (w2, nI (2 ^ (3 * mkA g n)), nI (nx + P), nI nx + 1)) _
        rw [nI_1]
        refine hkk _ ⟨nx + 1, nx + P, by omega, hdv, hs2', rfl, rfl, rfl, by rw [j27, s1], fun z => by rw [j28, s2]; exact i28 (by omega), fun j hj => by rw [j35, s3]; exact i35 j hj, fun j q1 q2 => hno j (by omega) q2, Or.inr (fun b' hb' => ?_)⟩ (by dsimp only; rw [cl_nI (by omega), cl_nI (by omega)]; omega)
        have e := bad_one hb' (hall2 (nx + P - 1) (by omega) (by omega))
        rw [e, hP]
        exact hadd
theorem tryAll_ok (w : Wd) {g SL SM : Nat → Nat} {n m : Nat} {ok : Nat → Bool} (hp : PadC w g n) (hall : allOk g n) (h2 : w.1 2 = nI (mkA g n)) (h4 : w.1 4 = nI (lnA g n)) (h6 : ∀ l, l < lnA g n → w.2.1 6 l = atG 0 (manyA g) g n l) (hm : m ≤ 6) (h12 : w.1 12 = nI m) (hsi : ∀ i, i < m → w.2.1 12 i = nI (SL i) ∧ w.2.1 13 i = nI (SM i) ∧ SL i < 40 ∧ SM i ≤ 8) (hok : ∀ t, ok t = true ↔ sightP g n m SL SM ∧ allGood (evA g (digA (mkA g n) t)) n) : Ok (F_X1_tryAll w) (fun w' => Fr [5, 6, 7, 27, 28] [7, 35] w w' ∧ WaysC w' ok (mkA g n)) := by
  have hA : mkA g n < 4 := by have := mkA_ok hall; omega
  unfold F_X1_tryAll
  refine Ok.bind (fillG _) ?_
  rintro w1 ⟨hs1, z35⟩
  have hs : Fr [5, 6, 7, 27, 28] [7, 35] w w1 := (((Fr.rf _ _ w).wI (k := 27) (by decide)).wI (k := 28) (by decide)).tr (hs1.mono (by decide) (by decide))
  have h27 : w1.1 27 = 0 := by rw [hs1.1 27 (by decide)]; simp only [rI_i, rI_a, rI_l, rA_i, rA_a, rA_l, rR_i, rR_a, rR_l, rL_i, rL_a, rL_l, reduceIte, Nat.reduceEqDiff]
  obtain ⟨r, e, hr⟩ := sightsC w1 (g := g) (SL := SL) (SM := SM) (n := n) (m := m) (lnA_40 hp) (by rw [hs.1 4 (by decide)]; exact h4) (fun l hl => by rw [hs.2 6 (by decide)]; exact h6 l hl) hm (by rw [hs.1 12 (by decide)]; exact h12) (fun i hi => by rw [hs.2 12 (by decide), hs.2 13 (by decide)]; exact hsi i hi)
  rw [e, Option.bind_some]
  dsimp only
  rcases hr with ⟨rfl, hP⟩ | ⟨rfl, hP⟩
  · rw [if_neg one0, show w1.1 2 = nI (mkA g n) from by rw [hs.1 2 (by decide)]; exact h2, way_all _ hA]
    refine (try43 w1 (hp.same (hs.same rfl rfl)) hall (by rw [hs.1 2 (by decide)]; exact h2) (fun t => ⟨fun q => ((hok t).mp q).2, fun q => (hok t).mpr ⟨hP, q⟩⟩) h27 z35).mono ?_
    rintro w2 ⟨hs2, hw⟩
    exact ⟨hs.tr hs2, hw⟩
  · rw [if_pos rfl]
    have hno : ∀ j, 0 ≤ j → j < 0 + 2 ^ (3 * mkA g n) → ok j = false := fun j _ _ => by
      cases hoj : ok j with
      | false => rfl
      | true => exact (hP ((hok j).mp hoj).1).elim
    obtain ⟨s1, s2, s3⟩ := skipW _ hno (mkA g n)
    rw [Nat.zero_add] at s1 s2 s3
    refine Ok.ret ⟨hs, by rw [s1]; exact h27, fun q => by rw [s1] at q; exact absurd q (Nat.lt_irrefl _), fun j hj => by rw [s3]; exact z35 j (by omega)⟩
