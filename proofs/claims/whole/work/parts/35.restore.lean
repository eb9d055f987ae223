theorem cpy_in {f g : Nat → Int32} {n j : Nat} (h : j < n) : va_cpy f g 0 0 n j = f j := by
  unfold va_cpy
  rw [if_pos (by omega)]
  congr 1
  omega
theorem kept_src {w : Wd} {K K0 : Nat → Int32} {b : Nat} (hk : ∀ j, K j = if b ≤ j ∧ j < b + 87 then srcV w (j - b) else K0 j) : (K b = w.1 29 ∧ K (b + 1) = w.1 30 ∧ K (b + 2) = w.1 31 ∧ K (b + 3) = w.1 32 ∧ K (b + 4) = w.1 33) ∧ (∀ i, i < 64 → K (b + 5 + i) = w.2.1 37 i) ∧ ∀ i, i < 6 → K (b + 69 + 3 * i) = w.2.1 38 i ∧ K (b + 70 + 3 * i) = w.2.1 39 i ∧ K (b + 71 + 3 * i) = w.2.1 40 i := by
  have e : ∀ d, d < 87 → K (b + d) = srcV w d := fun d hd => by rw [hk, if_pos (by omega), show b + d - b = d by omega]
  refine ⟨⟨e 0 (by omega), e 1 (by omega), e 2 (by omega), e 3 (by omega), e 4 (by omega)⟩, fun i hi => ?_, fun i hi => ⟨?_, ?_, ?_⟩⟩
  · rw [show b + 5 + i = b + (5 + i) by omega, e _ (by omega)]
    unfold srcV
    rw [if_neg (by omega), if_pos (by omega)]
    exact congrArg (w.2.1 37) (by omega)
  · rw [show b + 69 + 3 * i = b + (69 + 3 * i) by omega, e _ (by omega)]
    unfold srcV
    rw [if_neg (by omega), if_neg (by omega), if_pos (by omega)]
    exact congrArg (w.2.1 38) (by omega)
  · rw [show b + 70 + 3 * i = b + (70 + 3 * i) by omega, e _ (by omega)]
    unfold srcV
    rw [if_neg (by omega), if_neg (by omega), if_neg (by omega), if_pos (by omega)]
    exact congrArg (w.2.1 39) (by omega)
  · rw [show b + 71 + 3 * i = b + (71 + 3 * i) by omega, e _ (by omega)]
    unfold srcV
    rw [if_neg (by omega), if_neg (by omega), if_neg (by omega), if_neg (by omega)]
    exact congrArg (w.2.1 40) (by omega)
theorem srcV_congr {w w' : Wd} (h : ∀ k, 29 ≤ k → k ≤ 33 → w'.1 k = w.1 k) (h2 : ∀ k, 37 ≤ k → k ≤ 40 → w'.2.1 k = w.2.1 k) (d : Nat) : srcV w' d = srcV w d := by
  unfold srcV
  by_cases q : d < 5
  · rw [if_pos q, if_pos q]; exact h _ (by omega) (by omega)
  · rw [if_neg q, if_neg q, h2 37 (by omega) (by omega), h2 38 (by omega) (by omega), h2 39 (by omega) (by omega), h2 40 (by omega) (by omega)]
theorem RulesRel.eq {w w' : Wd} (h : RulesRel w) (e : ∀ k, (8 ≤ k ∧ k ≤ 12) ∨ (29 ≤ k ∧ k ≤ 33) → w'.1 k = w.1 k) (f : ∀ k, (9 ≤ k ∧ k ≤ 13) ∨ (37 ≤ k ∧ k ≤ 40) → w'.2.1 k = w.2.1 k) : RulesRel w' := by
  unfold RulesRel
  rw [e 8 (by omega), e 9 (by omega), e 10 (by omega), e 11 (by omega), e 12 (by omega), e 29 (by omega), e 30 (by omega), e 31 (by omega), e 32 (by omega), e 33 (by omega), f 9 (by omega), f 10 (by omega), f 11 (by omega), f 12 (by omega), f 13 (by omega), f 37 (by omega), f 38 (by omega), f 39 (by omega), f 40 (by omega)]
  exact h
theorem PadRel.eq {w w' : Wd} (h : PadRel w) (e0 : w'.1 0 = w.1 0) (e34 : w'.1 34 = w.1 34) (f5 : w'.2.1 5 = w.2.1 5) (f41 : w'.2.1 41 = w.2.1 41) : PadRel w' := by
  obtain ⟨g, n, hc, hm⟩ := h
  refine ⟨g, n, ?_, ?_⟩
  · unfold PadC; rw [e0, f5]; exact hc
  · unfold PadM; rw [e34, f41]; exact hm
theorem Img0Rel.eq {w w' : Wd} (h : Img0Rel w) (e2 : w'.2.1 2 0 = w.2.1 2 0) (e51 : w'.2.1 51 0 = w.2.1 51 0) (e : ∀ k, 13 ≤ k ∧ k ≤ 17 → w'.1 k = w.1 k) (f : ∀ k, 15 ≤ k ∧ k ≤ 19 → w'.2.1 k = w.2.1 k) (hk : ∀ j, j < 87 → w'.2.1 50 j = w.2.1 50 j) : Img0Rel w' := by
  unfold Img0Rel
  rw [e2, e51, e 13 (by omega), e 14 (by omega), e 15 (by omega), e 16 (by omega), e 17 (by omega), f 15 (by omega), f 16 (by omega), f 17 (by omega), f 18 (by omega), f 19 (by omega), hk 0 (by omega), hk 1 (by omega), hk 2 (by omega), hk 3 (by omega), hk 4 (by omega)]
  rcases h with h | ⟨h1, h2, h3⟩
  · exact Or.inl h
  · exact Or.inr ⟨h1, h2, h3.congr (fun i _ => ⟨rfl, rfl⟩) (fun i _ => ⟨rfl, rfl, rfl⟩) (fun i hi => hk _ (by omega)) (fun i hi => ⟨hk _ (by omega), hk _ (by omega), hk _ (by omega)⟩)⟩
theorem Img1Rel.eq {w w' : Wd} (h : Img1Rel w) (e2 : w'.2.1 2 1 = w.2.1 2 1) (e51 : w'.2.1 51 1 = w.2.1 51 1) (e : ∀ k, 18 ≤ k ∧ k ≤ 22 → w'.1 k = w.1 k) (f : ∀ k, 21 ≤ k ∧ k ≤ 25 → w'.2.1 k = w.2.1 k) (hk : ∀ j, 100 ≤ j → j < 187 → w'.2.1 50 j = w.2.1 50 j) : Img1Rel w' := by
  unfold Img1Rel
  rw [e2, e51, e 18 (by omega), e 19 (by omega), e 20 (by omega), e 21 (by omega), e 22 (by omega), f 21 (by omega), f 22 (by omega), f 23 (by omega), f 24 (by omega), f 25 (by omega), hk 100 (by omega) (by omega), hk 101 (by omega) (by omega), hk 102 (by omega) (by omega), hk 103 (by omega) (by omega), hk 104 (by omega) (by omega)]
  rcases h with h | ⟨h1, h2, h3⟩
  · exact Or.inl h
  · exact Or.inr ⟨h1, h2, h3.congr (fun i _ => ⟨rfl, rfl⟩) (fun i _ => ⟨rfl, rfl, rfl⟩) (fun i hi => hk _ (by omega) (by omega)) (fun i hi => ⟨hk _ (by omega) (by omega), hk _ (by omega) (by omega), hk _ (by omega) (by omega)⟩)⟩
def imgC0 (w : Wd) : Wd := wR (wR (wR (wR (wR (wI (wI (wI (wI (wI w 13 (w.1 8)) 14 (w.1 9)) 15 (w.1 10)) 16 (w.1 11)) 17 (w.1 12)) 15 (va_cpy (w.2.1 9) (w.2.1 15) 0 0 8)) 16 (va_cpy (w.2.1 10) (w.2.1 16) 0 0 8)) 17 (va_cpy (w.2.1 11) (w.2.1 17) 0 0 6)) 18 (va_cpy (w.2.1 12) (w.2.1 18) 0 0 6)) 19 (va_cpy (w.2.1 13) (w.2.1 19) 0 0 6)
def imgC1 (w : Wd) : Wd := wR (wR (wR (wR (wR (wI (wI (wI (wI (wI w 18 (w.1 8)) 19 (w.1 9)) 20 (w.1 10)) 21 (w.1 11)) 22 (w.1 12)) 21 (va_cpy (w.2.1 9) (w.2.1 21) 0 0 8)) 22 (va_cpy (w.2.1 10) (w.2.1 22) 0 0 8)) 23 (va_cpy (w.2.1 11) (w.2.1 23) 0 0 6)) 24 (va_cpy (w.2.1 12) (w.2.1 24) 0 0 6)) 25 (va_cpy (w.2.1 13) (w.2.1 25) 0 0 6)
theorem imgC0_i (w : Wd) {k : Nat} (h : ¬ (13 ≤ k ∧ k ≤ 17)) : (imgC0 w).1 k = w.1 k := by
  unfold imgC0
  simp only [rR_i, rI_i]
  rw [if_neg (by omega), if_neg (by omega), if_neg (by omega), if_neg (by omega), if_neg (by omega)]
theorem imgC0_a (w : Wd) {k : Nat} (h : ¬ (15 ≤ k ∧ k ≤ 19)) : (imgC0 w).2.1 k = w.2.1 k := by
  unfold imgC0
  simp only [rR_a, rI_a]
  rw [if_neg (by omega), if_neg (by omega), if_neg (by omega), if_neg (by omega), if_neg (by omega)]
theorem imgC1_i (w : Wd) {k : Nat} (h : ¬ (18 ≤ k ∧ k ≤ 22)) : (imgC1 w).1 k = w.1 k := by
  unfold imgC1
  simp only [rR_i, rI_i]
  rw [if_neg (by omega), if_neg (by omega), if_neg (by omega), if_neg (by omega), if_neg (by omega)]
theorem imgC1_a (w : Wd) {k : Nat} (h : ¬ (21 ≤ k ∧ k ≤ 25)) : (imgC1 w).2.1 k = w.2.1 k := by
  unfold imgC1
  simp only [rR_a, rI_a]
  rw [if_neg (by omega), if_neg (by omega), if_neg (by omega), if_neg (by omega), if_neg (by omega)]
/-- the reference's image, behind the class's -/
theorem imageM (w : Wd) {v : Nat} (hv : v < 2) : Ok (F_X6_image w (nI v)) (fun y => y.1 = 1 ∧ (∀ k, k ≠ 39 → k ≠ 40 → y.2.1 k = w.1 k) ∧ (∀ k, k ≠ 50 → k ≠ 51 → y.2.2.1 k = w.2.1 k) ∧ y.2.2.1 51 = upd (w.2.1 51) v 1 ∧ ∀ j, y.2.2.1 50 j = if 100 * v ≤ j ∧ j < 100 * v + 87 then srcV w (j - 100 * v) else w.2.1 50 j) := by
  unfold F_X6_image
  rw [X6_yes (by rw [nI_toInt (by omega), show (0 : Int64).toInt = 0 from rfl, show (1 : Int64).toInt = 1 from rfl]; omega), Option.bind_some, if_neg one0]
  dsimp only
  rw [show (100 : Int32) * nI v = nI (100 * v) from pk_mul 100 v]
  refine Ok.bind (passAllW _ (b := 100 * v) (by omega) (by simp only [rI_i, rI_a, rI_l, rA_i, rA_a, rA_l, rR_i, rR_a, rR_l, rL_i, rL_a, rL_l, reduceIte, Nat.reduceEqDiff]) (by simp only [rI_i, rI_a, rI_l, rA_i, rA_a, rA_l, rR_i, rR_a, rR_l, rL_i, rL_a, rL_l, reduceIte, Nat.reduceEqDiff])) ?_
  rintro w2 ⟨h39, h40, hi, ha, h50⟩
  refine Ok.gu (gd_nI hv (by omega)) (Ok.ret ⟨rfl, fun k q1 q2 => ?_, fun k q1 q2 => ?_, ?_, fun j => ?_⟩)
  · rw [rA_i, hi k q1]
    simp only [rI_i, rI_a, rI_l, rA_i, rA_a, rA_l, rR_i, rR_a, rR_l, rL_i, rL_a, rL_l, reduceIte, Nat.reduceEqDiff]
    rw [if_neg q2, if_neg q1]
  · rw [rA_a, if_neg q2, ha k q1]
    rfl
  · simp only [rI_i, rI_a, rI_l, rA_i, rA_a, rA_l, rR_i, rR_a, rR_l, rL_i, rL_a, rL_l, reduceIte, Nat.reduceEqDiff]
    rw [cl_nI (by omega), ha 51 (by decide)]
    rfl
  · rw [rA_a, if_neg (by decide), h50, srcV_congr (w' := wI (wI w 39 (nI (100 * v))) 40 1) (w := w) (fun k q1 q2 => by rw [rI_i, rI_i, if_neg (by omega), if_neg (by omega)]) (fun k q1 q2 => rfl)]
    rfl
theorem eqv_image (p1 : Int32) : Eqv (fun w => F_X5_image w p1) (fun w => F_X6_image w p1) := by
  rintro w ⟨hpad, hr, hi0, hi1⟩
  show Ok (F_X5_image w p1) _
  unfold F_X5_image
  by_cases hp : 0 ≤ p1.toInt ∧ p1.toInt ≤ 1
  · obtain ⟨v, hv, rfl, hv2⟩ := i32_nat hp.1
    rw [X5_yes (show 0 ≤ (nI v).toInt ∧ (nI v).toInt ≤ (1 : Int32).toInt from hp), Option.bind_some, if_neg one0]
    rcases (show v = 0 ∨ v = 1 by omega) with rfl | rfl
    · rw [if_pos (by decide)]
      show Ok ((some (imgC0 w)).bind fun x2 => gu (gd (nI 0) 2) <| some (1, wA x2 2 (nI 0) 1)) _
      rw [Option.bind_some, gd_nI (by omega) (by omega)]
      refine Ok.ret ?_
      refine (imageM (wA (imgC0 w) 2 (nI 0) 1) (v := 0) (by decide)).mono ?_
      rintro ⟨r, w3⟩ ⟨h1, h2, h3, h4, h5⟩
      dsimp only at h1 h2 h3 h4 h5 ⊢
      have gi : ∀ k, k ≠ 39 → k ≠ 40 → ¬ (13 ≤ k ∧ k ≤ 17) → w3.1 k = w.1 k := fun k q1 q2 q3 => by rw [h2 k q1 q2, rA_i, imgC0_i w q3]
      have ga : ∀ k, k ≠ 50 → k ≠ 51 → k ≠ 2 → ¬ (15 ≤ k ∧ k ≤ 19) → w3.2.1 k = w.2.1 k := fun k q1 q2 q3 q4 => by rw [h3 k q1 q2, rA_a, if_neg q3, imgC0_a w q4]
      have g2 : w3.2.1 2 = upd (w.2.1 2) 0 1 := by rw [h3 2 (by decide) (by decide), rA_a, if_pos rfl, cl_nI (by omega), imgC0_a w (by omega)]
      have g51 : w3.2.1 51 = upd (w.2.1 51) 0 1 := by rw [h4, rA_a, if_neg (by decide), imgC0_a w (by omega)]
      have hs : ∀ d, srcV (wA (imgC0 w) 2 (nI 0) 1) d = srcV w d := srcV_congr (fun k q1 q2 => by rw [rA_i, imgC0_i w (by omega)]) (fun k q1 q2 => by rw [rA_a, if_neg (by omega), imgC0_a w (by omega)])
      have h50 : ∀ j, w3.2.1 50 j = if 0 ≤ j ∧ j < 0 + 87 then srcV w (j - 0) else w.2.1 50 j := fun j => by
        rw [h5 j, hs, show (wA (imgC0 w) 2 (nI 0) 1).2.1 50 = w.2.1 50 from by rw [rA_a, if_neg (by decide), imgC0_a w (by omega)]]
      refine ⟨h1, hpad.eq (gi 0 (by decide) (by decide) (by omega)) (gi 34 (by decide) (by decide) (by omega)) (ga 5 (by decide) (by decide) (by decide) (by omega)) (ga 41 (by decide) (by decide) (by decide) (by omega)), hr.eq (fun k q => gi k (by omega) (by omega) (by omega)) (fun k q => ga k (by omega) (by omega) (by omega) (by omega)), ?_, ?_⟩
      · obtain ⟨⟨k0, k1, k2, k3, k4⟩, km, k6⟩ := kept_src h50
        refine Or.inr ⟨by rw [g2, upd_at, if_pos rfl], by rw [g51, upd_at, if_pos rfl], ?_⟩
        have ei : ∀ k, 13 ≤ k ∧ k ≤ 17 → w3.1 k = w.1 (k - 5) := fun k q => by
          rw [h2 k (by omega) (by omega), rA_i]
          rcases (show k = 13 ∨ k = 14 ∨ k = 15 ∨ k = 16 ∨ k = 17 by omega) with rfl | rfl | rfl | rfl | rfl <;> rfl
        rw [ei 13 (by omega), ei 14 (by omega), ei 15 (by omega), ei 16 (by omega), ei 17 (by omega)]
        rw [show w3.2.1 50 0 = w.1 29 from k0, show w3.2.1 50 1 = w.1 30 from k1, show w3.2.1 50 2 = w.1 31 from k2, show w3.2.1 50 3 = w.1 32 from k3, show w3.2.1 50 4 = w.1 33 from k4]
        have e15 : w3.2.1 15 = va_cpy (w.2.1 9) (w.2.1 15) 0 0 8 := h3 15 (by decide) (by decide)
        have e16 : w3.2.1 16 = va_cpy (w.2.1 10) (w.2.1 16) 0 0 8 := h3 16 (by decide) (by decide)
        have e17 : w3.2.1 17 = va_cpy (w.2.1 11) (w.2.1 17) 0 0 6 := h3 17 (by decide) (by decide)
        have e18 : w3.2.1 18 = va_cpy (w.2.1 12) (w.2.1 18) 0 0 6 := h3 18 (by decide) (by decide)
        have e19 : w3.2.1 19 = va_cpy (w.2.1 13) (w.2.1 19) 0 0 6 := h3 19 (by decide) (by decide)
        refine RR.congr hr (fun i hi => ?_) (fun i hi => ?_) (fun i hi => ?_) (fun i hi => ?_)
        · rw [e15, e16]; exact ⟨cpy_in hi, cpy_in hi⟩
        · rw [e17, e18, e19]; exact ⟨cpy_in hi, cpy_in hi, cpy_in hi⟩
        · have := km i hi
          rw [show 0 + 5 + i = 5 + i by omega] at this
          exact this
        · have := k6 i hi
          rw [show 0 + 69 + 3 * i = 69 + 3 * i by omega, show 0 + 70 + 3 * i = 70 + 3 * i by omega, show 0 + 71 + 3 * i = 71 + 3 * i by omega] at this
          exact this
      · exact hi1.eq (by rw [g2, upd_at, if_neg (by decide)]) (by rw [g51, upd_at, if_neg (by decide)]) (fun k q => gi k (by omega) (by omega) (by omega)) (fun k q => ga k (by omega) (by omega) (by omega) (by omega)) (fun j q1 q2 => by rw [h50 j, if_neg (by omega)])
    · rw [if_neg (by decide)]
      show Ok (gu (decide (nI 1 = 1)) <| (some (imgC1 w)).bind fun x2 => gu (gd (nI 1) 2) <| some (1, wA x2 2 (nI 1) 1)) _
      rw [show decide (nI 1 = 1) = true from by decide, Option.bind_some, gd_nI (by omega) (by omega)]
      refine Ok.ret ?_
      refine (imageM (wA (imgC1 w) 2 (nI 1) 1) (v := 1) (by decide)).mono ?_
      rintro ⟨r, w3⟩ ⟨h1, h2, h3, h4, h5⟩
      dsimp only at h1 h2 h3 h4 h5 ⊢
      have gi : ∀ k, k ≠ 39 → k ≠ 40 → ¬ (18 ≤ k ∧ k ≤ 22) → w3.1 k = w.1 k := fun k q1 q2 q3 => by rw [h2 k q1 q2, rA_i, imgC1_i w q3]
      have ga : ∀ k, k ≠ 50 → k ≠ 51 → k ≠ 2 → ¬ (21 ≤ k ∧ k ≤ 25) → w3.2.1 k = w.2.1 k := fun k q1 q2 q3 q4 => by rw [h3 k q1 q2, rA_a, if_neg q3, imgC1_a w q4]
      have g2 : w3.2.1 2 = upd (w.2.1 2) 1 1 := by rw [h3 2 (by decide) (by decide), rA_a, if_pos rfl, cl_nI (by omega), imgC1_a w (by omega)]
      have g51 : w3.2.1 51 = upd (w.2.1 51) 1 1 := by rw [h4, rA_a, if_neg (by decide), imgC1_a w (by omega)]
      have hs : ∀ d, srcV (wA (imgC1 w) 2 (nI 1) 1) d = srcV w d := srcV_congr (fun k q1 q2 => by rw [rA_i, imgC1_i w (by omega)]) (fun k q1 q2 => by rw [rA_a, if_neg (by omega), imgC1_a w (by omega)])
      have h50 : ∀ j, w3.2.1 50 j = if 100 ≤ j ∧ j < 100 + 87 then srcV w (j - 100) else w.2.1 50 j := fun j => by
        rw [h5 j, hs, show (wA (imgC1 w) 2 (nI 1) 1).2.1 50 = w.2.1 50 from by rw [rA_a, if_neg (by decide), imgC1_a w (by omega)]]
      refine ⟨h1, hpad.eq (gi 0 (by decide) (by decide) (by omega)) (gi 34 (by decide) (by decide) (by omega)) (ga 5 (by decide) (by decide) (by decide) (by omega)) (ga 41 (by decide) (by decide) (by decide) (by omega)), hr.eq (fun k q => gi k (by omega) (by omega) (by omega)) (fun k q => ga k (by omega) (by omega) (by omega) (by omega)), ?_, ?_⟩
      · exact hi0.eq (by rw [g2, upd_at, if_neg (by decide)]) (by rw [g51, upd_at, if_neg (by decide)]) (fun k q => gi k (by omega) (by omega) (by omega)) (fun k q => ga k (by omega) (by omega) (by omega) (by omega)) (fun j q1 => by rw [h50 j, if_neg (by omega)])
      · obtain ⟨⟨k0, k1, k2, k3, k4⟩, km, k6⟩ := kept_src h50
        refine Or.inr ⟨by rw [g2, upd_at, if_pos rfl], by rw [g51, upd_at, if_pos rfl], ?_⟩
        have ei : ∀ k, 18 ≤ k ∧ k ≤ 22 → w3.1 k = w.1 (k - 10) := fun k q => by
          rw [h2 k (by omega) (by omega), rA_i]
          rcases (show k = 18 ∨ k = 19 ∨ k = 20 ∨ k = 21 ∨ k = 22 by omega) with rfl | rfl | rfl | rfl | rfl <;> rfl
        rw [ei 18 (by omega), ei 19 (by omega), ei 20 (by omega), ei 21 (by omega), ei 22 (by omega)]
        rw [show w3.2.1 50 100 = w.1 29 from k0, show w3.2.1 50 101 = w.1 30 from k1, show w3.2.1 50 102 = w.1 31 from k2, show w3.2.1 50 103 = w.1 32 from k3, show w3.2.1 50 104 = w.1 33 from k4]
        have e15 : w3.2.1 21 = va_cpy (w.2.1 9) (w.2.1 21) 0 0 8 := h3 21 (by decide) (by decide)
        have e16 : w3.2.1 22 = va_cpy (w.2.1 10) (w.2.1 22) 0 0 8 := h3 22 (by decide) (by decide)
        have e17 : w3.2.1 23 = va_cpy (w.2.1 11) (w.2.1 23) 0 0 6 := h3 23 (by decide) (by decide)
        have e18 : w3.2.1 24 = va_cpy (w.2.1 12) (w.2.1 24) 0 0 6 := h3 24 (by decide) (by decide)
        have e19 : w3.2.1 25 = va_cpy (w.2.1 13) (w.2.1 25) 0 0 6 := h3 25 (by decide) (by decide)
        refine RR.congr hr (fun i hi => ?_) (fun i hi => ?_) (fun i hi => km i hi) (fun i hi => k6 i hi)
        · rw [e15, e16]; exact ⟨cpy_in hi, cpy_in hi⟩
        · rw [e17, e18, e19]; exact ⟨cpy_in hi, cpy_in hi, cpy_in hi⟩
  · rw [X5_not (show ¬ (0 ≤ p1.toInt ∧ p1.toInt ≤ (1 : Int32).toInt) from hp), Option.bind_some, if_pos rfl]
    refine Ok.ret ?_
    show Ok (F_X6_image w p1) _
    unfold F_X6_image
    rw [X6_not (show ¬ ((0 : Int64).toInt ≤ p1.toInt ∧ p1.toInt ≤ (1 : Int64).toInt) from hp), Option.bind_some, if_pos rfl]
    exact Ok.ret ⟨rfl, hpad, hr, hi0, hi1⟩
def resC0 (w : Wd) : Wd := wR (wR (wR (wR (wR (wI (wI (wI (wI (wI w 8 (w.1 13)) 9 (w.1 14)) 10 (w.1 15)) 11 (w.1 16)) 12 (w.1 17)) 9 (va_cpy (w.2.1 15) (w.2.1 9) 0 0 8)) 10 (va_cpy (w.2.1 16) (w.2.1 10) 0 0 8)) 11 (va_cpy (w.2.1 17) (w.2.1 11) 0 0 6)) 12 (va_cpy (w.2.1 18) (w.2.1 12) 0 0 6)) 13 (va_cpy (w.2.1 19) (w.2.1 13) 0 0 6)
def resC1 (w : Wd) : Wd := wR (wR (wR (wR (wR (wI (wI (wI (wI (wI w 8 (w.1 18)) 9 (w.1 19)) 10 (w.1 20)) 11 (w.1 21)) 12 (w.1 22)) 9 (va_cpy (w.2.1 21) (w.2.1 9) 0 0 8)) 10 (va_cpy (w.2.1 22) (w.2.1 10) 0 0 8)) 11 (va_cpy (w.2.1 23) (w.2.1 11) 0 0 6)) 12 (va_cpy (w.2.1 24) (w.2.1 12) 0 0 6)) 13 (va_cpy (w.2.1 25) (w.2.1 13) 0 0 6)
theorem resC0_i (w : Wd) {k : Nat} (h : ¬ (8 ≤ k ∧ k ≤ 12)) : (resC0 w).1 k = w.1 k := by
  unfold resC0
  simp only [rR_i, rI_i]
  rw [if_neg (by omega), if_neg (by omega), if_neg (by omega), if_neg (by omega), if_neg (by omega)]
theorem resC0_a (w : Wd) {k : Nat} (h : ¬ (9 ≤ k ∧ k ≤ 13)) : (resC0 w).2.1 k = w.2.1 k := by
  unfold resC0
  simp only [rR_a, rI_a]
  rw [if_neg (by omega), if_neg (by omega), if_neg (by omega), if_neg (by omega), if_neg (by omega)]
theorem resC1_i (w : Wd) {k : Nat} (h : ¬ (8 ≤ k ∧ k ≤ 12)) : (resC1 w).1 k = w.1 k := by
  unfold resC1
  simp only [rR_i, rI_i]
  rw [if_neg (by omega), if_neg (by omega), if_neg (by omega), if_neg (by omega), if_neg (by omega)]
theorem resC1_a (w : Wd) {k : Nat} (h : ¬ (9 ≤ k ∧ k ≤ 13)) : (resC1 w).2.1 k = w.2.1 k := by
  unfold resC1
  simp only [rR_a, rI_a]
  rw [if_neg (by omega), if_neg (by omega), if_neg (by omega), if_neg (by omega), if_neg (by omega)]
theorem restoreM (w : Wd) {v : Nat} (hv : v < 2) (hk : w.2.1 51 v = 1) : Ok (F_X6_restore w (nI v)) (fun y => y.1 = 1 ∧ (∀ k, ¬ (29 ≤ k ∧ k ≤ 33) → k ≠ 39 → k ≠ 40 → y.2.1 k = w.1 k) ∧ (∀ k, ¬ (37 ≤ k ∧ k ≤ 40) → y.2.2.1 k = w.2.1 k) ∧ (∀ e, e < 5 → y.2.1 (29 + e) = w.2.1 50 (100 * v + e)) ∧ (∀ i, i < 64 → y.2.2.1 37 i = w.2.1 50 (100 * v + (5 + i))) ∧ ∀ i, i < 6 → y.2.2.1 38 i = w.2.1 50 (100 * v + (69 + 3 * i)) ∧ y.2.2.1 39 i = w.2.1 50 (100 * v + (70 + 3 * i)) ∧ y.2.2.1 40 i = w.2.1 50 (100 * v + (71 + 3 * i))) := by
  unfold F_X6_restore
  rw [X6_yes (by rw [nI_toInt (by omega), show (0 : Int64).toInt = 0 from rfl, show (1 : Int64).toInt = 1 from rfl]; omega), Option.bind_some, if_neg one0]
  dsimp only
  refine Ok.gu (gd_nI hv (by omega)) ?_
  rw [cl_nI (by omega), hk, if_neg one0, show (100 : Int32) * nI v = nI (100 * v) from pk_mul 100 v]
  refine Ok.bind (passAllR _ (b := 100 * v) (by omega) (by simp only [rI_i, rI_a, rI_l, rA_i, rA_a, rA_l, rR_i, rR_a, rR_l, rL_i, rL_a, rL_l, reduceIte, Nat.reduceEqDiff]) (by simp only [rI_i, rI_a, rI_l, rA_i, rA_a, rA_l, rR_i, rR_a, rR_l, rL_i, rL_a, rL_l, reduceIte, Nat.reduceEqDiff])) ?_
  rintro w2 ⟨h39, h40, hi, he, ha, g1, g2, g3, g4⟩
  refine Ok.ret ⟨rfl, fun k q1 q2 q3 => ?_, fun k q => ?_, fun e q => ?_, fun i hi => ?_, fun i hi => ⟨?_, ?_, ?_⟩⟩
  · show w2.1 k = _
    rw [hi k q1 q2]
    simp only [rI_i, rI_a, rI_l, rA_i, rA_a, rA_l, rR_i, rR_a, rR_l, rL_i, rL_a, rL_l, reduceIte, Nat.reduceEqDiff]
    rw [if_neg q3, if_neg q2]
  · exact ha k q
  · exact he e q (by omega)
  · exact g1 i hi (by omega)
  · exact g2 i hi (by omega)
  · exact g3 i hi (by omega)
  · exact g4 i hi (by omega)
theorem eqv_restore (p1 : Int32) : Eqv (fun w => F_X5_restore w p1) (fun w => F_X6_restore w p1) := by
  rintro w ⟨hpad, hr, hi0, hi1⟩
  have hrel : Rel w := ⟨hpad, hr, hi0, hi1⟩
  show Ok (F_X5_restore w p1) _
  unfold F_X5_restore
  by_cases hp : 0 ≤ p1.toInt ∧ p1.toInt ≤ 1
  · obtain ⟨v, hv, rfl, hv2⟩ := i32_nat hp.1
    rw [X5_yes (show 0 ≤ (nI v).toInt ∧ (nI v).toInt ≤ (1 : Int32).toInt from hp), Option.bind_some, if_neg one0]
    have hno : w.2.1 51 v = 0 → Ok (F_X6_restore w (nI v)) (fun y => y.1 = -3 ∧ Rel y.2) := by
      intro q
      unfold F_X6_restore
      rw [X6_yes (show (0 : Int64).toInt ≤ (nI v).toInt ∧ (nI v).toInt ≤ (1 : Int64).toInt from hp), Option.bind_some, if_neg one0]
      dsimp only
      refine Ok.gu (gd_nI (by omega) (by omega)) ?_
      rw [cl_nI (by omega), q, if_pos rfl]
      exact Ok.ret ⟨rfl, hrel⟩
    refine Ok.gu (gd_nI (by omega) (by omega)) ?_
    dsimp only
    rw [cl_nI (by omega)]
    rcases (show v = 0 ∨ v = 1 by omega) with rfl | rfl
    · rcases hi0 with ⟨c1, c2⟩ | ⟨c1, c2, c3⟩
      · rw [c1, if_pos rfl]
        exact Ok.ret (hno c2)
      · rw [c1, if_neg one0, if_pos (by decide)]
        show Ok ((some (resC0 w)).bind fun x2 => some ((1 : Int32), x2)) _
        rw [Option.bind_some]
        refine Ok.ret ?_
        refine (restoreM (resC0 w) (v := 0) (by decide) (by rw [resC0_a w (by omega)]; exact c2)).mono ?_
        rintro ⟨r, w3⟩ ⟨h1, h2, h3, h4, h5, h6⟩
        dsimp only at h1 h2 h3 h4 h5 h6 ⊢
        have k50 : (resC0 w).2.1 50 = w.2.1 50 := resC0_a w (by omega)
        rw [k50] at h4 h5 h6
        have gi : ∀ k, ¬ (29 ≤ k ∧ k ≤ 33) → k ≠ 39 → k ≠ 40 → ¬ (8 ≤ k ∧ k ≤ 12) → w3.1 k = w.1 k := fun k q1 q2 q3 q4 => by rw [h2 k q1 q2 q3, resC0_i w q4]
        have ga : ∀ k, ¬ (37 ≤ k ∧ k ≤ 40) → ¬ (9 ≤ k ∧ k ≤ 13) → w3.2.1 k = w.2.1 k := fun k q1 q2 => by rw [h3 k q1, resC0_a w q2]
        refine ⟨h1, hpad.eq (gi 0 (by omega) (by decide) (by decide) (by omega)) (gi 34 (by omega) (by decide) (by decide) (by omega)) (ga 5 (by omega) (by omega)) (ga 41 (by omega) (by omega)), ?_, ?_, ?_⟩
        · have ei : ∀ k, 8 ≤ k ∧ k ≤ 12 → w3.1 k = w.1 (k + 5) := fun k q => by
            rw [h2 k (by omega) (by omega) (by omega)]
            rcases (show k = 8 ∨ k = 9 ∨ k = 10 ∨ k = 11 ∨ k = 12 by omega) with rfl | rfl | rfl | rfl | rfl <;> rfl
          unfold RulesRel
          rw [ei 8 (by omega), ei 9 (by omega), ei 10 (by omega), ei 11 (by omega), ei 12 (by omega), show w3.1 29 = _ from h4 0 (by omega), show w3.1 30 = _ from h4 1 (by omega), show w3.1 31 = _ from h4 2 (by omega), show w3.1 32 = _ from h4 3 (by omega), show w3.1 33 = _ from h4 4 (by omega)]
          have e15 : w3.2.1 9 = va_cpy (w.2.1 15) (w.2.1 9) 0 0 8 := h3 9 (by omega)
          have e16 : w3.2.1 10 = va_cpy (w.2.1 16) (w.2.1 10) 0 0 8 := h3 10 (by omega)
          have e17 : w3.2.1 11 = va_cpy (w.2.1 17) (w.2.1 11) 0 0 6 := h3 11 (by omega)
          have e18 : w3.2.1 12 = va_cpy (w.2.1 18) (w.2.1 12) 0 0 6 := h3 12 (by omega)
          have e19 : w3.2.1 13 = va_cpy (w.2.1 19) (w.2.1 13) 0 0 6 := h3 13 (by omega)
          refine RR.congr c3 (fun i hi => ?_) (fun i hi => ?_) (fun i hi => ?_) (fun i hi => ?_)
          · rw [e15, e16]; exact ⟨cpy_in hi, cpy_in hi⟩
          · rw [e17, e18, e19]; exact ⟨cpy_in hi, cpy_in hi, cpy_in hi⟩
          · rw [h5 i hi]
            exact congrArg (w.2.1 50) (by omega)
          · obtain ⟨j1, j2, j3⟩ := h6 i hi
            rw [j1, j2, j3]
            exact ⟨congrArg (w.2.1 50) (by omega), congrArg (w.2.1 50) (by omega), congrArg (w.2.1 50) (by omega)⟩
        · exact Img0Rel.eq (Or.inr ⟨c1, c2, c3⟩) (by rw [ga 2 (by omega) (by omega)]) (by rw [ga 51 (by omega) (by omega)]) (fun k q => gi k (by omega) (by omega) (by omega) (by omega)) (fun k q => ga k (by omega) (by omega)) (fun j q => by rw [ga 50 (by omega) (by omega)])
        · exact hi1.eq (by rw [ga 2 (by omega) (by omega)]) (by rw [ga 51 (by omega) (by omega)]) (fun k q => gi k (by omega) (by omega) (by omega) (by omega)) (fun k q => ga k (by omega) (by omega)) (fun j q1 q2 => by rw [ga 50 (by omega) (by omega)])
    · rcases hi1 with ⟨c1, c2⟩ | ⟨c1, c2, c3⟩
      · rw [c1, if_pos rfl]
        exact Ok.ret (hno c2)
      · rw [c1, if_neg one0, if_neg (by decide)]
        show Ok (gu (decide (nI 1 = 1)) <| (some (resC1 w)).bind fun x2 => some ((1 : Int32), x2)) _
        rw [show decide (nI 1 = 1) = true from by decide, Option.bind_some]
        refine Ok.ret ?_
        refine (restoreM (resC1 w) (v := 1) (by decide) (by rw [resC1_a w (by omega)]; exact c2)).mono ?_
        rintro ⟨r, w3⟩ ⟨h1, h2, h3, h4, h5, h6⟩
        dsimp only at h1 h2 h3 h4 h5 h6 ⊢
        have k50 : (resC1 w).2.1 50 = w.2.1 50 := resC1_a w (by omega)
        rw [k50] at h4 h5 h6
        have gi : ∀ k, ¬ (29 ≤ k ∧ k ≤ 33) → k ≠ 39 → k ≠ 40 → ¬ (8 ≤ k ∧ k ≤ 12) → w3.1 k = w.1 k := fun k q1 q2 q3 q4 => by rw [h2 k q1 q2 q3, resC1_i w q4]
        have ga : ∀ k, ¬ (37 ≤ k ∧ k ≤ 40) → ¬ (9 ≤ k ∧ k ≤ 13) → w3.2.1 k = w.2.1 k := fun k q1 q2 => by rw [h3 k q1, resC1_a w q2]
        refine ⟨h1, hpad.eq (gi 0 (by omega) (by decide) (by decide) (by omega)) (gi 34 (by omega) (by decide) (by decide) (by omega)) (ga 5 (by omega) (by omega)) (ga 41 (by omega) (by omega)), ?_, ?_, ?_⟩
        · have ei : ∀ k, 8 ≤ k ∧ k ≤ 12 → w3.1 k = w.1 (k + 10) := fun k q => by
            rw [h2 k (by omega) (by omega) (by omega)]
            rcases (show k = 8 ∨ k = 9 ∨ k = 10 ∨ k = 11 ∨ k = 12 by omega) with rfl | rfl | rfl | rfl | rfl <;> rfl
          unfold RulesRel
          rw [ei 8 (by omega), ei 9 (by omega), ei 10 (by omega), ei 11 (by omega), ei 12 (by omega), show w3.1 29 = _ from h4 0 (by omega), show w3.1 30 = _ from h4 1 (by omega), show w3.1 31 = _ from h4 2 (by omega), show w3.1 32 = _ from h4 3 (by omega), show w3.1 33 = _ from h4 4 (by omega)]
          have e15 : w3.2.1 9 = va_cpy (w.2.1 21) (w.2.1 9) 0 0 8 := h3 9 (by omega)
          have e16 : w3.2.1 10 = va_cpy (w.2.1 22) (w.2.1 10) 0 0 8 := h3 10 (by omega)
          have e17 : w3.2.1 11 = va_cpy (w.2.1 23) (w.2.1 11) 0 0 6 := h3 11 (by omega)
          have e18 : w3.2.1 12 = va_cpy (w.2.1 24) (w.2.1 12) 0 0 6 := h3 12 (by omega)
          have e19 : w3.2.1 13 = va_cpy (w.2.1 25) (w.2.1 13) 0 0 6 := h3 13 (by omega)
          refine RR.congr c3 (fun i hi => ?_) (fun i hi => ?_) (fun i hi => ?_) (fun i hi => ?_)
          · rw [e15, e16]; exact ⟨cpy_in hi, cpy_in hi⟩
          · rw [e17, e18, e19]; exact ⟨cpy_in hi, cpy_in hi, cpy_in hi⟩
          · rw [h5 i hi]
            exact congrArg (w.2.1 50) (by omega)
          · obtain ⟨j1, j2, j3⟩ := h6 i hi
            rw [j1, j2, j3]
            exact ⟨congrArg (w.2.1 50) (by omega), congrArg (w.2.1 50) (by omega), congrArg (w.2.1 50) (by omega)⟩
        · exact hi0.eq (by rw [ga 2 (by omega) (by omega)]) (by rw [ga 51 (by omega) (by omega)]) (fun k q => gi k (by omega) (by omega) (by omega) (by omega)) (fun k q => ga k (by omega) (by omega)) (fun j q => by rw [ga 50 (by omega) (by omega)])
        · exact Img1Rel.eq (Or.inr ⟨c1, c2, c3⟩) (by rw [ga 2 (by omega) (by omega)]) (by rw [ga 51 (by omega) (by omega)]) (fun k q => gi k (by omega) (by omega) (by omega) (by omega)) (fun k q => ga k (by omega) (by omega)) (fun j q1 q2 => by rw [ga 50 (by omega) (by omega)])
  · rw [X5_not (show ¬ (0 ≤ p1.toInt ∧ p1.toInt ≤ (1 : Int32).toInt) from hp), Option.bind_some, if_pos rfl]
    refine Ok.ret ?_
    show Ok (F_X6_restore w p1) _
    unfold F_X6_restore
    rw [X6_not (show ¬ ((0 : Int64).toInt ≤ p1.toInt ∧ p1.toInt ≤ (1 : Int64).toInt) from hp), Option.bind_some, if_pos rfl]
    exact Ok.ret ⟨rfl, hrel⟩
