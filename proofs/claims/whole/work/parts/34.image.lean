/-! images -/
theorem RR.congr {l1 k1 c1 s1 m1 : Int32} {ap tg sc sl sm : Nat → Int32} {l2 k2 c2 s2 m2 : Int32} {my sc2 sl2 sm2 : Nat → Int32} {ap' tg' sc' sl' sm' my' sc2' sl2' sm2' : Nat → Int32} (h : RR l1 k1 c1 s1 m1 ap tg sc sl sm l2 k2 c2 s2 m2 my sc2 sl2 sm2) (h1 : ∀ i, i < 8 → ap' i = ap i ∧ tg' i = tg i) (h2 : ∀ i, i < 6 → sc' i = sc i ∧ sl' i = sl i ∧ sm' i = sm i) (h3 : ∀ i, i < 64 → my' i = my i) (h4 : ∀ i, i < 6 → sc2' i = sc2 i ∧ sl2' i = sl2 i ∧ sm2' i = sm2 i) : RR l1 k1 c1 s1 m1 ap' tg' sc' sl' sm' l2 k2 c2 s2 m2 my' sc2' sl2' sm2' := by
  obtain ⟨e, hl, hk, hc, ⟨s, hs, hs1, hs2⟩, ⟨m, hm, hm1, hm2⟩, ⟨a, t, hat, hmy⟩⟩ := h
  refine ⟨e, hl, hk, hc, ⟨s, hs, hs1, fun i hi => ?_⟩, ⟨m, hm, hm1, fun i hi => ?_⟩, ⟨a, t, fun p hp => ?_, fun p hp q hq => ?_⟩⟩
  · rw [(h4 i (by omega)).1, (h2 i (by omega)).1]; exact hs2 i hi
  · rw [(h4 i (by omega)).2.1, (h4 i (by omega)).2.2, (h2 i (by omega)).2.1, (h2 i (by omega)).2.2]; exact hm2 i hi
  · rw [(h1 p hp).1, (h1 p hp).2]; exact hat p hp
  · rw [h3 _ (by omega)]; exact hmy p hp q hq
theorem upd_same (f : Nat → Int32) (k : Nat) : upd f k (f k) = f := by
  funext j
  rw [upd_at]
  by_cases e : j = k
  · rw [if_pos e, e]
  · rw [if_neg e]
/-- the d-th value that is passed -/
def srcV (w : Wd) (d : Nat) : Int32 := if d < 5 then w.1 (29 + d) else if d < 69 then w.2.1 37 (d - 5) else if (d - 69) % 3 = 0 then w.2.1 38 ((d - 69) / 3) else if (d - 69) % 3 = 1 then w.2.1 39 ((d - 69) / 3) else w.2.1 40 ((d - 69) / 3)
def Wr (w0 : Wd) (b d : Nat) (a : Wd) : Prop := a.1 39 = nI (b + d) ∧ a.1 40 = 1 ∧ (∀ k, k ≠ 39 → a.1 k = w0.1 k) ∧ (∀ k, k ≠ 50 → a.2.1 k = w0.2.1 k) ∧ ∀ j, a.2.1 50 j = if b ≤ j ∧ j < b + d then srcV w0 (j - b) else w0.2.1 50 j
theorem Wr.pass {w0 a : Wd} {b d : Nat} {v : Int32} (h : Wr w0 b d a) (hb : b + d < 200) (hv : v = srcV w0 d) : Ok (F_X6_pass a v) (fun x => x.1 = v ∧ Wr w0 b (d + 1) x.2) := by
  obtain ⟨h39, h40, hi, ha, h50⟩ := h
  unfold F_X6_pass F_X6_pass_20
  rw [h40, if_neg one0, h39]
  refine Ok.gu (gd_nI hb (by omega)) (Ok.ret ⟨rfl, ?_, ?_, fun k hk => ?_, fun k hk => ?_, fun j => ?_⟩)
  · simp only [rI_i, rI_a, rI_l, rA_i, rA_a, rA_l, rR_i, rR_a, rR_l, rL_i, rL_a, rL_l, reduceIte, Nat.reduceEqDiff]
    rw [nI_1]
    rfl
  · simp only [rI_i, rI_a, rI_l, rA_i, rA_a, rA_l, rR_i, rR_a, rR_l, rL_i, rL_a, rL_l, reduceIte, Nat.reduceEqDiff]; exact h40
  · simp only [rI_i, rI_a, rI_l, rA_i, rA_a, rA_l, rR_i, rR_a, rR_l, rL_i, rL_a, rL_l, reduceIte, Nat.reduceEqDiff]
    rw [if_neg hk]; exact hi k hk
  · show (if k = 50 then _ else a.2.1 k) = _
    rw [if_neg hk]; exact ha k hk
  · simp only [rI_i, rI_a, rI_l, rA_i, rA_a, rA_l, rR_i, rR_a, rR_l, rL_i, rL_a, rL_l, reduceIte, Nat.reduceEqDiff]
    rw [cl_nI (by omega), upd_at]
    by_cases e : j = b + d
    · rw [if_pos e, if_pos (by omega), hv]
      congr 1
      omega
    · rw [if_neg e, h50 j]
      by_cases q : b ≤ j ∧ j < b + d
      · rw [if_pos q, if_pos (by omega)]
      · rw [if_neg q, if_neg (by omega)]
theorem Wr.keepI {w0 a : Wd} {b d k : Nat} {v : Int32} (h : Wr w0 b d a) (hk : k ≠ 39) (hk2 : k ≠ 40) (hv : v = w0.1 k) : Wr w0 b d (wI a k v) := by
  obtain ⟨h39, h40, hi, ha, h50⟩ := h
  refine ⟨?_, ?_, fun j hj => ?_, ha, h50⟩
  · rw [rI_i, if_neg (by omega)]; exact h39
  · rw [rI_i, if_neg (by omega)]; exact h40
  · rw [rI_i]
    by_cases e : j = k
    · rw [if_pos e, hv, e]
    · rw [if_neg e]; exact hi j hj
theorem Wr.keepA {w0 a : Wd} {b d k i : Nat} {v : Int32} (h : Wr w0 b d a) (hk : k ≠ 50) (hi2 : i < 2 ^ 31) (hv : v = w0.2.1 k i) : Wr w0 b d (wA a k (nI i) v) := by
  obtain ⟨h39, h40, hi, ha, h50⟩ := h
  refine ⟨h39, h40, hi, fun j hj => ?_, fun j => ?_⟩
  · rw [rA_a]
    by_cases e : j = k
    · rw [if_pos e, cl_nI hi2, ha k hk, hv, e]
      exact upd_same _ _
    · rw [if_neg e]; exact ha j hj
  · rw [rA_a, if_neg (fun e => hk e.symm)]; exact h50 j
theorem passAllW (w : Wd) {b : Nat} (hb : b ≤ 100) (h39 : w.1 39 = nI b) (h40 : w.1 40 = 1) : Ok (F_X6_passAll w) (Wr w b 87) := by
  have h0 : Wr w b 0 w := ⟨h39, h40, fun _ _ => rfl, fun _ _ => rfl, fun j => by rw [if_neg (by omega)]⟩
  unfold F_X6_passAll
  refine Ok.bind (h0.pass (by omega) rfl) ?_
  rintro ⟨r1, w1⟩ ⟨e1, h1⟩
  dsimp only at e1 h1 ⊢
  subst e1
  have h1 := h1.keepI (k := 29) (v := w.1 29) (by decide) (by decide) rfl
  refine Ok.bind (h1.pass (by omega) (by exact h1.2.2.1 30 (by decide))) ?_
  rintro ⟨r2, w2⟩ ⟨e2, h2⟩
  dsimp only at e2 h2 ⊢
  rw [show w1.1 30 = w.1 30 from h1.2.2.1 30 (by decide)] at e2
  subst e2
  have h2 := h2.keepI (k := 30) (v := w.1 30) (by decide) (by decide) rfl
  refine Ok.bind (h2.pass (by omega) (by exact h2.2.2.1 31 (by decide))) ?_
  rintro ⟨r3, w3⟩ ⟨e3, h3⟩
  dsimp only at e3 h3 ⊢
  rw [show w2.1 31 = w.1 31 from h2.2.2.1 31 (by decide)] at e3
  subst e3
  have h3 := h3.keepI (k := 31) (v := w.1 31) (by decide) (by decide) rfl
  refine Ok.bind (h3.pass (by omega) (by exact h3.2.2.1 32 (by decide))) ?_
  rintro ⟨r4, w4⟩ ⟨e4, h4⟩
  dsimp only at e4 h4 ⊢
  rw [show w3.1 32 = w.1 32 from h3.2.2.1 32 (by decide)] at e4
  subst e4
  have h4 := h4.keepI (k := 32) (v := w.1 32) (by decide) (by decide) rfl
  refine Ok.bind (h4.pass (by omega) (by exact h4.2.2.1 33 (by decide))) ?_
  rintro ⟨r5, w5⟩ ⟨e5, h5⟩
  dsimp only at e5 h5 ⊢
  rw [show w4.1 33 = w.1 33 from h4.2.2.1 33 (by decide)] at e5
  subst e5
  have h5 := h5.keepI (k := 33) (v := w.1 33) (by decide) (by decide) rfl
  unfold L_X6_passAll_62
  refine Ok.loop (fun a => ∃ i, i ≤ 64 ∧ a.2 = nI i ∧ Wr w b (5 + i) a.1) (fun a => 65 - a.2.toNatClampNeg) ?_ fu _ ⟨0, Nat.zero_le _, rfl, h5⟩ (fu_big (by show 65 - _ < _; omega))
  rintro ⟨w6, v1⟩ ⟨i, hi, e1, h6⟩ kk hkk
  dsimp only at e1 h6 hkk ⊢
  subst e1
  unfold F_X6_passAll_62
  refine Ok.ite (fun c => ?_) (fun c => ?_)
  · simp (disch := omega) only [Int32.le_iff_toInt_le, Int32.lt_iff_toInt_lt, ← Int32.toInt_inj, nI_toInt, Int32.reduceToInt] at c
    have e : i = 64 := by omega
    subst e
    unfold L_X6_passAll_92
    refine Ok.loop (fun a => ∃ i, i ≤ 6 ∧ a.2 = nI i ∧ Wr w b (69 + 3 * i) a.1) (fun a => 7 - a.2.toNatClampNeg) ?_ fu _ ⟨0, Nat.zero_le _, rfl, h6⟩ (fu_big (by show 7 - _ < _; omega))
    rintro ⟨w7, v1⟩ ⟨i, hi, e1, h7⟩ kk hkk
    dsimp only at e1 h7 hkk ⊢
    subst e1
    unfold F_X6_passAll_92
    refine Ok.ite (fun c => ?_) (fun c => ?_)
    · simp (disch := omega) only [Int32.le_iff_toInt_le, Int32.lt_iff_toInt_lt, ← Int32.toInt_inj, nI_toInt, Int32.reduceToInt] at c
      have e : i = 6 := by omega
      subst e
      exact Ok.ret h7
    · simp (disch := omega) only [Int32.le_iff_toInt_le, Int32.lt_iff_toInt_lt, ← Int32.toInt_inj, nI_toInt, Int32.reduceToInt] at c
      have hi6 : i < 6 := by omega
      refine Ok.gu (gd_nI hi6 (by omega)) ?_
      rw [cl_nI (by omega)]
      have q1 : w7.2.1 38 i = srcV w (69 + 3 * i) := by
        rw [h7.2.2.2.1 38 (by decide)]
        unfold srcV
        rw [if_neg (by omega), if_neg (by omega), if_pos (by omega)]
        exact congrArg (w.2.1 38) (by omega)
      refine Ok.bind (h7.pass (by omega) q1) ?_
      rintro ⟨r8, w8⟩ ⟨e8, h8⟩
      dsimp only at e8 h8 ⊢
      rw [h7.2.2.2.1 38 (by decide)] at e8
      have h8 := h8.keepA (k := 38) (i := i) (v := r8) (by decide) (by omega) e8
      refine Ok.gu (gd_nI hi6 (by omega)) (Ok.gu (gd_nI hi6 (by omega)) ?_)
      have q2 : (w8.2.1 39) i = srcV w (69 + 3 * i + 1) := by
        have := h8.2.2.2.1 39 (by decide)
        rw [show w8.2.1 39 = w.2.1 39 from this]
        unfold srcV
        rw [if_neg (by omega), if_neg (by omega), if_neg (by omega), if_pos (by omega)]
        exact congrArg (w.2.1 39) (by omega)
      refine Ok.bind (h8.pass (by omega) q2) ?_
      rintro ⟨r9, w9⟩ ⟨e9, h9⟩
      dsimp only at e9 h9 ⊢
      rw [show w8.2.1 39 = w.2.1 39 from h8.2.2.2.1 39 (by decide)] at e9
      have h9 := h9.keepA (k := 39) (i := i) (v := r9) (by decide) (by omega) e9
      refine Ok.gu (gd_nI hi6 (by omega)) (Ok.gu (gd_nI hi6 (by omega)) ?_)
      have q3 : (w9.2.1 40) i = srcV w (69 + 3 * i + 1 + 1) := by
        have := h9.2.2.2.1 40 (by decide)
        rw [show w9.2.1 40 = w.2.1 40 from this]
        unfold srcV
        rw [if_neg (by omega), if_neg (by omega), if_neg (by omega), if_neg (by omega)]
        exact congrArg (w.2.1 40) (by omega)
      refine Ok.bind (h9.pass (by omega) q3) ?_
      rintro ⟨rA, wA'⟩ ⟨eA, hA⟩
      dsimp only at eA hA ⊢
      rw [show w9.2.1 40 = w.2.1 40 from h9.2.2.2.1 40 (by decide)] at eA
      have hA := hA.keepA (k := 40) (i := i) (v := rA) (by decide) (by omega) eA
      refine Ok.gu (gd_nI hi6 (by omega)) ?_
      rw [nI_1]
      exact hkk _ ⟨i + 1, by omega, rfl, by rw [show 69 + 3 * (i + 1) = 69 + 3 * i + 1 + 1 + 1 by omega]; exact hA⟩ (by dsimp only; rw [cl_nI (by omega), cl_nI (by omega)]; omega)
  · simp (disch := omega) only [Int32.le_iff_toInt_le, Int32.lt_iff_toInt_lt, ← Int32.toInt_inj, nI_toInt, Int32.reduceToInt] at c
    have hi6 : i < 64 := by omega
    refine Ok.gu (gd_nI hi6 (by omega)) ?_
    rw [cl_nI (by omega)]
    have q1 : w6.2.1 37 i = srcV w (5 + i) := by
      rw [h6.2.2.2.1 37 (by decide)]
      unfold srcV
      rw [if_neg (by omega), if_pos (by omega)]
      exact congrArg (w.2.1 37) (by omega)
    refine Ok.bind (h6.pass (by omega) q1) ?_
    rintro ⟨r8, w8⟩ ⟨e8, h8⟩
    dsimp only at e8 h8 ⊢
    rw [h6.2.2.2.1 37 (by decide)] at e8
    have h8 := h8.keepA (k := 37) (i := i) (v := r8) (by decide) (by omega) e8
    refine Ok.gu (gd_nI hi6 (by omega)) ?_
    rw [nI_1]
    exact hkk _ ⟨i + 1, by omega, rfl, h8⟩ (by dsimp only; rw [cl_nI (by omega), cl_nI (by omega)]; omega)
/-! reading back -/
def Rd (w0 : Wd) (b d : Nat) (a : Wd) : Prop := a.1 39 = nI (b + d) ∧ a.1 40 = 0 ∧ (∀ k, ¬ (29 ≤ k ∧ k ≤ 33) → k ≠ 39 → a.1 k = w0.1 k) ∧ (∀ e, e < 5 → e < d → a.1 (29 + e) = w0.2.1 50 (b + e)) ∧ (∀ k, ¬ (37 ≤ k ∧ k ≤ 40) → a.2.1 k = w0.2.1 k) ∧ (∀ i, i < 64 → 5 + i < d → a.2.1 37 i = w0.2.1 50 (b + (5 + i))) ∧ (∀ i, i < 6 → 69 + 3 * i < d → a.2.1 38 i = w0.2.1 50 (b + (69 + 3 * i))) ∧ (∀ i, i < 6 → 70 + 3 * i < d → a.2.1 39 i = w0.2.1 50 (b + (70 + 3 * i))) ∧ ∀ i, i < 6 → 71 + 3 * i < d → a.2.1 40 i = w0.2.1 50 (b + (71 + 3 * i))
/-- between a pass and what is done with it -/
def Rh (w0 : Wd) (b d : Nat) (a : Wd) : Prop := ∃ a0, Rd w0 b d a0 ∧ a.1 39 = nI (b + (d + 1)) ∧ (∀ k, k ≠ 39 → a.1 k = a0.1 k) ∧ a.2.1 = a0.2.1
theorem Rd.pass {w0 a : Wd} {b d : Nat} {v : Int32} (h : Rd w0 b d a) (hb : b + d < 200) : Ok (F_X6_pass a v) (fun x => x.1 = w0.2.1 50 (b + d) ∧ Rh w0 b d x.2) := by
  have h39 := h.1
  have h40 := h.2.1
  have h50 : a.2.1 50 = w0.2.1 50 := h.2.2.2.2.1 50 (by omega)
  unfold F_X6_pass F_X6_pass_20
  rw [h40, if_pos rfl, h39]
  refine Ok.gu (gd_nI hb (by omega)) (Ok.gu (gd_nI hb (by omega)) (Ok.ret ⟨?_, a, h, ?_, fun k hk => ?_, ?_⟩))
  · rw [cl_nI (by omega), h50]
  · simp only [rI_i, rI_a, rI_l, rA_i, rA_a, rA_l, rR_i, rR_a, rR_l, rL_i, rL_a, rL_l, reduceIte, Nat.reduceEqDiff]
    exact nI_1 _
  · simp only [rI_i, rI_a, rI_l, rA_i, rA_a, rA_l, rR_i, rR_a, rR_l, rL_i, rL_a, rL_l, reduceIte, Nat.reduceEqDiff]
    rw [if_neg hk]
  · show (wA a 50 (nI (b + d)) (a.2.1 50 (nI (b + d)).toNatClampNeg)).2.1 = _
    funext k
    rw [rA_a]
    by_cases e : k = 50
    · rw [if_pos e, e]; exact upd_same _ _
    · rw [if_neg e]
theorem Rh.putI {w0 a : Wd} {b d : Nat} (h : Rh w0 b d a) (hd : d < 5) : Rd w0 b (d + 1) (wI a (29 + d) (w0.2.1 50 (b + d))) := by
  obtain ⟨a0, ⟨h39, h40, hi, he, ha, g1, g2, g3, g4⟩, k39, ki, ka⟩ := h
  refine ⟨?_, ?_, fun k q1 q2 => ?_, fun e e1 e2 => ?_, fun k q => ?_, fun i i1 i2 => ?_, fun i i1 i2 => ?_, fun i i1 i2 => ?_, fun i i1 i2 => ?_⟩
  · rw [rI_i, if_neg (by omega)]; exact k39
  · rw [rI_i, if_neg (by omega), ki 40 (by decide)]; exact h40
  · rw [rI_i, if_neg (by omega), ki k q2]; exact hi k q1 q2
  · rw [rI_i]
    by_cases z : e = d
    · rw [if_pos (by omega), z]
    · rw [if_neg (by omega), ki _ (by omega)]; exact he e e1 (by omega)
  · rw [rI_a, ka]; exact ha k q
  · omega
  · omega
  · omega
  · omega
theorem Rh.putM {w0 a : Wd} {b i : Nat} (h : Rh w0 b (5 + i) a) (hi64 : i < 64) : Rd w0 b (5 + i + 1) (wA a 37 (nI i) (w0.2.1 50 (b + (5 + i)))) := by
  obtain ⟨a0, ⟨h39, h40, hi, he, ha, g1, g2, g3, g4⟩, k39, ki, ka⟩ := h
  refine ⟨k39, ?_, fun k q1 q2 => ?_, fun e e1 e2 => ?_, fun k q => ?_, fun j j1 j2 => ?_, fun j j1 j2 => ?_, fun j j1 j2 => ?_, fun j j1 j2 => ?_⟩
  · rw [rA_i, ki 40 (by decide)]; exact h40
  · rw [rA_i, ki k q2]; exact hi k q1 q2
  · rw [rA_i, ki _ (by omega)]; exact he e e1 (by omega)
  · rw [rA_a, if_neg (by omega), ka]; exact ha k q
  · rw [rA_a, if_pos rfl, cl_nI (by omega), upd_at]
    by_cases z : j = i
    · rw [if_pos z, z]
    · rw [if_neg z, ka]; exact g1 j j1 (by omega)
  · omega
  · omega
  · omega
theorem Rh.put3 {w0 a : Wd} {b i t : Nat} (h : Rh w0 b (69 + 3 * i + t) a) (hi6 : i < 6) (ht : t < 3) : Rd w0 b (69 + 3 * i + t + 1) (wA a (38 + t) (nI i) (w0.2.1 50 (b + (69 + 3 * i + t)))) := by
  obtain ⟨a0, ⟨h39, h40, hi, he, ha, g1, g2, g3, g4⟩, k39, ki, ka⟩ := h
  refine ⟨k39, ?_, fun k q1 q2 => ?_, fun e e1 e2 => ?_, fun k q => ?_, fun j j1 j2 => ?_, fun j j1 j2 => ?_, fun j j1 j2 => ?_, fun j j1 j2 => ?_⟩
  · rw [rA_i, ki 40 (by decide)]; exact h40
  · rw [rA_i, ki k q2]; exact hi k q1 q2
  · rw [rA_i, ki _ (by omega)]; exact he e e1 (by omega)
  · rw [rA_a, if_neg (by omega), ka]; exact ha k q
  · rw [rA_a, if_neg (by omega), ka]; exact g1 j j1 (by omega)
  · rw [rA_a]
    by_cases z : t = 0
    · rw [if_pos (by omega), cl_nI (by omega), upd_at]
      by_cases z2 : j = i
      · rw [if_pos z2, z2, z]; rfl
      · rw [if_neg z2, ka, z]; exact g2 j j1 (by omega)
    · rw [if_neg (by omega), ka]; exact g2 j j1 (by omega)
  · rw [rA_a]
    by_cases z : t = 1
    · rw [if_pos (by omega), cl_nI (by omega), upd_at]
      by_cases z2 : j = i
      · rw [if_pos z2, z2, z]
        exact congrArg (w0.2.1 50) (by omega)
      · rw [if_neg z2, ka, z]; exact g3 j j1 (by omega)
    · rw [if_neg (by omega), ka]; exact g3 j j1 (by omega)
  · rw [rA_a]
    by_cases z : t = 2
    · rw [if_pos (by omega), cl_nI (by omega), upd_at]
      by_cases z2 : j = i
      · rw [if_pos z2, z2, z]
        exact congrArg (w0.2.1 50) (by omega)
      · rw [if_neg z2, ka, z]; exact g4 j j1 (by omega)
    · rw [if_neg (by omega), ka]; exact g4 j j1 (by omega)
theorem passAllR (w : Wd) {b : Nat} (hb : b ≤ 100) (h39 : w.1 39 = nI b) (h40 : w.1 40 = 0) : Ok (F_X6_passAll w) (Rd w b 87) := by
  have h0 : Rd w b 0 w := ⟨h39, h40, fun _ _ _ => rfl, fun _ _ h => absurd h (Nat.not_lt_zero _), fun _ _ => rfl, fun _ _ h => absurd h (Nat.not_lt_zero _), fun _ _ h => absurd h (Nat.not_lt_zero _), fun _ _ h => absurd h (Nat.not_lt_zero _), fun _ _ h => absurd h (Nat.not_lt_zero _)⟩
  unfold F_X6_passAll
  refine Ok.bind (h0.pass (by omega)) ?_
  rintro ⟨r1, w1⟩ ⟨e1, h1⟩
  dsimp only at e1 h1 ⊢
  subst e1
  have h1 := h1.putI (by decide)
  refine Ok.bind (h1.pass (by omega)) ?_
  rintro ⟨r2, w2⟩ ⟨e2, h2⟩
  dsimp only at e2 h2 ⊢
  subst e2
  have h2 := h2.putI (by decide)
  refine Ok.bind (h2.pass (by omega)) ?_
  rintro ⟨r3, w3⟩ ⟨e3, h3⟩
  dsimp only at e3 h3 ⊢
  subst e3
  have h3 := h3.putI (by decide)
  refine Ok.bind (h3.pass (by omega)) ?_
  rintro ⟨r4, w4⟩ ⟨e4, h4⟩
  dsimp only at e4 h4 ⊢
  subst e4
  have h4 := h4.putI (by decide)
  refine Ok.bind (h4.pass (by omega)) ?_
  rintro ⟨r5, w5⟩ ⟨e5, h5⟩
  dsimp only at e5 h5 ⊢
  subst e5
  have h5 := h5.putI (by decide)
  unfold L_X6_passAll_62
  refine Ok.loop (fun a => ∃ i, i ≤ 64 ∧ a.2 = nI i ∧ Rd w b (5 + i) a.1) (fun a => 65 - a.2.toNatClampNeg) ?_ fu _ ⟨0, Nat.zero_le _, rfl, h5⟩ (fu_big (by show 65 - _ < _; omega))
  rintro ⟨w6, v1⟩ ⟨i, hi, e1, h6⟩ kk hkk
  dsimp only at e1 h6 hkk ⊢
  subst e1
  unfold F_X6_passAll_62
  refine Ok.ite (fun c => ?_) (fun c => ?_)
  · simp (disch := omega) only [Int32.le_iff_toInt_le, Int32.lt_iff_toInt_lt, ← Int32.toInt_inj, nI_toInt, Int32.reduceToInt] at c
    have e : i = 64 := by omega
    subst e
    unfold L_X6_passAll_92
    refine Ok.loop (fun a => ∃ i, i ≤ 6 ∧ a.2 = nI i ∧ Rd w b (69 + 3 * i) a.1) (fun a => 7 - a.2.toNatClampNeg) ?_ fu _ ⟨0, Nat.zero_le _, rfl, h6⟩ (fu_big (by show 7 - _ < _; omega))
    rintro ⟨w7, v1⟩ ⟨i, hi, e1, h7⟩ kk hkk
    dsimp only at e1 h7 hkk ⊢
    subst e1
    unfold F_X6_passAll_92
    refine Ok.ite (fun c => ?_) (fun c => ?_)
    · simp (disch := omega) only [Int32.le_iff_toInt_le, Int32.lt_iff_toInt_lt, ← Int32.toInt_inj, nI_toInt, Int32.reduceToInt] at c
      have e : i = 6 := by omega
      subst e
      exact Ok.ret h7
    · simp (disch := omega) only [Int32.le_iff_toInt_le, Int32.lt_iff_toInt_lt, ← Int32.toInt_inj, nI_toInt, Int32.reduceToInt] at c
      have hi6 : i < 6 := by omega
      refine Ok.gu (gd_nI hi6 (by omega)) ?_
      refine Ok.bind (h7.pass (by omega)) ?_
      rintro ⟨r8, w8⟩ ⟨e8, h8⟩
      dsimp only at e8 h8 ⊢
      subst e8
      have h8 := Rh.put3 (t := 0) h8 hi6 (by decide)
      refine Ok.gu (gd_nI hi6 (by omega)) (Ok.gu (gd_nI hi6 (by omega)) ?_)
      refine Ok.bind (h8.pass (by omega)) ?_
      rintro ⟨r9, w9⟩ ⟨e9, h9⟩
      dsimp only at e9 h9 ⊢
      subst e9
      have h9 := Rh.put3 (t := 1) h9 hi6 (by decide)
      refine Ok.gu (gd_nI hi6 (by omega)) (Ok.gu (gd_nI hi6 (by omega)) ?_)
      refine Ok.bind (h9.pass (by omega)) ?_
      rintro ⟨rA, wA'⟩ ⟨eA, hA⟩
      dsimp only at eA hA ⊢
      subst eA
      have hA := Rh.put3 (t := 2) hA hi6 (by decide)
      refine Ok.gu (gd_nI hi6 (by omega)) ?_
      rw [nI_1]
      exact hkk _ ⟨i + 1, by omega, rfl, by rw [show 69 + 3 * (i + 1) = 69 + 3 * i + 2 + 1 by omega]; exact hA⟩ (by dsimp only; rw [cl_nI (by omega), cl_nI (by omega)]; omega)
  · simp (disch := omega) only [Int32.le_iff_toInt_le, Int32.lt_iff_toInt_lt, ← Int32.toInt_inj, nI_toInt, Int32.reduceToInt] at c
    have hi6 : i < 64 := by omega
    refine Ok.gu (gd_nI hi6 (by omega)) ?_
    refine Ok.bind (h6.pass (by omega)) ?_
    rintro ⟨r8, w8⟩ ⟨e8, h8⟩
    dsimp only at e8 h8 ⊢
    subst e8
    have h8 := h8.putM hi6
    refine Ok.gu (gd_nI hi6 (by omega)) ?_
    rw [nI_1]
    exact hkk _ ⟨i + 1, by omega, rfl, h8⟩ (by dsimp only; rw [cl_nI (by omega), cl_nI (by omega)]; omega)
