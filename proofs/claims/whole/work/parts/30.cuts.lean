/-! cuts -/
def cntA (l k : Nat) (m : Nat → Nat) : Nat → Nat
  | 0 => 0
  | i + 1 => cntA l k m i + if holdB l k (m i) 0 = true then 1 else 0
theorem cntA_le (l k : Nat) (m : Nat → Nat) (i : Nat) : cntA l k m i ≤ i := by
  induction i with
  | zero => exact Nat.zero_le _
  | succ i ih => simp only [cntA]; split <;> omega
theorem hold01 {l k a h : Nat} (hl : l ≤ 1) : holdP l k a h ↔ holdP l k a 0 := by
  unfold holdP
  omega
theorem inLawC (w : Wd) {g : Nat → Nat} {n l k : Nat} (hn : lnA g n ≤ 40) (hL : LinesC w g n) (hl : l ≤ 2) (hk : k ≤ 8) (e8 : w.1 8 = nI l) (e9 : w.1 9 = nI k) : F_X5_linesInLaw w = some (nI (cntA l k (fun i => pc (onL g n i)) (lnA g n)), w) := by
  apply Ok.eq
  unfold F_X5_linesInLaw L_X5_linesInLaw_4
  refine Ok.loop (fun a => ∃ i, i ≤ lnA g n ∧ a.1 = w ∧ a.2.2 = nI i ∧ a.2.1 = nI (cntA l k (fun i => pc (onL g n i)) i)) (fun a => 41 - a.2.2.toNatClampNeg) ?_ fu _ ⟨0, Nat.zero_le _, rfl, rfl, rfl⟩ (fu_big (by show 41 - _ < _; omega))
  rintro ⟨w1, v1, v2⟩ ⟨i, hi, e1, e2, e3⟩ kk hkk
  dsimp only at e1 e2 e3 hkk ⊢
  subst e1 e2 e3
  unfold F_X5_linesInLaw_4
  rw [hL.1]
  refine Ok.ite (fun c => ?_) (fun c => ?_)
  · simp (disch := omega) only [Int32.le_iff_toInt_le, Int32.lt_iff_toInt_lt, ← Int32.toInt_inj, nI_toInt, Int32.reduceToInt] at c
    have e : i = lnA g n := by omega
    subst e
    exact Ok.ret rfl
  · simp (disch := omega) only [Int32.le_iff_toInt_le, Int32.lt_iff_toInt_lt, ← Int32.toInt_inj, nI_toInt, Int32.reduceToInt] at c
    have hin : i < lnA g n := by omega
    refine Ok.gu (gd_nI (by omega) (by omega)) ?_
    rw [cl_nI (by omega), hL.2.2.1 i hin]
    obtain ⟨r, hr, hcase⟩ := X3_holds w1 (h := 0) hl hk (pc_le (onL g n i)) (by omega) e8 e9
    rw [show F_X3_holds w1 (nI (pc (onL g n i))) 0 = some (r, w1) from hr, Option.bind_some, nI_1 i]
    refine hkk _ ⟨i + 1, by omega, rfl, rfl, ?_⟩ (by dsimp only; rw [cl_nI (by omega), cl_nI (by omega)]; omega)
    dsimp only
    simp only [cntA]
    rcases hcase with ⟨e, hP⟩ | ⟨e, hP⟩
    · rw [e, if_neg one0, if_pos (holdB_iff.mpr hP), nI_1]
    · rw [e, if_pos rfl, if_neg (fun q => hP (holdB_iff.mp q))]
      rfl
theorem cutsM01 (w : Wd) {g : Nat → Nat} {n l k : Nat} (hall0 : allOk g n) (hn : lnA g n ≤ 40) (hL : LinesM w g n) (hl : l ≤ 1) (hk : k ≤ 8) (e8 : w.1 29 = nI l) (e9 : w.1 30 = nI k) : L_X6_cuts_35 fu (w, 0, 0) = some (nI (lnA g n) - nI (cntA l k (fun i => pc (onL g n i)) (lnA g n)), w) := by
  apply Ok.eq
  unfold L_X6_cuts_35
  refine Ok.loop (fun a => ∃ i, i ≤ lnA g n ∧ a.1 = w ∧ a.2.2 = nI i ∧ a.2.1 = nI (i - cntA l k (fun i => pc (onL g n i)) i)) (fun a => 41 - a.2.2.toNatClampNeg) ?_ fu _ ⟨0, Nat.zero_le _, rfl, rfl, rfl⟩ (fu_big (by show 41 - _ < _; omega))
  rintro ⟨w1, v1, v2⟩ ⟨i, hi, e1, e2, e3⟩ kk hkk
  dsimp only at e1 e2 e3 hkk ⊢
  subst e1 e2 e3
  unfold F_X6_cuts_35
  rw [hL.1]
  have hcl := cntA_le l k (fun i => pc (onL g n i)) i
  refine Ok.ite (fun c => ?_) (fun c => ?_)
  · simp (disch := omega) only [Int32.le_iff_toInt_le, Int32.lt_iff_toInt_lt, ← Int32.toInt_inj, nI_toInt, Int32.reduceToInt] at c
    have e : i = lnA g n := by omega
    subst e
    exact Ok.ret (by rw [pk_sub hcl])
  · simp (disch := omega) only [Int32.le_iff_toInt_le, Int32.lt_iff_toInt_lt, ← Int32.toInt_inj, nI_toInt, Int32.reduceToInt] at c
    have hin : i < lnA g n := by omega
    refine Ok.gu (gd_nI (by omega) (by omega)) ?_
    rw [cl_nI (by omega), hL.2.2 i hin, X6_ones _ (onL_lt hall0 i hin), Option.bind_some]
    obtain ⟨r, hr, hcase⟩ := X6_holds6 w1 (l := l) (by omega) hk (pc_le (onL g n i)) e8 e9
    dsimp only
    rw [hr, Option.bind_some]
    refine Ok.let (fun y ey => ?_)
    rw [nI_1]
    refine hkk _ ⟨i + 1, by omega, rfl, rfl, ?_⟩ (by dsimp only; rw [cl_nI (by omega), cl_nI (by omega)]; omega)
    dsimp only
    rw [ey]
    simp only [cntA]
    rcases hcase with ⟨e, hP⟩ | ⟨e, hP⟩
    · rw [e, if_neg one0, if_pos (holdB_iff.mpr ((hold01 hl).mp hP))]
      rw [show i + 1 - (cntA l k (fun i => pc (onL g n i)) i + 1) = i - cntA l k (fun i => pc (onL g n i)) i by omega]
      exact Int32.add_zero _
    · rw [e, if_pos rfl, if_neg (fun q => hP ((hold01 hl).mpr (holdB_iff.mp q))), nI_1]
      congr 1
      omega
/-! the longest that does not fall -/
def bst (T m : Nat → Nat) (v : Nat) : Nat → Nat
  | 0 => 0
  | j + 1 => max (bst T m v j) (if m j ≤ v then T j else 0)
def lisT (k : Nat) (m : Nat → Nat) : Nat → Nat → Nat
  | 0 => fun _ => 0
  | i + 1 => fun j => if j = i then (if m i < k then 0 else 1 + bst (lisT k m i) m (m i) i) else lisT k m i j
def lisM (k : Nat) (m : Nat → Nat) : Nat → Nat
  | 0 => 0
  | i + 1 => max (lisM k m i) (lisT k m (i + 1) i)
def mx (f : Nat → Nat) : Nat → Nat
  | 0 => f 0
  | v + 1 => max (mx f v) (f (v + 1))
def styA (k : Nat) (m : Nat → Nat) : Nat → Nat → Nat
  | 0 => fun _ => 0
  | i + 1 => if m i < k then styA k m i else fun v => if v = m i then mx (styA k m i) (m i) + 1 else styA k m i v
theorem mx_ge (f : Nat → Nat) {a v : Nat} (h : a ≤ v) : f a ≤ mx f v := by
  induction v with
  | zero => rw [show a = 0 by omega]; exact Nat.le_refl _
  | succ v ih =>
    simp only [mx]
    by_cases e : a = v + 1
    · rw [e]; omega
    · have := ih (by omega)
      omega
theorem mx_put (f : Nat → Nat) {a x : Nat} (h : f a ≤ x) : ∀ v, mx (fun j => if j = a then x else f j) v = if a ≤ v then max (mx f v) x else mx f v := by
  intro v
  induction v with
  | zero =>
    simp only [mx]
    by_cases e : 0 = a
    · subst e
      rw [if_pos rfl, if_pos (Nat.le_refl _)]
      omega
    · rw [if_neg e, if_neg (by omega)]
  | succ v ih =>
    simp only [mx]
    rw [ih]
    by_cases e : v + 1 = a
    · subst e
      rw [if_pos rfl, if_neg (by omega), if_pos (Nat.le_refl _)]
      omega
    · rw [if_neg e]
      by_cases e2 : a ≤ v
      · rw [if_pos e2, if_pos (by omega)]; omega
      · rw [if_neg e2, if_neg (by omega)]
theorem bst_ext {T T' m : Nat → Nat} {v n : Nat} (h : ∀ j, j < n → T j = T' j) : bst T m v n = bst T' m v n := by
  induction n with
  | zero => rfl
  | succ n ih => simp only [bst]; rw [ih (fun j hj => h j (by omega)), h n (by omega)]
theorem lisT_at (k : Nat) (m : Nat → Nat) (i : Nat) : lisT k m (i + 1) i = if m i < k then 0 else 1 + bst (lisT k m i) m (m i) i := by
  show (if i = i then _ else _) = _
  rw [if_pos rfl]
theorem lisT_lt {k : Nat} {m : Nat → Nat} {i j : Nat} (h : j < i) : lisT k m i j = lisT k m (j + 1) j := by
  induction i with
  | zero => omega
  | succ i ih =>
    by_cases e : j = i
    · rw [e]
    · rw [← ih (by omega)]
      simp only [lisT]
      rw [if_neg e]
theorem sty_bst (k : Nat) (m : Nat → Nat) : ∀ i v, mx (styA k m i) v = bst (lisT k m i) m v i := by
  intro i
  induction i with
  | zero =>
    intro v
    have : ∀ v, mx (fun _ => 0) v = 0 := by
      intro v
      induction v with
      | zero => rfl
      | succ v ih => simp only [mx]; rw [ih]; rfl
    exact this v
  | succ i ih =>
    intro v
    have e1 : bst (lisT k m (i + 1)) m v i = bst (lisT k m i) m v i := bst_ext (fun j hj => by simp only [lisT]; rw [if_neg (by omega)])
    simp only [bst]
    rw [e1, ← ih v]
    have e2 : lisT k m (i + 1) i = if m i < k then 0 else 1 + mx (styA k m i) (m i) := by
      rw [lisT_at, ← ih (m i)]
    rw [e2]
    simp only [styA]
    by_cases q : m i < k
    · rw [if_pos q, if_pos q]
      split <;> omega
    · rw [if_neg q, if_neg q, mx_put _ (by have := mx_ge (styA k m i) (Nat.le_refl (m i)); omega)]
      by_cases q2 : m i ≤ v
      · rw [if_pos q2, if_pos q2]; omega
      · rw [if_neg q2, if_neg q2]; omega
theorem bst_le (T m : Nat → Nat) (v b : Nat) : ∀ n, (∀ j, j < n → T j ≤ b) → bst T m v n ≤ b := by
  intro n
  induction n with
  | zero => intro _; exact Nat.zero_le _
  | succ n ih =>
    intro h
    have h1 := ih (fun j hj => h j (by omega))
    have h2 := h n (by omega)
    simp only [bst]
    split <;> omega
theorem lisT_le (k : Nat) (m : Nat → Nat) : ∀ i j, j < i → lisT k m i j ≤ j + 1 := by
  intro i
  induction i with
  | zero => intro j hj; omega
  | succ i ih =>
    intro j hj
    simp only [lisT]
    by_cases e : j = i
    · rw [if_pos e]
      have := bst_le (lisT k m i) m (m i) i i (fun j hj => by have := ih j hj; omega)
      split <;> omega
    · rw [if_neg e]
      exact ih j (by omega)
theorem lisM_le (k : Nat) (m : Nat → Nat) (i : Nat) : lisM k m i ≤ i := by
  induction i with
  | zero => exact Nat.zero_le _
  | succ i ih =>
    have := lisT_le k m (i + 1) i (by omega)
    simp only [lisM]
    omega
theorem fillS (w : Wd) : Ok (F_J7_fill_stage_staying w 0) (fun w' => Fr [] [3] w w' ∧ ∀ j, j < 9 → w'.2.1 3 j = 0) := by
  unfold F_J7_fill_stage_staying L_J7_fill_stage_staying_5
  refine Ok.loop (fun a => ∃ i, i ≤ 9 ∧ Fr [] [3] w a.1 ∧ a.2.1 = 0 ∧ a.2.2.1 = nI i ∧ a.2.2.2 = 9 ∧ ∀ j, j < i → a.1.2.1 3 j = 0) (fun a => 10 - a.2.2.1.toNatClampNeg) ?_ fu _ ⟨0, Nat.zero_le _, Fr.rf _ _ _, rfl, rfl, rfl, fun j hj => absurd hj (Nat.not_lt_zero _)⟩ (fu_big (by show 10 - _ < _; omega))
  rintro ⟨w1, v1, v2, v3⟩ ⟨i, hi, hs, e1, e2, e3, hz⟩ kk hkk
  dsimp only at hs e1 e2 e3 hz hkk ⊢
  subst e1 e2 e3
  unfold F_J7_fill_stage_staying_5
  refine Ok.ite (fun c => ?_) (fun c => ?_)
  · simp (disch := omega) only [Int32.le_iff_toInt_le, Int32.lt_iff_toInt_lt, ← Int32.toInt_inj, nI_toInt, Int32.reduceToInt] at c
    have e : i = 9 := by omega
    subst e
    exact Ok.ret ⟨hs, hz⟩
  · simp (disch := omega) only [Int32.le_iff_toInt_le, Int32.lt_iff_toInt_lt, ← Int32.toInt_inj, nI_toInt, Int32.reduceToInt] at c
    refine Ok.gu (gd_nI (by omega) (by omega)) ?_
    rw [nI_1]
    refine hkk _ ⟨i + 1, by omega, hs.wA (by decide), rfl, rfl, rfl, fun j hj => ?_⟩ (by dsimp only; rw [cl_nI (by omega), cl_nI (by omega)]; omega)
    simp only [rI_i, rI_a, rI_l, rA_i, rA_a, rA_l, rR_i, rR_a, rR_l, rL_i, rL_a, rL_l, reduceIte, Nat.reduceEqDiff]
    rw [cl_nI (by omega), upd_at]
    by_cases e : j = i
    · rw [if_pos e]
    · rw [if_neg e]; exact hz j (by omega)
theorem risingC (w : Wd) {g : Nat → Nat} {n k : Nat} (hn : lnA g n ≤ 40) (hL : LinesC w g n) (hk : k ≤ 8) (e9 : w.1 9 = nI k) : Ok (F_X5_longestRising w) (fun x => Fr [] [3] w x.2 ∧ x.1 = nI (lisM k (fun i => pc (onL g n i)) (lnA g n))) := by
  obtain ⟨m, em⟩ : ∃ m, m = fun i => pc (onL g n i) := ⟨_, rfl⟩
  have hm8 : ∀ i, m i ≤ 8 := fun i => by rw [em]; exact pc_le _
  rw [← em]
  have h6 : ∀ i, i < lnA g n → w.2.1 6 i = nI (m i) := fun i hi => by rw [em]; exact hL.2.2.1 i hi
  unfold F_X5_longestRising
  refine Ok.bind (fillS w) ?_
  rintro w0 ⟨hs0, hz0⟩
  unfold L_X5_longestRising_12
  refine Ok.loop (fun a => ∃ i, i ≤ lnA g n ∧ Fr [] [3] w a.1 ∧ a.2.2 = nI i ∧ a.2.1 = nI (lisM k m i) ∧ ∀ v, v < 9 → a.1.2.1 3 v = nI (styA k m i v)) (fun a => 41 - a.2.2.toNatClampNeg) ?_ fu _ ⟨0, Nat.zero_le _, hs0, rfl, rfl, hz0⟩ (fu_big (by show 41 - _ < _; omega))
  rintro ⟨w1, v1, v2⟩ ⟨i, hi, hs, e1, e2, hst⟩ kk hkk
  dsimp only at hs e1 e2 hst hkk ⊢
  subst e1 e2
  have e4 : w1.1 4 = nI (lnA g n) := by rw [hs.1 4 (by decide)]; exact hL.1
  have f9 : w1.1 9 = nI k := by rw [hs.1 9 (by decide)]; exact e9
  unfold F_X5_longestRising_12
  rw [e4]
  refine Ok.ite (fun c => ?_) (fun c => ?_)
  · simp (disch := omega) only [Int32.le_iff_toInt_le, Int32.lt_iff_toInt_lt, ← Int32.toInt_inj, nI_toInt, Int32.reduceToInt] at c
    have e : i = lnA g n := by omega
    subst e
    exact Ok.ret ⟨hs, rfl⟩
  · simp (disch := omega) only [Int32.le_iff_toInt_le, Int32.lt_iff_toInt_lt, ← Int32.toInt_inj, nI_toInt, Int32.reduceToInt] at c
    have hin : i < lnA g n := by omega
    have hm := hm8 i
    have hle := lisM_le k m i
    have hTl := lisT_le k m (i + 1) i (by omega)
    have eT : lisT k m (i + 1) i = if m i < k then 0 else 1 + mx (styA k m i) (m i) := by
      rw [lisT_at, ← sty_bst k m i (m i)]
    refine Ok.gu (gd_nI (by omega) (by omega)) ?_
    rw [cl_nI (by omega), hs.2 6 (by decide), h6 i hin, f9]
    unfold F_X5_longestRising_104
    refine Ok.ite (fun q => ?_) (fun q => ?_)
    · simp (disch := omega) only [Int32.le_iff_toInt_le, Int32.lt_iff_toInt_lt, ← Int32.toInt_inj, nI_toInt, Int32.reduceToInt] at q
      rw [if_pos (by omega)] at eT
      rw [nI_1]
      refine hkk _ ⟨i + 1, by omega, hs, rfl, ?_, ?_⟩ (by dsimp only; rw [cl_nI (by omega), cl_nI (by omega)]; omega)
      · simp only [lisM]
        rw [eT]
        congr 1
        omega
      · simp only [styA]
        rw [if_pos (by omega)]
        exact hst
    · simp (disch := omega) only [Int32.le_iff_toInt_le, Int32.lt_iff_toInt_lt, ← Int32.toInt_inj, nI_toInt, Int32.reduceToInt] at q
      rw [if_neg (by omega)] at eT
      rw [if_pos (by simp (disch := omega) only [Int32.le_iff_toInt_le, Int32.lt_iff_toInt_lt, ← Int32.toInt_inj, nI_toInt, Int32.reduceToInt]; omega)]
      -- the inner loop
      have hbd : ∀ v, v ≤ m i → mx (styA k m i) v ≤ 40 := by
        intro v hv
        rw [sty_bst k m i v]
        exact Nat.le_trans (bst_le _ _ _ i i (fun j hj => by have := lisT_le k m i j hj; omega)) (by omega)
      have inner : Ok (L_X5_longestRising_59 kk fu (w1, nI (lisM k m i), nI i, nI (m i), 0, 0)) (fun x => Fr [] [3] w x.2 ∧ x.1 = nI (lisM k m (lnA g n))) := by
        unfold L_X5_longestRising_59
        refine Ok.loop (fun a => ∃ f, f ≤ m i + 1 ∧ a.1 = w1 ∧ a.2.1 = nI (lisM k m i) ∧ a.2.2.1 = nI i ∧ a.2.2.2.1 = nI (m i) ∧ a.2.2.2.2.1 = nI (if f = 0 then 0 else mx (styA k m i) (f - 1)) ∧ a.2.2.2.2.2 = nI f) (fun a => 20 - a.2.2.2.2.2.toNatClampNeg) ?_ fu _ ⟨0, Nat.zero_le _, rfl, rfl, rfl, rfl, rfl, rfl⟩ (fu_big (by show 20 - _ < _; omega))
        rintro ⟨w2, u1, u2, u3, u4, u5⟩ ⟨f, hf, d1, d2, d3, d4, d5, d6⟩ k2 hk2
        dsimp only at d1 d2 d3 d4 d5 d6 hk2 ⊢
        subst d1 d2 d3 d4 d5 d6
        unfold F_X5_longestRising_59 F_X5_longestRising_104
        refine Ok.ite (fun c2 => ?_) (fun c2 => ?_)
        · simp (disch := omega) only [Int32.le_iff_toInt_le, Int32.lt_iff_toInt_lt, ← Int32.toInt_inj, nI_toInt, Int32.reduceToInt] at c2
          have ef : f = m i + 1 := by omega
          subst ef
          rw [if_neg (by omega), show m i + 1 - 1 = m i by omega]
          have hb2 := hbd (m i) (Nat.le_refl _)
          refine Ok.gu (gd_nI (by omega) (by omega)) ?_
          rw [nI_1 i, nI_1]
          refine hkk _ ⟨i + 1, by omega, hs.wA (by decide), rfl, ?_, ?_⟩ (by dsimp only; rw [cl_nI (by omega), cl_nI (by omega)]; omega)
          · dsimp only
            simp only [lisM]
            rw [eT]
            by_cases z : lisM k m i < mx (styA k m i) (m i) + 1
            · rw [if_pos (by simp (disch := omega) only [Int32.le_iff_toInt_le, Int32.lt_iff_toInt_lt, ← Int32.toInt_inj, nI_toInt, Int32.reduceToInt]; omega)]; congr 1; omega
            · rw [if_neg (by simp (disch := omega) only [Int32.le_iff_toInt_le, Int32.lt_iff_toInt_lt, ← Int32.toInt_inj, nI_toInt, Int32.reduceToInt]; omega)]; congr 1; omega
          · intro v hv
            simp only [rI_i, rI_a, rI_l, rA_i, rA_a, rA_l, rR_i, rR_a, rR_l, rL_i, rL_a, rL_l, reduceIte, Nat.reduceEqDiff]
            rw [cl_nI (by omega), upd_at]
            simp only [styA]
            rw [if_neg (show ¬ m i < k by omega)]
            by_cases z : v = m i
            · rw [if_pos z, if_pos z]
            · rw [if_neg z, if_neg z]; exact hst v hv
        · simp (disch := omega) only [Int32.le_iff_toInt_le, Int32.lt_iff_toInt_lt, ← Int32.toInt_inj, nI_toInt, Int32.reduceToInt] at c2
          refine Ok.gu (gd_nI (by omega) (by omega)) ?_
          rw [cl_nI (by omega), hst f (by omega)]
          refine Ok.let (fun y ey => ?_)
          rw [nI_1]
          refine hk2 _ ⟨f + 1, by omega, rfl, rfl, rfl, rfl, ?_, rfl⟩ (by dsimp only; rw [cl_nI (by omega), cl_nI (by omega)]; omega)
          dsimp only
          rw [if_neg (show ¬ f + 1 = 0 by omega), show f + 1 - 1 = f by omega, ey]
          have hb3 := mx_ge (styA k m i) (Nat.le_refl f)
          have hb4 := hbd f (by omega)
          rcases Nat.eq_zero_or_pos f with z | z
          · subst z
            rw [if_pos rfl]
            simp only [mx]
            by_cases z2 : 0 < styA k m i 0
            · rw [if_pos (by simp (disch := omega) only [Int32.le_iff_toInt_le, Int32.lt_iff_toInt_lt, ← Int32.toInt_inj, nI_toInt, Int32.reduceToInt]; omega)]
            · rw [if_neg (by simp (disch := omega) only [Int32.le_iff_toInt_le, Int32.lt_iff_toInt_lt, ← Int32.toInt_inj, nI_toInt, Int32.reduceToInt]; omega)]; congr 1; omega
          · obtain ⟨f', rfl⟩ : ∃ f', f = f' + 1 := ⟨f - 1, by omega⟩
            rw [if_neg (show ¬ f' + 1 = 0 by omega), show f' + 1 - 1 = f' by omega]
            have hb5 := hbd f' (by omega)
            simp only [mx] at hb3 hb4 ⊢
            by_cases z2 : mx (styA k m i) f' < styA k m i (f' + 1)
            · rw [if_pos (by simp (disch := omega) only [Int32.le_iff_toInt_le, Int32.lt_iff_toInt_lt, ← Int32.toInt_inj, nI_toInt, Int32.reduceToInt]; omega)]; congr 1; omega
            · rw [if_neg (by simp (disch := omega) only [Int32.le_iff_toInt_le, Int32.lt_iff_toInt_lt, ← Int32.toInt_inj, nI_toInt, Int32.reduceToInt]; omega)]; congr 1; omega
      exact inner
