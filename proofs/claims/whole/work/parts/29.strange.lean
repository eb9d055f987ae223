/-! strangers -/
def shA (k : Nat) (m : Nat → Nat) (i : Nat) : Nat := k - m i
def shB (k : Nat) (m : Nat → Nat) (i : Nat) : Nat := if i = 0 then 0 else shA k m (i - 1)
def shC (k : Nat) (m : Nat → Nat) : Nat → Nat
  | 0 => 0
  | i + 1 => shC k m i + (shA k m i - shB k m i)
def shT (k : Nat) (m : Nat → Nat) : Nat → Nat
  | 0 => 0
  | i + 1 => if shT k m i < shA k m i then shA k m i else shT k m i
theorem shC_le {k : Nat} (m : Nat → Nat) (hk : k ≤ 8) (i : Nat) : shC k m i ≤ 8 * i := by
  induction i with
  | zero => exact Nat.zero_le _
  | succ i ih => simp only [shC, shA]; omega
theorem shT_le {k : Nat} (m : Nat → Nat) (hk : k ≤ 8) (i : Nat) : shT k m i ≤ 8 := by
  induction i with
  | zero => exact Nat.zero_le _
  | succ i ih =>
    have h1 : shA k m i ≤ 8 := by unfold shA; omega
    simp only [shT]
    split <;> omega
theorem sAt (w : Wd) {g : Nat → Nat} {n k i : Nat} (hn : lnA g n ≤ 40) (hL : LinesC w g n) (e9 : w.1 9 = nI k) (hi : i < lnA g n) : F_X5_strangersAt w (nI i) = some (nI k - nI (pc (onL g n i)), w) := by
  unfold F_X5_strangersAt
  rw [e9, gd_nI (by omega) (by omega), cl_nI (by omega), hL.2.2.1 i hi]
  rfl
theorem sub_ge {k a : Nat} (hk : k ≤ 8) (ha : a ≤ 8) : (0 ≤ nI k - nI a ↔ a ≤ k) := by
  rw [Int32.le_iff_toInt_le, pk_sub_toInt (by omega) (by omega), show (0 : Int32).toInt = 0 from rfl]
  omega
theorem barC (w : Wd) {g : Nat → Nat} {n k : Nat} {r : Int32} (hn : lnA g n ≤ 40) (hL : LinesC w g n) (hk : k ≤ 8) (e9 : w.1 9 = nI k) (hr : FirstL (fun i => pc (onL g n i) ≤ k) (lnA g n) r) : F_X5_bar w = some (r, w) := by
  apply Ok.eq
  unfold F_X5_bar L_X5_bar_2
  refine Ok.loop (fun a => ∃ i, i ≤ lnA g n ∧ a.1 = w ∧ a.2 = nI i ∧ ∀ j, j < i → pc (onL g n j) ≤ k) (fun a => 41 - a.2.toNatClampNeg) ?_ fu _ ⟨0, Nat.zero_le _, rfl, rfl, fun j hj => absurd hj (Nat.not_lt_zero _)⟩ (fu_big (by show 41 - _ < _; omega))
  rintro ⟨w1, v1⟩ ⟨i, hi, e1, e2, hall⟩ kk hkk
  dsimp only at e1 e2 hkk ⊢
  subst e1 e2
  unfold F_X5_bar_2
  rw [hL.1]
  refine Ok.ite (fun c => ?_) (fun c => ?_)
  · simp (disch := omega) only [Int32.le_iff_toInt_le, Int32.lt_iff_toInt_lt, ← Int32.toInt_inj, nI_toInt, Int32.reduceToInt] at c
    have e : i = lnA g n := by omega
    subst e
    exact Ok.ret (by rw [hr.no hall])
  · simp (disch := omega) only [Int32.le_iff_toInt_le, Int32.lt_iff_toInt_lt, ← Int32.toInt_inj, nI_toInt, Int32.reduceToInt] at c
    have hin : i < lnA g n := by omega
    rw [sAt w1 hn hL e9 hin, Option.bind_some]
    refine Ok.ite (fun q => ?_) (fun q => ?_)
    · rw [nI_1]
      exact hkk _ ⟨i + 1, by omega, rfl, rfl, more (P := fun j => pc (onL g n j) ≤ k) hall ((sub_ge hk (pc_le _)).mp q)⟩ (by dsimp only; rw [cl_nI (by omega), cl_nI (by omega)]; omega)
    · exact Ok.ret (by rw [hr.at hin (fun z => q ((sub_ge hk (pc_le _)).mpr z)) hall])
theorem barM (w : Wd) {g : Nat → Nat} {n k : Nat} {r : Int32} (hall0 : allOk g n) (hn : lnA g n ≤ 40) (hL : LinesM w g n) (hk : k ≤ 8) (e9 : w.1 30 = nI k) (hr : FirstL (fun i => pc (onL g n i) ≤ k) (lnA g n) r) : F_X6_bar w = some (r, w) := by
  apply Ok.eq
  unfold F_X6_bar L_X6_bar_2
  refine Ok.loop (fun a => ∃ i, i ≤ lnA g n ∧ a.1 = w ∧ a.2 = nI i ∧ ∀ j, j < i → pc (onL g n j) ≤ k) (fun a => 41 - a.2.toNatClampNeg) ?_ fu _ ⟨0, Nat.zero_le _, rfl, rfl, fun j hj => absurd hj (Nat.not_lt_zero _)⟩ (fu_big (by show 41 - _ < _; omega))
  rintro ⟨w1, v1⟩ ⟨i, hi, e1, e2, hall⟩ kk hkk
  dsimp only at e1 e2 hkk ⊢
  subst e1 e2
  unfold F_X6_bar_2
  rw [hL.1]
  refine Ok.ite (fun c => ?_) (fun c => ?_)
  · simp (disch := omega) only [Int32.le_iff_toInt_le, Int32.lt_iff_toInt_lt, ← Int32.toInt_inj, nI_toInt, Int32.reduceToInt] at c
    have e : i = lnA g n := by omega
    subst e
    exact Ok.ret (by rw [hr.no hall])
  · simp (disch := omega) only [Int32.le_iff_toInt_le, Int32.lt_iff_toInt_lt, ← Int32.toInt_inj, nI_toInt, Int32.reduceToInt] at c
    have hin : i < lnA g n := by omega
    have hp := pc_le (onL g n i)
    rw [gd_nI (show i < 40 by omega) (by omega), cl_nI (by omega), hL.2.2 i hin, X6_ones _ (onL_lt hall0 i hin)]
    show Ok (if nI (pc (onL g n i)) ≤ w1.1 30 then kk (w1, nI i + 1) else some (nI i, w1)) _
    rw [e9]
    refine Ok.ite (fun q => ?_) (fun q => ?_)
    · simp (disch := omega) only [Int32.le_iff_toInt_le, Int32.lt_iff_toInt_lt, ← Int32.toInt_inj, nI_toInt, Int32.reduceToInt] at q
      rw [nI_1]
      exact hkk _ ⟨i + 1, by omega, rfl, rfl, more (P := fun j => pc (onL g n j) ≤ k) hall (by omega)⟩ (by dsimp only; rw [cl_nI (by omega), cl_nI (by omega)]; omega)
    · simp (disch := omega) only [Int32.le_iff_toInt_le, Int32.lt_iff_toInt_lt, ← Int32.toInt_inj, nI_toInt, Int32.reduceToInt] at q
      exact Ok.ret (by rw [hr.at hin (fun z => by omega) hall])
theorem comingsC (w : Wd) {g : Nat → Nat} {n k : Nat} (hn : lnA g n ≤ 40) (hL : LinesC w g n) (hk : k ≤ 8) (e9 : w.1 9 = nI k) (hb : ∀ i, i < lnA g n → pc (onL g n i) ≤ k) : F_X5_strangersComings w = some (nI (shC k (fun i => pc (onL g n i)) (lnA g n)), w) := by
  apply Ok.eq
  unfold F_X5_strangersComings L_X5_strangersComings_6
  refine Ok.loop (fun a => ∃ i, i ≤ lnA g n ∧ a.1 = w ∧ a.2.2.2 = nI i ∧ a.2.1 = nI (shC k (fun i => pc (onL g n i)) i) ∧ a.2.2.1 = nI (shB k (fun i => pc (onL g n i)) i)) (fun a => 41 - a.2.2.2.toNatClampNeg) ?_ fu _ ⟨0, Nat.zero_le _, rfl, rfl, rfl, rfl⟩ (fu_big (by show 41 - _ < _; omega))
  rintro ⟨w1, v1, v2, v3⟩ ⟨i, hi, e1, e2, e3, e4⟩ kk hkk
  dsimp only at e1 e2 e3 e4 hkk ⊢
  subst e1 e2 e3 e4
  unfold F_X5_strangersComings_6
  rw [hL.1]
  refine Ok.ite (fun c => ?_) (fun c => ?_)
  · simp (disch := omega) only [Int32.le_iff_toInt_le, Int32.lt_iff_toInt_lt, ← Int32.toInt_inj, nI_toInt, Int32.reduceToInt] at c
    have e : i = lnA g n := by omega
    subst e
    exact Ok.ret rfl
  · simp (disch := omega) only [Int32.le_iff_toInt_le, Int32.lt_iff_toInt_lt, ← Int32.toInt_inj, nI_toInt, Int32.reduceToInt] at c
    have hin : i < lnA g n := by omega
    have h1 := hb i hin
    have hbl : shB k (fun i => pc (onL g n i)) i ≤ 8 := by
      unfold shB shA
      split <;> omega
    have hcl := shC_le (fun i => pc (onL g n i)) hk i
    rw [sAt w1 hn hL e9 hin, Option.bind_some]
    refine Ok.let (fun y ey => ?_)
    dsimp only at ey
    rw [sAt w1 hn hL e9 hin, Option.bind_some, nI_1]
    rw [show nI k - nI (pc (onL g n i)) = nI (shA k (fun i => pc (onL g n i)) i) from pk_sub h1] at ey ⊢
    have hal : shA k (fun i => pc (onL g n i)) i ≤ 8 := by unfold shA; omega
    refine hkk _ ⟨i + 1, by omega, rfl, rfl, ?_, ?_⟩ (by dsimp only; rw [cl_nI (by omega), cl_nI (by omega)]; omega)
    · dsimp only
      rw [ey]
      simp only [shC]
      by_cases q : shB k (fun i => pc (onL g n i)) i < shA k (fun i => pc (onL g n i)) i
      · rw [pk_sub (by omega), if_pos (by simp (disch := omega) only [Int32.le_iff_toInt_le, Int32.lt_iff_toInt_lt, ← Int32.toInt_inj, nI_toInt, Int32.reduceToInt]; omega), nI_add]
      · rw [if_neg (by rw [Int32.lt_iff_toInt_lt, pk_sub_toInt (by omega) (by omega), show (0 : Int32).toInt = 0 from rfl]; omega)]
        rw [show shA k (fun i => pc (onL g n i)) i - shB k (fun i => pc (onL g n i)) i = 0 by omega]
        exact Int32.add_zero _
    · dsimp only
      unfold shB
      rw [if_neg (by omega)]
      rfl
theorem mostC (w : Wd) {g : Nat → Nat} {n k : Nat} (hn : lnA g n ≤ 40) (hL : LinesC w g n) (hk : k ≤ 8) (e9 : w.1 9 = nI k) (hb : ∀ i, i < lnA g n → pc (onL g n i) ≤ k) : F_X5_mostStrangers w = some (nI (shT k (fun i => pc (onL g n i)) (lnA g n)), w) := by
  apply Ok.eq
  unfold F_X5_mostStrangers L_X5_mostStrangers_4
  refine Ok.loop (fun a => ∃ i, i ≤ lnA g n ∧ a.1 = w ∧ a.2.2 = nI i ∧ a.2.1 = nI (shT k (fun i => pc (onL g n i)) i)) (fun a => 41 - a.2.2.toNatClampNeg) ?_ fu _ ⟨0, Nat.zero_le _, rfl, rfl, rfl⟩ (fu_big (by show 41 - _ < _; omega))
  rintro ⟨w1, v1, v2⟩ ⟨i, hi, e1, e2, e3⟩ kk hkk
  dsimp only at e1 e2 e3 hkk ⊢
  subst e1 e2 e3
  unfold F_X5_mostStrangers_4
  rw [hL.1]
  refine Ok.ite (fun c => ?_) (fun c => ?_)
  · simp (disch := omega) only [Int32.le_iff_toInt_le, Int32.lt_iff_toInt_lt, ← Int32.toInt_inj, nI_toInt, Int32.reduceToInt] at c
    have e : i = lnA g n := by omega
    subst e
    exact Ok.ret rfl
  · simp (disch := omega) only [Int32.le_iff_toInt_le, Int32.lt_iff_toInt_lt, ← Int32.toInt_inj, nI_toInt, Int32.reduceToInt] at c
    have hin : i < lnA g n := by omega
    have h1 := hb i hin
    have htl := shT_le (fun i => pc (onL g n i)) hk i
    rw [sAt w1 hn hL e9 hin, Option.bind_some, nI_1]
    rw [show nI k - nI (pc (onL g n i)) = nI (shA k (fun i => pc (onL g n i)) i) from pk_sub h1]
    have hal : shA k (fun i => pc (onL g n i)) i ≤ 8 := by unfold shA; omega
    refine hkk _ ⟨i + 1, by omega, rfl, rfl, ?_⟩ (by dsimp only; rw [cl_nI (by omega), cl_nI (by omega)]; omega)
    dsimp only
    simp only [shT]
    by_cases q : shT k (fun i => pc (onL g n i)) i < shA k (fun i => pc (onL g n i)) i
    · rw [if_pos q, if_pos (by simp (disch := omega) only [Int32.le_iff_toInt_le, Int32.lt_iff_toInt_lt, ← Int32.toInt_inj, nI_toInt, Int32.reduceToInt]; omega)]
    · rw [if_neg q, if_neg (by simp (disch := omega) only [Int32.le_iff_toInt_le, Int32.lt_iff_toInt_lt, ← Int32.toInt_inj, nI_toInt, Int32.reduceToInt]; omega)]
def strR (k n : Nat) (m : Nat → Nat) (p : Nat) : Int32 := if p = 0 then nI (shC k m n) else if p = 1 then nI (shT k m n) else nI (shA k m (p - 10))
theorem loopM (w : Wd) {g : Nat → Nat} {n k p : Nat} (hall0 : allOk g n) (hn : lnA g n ≤ 40) (hL : LinesM w g n) (hk : k ≤ 8) (e9 : w.1 30 = nI k) (hb : ∀ i, i < lnA g n → pc (onL g n i) ≤ k) (hp : p = 0 ∨ p = 1 ∨ (10 ≤ p ∧ p - 10 < lnA g n)) : L_X6_strangers_85 fu (w, nI p, 0, 0, 0, 0) = some (strR k (lnA g n) (fun i => pc (onL g n i)) p, w) := by
  apply Ok.eq
  unfold L_X6_strangers_85
  refine Ok.loop (fun a => ∃ i, i ≤ lnA g n ∧ a.1 = w ∧ a.2.1 = nI p ∧ a.2.2.1 = nI (shC k (fun i => pc (onL g n i)) i) ∧ a.2.2.2.1 = nI (shT k (fun i => pc (onL g n i)) i) ∧ a.2.2.2.2.1 = nI (shB k (fun i => pc (onL g n i)) i) ∧ a.2.2.2.2.2 = nI i) (fun a => 41 - a.2.2.2.2.2.toNatClampNeg) ?_ fu _ ⟨0, Nat.zero_le _, rfl, rfl, rfl, rfl, rfl, rfl⟩ (fu_big (by show 41 - _ < _; omega))
  rintro ⟨w1, v1, v4, v5, v6, v7⟩ ⟨i, hi, e1, e2, e3, e4, e5, e6⟩ kk hkk
  dsimp only at e1 e2 e3 e4 e5 e6 hkk ⊢
  subst e1 e2 e3 e4 e5 e6
  unfold F_X6_strangers_85
  rw [hL.1]
  refine Ok.ite (fun c => ?_) (fun c => ?_)
  · simp (disch := omega) only [Int32.le_iff_toInt_le, Int32.lt_iff_toInt_lt, ← Int32.toInt_inj, nI_toInt, Int32.reduceToInt] at c
    have e : i = lnA g n := by omega
    subst e
    unfold strR F_X6_strangers_194
    rcases hp with rfl | rfl | ⟨hp1, hp2⟩
    · rw [if_pos (by decide)]
      exact Ok.ret rfl
    · rw [if_neg (by decide), if_pos (by decide)]
      exact Ok.ret rfl
    · rw [if_neg (by simp (disch := omega) only [Int32.le_iff_toInt_le, Int32.lt_iff_toInt_lt, ← Int32.toInt_inj, nI_toInt, Int32.reduceToInt]; omega), if_neg (by simp (disch := omega) only [Int32.le_iff_toInt_le, Int32.lt_iff_toInt_lt, ← Int32.toInt_inj, nI_toInt, Int32.reduceToInt]; omega), if_neg (by omega), if_neg (by omega)]
      rw [show nI p - (10 : Int32) = nI (p - 10) from pk_sub (b := 10) hp1, gd_nI (show p - 10 < 40 by omega) (by omega), cl_nI (by omega), hL.2.2 _ hp2, X6_ones _ (onL_lt hall0 _ hp2)]
      refine Ok.ret ?_
      rw [e9]
      exact Prod.ext (pk_sub (hb _ hp2)) rfl
  · simp (disch := omega) only [Int32.le_iff_toInt_le, Int32.lt_iff_toInt_lt, ← Int32.toInt_inj, nI_toInt, Int32.reduceToInt] at c
    have hin : i < lnA g n := by omega
    have h1 := hb i hin
    have hbl : shB k (fun i => pc (onL g n i)) i ≤ 8 := by
      unfold shB shA
      split <;> omega
    have hcl := shC_le (fun i => pc (onL g n i)) hk i
    have htl := shT_le (fun i => pc (onL g n i)) hk i
    refine Ok.gu (gd_nI (show i < 40 by omega) (by omega)) ?_
    rw [cl_nI (by omega), hL.2.2 i hin, X6_ones _ (onL_lt hall0 i hin), Option.bind_some]
    dsimp only
    rw [e9, show nI k - nI (pc (onL g n i)) = nI (shA k (fun i => pc (onL g n i)) i) from pk_sub h1]
    have hal : shA k (fun i => pc (onL g n i)) i ≤ 8 := by unfold shA; omega
    refine Ok.let (fun y ey => Ok.let (fun z ez => ?_))
    rw [nI_1]
    refine hkk _ ⟨i + 1, by omega, rfl, rfl, ?_, ?_, ?_, rfl⟩ (by dsimp only; rw [cl_nI (by omega), cl_nI (by omega)]; omega)
    · dsimp only
      rw [ey]
      simp only [shC]
      by_cases q : shA k (fun i => pc (onL g n i)) i ≤ shB k (fun i => pc (onL g n i)) i
      · rw [if_pos (by simp (disch := omega) only [Int32.le_iff_toInt_le, Int32.lt_iff_toInt_lt, ← Int32.toInt_inj, nI_toInt, Int32.reduceToInt]; omega), show shA k (fun i => pc (onL g n i)) i - shB k (fun i => pc (onL g n i)) i = 0 by omega]
        exact Int32.add_zero _
      · rw [if_neg (by simp (disch := omega) only [Int32.le_iff_toInt_le, Int32.lt_iff_toInt_lt, ← Int32.toInt_inj, nI_toInt, Int32.reduceToInt]; omega), pk_sub (by omega), nI_add]
    · dsimp only
      rw [ez]
      simp only [shT]
      by_cases q : shT k (fun i => pc (onL g n i)) i < shA k (fun i => pc (onL g n i)) i
      · rw [if_pos q, if_neg (by simp (disch := omega) only [Int32.le_iff_toInt_le, Int32.lt_iff_toInt_lt, ← Int32.toInt_inj, nI_toInt, Int32.reduceToInt]; omega)]
      · rw [if_neg q, if_pos (by simp (disch := omega) only [Int32.le_iff_toInt_le, Int32.lt_iff_toInt_lt, ← Int32.toInt_inj, nI_toInt, Int32.reduceToInt]; omega)]
    · dsimp only
      unfold shB
      rw [if_neg (by omega)]
      rfl
/-- the answer, where the question is one -/
theorem str49 (w : Wd) {g : Nat → Nat} {n k p : Nat} {rb : Int32} (hn : lnA g n ≤ 40) (hL : LinesC w g n) (hk : k ≤ 8) (e9 : w.1 9 = nI k) (hr : FirstL (fun i => pc (onL g n i) ≤ k) (lnA g n) rb) (v3 : Int32) (hp : (p ≤ 2 ∧ v3 = 0) ∨ (10 ≤ p ∧ p - 10 < lnA g n ∧ v3 = 1)) : F_X5_strangers_49 w (nI p) v3 = some (if p = 2 then rb else if rb = -6 then strR k (lnA g n) (fun i => pc (onL g n i)) p else -6, w) := by
  unfold F_X5_strangers_49 F_X5_strangers_101
  rw [barC w hn hL hk e9 hr, Option.bind_some]
  have hpb : p < 100 := by omega
  by_cases q2 : p = 2
  · rw [if_pos (by rw [q2]; rfl), if_pos q2]
  · rw [if_neg (by simp (disch := omega) only [Int32.le_iff_toInt_le, Int32.lt_iff_toInt_lt, ← Int32.toInt_inj, nI_toInt, Int32.reduceToInt]; omega), if_neg q2]
    by_cases q : rb = -6
    · have hb : ∀ i, i < lnA g n → pc (onL g n i) ≤ k := by
        rcases hr with ⟨l, h1, -, -, h4⟩ | ⟨h1, -⟩
        · exfalso
          rw [q] at h4
          have h5 : (-6 : Int32).toInt = (nI l).toInt := by rw [h4]
          rw [nI_toInt (by omega)] at h5
          have h6 : (-6 : Int32).toInt = -6 := by decide
          omega
        · exact h1
      rw [if_pos q, if_pos q]
      unfold strR
      rcases hp with ⟨h1, rfl⟩ | ⟨h1, h2, rfl⟩
      · rw [if_pos rfl]
        rcases (show p = 0 ∨ p = 1 by omega) with rfl | rfl
        · rw [if_pos (by decide), comingsC w hn hL hk e9 hb, Option.bind_some, if_pos rfl]
        · rw [if_neg (by decide), mostC w hn hL hk e9 hb, Option.bind_some, if_neg (by decide), if_pos rfl]
      · rw [if_neg one0, if_neg (by omega), if_neg (by omega), show nI p - (10 : Int32) = nI (p - 10) from pk_sub (b := 10) h1, sAt w hn hL e9 h2, Option.bind_some]
        show some (nI k - nI (pc (onL g n (p - 10))), w) = _
        rw [pk_sub (hb _ h2)]
        rfl
    · rw [if_neg q, if_neg q]
theorem str47 (w : Wd) {g : Nat → Nat} {n k p : Nat} {rb : Int32} (hall0 : allOk g n) (hn : lnA g n ≤ 40) (hL : LinesM w g n) (hk : k ≤ 8) (e9 : w.1 30 = nI k) (hr : FirstL (fun i => pc (onL g n i) ≤ k) (lnA g n) rb) (hp : p ≤ 2 ∨ (10 ≤ p ∧ p - 10 < lnA g n)) : F_X6_strangers_47 w (nI p) = some (if p = 2 then rb else if rb = -6 then strR k (lnA g n) (fun i => pc (onL g n i)) p else -6, w) := by
  unfold F_X6_strangers_47 F_X6_strangers_61
  rw [barM w hall0 hn hL hk e9 hr, Option.bind_some]
  have hpb : p < 100 := by omega
  by_cases q2 : p = 2
  · subst q2
    rw [if_pos (by decide), if_pos rfl, if_pos (by decide)]
  · rw [if_neg (by simp (disch := omega) only [Int32.le_iff_toInt_le, Int32.lt_iff_toInt_lt, ← Int32.toInt_inj, nI_toInt, Int32.reduceToInt]; omega), if_neg q2]
    rcases hr with ⟨l, h1, h2, h3, h4⟩ | ⟨hb, q⟩
    · subst h4
      rw [if_neg (by simp (disch := omega) only [Int32.le_iff_toInt_le, Int32.lt_iff_toInt_lt, ← Int32.toInt_inj, nI_toInt, Int32.reduceToInt]; omega), if_neg (by simp (disch := omega) only [Int32.le_iff_toInt_le, Int32.lt_iff_toInt_lt, ← Int32.toInt_inj, nI_toInt, Int32.reduceToInt]; omega), if_neg (by simp (disch := omega) only [Int32.le_iff_toInt_le, Int32.lt_iff_toInt_lt, ← Int32.toInt_inj, nI_toInt, Int32.reduceToInt]; omega)]
    · subst q
      rw [if_pos (show (-6 : Int32) < 0 by decide), if_pos rfl]
      exact loopM w hall0 hn hL hk e9 hb (by omega)
theorem eqv_strangers (p1 : Int32) : Eqv (fun w => F_X5_strangers w p1) (fun w => F_X6_strangers w p1) := by
  apply Eqv.query
  rintro w ⟨⟨g, n, hc, hm⟩, hrr, -⟩
  have hln := lnA_40 hc
  obtain ⟨l, k, c, hl, hk, hch, e8, e9, e10, e29, e30, e31, -⟩ := RR.lk hrr
  rcases ref_cases g n with hG | ⟨r, hN, h0, h6⟩
  · obtain ⟨rb, hrb⟩ := FirstL.ex (fun i => pc (onL g n i) ≤ k) (lnA g n)
    have g9 : ∀ {w1 : Wd}, Same w w1 → w1.1 9 = nI k := fun hs => by rw [hs.1 9 (by unfold PI; omega)]; exact e9
    have g30 : ∀ {w1 : Wd}, Same w w1 → w1.1 30 = nI k := fun hs => by rw [hs.1 30 (by unfold PI; omega)]; exact e30
    by_cases hq : 10 ≤ p1.toInt ∧ p1.toInt - 10 < lnA g n
    · obtain ⟨p, hp, rfl, hp2⟩ := i32_nat (show 0 ≤ p1.toInt by omega)
      refine ⟨if p = 2 then rb else if rb = -6 then strR k (lnA g n) (fun i => pc (onL g n i)) p else -6, ?_, fun w' hw' hs' => ?_⟩
      · unfold F_X5_strangers
        refine Ok.bind (refL_good w hc hG) ?_
        rintro ⟨r, w1⟩ ⟨hs, e, hL⟩
        dsimp only at hs e hL ⊢
        rw [if_pos e, if_neg (by simp (disch := omega) only [Int32.le_iff_toInt_le, Int32.lt_iff_toInt_lt, ← Int32.toInt_inj, nI_toInt, Int32.reduceToInt]; omega), show nI p - (10 : Int32) = nI (p - 10) from pk_sub (b := 10) (by omega), X5_isLine w1 _ hL.1 hln, Option.bind_some]
        dsimp only
        rw [if_pos (show 0 ≤ (nI (p - 10)).toInt ∧ (nI (p - 10)).toInt < (lnA g n : Int) by rw [nI_toInt (by omega)]; omega)]
        simp only [show ((1 : Int32) = 0) = False from by decide, if_false]
        rw [str49 w1 hln hL hk (g9 hs) hrb 1 (Or.inr ⟨by omega, by omega, rfl⟩)]
        exact Ok.ret ⟨hs, rfl⟩
      · unfold F_X6_strangers
        refine Ok.bind (refM_good w' (hm.same hs') hG) ?_
        rintro ⟨r, w1⟩ ⟨hs, e, hL⟩
        dsimp only at hs e hL ⊢
        rw [if_pos e, X6_not (by rw [show (0 : Int64).toInt = 0 from rfl, show (2 : Int64).toInt = 2 from rfl]; omega), Option.bind_some, if_pos rfl]
        dsimp only
        rw [hL.1, show (9 : Int32) + nI (lnA g n) = nI (9 + lnA g n) from nI_add 9 _]
        rw [X6_yes (by rw [Int32.toInt_toInt64, nI_toInt (show 9 + lnA g n < 2 ^ 31 by omega), show (10 : Int64).toInt = 10 from rfl]; omega), Option.bind_some, if_neg one0]
        dsimp only
        rw [str47 w1 hG.1 hln hL hk (g30 (hs'.tr hs)) hrb (Or.inr ⟨by omega, by omega⟩)]
        exact Ok.ret ⟨hs, rfl⟩
    · by_cases hq2 : 0 ≤ p1.toInt ∧ p1.toInt ≤ 2
      · obtain ⟨p, hp, rfl, hp2⟩ := i32_nat hq2.1
        refine ⟨if p = 2 then rb else if rb = -6 then strR k (lnA g n) (fun i => pc (onL g n i)) p else -6, ?_, fun w' hw' hs' => ?_⟩
        · unfold F_X5_strangers F_X5_strangers_32 F_X5_strangers_33
          refine Ok.bind (refL_good w hc hG) ?_
          rintro ⟨r, w1⟩ ⟨hs, e, hL⟩
          dsimp only at hs e hL ⊢
          rw [if_pos e, if_pos (by simp (disch := omega) only [Int32.le_iff_toInt_le, Int32.lt_iff_toInt_lt, ← Int32.toInt_inj, nI_toInt, Int32.reduceToInt]; omega), if_pos rfl, X5_yes (show 0 ≤ (nI p).toInt ∧ (nI p).toInt ≤ (2 : Int32).toInt from hq2), Option.bind_some, if_neg one0]
          dsimp only
          rw [str49 w1 hln hL hk (g9 hs) hrb 0 (Or.inl ⟨by omega, rfl⟩)]
          exact Ok.ret ⟨hs, rfl⟩
        · unfold F_X6_strangers
          refine Ok.bind (refM_good w' (hm.same hs') hG) ?_
          rintro ⟨r, w1⟩ ⟨hs, e, hL⟩
          dsimp only at hs e hL ⊢
          rw [if_pos e, X6_yes (show (0 : Int64).toInt ≤ (nI p).toInt ∧ (nI p).toInt ≤ (2 : Int64).toInt from hq2), Option.bind_some, if_neg one0]
          dsimp only
          rw [str47 w1 hG.1 hln hL hk (g30 (hs'.tr hs)) hrb (Or.inl (by omega))]
          exact Ok.ret ⟨hs, rfl⟩
      · refine ⟨-2, ?_, fun w' hw' hs' => ?_⟩
        · unfold F_X5_strangers F_X5_strangers_32 F_X5_strangers_33
          refine Ok.bind (refL_good w hc hG) ?_
          rintro ⟨r, w1⟩ ⟨hs, e, hL⟩
          dsimp only at hs e hL ⊢
          rw [if_pos e]
          refine Ok.ite (fun c => ?_) (fun c => ?_)
          · rw [if_pos rfl, X5_not (show ¬ (0 ≤ p1.toInt ∧ p1.toInt ≤ (2 : Int32).toInt) from hq2), Option.bind_some, if_pos rfl]
            exact Ok.ret ⟨hs, rfl⟩
          · rw [Int32.lt_iff_toInt_lt, show (10 : Int32).toInt = 10 from rfl] at c
            obtain ⟨p, hp, rfl, hp2⟩ := i32_nat (show 0 ≤ p1.toInt by omega)
            rw [show nI p - (10 : Int32) = nI (p - 10) from pk_sub (b := 10) (by omega), X5_isLine w1 _ hL.1 hln, Option.bind_some]
            dsimp only
            rw [if_neg (show ¬ (0 ≤ (nI (p - 10)).toInt ∧ (nI (p - 10)).toInt < (lnA g n : Int)) by rw [nI_toInt (by omega)]; omega)]
            simp only [if_true]
            rw [X5_not (show ¬ (0 ≤ (nI p).toInt ∧ (nI p).toInt ≤ (2 : Int32).toInt) from hq2), Option.bind_some, if_pos rfl]
            exact Ok.ret ⟨hs, rfl⟩
        · unfold F_X6_strangers
          refine Ok.bind (refM_good w' (hm.same hs') hG) ?_
          rintro ⟨r, w1⟩ ⟨hs, e, hL⟩
          dsimp only at hs e hL ⊢
          rw [if_pos e, X6_not (show ¬ ((0 : Int64).toInt ≤ p1.toInt ∧ p1.toInt ≤ (2 : Int64).toInt) from hq2), Option.bind_some, if_pos rfl]
          dsimp only
          rw [hL.1, show (9 : Int32) + nI (lnA g n) = nI (9 + lnA g n) from nI_add 9 _]
          rw [X6_not (by rw [Int32.toInt_toInt64, nI_toInt (show 9 + lnA g n < 2 ^ 31 by omega), show (10 : Int64).toInt = 10 from rfl]; omega), Option.bind_some, if_pos rfl]
          exact Ok.ret ⟨hs, rfl⟩
  · refine ⟨r, ?_, fun w' hw' hs' => ?_⟩
    · unfold F_X5_strangers
      refine Ok.bind (refL_no w hc hN) ?_
      rintro ⟨r1, w1⟩ ⟨hs, e⟩
      dsimp only at hs e ⊢
      rw [e, if_neg h0]
      exact Ok.ret ⟨hs, rfl⟩
    · unfold F_X6_strangers
      refine Ok.bind (refM_no w' (hm.same hs') hN) ?_
      rintro ⟨r1, w1⟩ ⟨hs, e⟩
      dsimp only at hs e ⊢
      rw [e, if_neg h6]
      exact Ok.ret ⟨hs, rfl⟩
