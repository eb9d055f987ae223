/-! counting bits of eight -/
theorem ones_step : ∀ m, m < 256 → m ≠ 0 → nI m &&& (nI m - 1) = nI (m &&& (m - 1)) ∧ (m &&& (m - 1)) < m ∧ pc (m &&& (m - 1)) + 1 = pc m := by decide +kernel
theorem X6_ones (w : Wd) {m : Nat} (hm : m < 256) : F_X6_ones w (nI m) = some (nI (pc m), w) := by
  apply Ok.eq
  unfold F_X6_ones L_X6_ones_4
  refine Ok.loop (fun a => ∃ c v, v < 256 ∧ a.1 = w ∧ a.2.1 = nI c ∧ a.2.2 = nI v ∧ c + pc v = pc m) (fun a => a.2.2.toNatClampNeg) ?_ fu _ ⟨0, m, hm, rfl, rfl, rfl, Nat.zero_add _⟩ (fu_big (by show (nI m).toNatClampNeg < _; rw [cl_nI (by omega)]; omega))
  rintro ⟨w1, v1, v2⟩ ⟨c, v, hv, e1, e2, e3, e4⟩ k hk
  dsimp only at e1 e2 e3 hk ⊢
  subst e1 e2 e3
  unfold F_X6_ones_4
  refine Ok.ite (fun q => ?_) (fun q => ?_)
  · simp (disch := omega) only [Int32.le_iff_toInt_le, Int32.lt_iff_toInt_lt, ← Int32.toInt_inj, nI_toInt, Int32.reduceToInt] at q
    have : v = 0 := by omega
    subst this
    refine Ok.ret ?_
    rw [← e4]
    rfl
  · simp (disch := omega) only [Int32.le_iff_toInt_le, Int32.lt_iff_toInt_lt, ← Int32.toInt_inj, nI_toInt, Int32.reduceToInt] at q
    obtain ⟨h1, h2, h3⟩ := ones_step v hv (by omega)
    rw [h1, nI_1]
    exact hk _ ⟨c + 1, _, by omega, rfl, rfl, rfl, by omega⟩ (by dsimp only; rw [cl_nI (by omega), cl_nI (by omega)]; omega)
def bc32 (p0 : Int32) : Int32 :=
  Let ((((p0 - ((ushr p0 1) &&& 1431655765)) &&& 858993459) + ((ushr (p0 - ((ushr p0 1) &&& 1431655765)) 2) &&& 858993459)) : Int32) fun y1 =>
  Let ((((y1 + (ushr y1 4)) &&& 252645135) + (ushr ((y1 + (ushr y1 4)) &&& 252645135) 8)) : Int32) fun y2 =>
  ((y2 + (ushr y2 16)) &&& 63)
theorem bc32_pc : ∀ m, m < 256 → bc32 (nI m) = nI (pc m) := by decide +kernel
theorem J6_bc (w : Wd) {m : Nat} (hm : m < 256) : F_J6_bitCount w (nI m) = some (nI (pc m), w) := by
  rw [← bc32_pc m hm]
  rfl
/-! the law -/
def holdP (l k a h : Nat) : Prop := (l = 0 ∧ a = k) ∨ (l = 1 ∧ a % 2 = 1) ∨ (l = 2 ∧ h ≤ a)
theorem odd_1 : ∀ a, a < 9 → ((nI a &&& 1) = 1 ↔ a % 2 = 1) ∧ ((nI a - nI a / 2 * 2) = 1 ↔ a % 2 = 1) := by decide +kernel
theorem X3_holds (w : Wd) {l k a h : Nat} (hl : l ≤ 2) (hk : k ≤ 8) (ha : a ≤ 8) (hh : h ≤ 8) (e8 : w.1 8 = nI l) (e9 : w.1 9 = nI k) : ∃ r : Int32, F_X3_holds w (nI a) (nI h) = some (r, w) ∧ ((r = 1 ∧ holdP l k a h) ∨ (r = 0 ∧ ¬ holdP l k a h)) := by
  unfold F_X3_holds
  rw [e8, e9]
  have ho := (odd_1 a (by omega)).1
  rcases (show l = 0 ∨ l = 1 ∨ l = 2 by omega) with rfl | rfl | rfl
  · rw [if_pos (by decide), isB_ite]
    refine ⟨_, rfl, ?_⟩
    by_cases q : a = k
    · rw [if_pos (by rw [q])]; exact Or.inl ⟨rfl, Or.inl ⟨rfl, q⟩⟩
    · rw [if_neg (by simp (disch := omega) only [Int32.le_iff_toInt_le, Int32.lt_iff_toInt_lt, ← Int32.toInt_inj, nI_toInt, Int32.reduceToInt]; omega)]; exact Or.inr ⟨rfl, by unfold holdP; omega⟩
  · rw [if_neg (by decide), if_pos (by decide), isB_ite]
    refine ⟨_, rfl, ?_⟩
    by_cases q : a % 2 = 1
    · rw [if_pos (ho.mpr q)]; exact Or.inl ⟨rfl, Or.inr (Or.inl ⟨rfl, q⟩)⟩
    · rw [if_neg (fun z => q (ho.mp z))]; exact Or.inr ⟨rfl, by unfold holdP; omega⟩
  · rw [if_neg (by decide), if_neg (by decide)]
    by_cases q : h ≤ a
    · rw [if_neg (by simp (disch := omega) only [Int32.le_iff_toInt_le, Int32.lt_iff_toInt_lt, ← Int32.toInt_inj, nI_toInt, Int32.reduceToInt]; omega)]
      exact ⟨1, rfl, Or.inl ⟨rfl, Or.inr (Or.inr ⟨rfl, q⟩)⟩⟩
    · rw [if_pos (by simp (disch := omega) only [Int32.le_iff_toInt_le, Int32.lt_iff_toInt_lt, ← Int32.toInt_inj, nI_toInt, Int32.reduceToInt]; omega)]
      exact ⟨0, rfl, Or.inr ⟨rfl, by unfold holdP; omega⟩⟩
theorem X6_holds_g (w : Wd) {l k a h : Nat} {x : Int32} (hl : l ≤ 2) (hk : k ≤ 8) (ha : a ≤ 8) (hh : h ≤ 8) (e8 : w.1 29 = nI l) (e9 : w.1 30 = nI k) (hx : (if 0 ≤ x then x else nI k) = nI h) : ∃ r : Int32, F_X6_holds w (nI a) x = some (r, w) ∧ ((r = 1 ∧ holdP l k a h) ∨ (r = 0 ∧ ¬ holdP l k a h)) := by
  unfold F_X6_holds
  rw [e8, e9, hx]
  have ho := (odd_1 a (by omega)).2
  rcases (show l = 0 ∨ l = 1 ∨ l = 2 by omega) with rfl | rfl | rfl
  · rw [if_pos (by decide), isB_ite]
    refine ⟨_, rfl, ?_⟩
    by_cases q : a = k
    · rw [if_pos (by rw [q])]; exact Or.inl ⟨rfl, Or.inl ⟨rfl, q⟩⟩
    · rw [if_neg (by simp (disch := omega) only [Int32.le_iff_toInt_le, Int32.lt_iff_toInt_lt, ← Int32.toInt_inj, nI_toInt, Int32.reduceToInt]; omega)]; exact Or.inr ⟨rfl, by unfold holdP; omega⟩
  · rw [if_neg (by decide), if_pos (by decide), isB_ite]
    refine ⟨_, rfl, ?_⟩
    by_cases q : a % 2 = 1
    · rw [if_pos (ho.mpr q)]; exact Or.inl ⟨rfl, Or.inr (Or.inl ⟨rfl, q⟩)⟩
    · rw [if_neg (fun z => q (ho.mp z))]; exact Or.inr ⟨rfl, by unfold holdP; omega⟩
  · rw [if_neg (by decide), if_neg (by decide)]
    by_cases q : h ≤ a
    · rw [if_neg (by simp (disch := omega) only [Int32.le_iff_toInt_le, Int32.lt_iff_toInt_lt, ← Int32.toInt_inj, nI_toInt, Int32.reduceToInt]; omega)]
      exact ⟨1, rfl, Or.inl ⟨rfl, Or.inr (Or.inr ⟨rfl, q⟩)⟩⟩
    · rw [if_pos (by simp (disch := omega) only [Int32.le_iff_toInt_le, Int32.lt_iff_toInt_lt, ← Int32.toInt_inj, nI_toInt, Int32.reduceToInt]; omega)]
      exact ⟨0, rfl, Or.inr ⟨rfl, by unfold holdP; omega⟩⟩
theorem X6_holds (w : Wd) {l k a h : Nat} (hl : l ≤ 2) (hk : k ≤ 8) (ha : a ≤ 8) (hh : h ≤ 8) (e8 : w.1 29 = nI l) (e9 : w.1 30 = nI k) : ∃ r : Int32, F_X6_holds w (nI a) (nI h) = some (r, w) ∧ ((r = 1 ∧ holdP l k a h) ∨ (r = 0 ∧ ¬ holdP l k a h)) :=
  X6_holds_g w hl hk ha hh e8 e9 (if_pos (by simp (disch := omega) only [Int32.le_iff_toInt_le, Int32.lt_iff_toInt_lt, ← Int32.toInt_inj, nI_toInt, Int32.reduceToInt]; omega))
theorem X6_holds6 (w : Wd) {l k a : Nat} (hl : l ≤ 2) (hk : k ≤ 8) (ha : a ≤ 8) (e8 : w.1 29 = nI l) (e9 : w.1 30 = nI k) : ∃ r : Int32, F_X6_holds w (nI a) (-6) = some (r, w) ∧ ((r = 1 ∧ holdP l k a k) ∨ (r = 0 ∧ ¬ holdP l k a k)) :=
  X6_holds_g w hl hk ha hk e8 e9 (if_neg (by decide))
/-- the first line that P does not hold of -/
def FirstL (P : Nat → Prop) (n : Nat) (r : Int32) : Prop := (∃ l, l < n ∧ ¬ P l ∧ (∀ j, j < l → P j) ∧ r = nI l) ∨ ((∀ j, j < n → P j) ∧ r = -6)
theorem FirstL.ex (P : Nat → Prop) (n : Nat) : ∃ r, FirstL P n r := by
  rcases first_or (n := n) P with h | ⟨f, h1, h2, h3⟩
  · exact ⟨-6, Or.inr ⟨h, rfl⟩⟩
  · exact ⟨nI f, Or.inl ⟨f, h1, h2, h3, rfl⟩⟩
theorem FirstL.at {P : Nat → Prop} {n l : Nat} {r : Int32} (h : FirstL P n r) (h1 : l < n) (h2 : ¬ P l) (h3 : ∀ j, j < l → P j) : r = nI l := by
  rcases h with ⟨l', g1, g2, g3, g4⟩ | ⟨g1, -⟩
  · rcases Nat.lt_trichotomy l l' with q | q | q
    · exact absurd (g3 l q) h2
    · rw [g4, q]
    · exact absurd (h3 l' q) g2
  · exact absurd (g1 l h1) h2
theorem FirstL.no {P : Nat → Prop} {n : Nat} {r : Int32} (h : FirstL P n r) (h1 : ∀ j, j < n → P j) : r = -6 := by
  rcases h with ⟨l', g1, g2, g3, g4⟩ | ⟨-, g2⟩
  · exact absurd (h1 l' g1) g2
  · exact g2
def aheadL (k : Nat) (m : Nat → Nat) (i : Nat) : Nat := if i = 0 then k else m (i - 1)
def lawP (l k : Nat) (m : Nat → Nat) (i : Nat) : Prop := holdP l k (m i) (aheadL k m i)
theorem more {P : Nat → Prop} {i : Nat} (h : ∀ j, j < i → P j) (hi : P i) : ∀ j, j < i + 1 → P j := fun j hj => by
  by_cases e : j = i
  · rw [e]; exact hi
  · exact h j (by omega)
theorem lnA_40 {w : Wd} {g : Nat → Nat} {n : Nat} (hp : PadC w g n) : lnA g n ≤ 40 := Nat.le_trans (lnA_le g n) hp.2.1
theorem firstLaw_ok (w : Wd) {g : Nat → Nat} {n l k : Nat} {r : Int32} (hn : lnA g n ≤ 40) (hL : LinesC w g n) (hl : l ≤ 2) (hk : k ≤ 8) (e8 : w.1 8 = nI l) (e9 : w.1 9 = nI k) (hr : FirstL (lawP l k (fun i => pc (onL g n i))) (lnA g n) r) : F_X3_firstAgainstLaw w = some (r, w) := by
  obtain ⟨h4, h3, h6, h7⟩ := hL
  apply Ok.eq
  unfold F_X3_firstAgainstLaw L_X3_firstAgainstLaw_7
  rw [e9]
  refine Ok.loop (fun a => ∃ i, i ≤ lnA g n ∧ a.1 = w ∧ a.2.2 = nI i ∧ a.2.1 = nI (aheadL k (fun i => pc (onL g n i)) i) ∧ ∀ j, j < i → lawP l k (fun i => pc (onL g n i)) j) (fun a => 41 - a.2.2.toNatClampNeg) ?_ fu _ ⟨0, Nat.zero_le _, rfl, rfl, rfl, fun j hj => absurd hj (Nat.not_lt_zero _)⟩ (fu_big (by show 41 - _ < _; omega))
  rintro ⟨w1, v1, v2⟩ ⟨i, hi, e1, e2, e3, hall⟩ kk hkk
  dsimp only at e1 e2 e3 hkk ⊢
  subst e1 e2 e3
  unfold F_X3_firstAgainstLaw_7
  rw [h4]
  refine Ok.ite (fun c => ?_) (fun c => ?_)
  · simp (disch := omega) only [Int32.le_iff_toInt_le, Int32.lt_iff_toInt_lt, ← Int32.toInt_inj, nI_toInt, Int32.reduceToInt] at c
    have e : i = lnA g n := by omega
    subst e
    exact Ok.ret (by rw [hr.no hall])
  · simp (disch := omega) only [Int32.le_iff_toInt_le, Int32.lt_iff_toInt_lt, ← Int32.toInt_inj, nI_toInt, Int32.reduceToInt] at c
    have hin : i < lnA g n := by omega
    refine Ok.gu (gd_nI (by omega) (by omega)) ?_
    have ha : aheadL k (fun i => pc (onL g n i)) i ≤ 8 := by
      unfold aheadL
      split
      · exact hk
      · exact pc_le _
    rw [cl_nI (by omega), h6 i hin]
    obtain ⟨r1, hr1, hcase⟩ := X3_holds w1 (a := pc (onL g n i)) hl hk (pc_le _) ha e8 e9
    rw [hr1, Option.bind_some]
    dsimp only
    rcases hcase with ⟨e, hP⟩ | ⟨e, hP⟩
    · rw [e, if_neg one0, nI_1]
      refine hkk _ ⟨i + 1, by omega, rfl, rfl, ?_, more hall hP⟩ (by dsimp only; rw [cl_nI (by omega), cl_nI (by omega)]; omega)
      show _ = nI (aheadL k _ (i + 1))
      unfold aheadL
      rw [if_neg (by omega)]
      rfl
    · rw [e, if_pos rfl]
      exact Ok.ret (by rw [hr.at hin hP hall])
theorem breaking_ok (w : Wd) {g : Nat → Nat} {n l k : Nat} {r : Int32} (hall0 : allOk g n) (hn : lnA g n ≤ 40) (hL : LinesM w g n) (hl : l ≤ 2) (hk : k ≤ 8) (e8 : w.1 29 = nI l) (e9 : w.1 30 = nI k) (hr : FirstL (lawP l k (fun i => pc (onL g n i))) (lnA g n) r) : F_X6_breaking w = some (r, w) := by
  obtain ⟨h4, h3, h7⟩ := hL
  have hlt := onL_lt hall0
  apply Ok.eq
  unfold F_X6_breaking L_X6_breaking_2
  refine Ok.loop (fun a => ∃ i, i ≤ lnA g n ∧ a.1 = w ∧ a.2 = nI i ∧ ∀ j, j < i → lawP l k (fun i => pc (onL g n i)) j) (fun a => 41 - a.2.toNatClampNeg) ?_ fu _ ⟨0, Nat.zero_le _, rfl, rfl, fun j hj => absurd hj (Nat.not_lt_zero _)⟩ (fu_big (by show 41 - _ < _; omega))
  rintro ⟨w1, v1⟩ ⟨i, hi, e1, e2, hall⟩ kk hkk
  dsimp only at e1 e2 hkk ⊢
  subst e1 e2
  unfold F_X6_breaking_2
  rw [h4]
  refine Ok.ite (fun c => ?_) (fun c => ?_)
  · simp (disch := omega) only [Int32.le_iff_toInt_le, Int32.lt_iff_toInt_lt, ← Int32.toInt_inj, nI_toInt, Int32.reduceToInt] at c
    have e : i = lnA g n := by omega
    subst e
    exact Ok.ret (by rw [hr.no hall])
  · simp (disch := omega) only [Int32.le_iff_toInt_le, Int32.lt_iff_toInt_lt, ← Int32.toInt_inj, nI_toInt, Int32.reduceToInt] at c
    have hin : i < lnA g n := by omega
    refine Ok.gu (gd_nI (by omega) (by omega)) ?_
    rw [cl_nI (by omega), h7 i hin, X6_ones _ (hlt i hin), Option.bind_some]
    dsimp only
    have fin : ∀ x : Int32, (∃ r1 : Int32, F_X6_holds w1 (nI (pc (onL g n i))) x = some (r1, w1) ∧ ((r1 = 1 ∧ lawP l k (fun i => pc (onL g n i)) i) ∨ (r1 = 0 ∧ ¬ lawP l k (fun i => pc (onL g n i)) i))) → Ok (F_X6_breaking_40 kk w1 (nI i) x (nI (pc (onL g n i)))) (fun x => x = (r, w1)) := by
      rintro x ⟨r1, hr1, hcase⟩
      unfold F_X6_breaking_40
      rw [hr1, Option.bind_some]
      dsimp only
      rcases hcase with ⟨e, hP⟩ | ⟨e, hP⟩
      · rw [e, if_neg one0, nI_1]
        exact hkk _ ⟨i + 1, by omega, rfl, rfl, more hall hP⟩ (by dsimp only; rw [cl_nI (by omega), cl_nI (by omega)]; omega)
      · rw [e, if_pos rfl]
        exact Ok.ret (by rw [hr.at hin hP hall])
    refine Ok.ite (fun q => ?_) (fun q => ?_)
    · simp (disch := omega) only [Int32.le_iff_toInt_le, Int32.lt_iff_toInt_lt, ← Int32.toInt_inj, nI_toInt, Int32.reduceToInt] at q
      have : i = 0 := by omega
      subst this
      exact fin _ (X6_holds6 w1 hl hk (pc_le _) e8 e9)
    · simp (disch := omega) only [Int32.le_iff_toInt_le, Int32.lt_iff_toInt_lt, ← Int32.toInt_inj, nI_toInt, Int32.reduceToInt] at q
      obtain ⟨j, rfl⟩ : ∃ j, i = j + 1 := ⟨i - 1, by omega⟩
      rw [show nI (j + 1) - (1 : Int32) = nI j from nI_pred j]
      refine Ok.gu (gd_nI (by omega) (by omega)) ?_
      rw [cl_nI (by omega), h7 j (by omega), X6_ones _ (hlt j (by omega)), Option.bind_some]
      dsimp only
      exact fin _ (X6_holds w1 hl hk (pc_le _) (pc_le (onL g n j)) e8 e9)
theorem st_cases (g : Nat → Nat) (n : Nat) : (∃ f, isFault g n f) ∨ (allOk g n ∧ 0 < mkA g n) ∨ (allOk g n ∧ mkA g n = 0 ∧ ∃ b, isBad (ev0 g) n b) ∨ Good g n := by
  rcases ref_cases g n with h | ⟨r, h, -⟩
  · exact Or.inr (Or.inr (Or.inr h))
  · rcases h with ⟨h, -⟩ | ⟨h1, h2, -⟩ | ⟨h1, h2, h3, -⟩
    · exact Or.inl h
    · exact Or.inr (Or.inl ⟨h1, h2⟩)
    · exact Or.inr (Or.inr (Or.inl ⟨h1, h2, h3⟩))
/-- the class's judge, for events -/
theorem judgeC_ev (w : Wd) {g : Nat → Nat} {n v : Nat} {r : Int32} (hc : PadC w g n) (hv : v < 2) (hr : ∀ x : Int32 × Wd, EvC x g n → (x.1 = 0 → (if v = 0 then x.2.1 5 else x.2.1 6) = r) ∧ (¬ x.1 = 0 → x.1 = r)) : Ok (F_X5_judge w (nI v)) (fun y => Same w y.2 ∧ y.1 = r) := by
  unfold F_X5_judge
  rw [X5_within, Option.bind_some, if_pos (show 0 ≤ (nI v).toInt ∧ (nI v).toInt ≤ (2 : Int32).toInt by rw [nI_toInt (by omega), show (2 : Int32).toInt = 2 from rfl]; omega), if_neg one0, if_neg (by simp (disch := omega) only [Int32.le_iff_toInt_le, Int32.lt_iff_toInt_lt, ← Int32.toInt_inj, nI_toInt, Int32.reduceToInt]; omega)]
  refine Ok.bind (refE_ok w hc) ?_
  rintro x ⟨hs, he⟩
  obtain ⟨h1, h2⟩ := hr x he
  unfold F_X5_judge_27 F_X5_judge_72
  refine Ok.ite (fun c => ?_) (fun c => ?_)
  · refine Ok.ite (fun c2 => ?_) (fun c2 => ?_)
    · simp (disch := omega) only [Int32.le_iff_toInt_le, Int32.lt_iff_toInt_lt, ← Int32.toInt_inj, nI_toInt, Int32.reduceToInt] at c2
      have h := h1 c
      rw [if_pos (by omega)] at h
      exact Ok.ret ⟨hs, h⟩
    · simp (disch := omega) only [Int32.le_iff_toInt_le, Int32.lt_iff_toInt_lt, ← Int32.toInt_inj, nI_toInt, Int32.reduceToInt] at c2
      have h := h1 c
      rw [if_neg (by omega)] at h
      rw [if_pos (by simp (disch := omega) only [Int32.le_iff_toInt_le, Int32.lt_iff_toInt_lt, ← Int32.toInt_inj, nI_toInt, Int32.reduceToInt]; omega)]
      exact Ok.ret ⟨hs, h⟩
  · exact Ok.ret ⟨hs, h2 c⟩
theorem judgeC_2n (w : Wd) {g : Nat → Nat} {n : Nat} {r : Int32} (hc : PadC w g n) (hN : RefN g n r) (h0 : ¬ r = 0) : Ok (F_X5_judge w (nI 2)) (fun y => Same w y.2 ∧ y.1 = r) := by
  unfold F_X5_judge
  rw [X5_within, Option.bind_some, if_pos (show 0 ≤ (nI 2).toInt ∧ (nI 2).toInt ≤ (2 : Int32).toInt by decide), if_neg one0, if_pos (by decide)]
  refine Ok.bind (refL_no w hc hN) ?_
  rintro ⟨r1, w1⟩ ⟨hs, e⟩
  dsimp only at hs e ⊢
  subst e
  unfold F_X5_judge_27
  rw [if_neg h0]
  exact Ok.ret ⟨hs, rfl⟩
theorem judgeC_2g (w : Wd) {g : Nat → Nat} {n l k : Nat} {r : Int32} (hc : PadC w g n) (hG : Good g n) (hl : l ≤ 2) (hk : k ≤ 8) (e8 : w.1 8 = nI l) (e9 : w.1 9 = nI k) (hr : FirstL (lawP l k (fun i => pc (onL g n i))) (lnA g n) r) : Ok (F_X5_judge w (nI 2)) (fun y => Same w y.2 ∧ y.1 = r) := by
  unfold F_X5_judge
  rw [X5_within, Option.bind_some, if_pos (show 0 ≤ (nI 2).toInt ∧ (nI 2).toInt ≤ (2 : Int32).toInt by decide), if_neg one0, if_pos (by decide)]
  refine Ok.bind (refL_good w hc hG) ?_
  rintro ⟨r1, w1⟩ ⟨hs, e, hL⟩
  dsimp only at hs e hL ⊢
  subst e
  unfold F_X5_judge_27 F_X5_judge_72
  rw [if_pos rfl, if_neg (by decide), if_neg (by decide), firstLaw_ok w1 (lnA_40 hc) hL hl hk (by rw [hs.1 8 (by unfold PI; omega)]; exact e8) (by rw [hs.1 9 (by unfold PI; omega)]; exact e9) hr, Option.bind_some]
  exact Ok.ret ⟨hs, rfl⟩
theorem judgeM_f (w : Wd) {g : Nat → Nat} {n v : Nat} (hm : PadM w g n) (hv : v ≤ 2) (hF : ∃ f, isFault g n f) : Ok (F_X6_judge w (nI v)) (fun y => Same w y.2 ∧ y.1 = -5) := by
  have hn := hm.2.1
  unfold F_X6_judge
  rw [X6_within, Option.bind_some, if_pos (show (0 : Int64).toInt ≤ (nI v).toInt ∧ (nI v).toInt ≤ (2 : Int64).toInt by rw [nI_toInt (by omega), show (2 : Int64).toInt = 2 from rfl, show (0 : Int64).toInt = 0 from rfl]; omega), if_neg one0]
  refine Ok.bind (faultM_ok w hm) ?_
  rintro ⟨r, w1⟩ ⟨e, hc⟩
  dsimp only at e hc ⊢
  subst e
  rcases hc with ⟨f, hf, e⟩ | ⟨ha, -⟩
  · have := hf.1
    rw [if_neg (by rw [e]; simp (disch := omega) only [Int32.le_iff_toInt_le, Int32.lt_iff_toInt_lt, ← Int32.toInt_inj, nI_toInt, Int32.reduceToInt]; omega)]
    exact Ok.ret ⟨Same.rf _, rfl⟩
  · obtain ⟨f, hf⟩ := hF
    exact (fault_not hf ha).elim
theorem judgeM_q (w : Wd) {g : Nat → Nat} {n v : Nat} (hm : PadM w g n) (hv : v ≤ 2) (ha : allOk g n) (hq : 0 < mkA g n) : Ok (F_X6_judge w (nI v)) (fun y => Same w y.2 ∧ y.1 = -3) := by
  have hn := hm.2.1
  have hmk := mkA_le g n
  unfold F_X6_judge
  rw [X6_within, Option.bind_some, if_pos (show (0 : Int64).toInt ≤ (nI v).toInt ∧ (nI v).toInt ≤ (2 : Int64).toInt by rw [nI_toInt (by omega), show (2 : Int64).toInt = 2 from rfl, show (0 : Int64).toInt = 0 from rfl]; omega), if_neg one0]
  refine Ok.bind (faultM_ok w hm) ?_
  rintro ⟨r, w1⟩ ⟨e, hc⟩
  dsimp only at e hc ⊢
  subst e
  rcases hc with ⟨f, hf, e⟩ | ⟨-, e⟩
  · exact (fault_not hf ha).elim
  · subst e
    rw [if_pos (by decide), marks_eq hm, Option.bind_some]
    dsimp only
    rw [if_neg (by simp (disch := omega) only [Int32.le_iff_toInt_le, Int32.lt_iff_toInt_lt, ← Int32.toInt_inj, nI_toInt, Int32.reduceToInt]; omega)]
    exact Ok.ret ⟨Same.rf _, rfl⟩
theorem judgeM_e (w : Wd) {g : Nat → Nat} {n v l k : Nat} {r : Int32} (hm : PadM w g n) (hv : v ≤ 2) (ha : allOk g n) (hq : mkA g n = 0) (hl : l ≤ 2) (hk : k ≤ 8) (e8 : w.1 29 = nI l) (e9 : w.1 30 = nI k)
    (hbad : ∀ b, isBad (ev0 g) n b → (v = 0 → r = nI b) ∧ (v = 1 → r = if ev0 g b < 16 then 1 else 2) ∧ (v = 2 → r = -5)) (hgood : allGood (ev0 g) n → (v < 2 → r = -6) ∧ (v = 2 → FirstL (lawP l k (fun i => pc (onL g n i))) (lnA g n) r)) : Ok (F_X6_judge w (nI v)) (fun y => Same w y.2 ∧ y.1 = r) := by
  unfold F_X6_judge
  rw [X6_within, Option.bind_some, if_pos (show (0 : Int64).toInt ≤ (nI v).toInt ∧ (nI v).toInt ≤ (2 : Int64).toInt by rw [nI_toInt (by omega), show (2 : Int64).toInt = 2 from rfl, show (0 : Int64).toInt = 0 from rfl]; omega), if_neg one0]
  refine Ok.bind (faultM_ok w hm) ?_
  rintro ⟨r0, w1⟩ ⟨e, hc⟩
  dsimp only at e hc ⊢
  subst e
  rcases hc with ⟨f, hf, e⟩ | ⟨-, e⟩
  · exact (fault_not hf ha).elim
  · subst e
    rw [if_pos (by decide), marks_eq hm, Option.bind_some]
    dsimp only
    rw [hq, if_pos (by decide)]
    obtain ⟨⟨r1, w3⟩, h1, h2, h3⟩ := goM_ok w1 hm ha hq
    obtain ⟨y, h4, h5⟩ := obind h1
    rw [h4, Option.bind_some, h5, Option.bind_some]
    dsimp only at h2 h3 ⊢
    rcases h3 with ⟨hg, e1, h37, h38, hL⟩ | ⟨b, hb, e1, h37, h38⟩
    · obtain ⟨g1, g2⟩ := hgood hg
      refine Ok.ite (fun c => ?_) (fun c => ?_)
      · simp (disch := omega) only [Int32.le_iff_toInt_le, Int32.lt_iff_toInt_lt, ← Int32.toInt_inj, nI_toInt, Int32.reduceToInt] at c
        rw [e1, if_neg one0, breaking_ok w3 ha (Nat.le_trans (lnA_le g n) hm.2.1) hL hl hk (by rw [h2.1 29 (by unfold PI; omega)]; exact e8) (by rw [h2.1 30 (by unfold PI; omega)]; exact e9) (g2 (by omega)), Option.bind_some]
        exact Ok.ret ⟨h2, rfl⟩
      · simp (disch := omega) only [Int32.le_iff_toInt_le, Int32.lt_iff_toInt_lt, ← Int32.toInt_inj, nI_toInt, Int32.reduceToInt] at c
        refine Ok.ret ⟨h2, ?_⟩
        rw [g1 (by omega)]
        show (if nI v = 0 then w3.1 37 else w3.1 38) = -6
        rw [h37, h38]
        split <;> rfl
    · obtain ⟨g1, g2, g3⟩ := hbad b hb
      refine Ok.ite (fun c => ?_) (fun c => ?_)
      · simp (disch := omega) only [Int32.le_iff_toInt_le, Int32.lt_iff_toInt_lt, ← Int32.toInt_inj, nI_toInt, Int32.reduceToInt] at c
        rw [e1, if_pos rfl]
        exact Ok.ret ⟨h2, (g3 (by omega)).symm⟩
      · simp (disch := omega) only [Int32.le_iff_toInt_le, Int32.lt_iff_toInt_lt, ← Int32.toInt_inj, nI_toInt, Int32.reduceToInt] at c
        refine Ok.ret ⟨h2, ?_⟩
        show (if nI v = 0 then w3.1 37 else w3.1 38) = r
        rw [h37, h38]
        by_cases q : v = 0
        · rw [g1 q, if_pos (by simp (disch := omega) only [Int32.le_iff_toInt_le, Int32.lt_iff_toInt_lt, ← Int32.toInt_inj, nI_toInt, Int32.reduceToInt]; omega)]
        · rw [g2 (by omega), if_neg (by simp (disch := omega) only [Int32.le_iff_toInt_le, Int32.lt_iff_toInt_lt, ← Int32.toInt_inj, nI_toInt, Int32.reduceToInt]; omega)]
theorem eqv_judge (p1 : Int32) : Eqv (fun w => F_X5_judge w p1) (fun w => F_X6_judge w p1) := by
  apply Eqv.query
  rintro w ⟨⟨g, n, hc, hm⟩, hrr, -⟩
  have hn40 := hc.2.1
  obtain ⟨l, k, ch, hl, hk, hch, e8, e9, e10, e29, e30, e31, -⟩ := RR.lk hrr
  by_cases hp : 0 ≤ p1.toInt ∧ p1.toInt ≤ 2
  · obtain ⟨v, hv, rfl, hv2⟩ := i32_nat hp.1
    have hv3 : v ≤ 2 := by omega
    rcases st_cases g n with hF | ⟨ha, hq⟩ | ⟨ha, hq, b, hb⟩ | hG
    · refine ⟨-5, ?_, fun w' _ hs => judgeM_f w' (hm.same hs) hv3 hF⟩
      by_cases q : v = 2
      · rw [q]; exact judgeC_2n w hc (Or.inl ⟨hF, rfl⟩) (by decide)
      · refine judgeC_ev w hc (by omega) (fun x hx => ?_)
        obtain ⟨f, hf⟩ := hF
        rcases hx with ⟨-, e⟩ | ⟨h, -⟩ | ⟨h, -⟩
        · rw [e]; exact ⟨fun z => absurd z (by decide), fun _ => rfl⟩
        · exact (fault_not hf h).elim
        · exact (fault_not hf h).elim
    · refine ⟨-3, ?_, fun w' _ hs => judgeM_q w' (hm.same hs) hv3 ha hq⟩
      by_cases q : v = 2
      · rw [q]; exact judgeC_2n w hc (Or.inr (Or.inl ⟨ha, hq, rfl⟩)) (by decide)
      · refine judgeC_ev w hc (by omega) (fun x hx => ?_)
        rcases hx with ⟨⟨f, hf⟩, -⟩ | ⟨-, -, e⟩ | ⟨-, h, -⟩
        · exact (fault_not hf ha).elim
        · rw [e]; exact ⟨fun z => absurd z (by decide), fun _ => rfl⟩
        · omega
    · refine ⟨if v = 0 then nI b else if v = 1 then (if ev0 g b < 16 then 1 else 2) else -5, ?_, fun w' _ hs => ?_⟩
      · by_cases q : v = 2
        · subst q; exact judgeC_2n (r := -5) w hc (Or.inr (Or.inr ⟨ha, hq, ⟨b, hb⟩, rfl⟩)) (by decide)
        · refine judgeC_ev w hc (by omega) (fun x hx => ?_)
          rcases hx with ⟨⟨f, hf⟩, -⟩ | ⟨-, h, -⟩ | ⟨-, -, e, hx2⟩
          · exact (fault_not hf ha).elim
          · omega
          · refine ⟨fun _ => ?_, fun z => absurd e z⟩
            rcases hx2 with ⟨h, -⟩ | ⟨b', hb', h5, h6⟩
            · exact (bad_not hb h).elim
            · have := bad_one hb hb'
              subst this
              by_cases q0 : v = 0
              · rw [if_pos q0, if_pos q0]; exact h5
              · rw [if_neg q0, if_neg q0, if_pos (by omega)]; exact h6
      · refine judgeM_e w' (hm.same hs) hv3 ha hq hl hk (by rw [hs.1 29 (by unfold PI; omega)]; exact e29) (by rw [hs.1 30 (by unfold PI; omega)]; exact e30) (fun b' hb' => ?_) (fun h => (bad_not hb h).elim)
        have := bad_one hb hb'
        subst this
        refine ⟨fun q => by rw [if_pos q], fun q => by rw [if_neg (by omega), if_pos q], fun q => by rw [if_neg (by omega), if_neg (by omega)]⟩
    · obtain ⟨rl, hrl⟩ := FirstL.ex (lawP l k (fun i => pc (onL g n i))) (lnA g n)
      refine ⟨if v = 2 then rl else -6, ?_, fun w' _ hs => ?_⟩
      · by_cases q : v = 2
        · subst q; exact judgeC_2g w hc hG hl hk e8 e9 hrl
        · rw [if_neg q]
          refine judgeC_ev w hc (by omega) (fun x hx => ?_)
          rcases hx with ⟨⟨f, hf⟩, -⟩ | ⟨-, h, -⟩ | ⟨-, -, e, hx2⟩
          · exact (fault_not hf hG.1).elim
          · have := hG.2.1
            omega
          · refine ⟨fun _ => ?_, fun z => absurd e z⟩
            rcases hx2 with ⟨-, h5, h6, -⟩ | ⟨b', hb', -⟩
            · split
              · exact h5
              · exact h6
            · exact (bad_not hb' hG.2.2).elim
      · exact judgeM_e w' (hm.same hs) hv3 hG.1 hG.2.1 hl hk (by rw [hs.1 29 (by unfold PI; omega)]; exact e29) (by rw [hs.1 30 (by unfold PI; omega)]; exact e30) (fun b' hb' => (bad_not hb' hG.2.2).elim) (fun _ => ⟨fun q => by rw [if_neg (by omega)], fun q => by rw [if_pos q]; exact hrl⟩)
  · refine ⟨-2, ?_, fun w' _ hs => ?_⟩
    · unfold F_X5_judge
      rw [X5_within, Option.bind_some, if_neg (show ¬ (0 ≤ p1.toInt ∧ p1.toInt ≤ (2 : Int32).toInt) from hp), if_pos rfl]
      exact Ok.ret ⟨Same.rf w, rfl⟩
    · unfold F_X6_judge
      rw [X6_within, Option.bind_some, if_neg (show ¬ ((0 : Int64).toInt ≤ p1.toInt ∧ p1.toInt ≤ (2 : Int64).toInt) from hp), if_pos rfl]
      exact Ok.ret ⟨Same.rf _, rfl⟩
