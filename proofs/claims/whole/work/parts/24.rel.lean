/-! what class and reference keep, and that they keep the same -/
def MayRel (ap tg my : Nat → Int32) : Prop := ∃ a t : Nat → Nat, (∀ p, p < 8 → ap p = nI (a p) ∧ tg p = nI (t p) ∧ a p < 256 ∧ t p < 256 ∧ (a p).testBit p = false ∧ (t p).testBit p = false) ∧ ∀ p, p < 8 → ∀ q, q < 8 → my (8 * p + q) = (if (a p).testBit q = true then 1 else if (t p).testBit q = true then 2 else 0) ∧ (a p).testBit q = (a q).testBit p ∧ (t p).testBit q = (t q).testBit p ∧ ¬ ((a p).testBit q = true ∧ (t p).testBit q = true)
def RR (l1 k1 c1 s1 m1 : Int32) (ap tg sc sl sm : Nat → Int32) (l2 k2 c2 s2 m2 : Int32) (my sc2 sl2 sm2 : Nat → Int32) : Prop := (l2 = l1 ∧ k2 = k1 ∧ c2 = c1 ∧ s2 = s1 ∧ m2 = m1) ∧ (∃ l, l ≤ 2 ∧ l1 = nI l) ∧ (∃ k, k ≤ 8 ∧ k1 = nI k) ∧ (∃ c, c ≤ 9 ∧ c1 = nI c) ∧ (∃ s, s ≤ 6 ∧ s1 = nI s ∧ ∀ i, i < s → sc2 i = sc i ∧ ∃ v, v < 256 ∧ sc i = nI v) ∧ (∃ m, m ≤ 6 ∧ m1 = nI m ∧ ∀ i, i < m → sl2 i = sl i ∧ sm2 i = sm i ∧ (∃ v, v < 40 ∧ sl i = nI v) ∧ ∃ v, v ≤ 8 ∧ sm i = nI v) ∧ MayRel ap tg my
def RulesRel (w : Wd) : Prop := RR (w.1 8) (w.1 9) (w.1 10) (w.1 11) (w.1 12) (w.2.1 9) (w.2.1 10) (w.2.1 11) (w.2.1 12) (w.2.1 13) (w.1 29) (w.1 30) (w.1 31) (w.1 32) (w.1 33) (w.2.1 37) (w.2.1 38) (w.2.1 39) (w.2.1 40)
def Img0Rel (w : Wd) : Prop := (w.2.1 2 0 = 0 ∧ w.2.1 51 0 = 0) ∨ (w.2.1 2 0 = 1 ∧ w.2.1 51 0 = 1 ∧ RR (w.1 13) (w.1 14) (w.1 15) (w.1 16) (w.1 17) (w.2.1 15) (w.2.1 16) (w.2.1 17) (w.2.1 18) (w.2.1 19) (w.2.1 50 0) (w.2.1 50 1) (w.2.1 50 2) (w.2.1 50 3) (w.2.1 50 4) (fun i => w.2.1 50 (5 + i)) (fun i => w.2.1 50 (69 + 3 * i)) (fun i => w.2.1 50 (70 + 3 * i)) (fun i => w.2.1 50 (71 + 3 * i)))
def Img1Rel (w : Wd) : Prop := (w.2.1 2 1 = 0 ∧ w.2.1 51 1 = 0) ∨ (w.2.1 2 1 = 1 ∧ w.2.1 51 1 = 1 ∧ RR (w.1 18) (w.1 19) (w.1 20) (w.1 21) (w.1 22) (w.2.1 21) (w.2.1 22) (w.2.1 23) (w.2.1 24) (w.2.1 25) (w.2.1 50 100) (w.2.1 50 101) (w.2.1 50 102) (w.2.1 50 103) (w.2.1 50 104) (fun i => w.2.1 50 (105 + i)) (fun i => w.2.1 50 (169 + 3 * i)) (fun i => w.2.1 50 (170 + 3 * i)) (fun i => w.2.1 50 (171 + 3 * i)))
def PadRel (w : Wd) : Prop := ∃ g n, PadC w g n ∧ PadM w g n
def Rel (w : Wd) : Prop := PadRel w ∧ RulesRel w ∧ Img0Rel w ∧ Img1Rel w
theorem RulesRel.same {w w' : Wd} (h : RulesRel w) (hs : Same w w') : RulesRel w' := by
  have e : ∀ k, PIb k = true → w'.1 k = w.1 k := fun k q => hs.1 k (PIb_iff.mpr q)
  have f : ∀ k, PAb k = true → w'.2.1 k = w.2.1 k := fun k q => hs.2 k (PAb_iff.mpr q)
  unfold RulesRel
  rw [e 8 rfl, e 9 rfl, e 10 rfl, e 11 rfl, e 12 rfl, e 29 rfl, e 30 rfl, e 31 rfl, e 32 rfl, e 33 rfl, f 9 rfl, f 10 rfl, f 11 rfl, f 12 rfl, f 13 rfl, f 37 rfl, f 38 rfl, f 39 rfl, f 40 rfl]
  exact h
theorem Rel.same {w w' : Wd} (h : Rel w) (hs : Same w w') : Rel w' := by
  obtain ⟨⟨g, n, hc, hm⟩, h2, h3, h4⟩ := h
  have e : ∀ k, PIb k = true → w'.1 k = w.1 k := fun k q => hs.1 k (PIb_iff.mpr q)
  have f : ∀ k, PAb k = true → w'.2.1 k = w.2.1 k := fun k q => hs.2 k (PAb_iff.mpr q)
  refine ⟨⟨g, n, hc.same hs, hm.same hs⟩, h2.same hs, ?_, ?_⟩
  · unfold Img0Rel
    rw [f 2 rfl, f 51 rfl, e 13 rfl, e 14 rfl, e 15 rfl, e 16 rfl, e 17 rfl, f 15 rfl, f 16 rfl, f 17 rfl, f 18 rfl, f 19 rfl, f 50 rfl]
    exact h3
  · unfold Img1Rel
    rw [f 2 rfl, f 51 rfl, e 18 rfl, e 19 rfl, e 20 rfl, e 21 rfl, e 22 rfl, f 21 rfl, f 22 rfl, f 23 rfl, f 24 rfl, f 25 rfl, f 50 rfl]
    exact h4
/-- one call on both: the same answer, and they keep the same -/
def Eqv (F G : Wd → Option (Int32 × Wd)) : Prop := ∀ w, Rel w → Ok (F w) (fun x => Ok (G x.2) (fun y => y.1 = x.1 ∧ Rel y.2))
/-- of two that change scratch alone -/
theorem Eqv.query {F G : Wd → Option (Int32 × Wd)} (h : ∀ w, Rel w → ∃ r, Ok (F w) (fun x => Same w x.2 ∧ x.1 = r) ∧ ∀ w', Rel w' → Same w w' → Ok (G w') (fun y => Same w' y.2 ∧ y.1 = r)) : Eqv F G := by
  intro w hw
  obtain ⟨r, h1, h2⟩ := h w hw
  refine h1.mono (fun x hx => ?_)
  have hr := hw.same hx.1
  exact (h2 x.2 hr hx.1).mono (fun y hy => ⟨hy.2.trans hx.2.symm, hr.same hy.1⟩)
/-! how many are on -/
def pc (m : Nat) : Nat := m % 2 + m / 2 % 2 + m / 4 % 2 + m / 8 % 2 + m / 16 % 2 + m / 32 % 2 + m / 64 % 2 + m / 128 % 2
theorem pc_in : ∀ m, m < 256 → ∀ p, p < 8 → m.testBit p = false → pc (m ^^^ 2 ^ p) = pc m + 1 := by decide +kernel
theorem pc_out : ∀ m, m < 256 → ∀ p, p < 8 → m.testBit p = true → pc (m ^^^ 2 ^ p) + 1 = pc m := by decide +kernel
theorem pc_le (m : Nat) : pc m ≤ 8 := by unfold pc; omega
theorem manyA_pc {g dg : Nat → Nat} {n : Nat} (hall : allOk g n) (hd : ∀ j, dg j < 8) (hgood : allGood (evA g dg) n) : ∀ i, i ≤ n → manyA g i = nI (pc (mskA (evA g dg) i)) := by
  have hok := evA_ok hall hd
  intro i
  induction i with
  | zero => intro _; show nI (0 + 0) - nI 0 = nI (pc 0); decide
  | succ i ih =>
    intro hi
    have h1 := ih (by omega)
    have hm := mskA_lt hok i (by omega)
    have hb := hgood i (by omega)
    have hl := evA_line hall hd (i := i) (by omega)
    have hc := evA_come hall hd (i := i) (by omega)
    have ho := hall i (by omega)
    have he := hok i (by omega)
    rw [manyA_s]
    simp only [mskA]
    by_cases e : evA g dg i = 32
    · have := hl.mp e
      rw [if_pos e, if_neg (by omega), if_neg (by omega)]
      exact h1
    · have hg : ¬ g i = 46 := fun q => e (hl.mpr q)
      rw [if_neg e]
      by_cases h16 : evA g dg i < 16
      · have hp : evA g dg i < 8 := by omega
        have hpe : evA g dg i % 16 = evA g dg i := by omega
        rw [if_pos (hc.mp h16), h1, hpe]
        have hz : (mskA (evA g dg) i).testBit (evA g dg i) = false := by
          have : ¬ (mskA (evA g dg) i).testBit (evA g dg i) = true := fun q => hb ⟨e, by rw [hpe, q, decide_eq_true h16]⟩
          simpa using this
        rw [pc_in _ hm _ hp hz, nI_1]
      · have hp : evA g dg i % 16 < 8 := by omega
        have h97 : 97 ≤ g i ∧ g i ≤ 104 := by
          have : ¬ ((65 ≤ g i ∧ g i ≤ 72) ∨ g i = 63) := fun q => h16 (hc.mpr q)
          rcases ho with q | q | q | q <;> omega
        rw [if_neg (by omega), if_pos h97, h1]
        have hz : (mskA (evA g dg) i).testBit (evA g dg i % 16) = true := by
          have : ¬ (mskA (evA g dg) i).testBit (evA g dg i % 16) = false := fun q => hb ⟨e, by rw [q, decide_eq_false h16]⟩
          simpa using this
        have := pc_out _ hm _ hp hz
        rw [← this]
        exact pk_m1 _
theorem atG_map {α β : Type} {d : α} {d' : β} {f : Nat → α} {f' : Nat → β} {g : Nat → Nat} {n : Nat} {c : β → α} (h : ∀ i, i < n → f i = c (f' i)) : ∀ l, l < lnA g n → atG d f g n l = c (atG d' f' g n l) := by
  induction n with
  | zero => intro l hl; exact absurd hl (Nat.not_lt_zero _)
  | succ n ih =>
    intro l hl
    have ih' := ih (fun i hi => h i (by omega))
    by_cases e : g n = 46
    · rw [lnA_y e] at hl
      simp only [atG, if_pos e]
      by_cases q : l = lnA g n
      · rw [if_pos q, if_pos q]; exact h n (by omega)
      · rw [if_neg q, if_neg q]; exact ih' l (by omega)
    · rw [lnA_n e] at hl
      rw [atG_n e, atG_n e]
      exact ih' l hl
theorem atG_all {α : Type} {d : α} {f : Nat → α} {g : Nat → Nat} {n : Nat} {P : α → Prop} (h : ∀ i, i < n → P (f i)) : ∀ l, l < lnA g n → P (atG d f g n l) := by
  induction n with
  | zero => intro l hl; exact absurd hl (Nat.not_lt_zero _)
  | succ n ih =>
    intro l hl
    have ih' := ih (fun i hi => h i (by omega))
    by_cases e : g n = 46
    · rw [lnA_y e] at hl
      simp only [atG, if_pos e]
      by_cases q : l = lnA g n
      · rw [if_pos q]; exact h n (by omega)
      · rw [if_neg q]; exact ih' l (by omega)
    · rw [lnA_n e] at hl
      rw [atG_n e]
      exact ih' l hl
/-! the refusals -/
def onL (g : Nat → Nat) (n l : Nat) : Nat := atG 0 (mskA (ev0 g)) g n l
def Good (g : Nat → Nat) (n : Nat) : Prop := allOk g n ∧ mkA g n = 0 ∧ allGood (ev0 g) n
def RefN (g : Nat → Nat) (n : Nat) (r : Int32) : Prop := ((∃ f, isFault g n f) ∧ r = -5) ∨ (allOk g n ∧ 0 < mkA g n ∧ r = -3) ∨ (allOk g n ∧ mkA g n = 0 ∧ (∃ b, isBad (ev0 g) n b) ∧ r = -5)
theorem first_or {n : Nat} (P : Nat → Prop) : (∀ j, j < n → P j) ∨ ∃ f, f < n ∧ ¬ P f ∧ ∀ j, j < f → P j := by
  induction n with
  | zero => exact Or.inl (fun j hj => absurd hj (Nat.not_lt_zero _))
  | succ n ih =>
    rcases ih with h | ⟨f, h1, h2⟩
    · by_cases hp : P n
      · exact Or.inl (fun j hj => by
          by_cases e : j = n
          · rw [e]; exact hp
          · exact h j (by omega))
      · exact Or.inr ⟨n, by omega, hp, h⟩
    · exact Or.inr ⟨f, by omega, h2⟩
theorem ref_cases (g : Nat → Nat) (n : Nat) : Good g n ∨ ∃ r, RefN g n r ∧ ¬ r = 0 ∧ ¬ r = -6 := by
  rcases first_or (n := n) (okS g) with h | ⟨f, h1, h2, h3⟩
  · by_cases hm : mkA g n = 0
    · rcases first_or (n := n) (fun j => ¬ badE (ev0 g) j) with h4 | ⟨b, h1, h2, h3⟩
      · exact Or.inl ⟨h, hm, h4⟩
      · exact Or.inr ⟨-5, Or.inr (Or.inr ⟨h, hm, ⟨b, h1, Classical.not_not.mp h2, h3⟩, rfl⟩), by decide, by decide⟩
    · exact Or.inr ⟨-3, Or.inr (Or.inl ⟨h, by omega, rfl⟩), by decide, by decide⟩
  · exact Or.inr ⟨-5, Or.inl ⟨⟨f, h1, h2, h3⟩, rfl⟩, by decide, by decide⟩
theorem fault_not {g : Nat → Nat} {n f : Nat} (h : isFault g n f) (h2 : allOk g n) : False := h.2.1 (h2 f h.1)
theorem bad_not {ev : Nat → Nat} {n b : Nat} (h : isBad ev n b) (h2 : allGood ev n) : False := h2 b h.1 h.2.1
theorem fault_one {g : Nat → Nat} {n f f' : Nat} (h : isFault g n f) (h' : isFault g n f') : f = f' := by
  rcases Nat.lt_trichotomy f f' with q | q | q
  · exact absurd (h'.2.2 f q) h.2.1
  · exact q
  · exact absurd (h.2.2 f' q) h'.2.1
theorem bad_one {ev : Nat → Nat} {n b b' : Nat} (h : isBad ev n b) (h' : isBad ev n b') : b = b' := by
  rcases Nat.lt_trichotomy b b' with q | q | q
  · exact absurd h.2.1 (h'.2.2 b q)
  · exact q
  · exact absurd h'.2.1 (h.2.2 b' q)
theorem dig0 (A : Nat) : digA A 0 = fun _ => 0 := by
  funext j
  unfold digA
  rw [Nat.zero_div]
/-- the lines, as the class has them -/
def LinesC (w : Wd) (g : Nat → Nat) (n : Nat) : Prop := w.1 4 = nI (lnA g n) ∧ w.1 3 = nI (cmA g n) ∧ (∀ l, l < lnA g n → w.2.1 6 l = nI (pc (onL g n l))) ∧ ∀ l, l < lnA g n → w.2.1 7 l = nI (onL g n l)
/-- as the reference has them -/
def LinesM (w : Wd) (g : Nat → Nat) (n : Nat) : Prop := w.1 35 = nI (lnA g n) ∧ w.1 36 = nI (cmA g n) ∧ ∀ l, l < lnA g n → w.2.1 43 l = nI (onL g n l)
theorem onL_lt {g : Nat → Nat} {n : Nat} (hall : allOk g n) : ∀ l, l < lnA g n → onL g n l < 256 :=
  atG_all (P := fun m => m < 256) (fun i hi => mskA_lt (n := n) (evA_ok hall (fun _ => Nat.zero_lt_succ _)) i (Nat.le_of_lt hi))
/-- what the class knows behind its refusal of events -/
def EvC (x : Int32 × Wd) (g : Nat → Nat) (n : Nat) : Prop := ((∃ f, isFault g n f) ∧ x.1 = -5) ∨ (allOk g n ∧ 0 < mkA g n ∧ x.1 = -3) ∨ (allOk g n ∧ mkA g n = 0 ∧ x.1 = 0 ∧ ((allGood (ev0 g) n ∧ x.2.1 5 = -6 ∧ x.2.1 6 = -6 ∧ LinesC x.2 g n) ∨ (∃ b, isBad (ev0 g) n b ∧ x.2.1 5 = nI b ∧ x.2.1 6 = if ev0 g b < 16 then 1 else 2)))
theorem refE_ok (w : Wd) {g : Nat → Nat} {n : Nat} (hp : PadC w g n) : Ok (F_X5_refusalOfEvents w) (fun x => Same w x.2 ∧ EvC x g n) := by
  have hn : n ≤ 40 := hp.2.1
  unfold F_X5_refusalOfEvents
  refine Ok.bind (survey_ok w hp) ?_
  rintro w1 ⟨hs, hc⟩
  rcases hc with ⟨f, hf, h1⟩ | ⟨hall, h1, h2, h3, h4, h6⟩
  · have := hf.1
    rw [if_neg (by rw [h1]; simp (disch := omega) only [Int32.le_iff_toInt_le, Int32.lt_iff_toInt_lt, ← Int32.toInt_inj, nI_toInt, Int32.reduceToInt]; omega)]
    exact Ok.ret ⟨hs, Or.inl ⟨⟨f, hf⟩, rfl⟩⟩
  · have hm := mkA_le g n
    rw [if_pos h1, h2]
    by_cases hz : mkA g n = 0
    · rw [if_pos (by simp (disch := omega) only [Int32.le_iff_toInt_le, Int32.lt_iff_toInt_lt, ← Int32.toInt_inj, nI_toInt, Int32.reduceToInt]; omega)]
      have hpf := perform_ok w1 (way := 0) (hp.same hs) hall h2 (by decide)
      rw [dig0] at hpf
      refine Ok.bind hpf ?_
      rintro w2 ⟨hs2, hc2⟩
      refine Ok.ret ⟨hs.tr (hs2.same rfl rfl), Or.inr (Or.inr ⟨hall, hz, rfl, ?_⟩)⟩
      rcases hc2 with ⟨hgood, h5, h6', h7, h8⟩ | ⟨b, hb, h5, h6', h7⟩
      · refine Or.inl ⟨hgood, h5, h6', ?_, ?_, ?_, h8⟩
        · rw [hs2.1 4 (by decide)]; exact h4
        · rw [hs2.1 3 (by decide)]; exact h3
        · intro l hl
          rw [hs2.2 6 (by decide), h6 l hl]
          exact atG_map (c := fun m => nI (pc m)) (fun i hi => manyA_pc hall (fun _ => by decide) hgood i (by omega)) l hl
      · exact Or.inr ⟨b, hb, h5, h6'⟩
    · rw [if_neg (by simp (disch := omega) only [Int32.le_iff_toInt_le, Int32.lt_iff_toInt_lt, ← Int32.toInt_inj, nI_toInt, Int32.reduceToInt]; omega)]
      exact Ok.ret ⟨hs, Or.inr (Or.inl ⟨hall, by omega, rfl⟩)⟩
theorem refL_good (w : Wd) {g : Nat → Nat} {n : Nat} (hp : PadC w g n) (hG : Good g n) : Ok (F_X5_refusalOfLines w) (fun x => Same w x.2 ∧ x.1 = 0 ∧ LinesC x.2 g n) := by
  unfold F_X5_refusalOfLines
  refine Ok.bind (refE_ok w hp) ?_
  rintro ⟨r, w1⟩ ⟨hs, hc⟩
  rcases hc with ⟨⟨f, hf⟩, -⟩ | ⟨-, h, -⟩ | ⟨-, -, h0, ⟨-, h5, -, hl⟩ | ⟨b, hb, -⟩⟩
  · exact (fault_not hf hG.1).elim
  · have := hG.2.1
    omega
  · dsimp only at h0 h5 hl hs ⊢
    rw [h0, if_pos rfl, if_pos h5]
    exact Ok.ret ⟨hs, rfl, hl⟩
  · exact (bad_not hb hG.2.2).elim
theorem refL_no (w : Wd) {g : Nat → Nat} {n : Nat} {r : Int32} (hp : PadC w g n) (hN : RefN g n r) : Ok (F_X5_refusalOfLines w) (fun x => Same w x.2 ∧ x.1 = r) := by
  have hn : n ≤ 40 := hp.2.1
  unfold F_X5_refusalOfLines
  refine Ok.bind (refE_ok w hp) ?_
  rintro ⟨r1, w1⟩ ⟨hs, hc⟩
  dsimp only at hs ⊢
  rcases hc with ⟨⟨f, hf⟩, e⟩ | ⟨ha, hm, e⟩ | ⟨ha, hm, e, hc2⟩
  · dsimp only at e
    subst e
    rw [if_neg (by decide)]
    refine Ok.ret ⟨hs, ?_⟩
    rcases hN with ⟨-, e⟩ | ⟨h, -⟩ | ⟨h, -⟩
    · exact e.symm
    · exact (fault_not hf h).elim
    · exact (fault_not hf h).elim
  · dsimp only at e
    subst e
    rw [if_neg (by decide)]
    refine Ok.ret ⟨hs, ?_⟩
    rcases hN with ⟨⟨f, hf⟩, -⟩ | ⟨-, -, e⟩ | ⟨-, h, -⟩
    · exact (fault_not hf ha).elim
    · exact e.symm
    · omega
  · dsimp only at e hc2
    subst e
    rw [if_pos rfl]
    rcases hN with ⟨⟨f, hf⟩, -⟩ | ⟨-, h, -⟩ | ⟨-, -, ⟨b, hb⟩, e⟩
    · exact (fault_not hf ha).elim
    · omega
    · rcases hc2 with ⟨hg, -⟩ | ⟨b', hb', h5, -⟩
      · exact (bad_not hb hg).elim
      · have := hb'.1
        rw [if_neg (by rw [h5]; simp (disch := omega) only [Int32.le_iff_toInt_le, Int32.lt_iff_toInt_lt, ← Int32.toInt_inj, nI_toInt, Int32.reduceToInt]; omega)]
        exact Ok.ret ⟨hs, e.symm⟩
theorem mk0 {g : Nat → Nat} {n : Nat} (h : mkA g n = 0) : ∀ i, i < n → g i ≠ 63 := by
  intro i hi q
  have h1 := mkA_y q
  have h2 := mkA_mono g (show i + 1 ≤ n from hi)
  omega
theorem goM_ok (w : Wd) {g : Nat → Nat} {n : Nat} (hp : PadM w g n) (hall : allOk g n) (hm : mkA g n = 0) : Ok ((F_X6_layEvents w).bind fun x => F_X6_go x) (fun x => Same w x.2 ∧ ((allGood (ev0 g) n ∧ x.1 = 1 ∧ x.2.1 37 = -6 ∧ x.2.1 38 = -6 ∧ LinesM x.2 g n) ∨ (∃ b, isBad (ev0 g) n b ∧ x.1 = 0 ∧ x.2.1 37 = nI b ∧ x.2.1 38 = if ev0 g b < 16 then 1 else 2))) := by
  refine Ok.bind (layEvents_ok w hp hall) ?_
  rintro w1 ⟨hs, hev⟩
  have hd : ∀ j : Nat, (fun _ => 0 : Nat → Nat) j < 8 := fun _ => Nat.zero_lt_succ _
  refine (go_ok w1 (g := g) (ev := ev0 g) hp.2.1 (by rw [hs.1 34 (by decide)]; exact hp.1) (fun i hi => hev i hi (mk0 hm i hi)) (evA_ok hall hd) (fun i hi => evA_line hall hd hi) (fun i hi => evA_come hall hd hi)).mono ?_
  rintro x ⟨hs2, hc⟩
  refine ⟨(hs.same rfl rfl).tr (hs2.same rfl rfl), ?_⟩
  rcases hc with ⟨h1, h2, h3, h4, h5, h6, h7⟩ | hb
  · refine Or.inl ⟨h1, h2, h3, h4, h5, ?_, h7⟩
    rw [h6, hm]
    rfl
  · exact Or.inr hb
theorem refM_good (w : Wd) {g : Nat → Nat} {n : Nat} (hp : PadM w g n) (hG : Good g n) : Ok (F_X6_refusal w) (fun x => Same w x.2 ∧ x.1 = -6 ∧ LinesM x.2 g n) := by
  unfold F_X6_refusal
  refine Ok.bind (faultM_ok w hp) ?_
  rintro ⟨r, w1⟩ ⟨e, hc⟩
  dsimp only at e hc ⊢
  subst e
  rcases hc with ⟨f, hf, -⟩ | ⟨-, rfl⟩
  · exact (fault_not hf hG.1).elim
  · rw [if_pos (by decide), marks_eq hp, Option.bind_some]
    dsimp only
    rw [hG.2.1, if_pos (by decide)]
    obtain ⟨x, h1, h2, h3⟩ := goM_ok w1 hp hG.1 hG.2.1
    obtain ⟨y, h4, h5⟩ := obind h1
    rw [h4, Option.bind_some, h5, Option.bind_some]
    rcases h3 with ⟨-, e1, -, -, hl⟩ | ⟨b, hb, -⟩
    · rw [e1, if_neg (by decide)]
      exact Ok.ret ⟨h2, rfl, hl⟩
    · exact (bad_not hb hG.2.2).elim
theorem refM_no (w : Wd) {g : Nat → Nat} {n : Nat} {r : Int32} (hp : PadM w g n) (hN : RefN g n r) : Ok (F_X6_refusal w) (fun x => Same w x.2 ∧ x.1 = r) := by
  have hn : n ≤ 40 := hp.2.1
  unfold F_X6_refusal
  refine Ok.bind (faultM_ok w hp) ?_
  rintro ⟨r1, w1⟩ ⟨e, hc⟩
  dsimp only at e hc ⊢
  subst e
  rcases hc with ⟨f, hf, e⟩ | ⟨ha, rfl⟩
  · have := hf.1
    rw [if_neg (by rw [e]; simp (disch := omega) only [Int32.le_iff_toInt_le, Int32.lt_iff_toInt_lt, ← Int32.toInt_inj, nI_toInt, Int32.reduceToInt]; omega)]
    refine Ok.ret ⟨Same.rf _, ?_⟩
    rcases hN with ⟨-, e⟩ | ⟨h, -⟩ | ⟨h, -⟩
    · exact e.symm
    · exact (fault_not hf h).elim
    · exact (fault_not hf h).elim
  · rw [if_pos (by decide), marks_eq hp, Option.bind_some]
    dsimp only
    have hm := mkA_le g n
    rcases hN with ⟨⟨f, hf⟩, -⟩ | ⟨-, h, e⟩ | ⟨-, h, ⟨b, hb⟩, e⟩
    · exact (fault_not hf ha).elim
    · rw [if_neg (by simp (disch := omega) only [Int32.le_iff_toInt_le, Int32.lt_iff_toInt_lt, ← Int32.toInt_inj, nI_toInt, Int32.reduceToInt]; omega)]
      exact Ok.ret ⟨Same.rf _, e.symm⟩
    · rw [h, if_pos (by decide)]
      obtain ⟨x, h1, h2, h3⟩ := goM_ok w1 hp ha h
      obtain ⟨y, h4, h5⟩ := obind h1
      rw [h4, Option.bind_some, h5, Option.bind_some]
      rcases h3 with ⟨hg, -⟩ | ⟨b', hb', e1, -⟩
      · exact (bad_not hb hg).elim
      · rw [e1, if_pos rfl]
        exact Ok.ret ⟨h2, e.symm⟩
