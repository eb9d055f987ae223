/-! events: who comes and who goes -/
def Fr (I A : List Nat) (w w' : Wd) : Prop := (∀ k, k ∉ I → w'.1 k = w.1 k) ∧ ∀ k, k ∉ A → w'.2.1 k = w.2.1 k
theorem Fr.rf (I A : List Nat) (w : Wd) : Fr I A w w := ⟨fun _ _ => rfl, fun _ _ => rfl⟩
theorem Fr.wI {I A : List Nat} {a b : Wd} (h : Fr I A a b) {k : Nat} {v : Int32} (hk : k ∈ I) : Fr I A a (wI b k v) := by
  refine ⟨fun j q => ?_, h.2⟩
  have hj : ¬ j = k := fun e => q (e ▸ hk)
  rw [rI_i, if_neg hj]
  exact h.1 j q
theorem Fr.wA {I A : List Nat} {a b : Wd} (h : Fr I A a b) {k : Nat} {i v : Int32} (hk : k ∈ A) : Fr I A a (wA b k i v) := by
  refine ⟨h.1, fun j q => ?_⟩
  have hj : ¬ j = k := fun e => q (e ▸ hk)
  rw [rA_a, if_neg hj]
  exact h.2 j q
theorem Fr.wR {I A : List Nat} {a b : Wd} (h : Fr I A a b) {k : Nat} {f : Nat → Int32} (hk : k ∈ A) : Fr I A a (wR b k f) := by
  refine ⟨h.1, fun j q => ?_⟩
  have hj : ¬ j = k := fun e => q (e ▸ hk)
  rw [rR_a, if_neg hj]
  exact h.2 j q
theorem Fr.wL {I A : List Nat} {a b : Wd} (h : Fr I A a b) {k : Nat} {i : Int32} {v : Int64} : Fr I A a (wL b k i v) := h
theorem Fr.tr {I A : List Nat} {a b c : Wd} (h : Fr I A a b) (g : Fr I A b c) : Fr I A a c := ⟨fun k q => (g.1 k q).trans (h.1 k q), fun k q => (g.2 k q).trans (h.2 k q)⟩
theorem Fr.mono {I A I' A' : List Nat} {a b : Wd} (h : Fr I A a b) (hI : ∀ k, k ∈ I → k ∈ I') (hA : ∀ k, k ∈ A → k ∈ A') : Fr I' A' a b := ⟨fun k q => h.1 k (fun e => q (hI k e)), fun k q => h.2 k (fun e => q (hA k e))⟩
def PIb (k : Nat) : Bool := k == 0 || (decide (8 ≤ k) && decide (k ≤ 22)) || (decide (29 ≤ k) && decide (k ≤ 34))
def PAb (k : Nat) : Bool := k == 2 || k == 5 || (decide (9 ≤ k) && decide (k ≤ 25)) || (decide (37 ≤ k) && decide (k ≤ 41)) || k == 50 || k == 51
theorem PIb_iff {k : Nat} : PI k ↔ PIb k = true := by
  unfold PI PIb
  simp only [Bool.or_eq_true, Bool.and_eq_true, decide_eq_true_eq, beq_iff_eq]
  omega
theorem PAb_iff {k : Nat} : PA k ↔ PAb k = true := by
  unfold PA PAb
  simp only [Bool.or_eq_true, Bool.and_eq_true, decide_eq_true_eq, beq_iff_eq]
  omega
theorem Fr.same {I A : List Nat} {w w' : Wd} (h : Fr I A w w') (hI : I.all (fun k => !PIb k) = true) (hA : A.all (fun k => !PAb k) = true) : Same w w' := by
  refine ⟨fun k q => h.1 k (fun e => ?_), fun k q => h.2 k (fun e => ?_)⟩
  · have h1 := List.all_eq_true.mp hI k e
    rw [PIb_iff.mp q] at h1
    cases h1
  · have h1 := List.all_eq_true.mp hA k e
    rw [PAb_iff.mp q] at h1
    cases h1
/-! bits of eight -/
theorem bit_1 : ∀ p, p < 8 → (1 : Int32) <<< (nI p &&& 31) = nI (2 ^ p) := by decide +kernel
theorem bit_and : ∀ m, m < 256 → ∀ p, p < 8 → (nI m &&& nI (2 ^ p) = 0 ↔ m.testBit p = false) := by decide +kernel
theorem bit_xor : ∀ m, m < 256 → ∀ p, p < 8 → nI m ^^^ nI (2 ^ p) = nI (m ^^^ 2 ^ p) := by decide +kernel
theorem bit_or : ∀ m, m < 256 → ∀ p, p < 8 → m.testBit p = false → nI m ||| nI (2 ^ p) = nI (m ^^^ 2 ^ p) := by decide +kernel
theorem bit_out : ∀ m, m < 256 → ∀ p, p < 8 → m.testBit p = true → nI m &&& (nI (2 ^ p) ^^^ (-1)) = nI (m ^^^ 2 ^ p) := by decide +kernel
theorem bit_lt : ∀ m, m < 256 → ∀ p, p < 8 → m ^^^ 2 ^ p < 256 := by decide +kernel
def mskA (ev : Nat → Nat) : Nat → Nat
  | 0 => 0
  | i + 1 => if ev i = 32 then mskA ev i else mskA ev i ^^^ 2 ^ (ev i % 16)
def badE (ev : Nat → Nat) (i : Nat) : Prop := ev i ≠ 32 ∧ (mskA ev i).testBit (ev i % 16) = decide (ev i < 16)
def isBad (ev : Nat → Nat) (n b : Nat) : Prop := b < n ∧ badE ev b ∧ ∀ j, j < b → ¬ badE ev j
def allGood (ev : Nat → Nat) (n : Nat) : Prop := ∀ j, j < n → ¬ badE ev j
def evOk (ev : Nat → Nat) (n : Nat) : Prop := ∀ i, i < n → ev i = 32 ∨ ev i < 8 ∨ (16 ≤ ev i ∧ ev i < 24)
theorem mskA_lt {ev : Nat → Nat} {n : Nat} (h : evOk ev n) : ∀ i, i ≤ n → mskA ev i < 256 := by
  intro i
  induction i with
  | zero => intro _; exact Nat.le_of_ble_eq_true rfl
  | succ i ih =>
    intro hi
    have h1 := ih (by omega)
    simp only [mskA]
    by_cases e : ev i = 32
    · rw [if_pos e]; exact h1
    · rw [if_neg e]
      rcases h i (by omega) with q | q | q
      · exact absurd q e
      · exact bit_lt _ h1 _ (by omega)
      · exact bit_lt _ h1 _ (by omega)
theorem allGood_s {ev : Nat → Nat} {i : Nat} (h : allGood ev i) (h1 : ¬ badE ev i) : allGood ev (i + 1) := fun j hj => by
  by_cases e : j = i
  · rw [e]; exact h1
  · exact h j (by omega)
/-- the event that a sign is, a ? being who dg says -/
def evA (g dg : Nat → Nat) (i : Nat) : Nat := if g i = 46 then 32 else if 97 ≤ g i then 16 + (g i - 97) else if g i = 63 then dg (mkA g i) else g i - 65
theorem evA_ok {g dg : Nat → Nat} {n : Nat} (h : allOk g n) (hd : ∀ j, dg j < 8) : evOk (evA g dg) n := by
  intro i hi
  unfold evA
  rcases h i hi with q | q | q | q
  · rw [if_pos q]; exact Or.inl rfl
  · rw [if_neg (by omega), if_neg (by omega), if_pos q.1]; exact Or.inr (Or.inl (hd _))
  · rw [if_neg (by omega), if_neg (by omega), if_neg (by omega)]; exact Or.inr (Or.inl (by omega))
  · rw [if_neg (by omega), if_pos (by omega)]; exact Or.inr (Or.inr (by omega))
theorem evA_line {g dg : Nat → Nat} {n : Nat} (h : allOk g n) (hd : ∀ j, dg j < 8) {i : Nat} (hi : i < n) : evA g dg i = 32 ↔ g i = 46 := by
  unfold evA
  rcases h i hi with q | q | q | q
  · rw [if_pos q]; exact ⟨fun _ => q, fun _ => rfl⟩
  · rw [if_neg (by omega), if_neg (by omega), if_pos q.1]
    have := hd (mkA g i)
    omega
  · rw [if_neg (by omega), if_neg (by omega), if_neg (by omega)]; omega
  · rw [if_neg (by omega), if_pos (by omega)]; omega
theorem evA_come {g dg : Nat → Nat} {n : Nat} (h : allOk g n) (hd : ∀ j, dg j < 8) {i : Nat} (hi : i < n) : evA g dg i < 16 ↔ ((65 ≤ g i ∧ g i ≤ 72) ∨ g i = 63) := by
  unfold evA
  rcases h i hi with q | q | q | q
  · rw [if_pos q]; omega
  · rw [if_neg (by omega), if_neg (by omega), if_pos q.1]
    have := hd (mkA g i)
    omega
  · rw [if_neg (by omega), if_neg (by omega), if_neg (by omega)]; omega
  · rw [if_neg (by omega), if_pos (by omega)]; omega
/-! the reference: go -/
theorem go_ok (w : Wd) {g ev : Nat → Nat} {n : Nat} (hn : n ≤ 40) (h34 : w.1 34 = nI n) (hev : ∀ i, i < n → w.2.1 42 i = nI (ev i)) (hok : evOk ev n) (hl : ∀ i, i < n → (ev i = 32 ↔ g i = 46)) (hc : ∀ i, i < n → (ev i < 16 ↔ ((65 ≤ g i ∧ g i ≤ 72) ∨ g i = 63))) :
    Ok (F_X6_go w) (fun x => Fr [35, 36, 37, 38] [43] w x.2 ∧ ((allGood ev n ∧ x.1 = 1 ∧ x.2.1 37 = -6 ∧ x.2.1 38 = -6 ∧ x.2.1 35 = nI (lnA g n) ∧ x.2.1 36 = nI (cmA g n + mkA g n) ∧ ∀ l, l < lnA g n → x.2.2.1 43 l = nI (atG 0 (mskA ev) g n l)) ∨ (∃ b, isBad ev n b ∧ x.1 = 0 ∧ x.2.1 37 = nI b ∧ x.2.1 38 = if ev b < 16 then 1 else 2))) := by
  unfold F_X6_go L_X6_go_26
  refine Ok.loop (fun a => ∃ i, i ≤ n ∧ Fr [35, 36, 37, 38] [43] w a.1 ∧ a.2.2 = nI i ∧ ((allGood ev i ∧ a.2.1 = nI (mskA ev i) ∧ a.1.1 37 = -6 ∧ a.1.1 38 = -6 ∧ a.1.1 35 = nI (lnA g i) ∧ a.1.1 36 = nI (cmA g i + mkA g i) ∧ ∀ l, l < lnA g i → a.1.2.1 43 l = nI (atG 0 (mskA ev) g i l)) ∨ (∃ b, isBad ev n b ∧ a.1.1 37 = nI b ∧ a.1.1 38 = if ev b < 16 then 1 else 2))) (fun a => 41 - a.2.2.toNatClampNeg) ?_ fu _ ?_ (fu_big (by show 41 - _ < _; omega))
  · rintro ⟨w1, v1, v2⟩ ⟨i, hi, hs, rfl, hcase⟩ k hk
    dsimp only at hs hcase hk ⊢
    have e0 : w1.1 34 = nI n := by rw [hs.1 34 (by decide)]; exact h34
    unfold F_X6_go_26
    rw [e0]
    refine Ok.ite (fun c => ?_) (fun c => ?_)
    · simp (disch := omega) only [Int32.le_iff_toInt_le, Int32.lt_iff_toInt_lt, ← Int32.toInt_inj, nI_toInt, Int32.reduceToInt] at c
      have e : i = n := by omega
      subst e
      unfold F_X6_go_207
      rcases hcase with ⟨h1, h2, h3, h4⟩ | ⟨b, hb, hb1, hb2⟩
      · rw [h3, if_neg (by decide)]
        exact Ok.gu rfl (Ok.ret ⟨hs, Or.inl ⟨h1, rfl, h3, h4⟩⟩)
      · have := hb.1
        rw [hb1, if_pos (by simp (disch := omega) only [Int32.le_iff_toInt_le, Int32.lt_iff_toInt_lt, ← Int32.toInt_inj, nI_toInt, Int32.reduceToInt]; omega)]
        exact Ok.gu rfl (Ok.ret ⟨hs, Or.inr ⟨b, hb, rfl, hb1, hb2⟩⟩)
    · simp (disch := omega) only [Int32.le_iff_toInt_le, Int32.lt_iff_toInt_lt, ← Int32.toInt_inj, nI_toInt, Int32.reduceToInt] at c
      have hin : i < n := by omega
      refine Ok.ite (fun c1 => ?_) (fun c1 => ?_)
      · unfold F_X6_go_207
        rcases hcase with ⟨h1, h2, h3, h4⟩ | ⟨b, hb, hb1, hb2⟩
        · rw [h3] at c1
          exact absurd c1 (by decide)
        · have := hb.1
          rw [if_pos c1]
          exact Ok.gu rfl (Ok.ret ⟨hs, Or.inr ⟨b, hb, rfl, hb1, hb2⟩⟩)
      · rcases hcase with ⟨hall, rfl, h37, h38, h35, h36, hat⟩ | ⟨b, hb, hb1, hb2⟩
        · have hl1 := lnA_le g i
          have hc1 := cmA_le g i
          have hm1 := mkA_le g i
          have hm := mskA_lt hok i (by omega)
          have hei : w1.2.1 42 i = nI (ev i) := by rw [hs.2 42 (by decide)]; exact hev i hin
          refine Ok.gu (gd_nI (by omega) (by omega)) ?_
          rw [cl_nI (by omega), hei]
          by_cases hL : ev i = 32
          · have hg : g i = 46 := (hl i hin).mp hL
            rw [if_pos (by rw [hL]; rfl), h35]
            refine Ok.gu (gd_nI (by omega) (by omega)) ?_
            unfold F_X6_go_201
            rw [nI_1, nI_1]
            refine hk _ ⟨i + 1, by omega, (hs.wA (by decide)).wI (by decide), rfl, Or.inl ⟨allGood_s hall (fun q => q.1 hL), ?_, ?_, ?_, ?_, ?_, ?_⟩⟩ (by dsimp only; rw [cl_nI (by omega), cl_nI (by omega)]; omega)
            · simp only [mskA, if_pos hL]
            · simp only [rI_i, rI_a, rI_l, rA_i, rA_a, rA_l, rR_i, rR_a, rR_l, rL_i, rL_a, rL_l, reduceIte, Nat.reduceEqDiff]; exact h37
            · simp only [rI_i, rI_a, rI_l, rA_i, rA_a, rA_l, rR_i, rR_a, rR_l, rL_i, rL_a, rL_l, reduceIte, Nat.reduceEqDiff]; exact h38
            · rw [lnA_y hg]; simp only [rI_i, rI_a, rI_l, rA_i, rA_a, rA_l, rR_i, rR_a, rR_l, rL_i, rL_a, rL_l, reduceIte, Nat.reduceEqDiff]
            · rw [cmA_n (by omega), mkA_n (by omega)]; simp only [rI_i, rI_a, rI_l, rA_i, rA_a, rA_l, rR_i, rR_a, rR_l, rL_i, rL_a, rL_l, reduceIte, Nat.reduceEqDiff]; exact h36
            · simp only [rI_i, rI_a, rI_l, rA_i, rA_a, rA_l, rR_i, rR_a, rR_l, rL_i, rL_a, rL_l, reduceIte, Nat.reduceEqDiff]; rw [cl_nI (by omega)]; exact atG_put hg hat rfl
          · have hg : ¬ g i = 46 := fun q => hL ((hl i hin).mpr q)
            have hr := hok i hin
            have hp : ev i % 16 < 8 := by omega
            have hne : ¬ nI (ev i) = 32 := by simp (disch := omega) only [Int32.le_iff_toInt_le, Int32.lt_iff_toInt_lt, ← Int32.toInt_inj, nI_toInt, Int32.reduceToInt]; omega
            rw [if_neg hne]
            refine Ok.let (fun y1 e1 => ?_)
            rw [show (nI (ev i) - nI (ev i) / 16 * 16 : Int32) = nI (ev i % 16) from pk_rem (d := 16) (by omega) (by omega) (by omega), bit_1 _ hp] at e1
            subst e1
            refine Ok.let (fun y2 e2 => ?_)
            refine Ok.let (fun y3 e3 => ?_)
            have hcan : (y3 = 0 ∧ badE ev i) ∨ (y3 = 1 ∧ ¬ badE ev i) := by
              subst e2
              unfold badE
              have hb := bit_and _ hm _ hp
              by_cases h16 : ev i < 16
              · rw [if_neg (by simp (disch := omega) only [Int32.le_iff_toInt_le, Int32.lt_iff_toInt_lt, ← Int32.toInt_inj, nI_toInt, Int32.reduceToInt]; omega)] at e3
                by_cases hz : (mskA ev i).testBit (ev i % 16) = false
                · rw [if_pos (hb.mpr hz), if_pos rfl] at e3
                  refine Or.inr ⟨e3, fun q => ?_⟩
                  have := q.2
                  rw [hz, decide_eq_true h16] at this
                  cases this
                · rw [if_neg (fun q => hz (hb.mp q)), if_neg (by decide)] at e3
                  refine Or.inl ⟨e3, hL, ?_⟩
                  rw [decide_eq_true h16]
                  simpa using hz
              · rw [if_pos (by simp (disch := omega) only [Int32.le_iff_toInt_le, Int32.lt_iff_toInt_lt, ← Int32.toInt_inj, nI_toInt, Int32.reduceToInt]; omega)] at e3
                by_cases hz : (mskA ev i).testBit (ev i % 16) = false
                · rw [if_pos (hb.mpr hz)] at e3
                  refine Or.inl ⟨e3, hL, ?_⟩
                  rw [hz, decide_eq_false h16]
                · rw [if_neg (fun q => hz (hb.mp q))] at e3
                  refine Or.inr ⟨e3, fun q => ?_⟩
                  have := q.2
                  rw [decide_eq_false h16] at this
                  exact hz this
            unfold F_X6_go_201
            rw [nI_1]
            rcases hcan with ⟨e4, hbad⟩ | ⟨e4, hgood⟩
            · subst e4
              simp only [if_pos]
              refine hk _ ⟨i + 1, by omega, ((hs.wI (by decide)).wI (by decide)).wI (by decide), rfl, Or.inr ⟨i, ⟨hin, hbad, hall⟩, ?_, ?_⟩⟩ (by dsimp only; rw [cl_nI (by omega), cl_nI (by omega)]; omega)
              · simp only [rI_i, rI_a, rI_l, rA_i, rA_a, rA_l, rR_i, rR_a, rR_l, rL_i, rL_a, rL_l, reduceIte, Nat.reduceEqDiff]
              · simp only [rI_i, rI_a, rI_l, rA_i, rA_a, rA_l, rR_i, rR_a, rR_l, rL_i, rL_a, rL_l, reduceIte, Nat.reduceEqDiff]
                by_cases h16 : ev i < 16
                · rw [if_neg (by simp (disch := omega) only [Int32.le_iff_toInt_le, Int32.lt_iff_toInt_lt, ← Int32.toInt_inj, nI_toInt, Int32.reduceToInt]; omega), if_pos h16]
                · rw [if_pos (by simp (disch := omega) only [Int32.le_iff_toInt_le, Int32.lt_iff_toInt_lt, ← Int32.toInt_inj, nI_toInt, Int32.reduceToInt]; omega), if_neg h16]
            · subst e4
              simp only [show ((1 : Int32) = 0) = False from by decide, if_false]
              rw [bit_xor _ hm _ hp]
              refine hk _ ⟨i + 1, by omega, ((hs.wI (by decide)).wI (by decide)).wI (by decide), rfl, Or.inl ⟨allGood_s hall hgood, ?_, ?_, ?_, ?_, ?_, ?_⟩⟩ (by dsimp only; rw [cl_nI (by omega), cl_nI (by omega)]; omega)
              · simp only [mskA, if_neg hL]
              · simp only [rI_i, rI_a, rI_l, rA_i, rA_a, rA_l, rR_i, rR_a, rR_l, rL_i, rL_a, rL_l, reduceIte, Nat.reduceEqDiff]
              · simp only [rI_i, rI_a, rI_l, rA_i, rA_a, rA_l, rR_i, rR_a, rR_l, rL_i, rL_a, rL_l, reduceIte, Nat.reduceEqDiff]
              · rw [lnA_n hg]; simp only [rI_i, rI_a, rI_l, rA_i, rA_a, rA_l, rR_i, rR_a, rR_l, rL_i, rL_a, rL_l, reduceIte, Nat.reduceEqDiff]; exact h35
              · simp only [rI_i, rI_a, rI_l, rA_i, rA_a, rA_l, rR_i, rR_a, rR_l, rL_i, rL_a, rL_l, reduceIte, Nat.reduceEqDiff]
                rw [h36]
                have hcc := hc i hin
                by_cases h16 : ev i < 16
                · rw [if_neg (by simp (disch := omega) only [Int32.le_iff_toInt_le, Int32.lt_iff_toInt_lt, ← Int32.toInt_inj, nI_toInt, Int32.reduceToInt]; omega), nI_1]
                  rcases hcc.mp h16 with q | q
                  · rw [cmA_y q, mkA_n (by omega)]; congr 1; omega
                  · rw [cmA_n (by omega), mkA_y q]; congr 1
                · rw [if_pos (by simp (disch := omega) only [Int32.le_iff_toInt_le, Int32.lt_iff_toInt_lt, ← Int32.toInt_inj, nI_toInt, Int32.reduceToInt]; omega)]
                  have q : ¬ ((65 ≤ g i ∧ g i ≤ 72) ∨ g i = 63) := fun z => h16 (hcc.mpr z)
                  rw [cmA_n (by omega), mkA_n (by omega)]
                  exact Int32.add_zero _
              · simp only [rI_i, rI_a, rI_l, rA_i, rA_a, rA_l, rR_i, rR_a, rR_l, rL_i, rL_a, rL_l, reduceIte, Nat.reduceEqDiff]; exact atG_keep hg hat
        · exfalso
          have := hb.1
          rw [hb1] at c1
          simp (disch := omega) only [Int32.le_iff_toInt_le, Int32.lt_iff_toInt_lt, ← Int32.toInt_inj, nI_toInt, Int32.reduceToInt] at c1
          omega
  · refine ⟨0, Nat.zero_le _, ?_, rfl, Or.inl ⟨fun j hj => absurd hj (Nat.not_lt_zero _), rfl, ?_, ?_, ?_, ?_, fun l hl => absurd hl (Nat.not_lt_zero _)⟩⟩
    · exact ((((Fr.rf _ _ w).wI (by decide)).wI (by decide)).wI (by decide)).wI (by decide)
    · simp only [rI_i, rI_a, rI_l, rA_i, rA_a, rA_l, rR_i, rR_a, rR_l, rL_i, rL_a, rL_l, reduceIte, Nat.reduceEqDiff]
    · simp only [rI_i, rI_a, rI_l, rA_i, rA_a, rA_l, rR_i, rR_a, rR_l, rL_i, rL_a, rL_l, reduceIte, Nat.reduceEqDiff]
    · simp only [rI_i, rI_a, rI_l, rA_i, rA_a, rA_l, rR_i, rR_a, rR_l, rL_i, rL_a, rL_l, reduceIte, Nat.reduceEqDiff]; rfl
    · simp only [rI_i, rI_a, rI_l, rA_i, rA_a, rA_l, rR_i, rR_a, rR_l, rL_i, rL_a, rL_l, reduceIte, Nat.reduceEqDiff]; rfl
