theorem nI_bv (n : Nat) : (nI n).toBitVec = BitVec.ofNat 32 n := rfl
theorem nI_and (a b : Nat) : nI a &&& nI b = nI (a &&& b) := by
  apply Int32.toBitVec_inj.mp
  rw [Int32.toBitVec_and, nI_bv, nI_bv, nI_bv]
  apply BitVec.eq_of_toNat_eq
  rw [BitVec.toNat_and, BitVec.toNat_ofNat, BitVec.toNat_ofNat, BitVec.toNat_ofNat, Nat.and_mod_two_pow]
theorem nI_xor (a b : Nat) : nI a ^^^ nI b = nI (a ^^^ b) := by
  apply Int32.toBitVec_inj.mp
  rw [Int32.toBitVec_xor, nI_bv, nI_bv, nI_bv]
  apply BitVec.eq_of_toNat_eq
  rw [BitVec.toNat_xor, BitVec.toNat_ofNat, BitVec.toNat_ofNat, BitVec.toNat_ofNat, Nat.xor_mod_two_pow]
theorem nI_or (a b : Nat) : nI a ||| nI b = nI (a ||| b) := by
  apply Int32.toBitVec_inj.mp
  rw [Int32.toBitVec_or, nI_bv, nI_bv, nI_bv]
  apply BitVec.eq_of_toNat_eq
  rw [BitVec.toNat_or, BitVec.toNat_ofNat, BitVec.toNat_ofNat, BitVec.toNat_ofNat, Nat.or_mod_two_pow]
theorem andnot (x y : Int32) : x &&& (y ^^^ (-1)) = x ^^^ (x &&& y) := by
  apply Int32.toBitVec_inj.mp
  rw [Int32.toBitVec_and, Int32.toBitVec_xor, Int32.toBitVec_xor, Int32.toBitVec_and, show (-1 : Int32).toBitVec = BitVec.allOnes 32 from by decide]
  apply BitVec.eq_of_getLsbD_eq
  intro i hi
  rw [BitVec.getLsbD_and, BitVec.getLsbD_xor, BitVec.getLsbD_xor, BitVec.getLsbD_and, BitVec.getLsbD_allOnes, decide_eq_true hi]
  cases x.toBitVec.getLsbD i <;> cases y.toBitVec.getLsbD i <;> rfl
theorem and0 : ∀ a, a < 256 → ∀ s, s < 256 → (nI a &&& nI s = 0 ↔ a &&& s = 0) := by
  intro a ha s hs
  have h : a &&& s ≤ a := Nat.and_le_left
  rw [nI_and]
  exact nI_eq (b := 0) (by omega) (by omega)
theorem andn : ∀ t, t < 256 → ∀ s, s < 256 → (nI t &&& (nI s ^^^ (-1)) = 0 ↔ t &&& s = t) := by
  intro t ht s hs
  have h : t &&& s ≤ t := Nat.and_le_left
  have h2 : t ^^^ (t &&& s) < 2 ^ 8 := Nat.xor_lt_two_pow (by omega) (by omega)
  rw [andnot, nI_and, nI_xor]
  refine Iff.trans (nI_eq (b := 0) (by omega) (by omega)) ?_
  constructor
  · intro e
    apply Nat.eq_of_testBit_eq
    intro i
    have e2 : (t ^^^ (t &&& s)).testBit i = false := by rw [e, Nat.zero_testBit]
    rw [Nat.testBit_xor] at e2
    cases h1 : (t &&& s).testBit i <;> cases h3 : t.testBit i <;> rw [h1, h3] at e2 <;> first | rfl | cases e2
  · intro e
    rw [e, Nat.xor_self]
def mayP (a t : Nat → Nat) (s : Nat) : Prop := ∀ p, p < 8 → s.testBit p = true → a p &&& s = 0 ∧ t p &&& s = t p
def okPQ (a t : Nat → Nat) (s p q : Nat) : Prop := ¬ ((a p).testBit q = true ∧ s.testBit p = true ∧ s.testBit q = true) ∧ ¬ ((t p).testBit q = true ∧ ¬ s.testBit p = s.testBit q)
theorem tb_lt {m r : Nat} (h : m < 256) (hr : m.testBit r = true) : r < 8 := by
  rcases Nat.lt_or_ge r 8 with q | q
  · exact q
  · have : m < 2 ^ r := Nat.lt_of_lt_of_le h (Nat.pow_le_pow_right (n := 2) (by omega) q)
    rw [Nat.testBit_lt_two_pow this] at hr
    cases hr
theorem mayP_iff {a t : Nat → Nat} {s : Nat} (ha : ∀ x, x < 8 → a x < 256 ∧ t x < 256 ∧ (a x).testBit x = false ∧ (t x).testBit x = false) (hsym : ∀ x, x < 8 → ∀ y, y < 8 → (a x).testBit y = (a y).testBit x ∧ (t x).testBit y = (t y).testBit x) : mayP a t s ↔ ∀ p, p < 8 → ∀ q, q < p → okPQ a t s p q := by
  constructor
  · intro h p hp q hq
    refine ⟨fun z => ?_, fun z => ?_⟩
    · have h1 := (h p hp z.2.1).1
      have h2 : (a p &&& s).testBit q = true := by rw [Nat.testBit_and, z.1, z.2.2]; rfl
      rw [h1, Nat.zero_testBit] at h2
      cases h2
    · have hpq : ∀ x y, x < 8 → y < 8 → (t x).testBit y = true → s.testBit x = true → s.testBit y = true := by
        intro x y hx hy h1 h2
        have h3 := (h x hx h2).2
        have h4 : (t x &&& s).testBit y = true := by rw [h3]; exact h1
        rw [Nat.testBit_and, Bool.and_eq_true] at h4
        exact h4.2
      have h1 := hpq p q hp (by omega) z.1
      have h2 := hpq q p (by omega) hp (by rw [(hsym q (by omega) p hp).2]; exact z.1)
      apply z.2
      cases e : s.testBit p with
      | true => exact (h1 e).symm
      | false =>
        cases e2 : s.testBit q with
        | true => rw [h2 e2] at e; cases e
        | false => rfl
  · intro h p hp hsp
    have key : ∀ r, r < 8 → ¬ r = p → okPQ a t s p r := by
      intro r hr hne
      rcases Nat.lt_or_gt_of_ne hne with q | q
      · exact h p hp r q
      · obtain ⟨k1, k2⟩ := h r hr p q
        refine ⟨fun z => k1 ⟨by rw [(hsym r hr p hp).1]; exact z.1, z.2.2, z.2.1⟩, fun z => k2 ⟨by rw [(hsym r hr p hp).2]; exact z.1, fun e => z.2 e.symm⟩⟩
    obtain ⟨ha1, ha2, ha3, ha4⟩ := ha p hp
    constructor
    · apply Nat.eq_of_testBit_eq
      intro r
      rw [Nat.zero_testBit, Nat.testBit_and]
      cases e1 : (a p).testBit r with
      | false => rfl
      | true =>
        have hr := tb_lt ha1 e1
        have hne : ¬ r = p := fun e => by rw [e, ha3] at e1; cases e1
        cases e2 : s.testBit r with
        | false => rfl
        | true => exact ((key r hr hne).1 ⟨e1, hsp, e2⟩).elim
    · apply Nat.eq_of_testBit_eq
      intro r
      rw [Nat.testBit_and]
      cases e1 : (t p).testBit r with
      | false => rfl
      | true =>
        have hr := tb_lt ha2 e1
        have hne : ¬ r = p := fun e => by rw [e, ha4] at e1; cases e1
        cases e2 : s.testBit r with
        | true => rfl
        | false => exact ((key r hr hne).2 ⟨e1, by rw [hsp, e2]; decide⟩).elim
theorem breaksC (w : Wd) {a t : Nat → Nat} {s : Nat} (hs : s < 256) (hat : ∀ x, x < 8 → w.2.1 9 x = nI (a x) ∧ w.2.1 10 x = nI (t x) ∧ a x < 256 ∧ t x < 256) : ∃ r : Int32, F_X3_breaksMay w (nI s) = some (r, w) ∧ ((r = 0 ∧ mayP a t s) ∨ (r = 1 ∧ ¬ mayP a t s)) := by
  have h : Ok (F_X3_breaksMay w (nI s)) (fun x => x.2 = w ∧ ((x.1 = 0 ∧ mayP a t s) ∨ (x.1 = 1 ∧ ¬ mayP a t s))) := by
    unfold F_X3_breaksMay L_X3_breaksMay_2
    refine Ok.loop (fun z => ∃ i, i ≤ 8 ∧ z.1 = w ∧ z.2.1 = nI s ∧ z.2.2 = nI i ∧ ∀ p, p < i → s.testBit p = true → a p &&& s = 0 ∧ t p &&& s = t p) (fun z => 9 - z.2.2.toNatClampNeg) ?_ fu _ ⟨0, Nat.zero_le _, rfl, rfl, rfl, fun j hj => absurd hj (Nat.not_lt_zero _)⟩ (fu_big (by show 9 - _ < _; omega))
    rintro ⟨w1, v1, v2⟩ ⟨i, hi, e1, e2, e3, hall⟩ kk hkk
    dsimp only at e1 e2 e3 hkk ⊢
    subst e1 e2 e3
    unfold F_X3_breaksMay_2 F_X3_breaksMay_53 F_X3_breaksMay_51
    refine Ok.ite (fun c => ?_) (fun c => ?_)
    · simp (disch := omega) only [Int32.le_iff_toInt_le, Int32.lt_iff_toInt_lt, ← Int32.toInt_inj, nI_toInt, Int32.reduceToInt] at c
      have e : i = 8 := by omega
      subst e
      exact Ok.ret ⟨rfl, Or.inl ⟨rfl, hall⟩⟩
    · simp (disch := omega) only [Int32.le_iff_toInt_le, Int32.lt_iff_toInt_lt, ← Int32.toInt_inj, nI_toInt, Int32.reduceToInt] at c
      have hi8 : i < 8 := by omega
      obtain ⟨h9, h10, ha, ht⟩ := hat i hi8
      refine Ok.let (fun y ey => ?_)
      rw [bit_at _ hs _ hi8] at ey
      unfold bN at ey
      by_cases z : s.testBit i = true
      · rw [if_pos z, if_pos (show nI 1 = 1 by decide)] at ey
        rw [ey, if_neg one0]
        refine Ok.gu (gd_nI hi8 (by omega)) ?_
        rw [cl_nI (by omega), h9, h10]
        refine Ok.ite (fun q => ?_) (fun q => ?_)
        · refine Ok.gu (gd_nI hi8 (by omega)) ?_
          refine Ok.ite (fun q2 => ?_) (fun q2 => ?_)
          · rw [nI_1]
            exact hkk _ ⟨i + 1, by omega, rfl, rfl, rfl, more (P := fun p => s.testBit p = true → a p &&& s = 0 ∧ t p &&& s = t p) hall (fun _ => ⟨(and0 _ ha _ hs).mp q, (andn _ ht _ hs).mp q2⟩)⟩ (by dsimp only; rw [cl_nI (by omega), cl_nI (by omega)]; omega)
          · exact Ok.ret ⟨rfl, Or.inr ⟨rfl, fun hh => q2 ((andn _ ht _ hs).mpr (hh i hi8 z).2)⟩⟩
        · exact Ok.ret ⟨rfl, Or.inr ⟨rfl, fun hh => q ((and0 _ ha _ hs).mpr (hh i hi8 z).1)⟩⟩
      · rw [if_neg z, if_neg (show ¬ nI 0 = 1 by decide)] at ey
        rw [ey, if_pos rfl, nI_1]
        exact hkk _ ⟨i + 1, by omega, rfl, rfl, rfl, more (P := fun p => s.testBit p = true → a p &&& s = 0 ∧ t p &&& s = t p) hall (fun q => absurd q z)⟩ (by dsimp only; rw [cl_nI (by omega), cl_nI (by omega)]; omega)
  obtain ⟨⟨r, w1⟩, h1, h2, h3⟩ := h
  dsimp only at h2 h3
  subst h2
  exact ⟨r, h1, h3⟩
theorem mayM (w : Wd) {a t : Nat → Nat} {s : Nat} (hs : s < 256) (hmy : ∀ x, x < 8 → ∀ y, y < 8 → w.2.1 37 (8 * x + y) = (if (a x).testBit y = true then 1 else if (t x).testBit y = true then 2 else 0) ∧ ¬ ((a x).testBit y = true ∧ (t x).testBit y = true)) : ∃ r : Int32, F_X6_mayBe w (nI s) = some (r, w) ∧ ((r = 1 ∧ ∀ p, p < 8 → ∀ q, q < p → okPQ a t s p q) ∨ (r = 0 ∧ ¬ ∀ p, p < 8 → ∀ q, q < p → okPQ a t s p q)) := by
  have h : Ok (F_X6_mayBe w (nI s)) (fun x => x.2 = w ∧ ((x.1 = 1 ∧ ∀ p, p < 8 → ∀ q, q < p → okPQ a t s p q) ∨ (x.1 = 0 ∧ ¬ ∀ p, p < 8 → ∀ q, q < p → okPQ a t s p q))) := by
    unfold F_X6_mayBe L_X6_mayBe_4
    refine Ok.loop (fun z => ∃ i, i ≤ 8 ∧ z.1 = w ∧ z.2.1 = nI s ∧ z.2.2.2 = nI i ∧ ((z.2.2.1 = 1 ∧ ∀ p, p < i → ∀ q, q < p → okPQ a t s p q) ∨ (z.2.2.1 = 0 ∧ ¬ ∀ p, p < 8 → ∀ q, q < p → okPQ a t s p q))) (fun z => 9 - z.2.2.2.toNatClampNeg) ?_ fu _ ⟨0, Nat.zero_le _, rfl, rfl, rfl, Or.inl ⟨rfl, fun j hj => absurd hj (Nat.not_lt_zero _)⟩⟩ (fu_big (by show 9 - _ < _; omega))
    rintro ⟨w1, v1, v2, v3⟩ ⟨i, hi, e1, e2, e3, hcase⟩ kk hkk
    dsimp only at e1 e2 e3 hcase hkk ⊢
    subst e1 e2 e3
    unfold F_X6_mayBe_4
    refine Ok.ite (fun c => ?_) (fun c => ?_)
    · simp (disch := omega) only [Int32.le_iff_toInt_le, Int32.lt_iff_toInt_lt, ← Int32.toInt_inj, nI_toInt, Int32.reduceToInt] at c
      have e : i = 8 := by omega
      subst e
      refine Ok.gu ?_ (Ok.ret ⟨rfl, hcase⟩)
      rcases hcase with ⟨e, -⟩ | ⟨e, -⟩ <;> (rw [e]; rfl)
    · simp (disch := omega) only [Int32.le_iff_toInt_le, Int32.lt_iff_toInt_lt, ← Int32.toInt_inj, nI_toInt, Int32.reduceToInt] at c
      have hi8 : i < 8 := by omega
      unfold L_X6_mayBe_13
      refine Ok.loop (fun z => ∃ j, j ≤ i ∧ z.1 = w1 ∧ z.2.1 = nI s ∧ z.2.2.2.1 = nI i ∧ z.2.2.2.2 = nI j ∧ ((z.2.2.1 = 1 ∧ (∀ p, p < i → ∀ q, q < p → okPQ a t s p q) ∧ ∀ q, q < j → okPQ a t s i q) ∨ (z.2.2.1 = 0 ∧ ¬ ∀ p, p < 8 → ∀ q, q < p → okPQ a t s p q))) (fun z => 9 - z.2.2.2.2.toNatClampNeg) ?_ fu _ ⟨0, Nat.zero_le _, rfl, rfl, rfl, rfl, ?_⟩ (fu_big (by show 9 - _ < _; omega))
      · rintro ⟨w2, u1, u2, u3, u4⟩ ⟨j, hj, d1, d2, d3, d4, hc2⟩ k2 hk2
        dsimp only at d1 d2 d3 d4 hc2 hk2 ⊢
        subst d1 d2 d3 d4
        unfold F_X6_mayBe_13
        refine Ok.ite (fun c2 => ?_) (fun c2 => ?_)
        · simp (disch := omega) only [Int32.le_iff_toInt_le, Int32.lt_iff_toInt_lt, ← Int32.toInt_inj, nI_toInt, Int32.reduceToInt] at c2
          have ej : j = i := by omega
          subst ej
          rw [nI_1]
          refine hkk _ ⟨j + 1, by omega, rfl, rfl, rfl, ?_⟩ (by dsimp only; rw [cl_nI (by omega), cl_nI (by omega)]; omega)
          rcases hc2 with ⟨h1, h2, h3⟩ | h
          · exact Or.inl ⟨h1, more (P := fun p => ∀ q, q < p → okPQ a t s p q) h2 h3⟩
          · exact Or.inr h
        · simp (disch := omega) only [Int32.le_iff_toInt_le, Int32.lt_iff_toInt_lt, ← Int32.toInt_inj, nI_toInt, Int32.reduceToInt] at c2
          have hji : j < i := by omega
          obtain ⟨hm1, hm2⟩ := hmy i hi8 j (by omega)
          rw [show (8 : Int32) * nI i = nI (8 * i) from pk_mul 8 i, nI_add]
          refine Ok.gu (gd_nI (by omega) (by omega)) ?_
          rw [cl_nI (by omega), hm1, bit_at _ hs _ hi8, bit_at _ hs _ (show j < 8 by omega), nI_add]
          refine Ok.let (fun y ey => Ok.let (fun z ez => ?_))
          rw [nI_1]
          refine hk2 _ ⟨j + 1, by omega, rfl, rfl, rfl, rfl, ?_⟩ (by dsimp only; rw [cl_nI (by omega), cl_nI (by omega)]; omega)
          dsimp only
          rcases hc2 with ⟨h1, h2, h3⟩ | ⟨h1, h2⟩
          · subst h1
            rw [if_neg one0] at ez
            have hz : (z = 1 ∧ okPQ a t s i j) ∨ (z = 0 ∧ ¬ okPQ a t s i j) := by
              subst ey
              rw [ez]
              unfold okPQ bN
              cases g1 : (a i).testBit j <;> cases g2 : (t i).testBit j <;> cases g3 : s.testBit i <;> cases g4 : s.testBit j <;> first | exact (hm2 ⟨g1, g2⟩).elim | (left; refine ⟨by decide, ?_⟩; decide) | (right; refine ⟨by decide, ?_⟩; decide)
            rcases hz with ⟨z1, z2⟩ | ⟨z1, z2⟩
            · exact Or.inl ⟨z1, h2, more (P := fun q => okPQ a t s i q) h3 z2⟩
            · exact Or.inr ⟨z1, fun hh => z2 (hh i hi8 j hji)⟩
          · subst h1
            rw [if_pos rfl] at ez
            exact Or.inr ⟨ez, h2⟩
      · rcases hcase with ⟨h1, h2⟩ | h
        · exact Or.inl ⟨h1, h2, fun q hq => absurd hq (Nat.not_lt_zero _)⟩
        · exact Or.inr h
  obtain ⟨⟨r, w1⟩, h1, h2, h3⟩ := h
  dsimp only at h2 h3
  subst h2
  exact ⟨r, h1, h3⟩
theorem eqv_broken : Eqv (fun w => F_X5_broken w) (fun w => F_X6_broken w) := by
  apply Eqv.query
  rintro w ⟨⟨g, n, hc, hm⟩, hrr, -⟩
  have hln := lnA_40 hc
  obtain ⟨⟨a, t, hat, hmy⟩, -⟩ := RR.my hrr
  rcases ref_cases g n with hG | ⟨r, hN, h0, h6⟩
  · obtain ⟨rb, hrb⟩ := FirstL.ex (fun i => mayP a t (onL g n i)) (lnA g n)
    refine ⟨rb, ?_, fun w' hw' hs' => ?_⟩
    · unfold F_X5_broken F_X5_broken_24
      refine Ok.bind (refL_good w hc hG) ?_
      rintro ⟨r, w1⟩ ⟨hs, e, hL⟩
      dsimp only at hs e hL ⊢
      have f9 : w1.2.1 9 = w.2.1 9 := hs.2 9 (by unfold PA; omega)
      have f10 : w1.2.1 10 = w.2.1 10 := hs.2 10 (by unfold PA; omega)
      rw [if_pos e]
      have h : F_X3_firstAgainstMay w1 = some (rb, w1) := by
        apply Ok.eq
        unfold F_X3_firstAgainstMay L_X3_firstAgainstMay_2
        refine Ok.loop (fun a' => ∃ i, i ≤ lnA g n ∧ a'.1 = w1 ∧ a'.2 = nI i ∧ ∀ j, j < i → mayP a t (onL g n j)) (fun a => 41 - a.2.toNatClampNeg) ?_ fu _ ⟨0, Nat.zero_le _, rfl, rfl, fun j hj => absurd hj (Nat.not_lt_zero _)⟩ (fu_big (by show 41 - _ < _; omega))
        rintro ⟨w2, v1⟩ ⟨i, hi, e1, e2, hall⟩ kk hkk
        dsimp only at e1 e2 hkk ⊢
        subst e1 e2
        unfold F_X3_firstAgainstMay_2
        rw [hL.1]
        refine Ok.ite (fun c => ?_) (fun c => ?_)
        · simp (disch := omega) only [Int32.le_iff_toInt_le, Int32.lt_iff_toInt_lt, ← Int32.toInt_inj, nI_toInt, Int32.reduceToInt] at c
          have e : i = lnA g n := by omega
          subst e
          exact Ok.ret (by rw [hrb.no hall])
        · simp (disch := omega) only [Int32.le_iff_toInt_le, Int32.lt_iff_toInt_lt, ← Int32.toInt_inj, nI_toInt, Int32.reduceToInt] at c
          have hin : i < lnA g n := by omega
          refine Ok.gu (gd_nI (by omega) (by omega)) ?_
          rw [cl_nI (by omega), hL.2.2.2 i hin]
          obtain ⟨rr, g1, g2⟩ := breaksC w2 (a := a) (t := t) (onL_lt hG.1 i hin) (fun x hx => by rw [f9, f10]; exact ⟨(hat x hx).1, (hat x hx).2.1, (hat x hx).2.2.1, (hat x hx).2.2.2.1⟩)
          rw [g1, Option.bind_some]
          dsimp only
          rcases g2 with ⟨g2, g3⟩ | ⟨g2, g3⟩
          · rw [g2, if_pos rfl, nI_1]
            exact hkk _ ⟨i + 1, by omega, rfl, rfl, more (P := fun j => mayP a t (onL g n j)) hall g3⟩ (by dsimp only; rw [cl_nI (by omega), cl_nI (by omega)]; omega)
          · rw [g2, if_neg one0]
            exact Ok.ret (by rw [hrb.at hin g3 hall])
      rw [h, Option.bind_some]
      exact Ok.ret ⟨hs, rfl⟩
    · unfold F_X6_broken
      refine Ok.bind (refM_good w' (hm.same hs') hG) ?_
      rintro ⟨r, w1⟩ ⟨hs, e, hL⟩
      dsimp only at hs e hL ⊢
      have f37 : w1.2.1 37 = w.2.1 37 := (hs'.tr hs).2 37 (by unfold PA; omega)
      rw [if_pos e]
      have hiff : ∀ s, mayP a t s ↔ ∀ p, p < 8 → ∀ q, q < p → okPQ a t s p q := fun s => mayP_iff (fun x hx => ⟨(hat x hx).2.2.1, (hat x hx).2.2.2.1, (hat x hx).2.2.2.2.1, (hat x hx).2.2.2.2.2⟩) (fun x hx y hy => ⟨(hmy x hx y hy).2.1, (hmy x hx y hy).2.2.1⟩)
      have h : L_X6_broken_15 fu (w1, 0) = some (rb, w1) := by
        apply Ok.eq
        unfold L_X6_broken_15
        refine Ok.loop (fun a' => ∃ i, i ≤ lnA g n ∧ a'.1 = w1 ∧ a'.2 = nI i ∧ ∀ j, j < i → mayP a t (onL g n j)) (fun a => 41 - a.2.toNatClampNeg) ?_ fu _ ⟨0, Nat.zero_le _, rfl, rfl, fun j hj => absurd hj (Nat.not_lt_zero _)⟩ (fu_big (by show 41 - _ < _; omega))
        rintro ⟨w2, v1⟩ ⟨i, hi, e1, e2, hall⟩ kk hkk
        dsimp only at e1 e2 hkk ⊢
        subst e1 e2
        unfold F_X6_broken_15
        rw [hL.1]
        refine Ok.ite (fun c => ?_) (fun c => ?_)
        · simp (disch := omega) only [Int32.le_iff_toInt_le, Int32.lt_iff_toInt_lt, ← Int32.toInt_inj, nI_toInt, Int32.reduceToInt] at c
          have e : i = lnA g n := by omega
          subst e
          exact Ok.ret (by rw [hrb.no hall])
        · simp (disch := omega) only [Int32.le_iff_toInt_le, Int32.lt_iff_toInt_lt, ← Int32.toInt_inj, nI_toInt, Int32.reduceToInt] at c
          have hin : i < lnA g n := by omega
          refine Ok.gu (gd_nI (by omega) (by omega)) ?_
          rw [cl_nI (by omega), hL.2.2 i hin]
          obtain ⟨rr, g1, g2⟩ := mayM w2 (a := a) (t := t) (onL_lt hG.1 i hin) (fun x hx y hy => by rw [f37]; exact ⟨(hmy x hx y hy).1, (hmy x hx y hy).2.2.2⟩)
          rw [g1, Option.bind_some]
          dsimp only
          rcases g2 with ⟨g2, g3⟩ | ⟨g2, g3⟩
          · rw [g2, if_neg one0, nI_1]
            exact hkk _ ⟨i + 1, by omega, rfl, rfl, more (P := fun j => mayP a t (onL g n j)) hall ((hiff _).mpr g3)⟩ (by dsimp only; rw [cl_nI (by omega), cl_nI (by omega)]; omega)
          · rw [g2, if_pos rfl]
            exact Ok.ret (by rw [hrb.at hin (fun z => g3 ((hiff _).mp z)) hall])
      rw [h]
      exact Ok.ret ⟨hs, rfl⟩
  · refine ⟨r, ?_, fun w' hw' hs' => ?_⟩
    · unfold F_X5_broken F_X5_broken_24
      refine Ok.bind (refL_no w hc hN) ?_
      rintro ⟨r1, w1⟩ ⟨hs, e⟩
      dsimp only at hs e ⊢
      rw [e, if_neg h0]
      exact Ok.ret ⟨hs, rfl⟩
    · unfold F_X6_broken
      refine Ok.bind (refM_no w' (hm.same hs') hN) ?_
      rintro ⟨r1, w1⟩ ⟨hs, e⟩
      dsimp only at hs e ⊢
      rw [e, if_neg h6]
      exact Ok.ret ⟨hs, rfl⟩
