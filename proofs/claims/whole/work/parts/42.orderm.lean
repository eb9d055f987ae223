theorem pow_SS : ∀ S, S < 7 → S ^ S ≤ 46656 ∧ ∀ k, k < S → S ^ k ≤ 46656 := by decide +kernel
theorem layR (w : Wd) {S t : Nat} (hS : S < 7) (h32 : w.1 32 = nI S) (ht : t < S ^ S) : Ok (F_X6_layRow w (nI t)) (fun x => Fr [] [47] w x.2 ∧ (∀ k, k < S → x.2.2.1 47 k = nI (rowN S t k)) ∧ ((x.1 = 1 ∧ injR (rowN S t) S) ∨ (x.1 = 0 ∧ ¬ injR (rowN S t) S))) := by
  have h64 := pow64 hS
  have hss := (pow_SS S hS).1
  have hsub : ∀ d, d < S → nI (S - d) - 1 = nI (S - 1 - d) := fun d hd => by
    rw [show S - d = (S - 1 - d) + 1 by omega]
    exact nI_pred _
  unfold F_X6_layRow
  rw [h32]
  unfold L_X6_layRow_12
  refine Ok.loop (fun a => ∃ d, d ≤ S ∧ Fr [] [47] w a.1 ∧ a.2.1 = nI (t / S ^ d) ∧ a.2.2.1 = nI (hb S t d) ∧ a.2.2.2 = nI (S - d) - 1 ∧ ∀ k, S - d ≤ k → k < S → a.1.2.1 47 k = nI (rowN S t k)) (fun a => (a.2.2.2 + 1).toNatClampNeg) ?_ fu _ ⟨0, Nat.zero_le _, Fr.rf _ _ _, by rw [Nat.pow_zero, Nat.div_one], rfl, rfl, fun k q1 q2 => by omega⟩ (fu_big (by show (nI S - 1 + 1).toNatClampNeg < _; rw [Int32.sub_add_cancel, cl_nI (by omega)]; omega))
  rintro ⟨w1, v2, v3, v4⟩ ⟨d, hd, hs, e1, e2, e3, hk⟩ kk hkk
  dsimp only at hs e1 e2 e3 hk hkk ⊢
  subst e1 e2 e3
  unfold F_X6_layRow_12
  have h321 : w1.1 32 = nI S := by rw [hs.1 32 (by decide)]; exact h32
  rw [h321]
  obtain ⟨b1, b2, b3⟩ := hb_ok hS t d hd
  rcases (show d = S ∨ d < S by omega) with rfl | hlt
  · rw [Nat.sub_self, if_pos (by decide), full_m1 _ hS]
    have hpos : 0 < 2 ^ d := Nat.two_pow_pos _
    have hm := hb_inj hS t
    by_cases q : hb d t d = 2 ^ d - 1
    · rw [if_pos (by rw [q])]
      exact Ok.gu rfl (Ok.ret ⟨hs, fun k q2 => hk k (by omega) q2, Or.inl ⟨rfl, hm.mp q⟩⟩)
    · rw [if_neg (fun z => q (by rwa [nI_eq (by omega) (by omega)] at z))]
      exact Ok.gu rfl (Ok.ret ⟨hs, fun k q2 => hk k (by omega) q2, Or.inr ⟨rfl, fun z => q (hm.mpr z)⟩⟩)
  · have hrow : t / S ^ d % S = rowN S t (S - 1 - d) := by
      unfold rowN
      rw [show S - 1 - (S - 1 - d) = d by omega]
    have hr : rowN S t (S - 1 - d) < S := rowN_lt (by omega)
    have hdl := Nat.div_le_self t (S ^ d)
    rw [hsub d hlt, if_neg (by simp (disch := omega) only [Int32.le_iff_toInt_le, Int32.lt_iff_toInt_lt, ← Int32.toInt_inj, nI_toInt, Int32.reduceToInt]; omega), gd_nI (show S - 1 - d < 6 by omega) (by omega), pk_rem (a := t / S ^ d) (d := S) (by omega) (by omega) (by omega), pk_div (a := t / S ^ d) (d := S) (by omega) (by omega) (by omega), hrow, Nat.div_div_eq_div_mul, ← Nat.pow_succ, show decide (¬ nI S = 0) = true from by rw [decide_eq_true_iff]; simp (disch := omega) only [Int32.le_iff_toInt_le, Int32.lt_iff_toInt_lt, ← Int32.toInt_inj, nI_toInt, Int32.reduceToInt]; omega]
    show Ok (kk (wA w1 47 (nI (S - 1 - d)) (nI (rowN S t (S - 1 - d))), nI (t / S ^ (d + 1)), nI (hb S t d) ||| (1 <<< ((wA w1 47 (nI (S - 1 - d)) (nI (rowN S t (S - 1 - d)))).2.1 47 (nI (S - 1 - d)).toNatClampNeg &&& 31)), nI (S - 1 - d) + (-1))) _
    rw [show (wA w1 47 (nI (S - 1 - d)) (nI (rowN S t (S - 1 - d)))).2.1 47 (nI (S - 1 - d)).toNatClampNeg = nI (rowN S t (S - 1 - d)) from by rw [rA_a, if_pos rfl, upd_at, if_pos rfl], bit_1 _ (by omega), nI_or, nI_sm1, show nI (S - 1 - d) - (1 : Int32) = nI (S - (d + 1)) - 1 from by rw [show S - 1 - d = S - (d + 1) by omega]]
    refine hkk _ ⟨d + 1, by omega, hs.wA (by decide), rfl, rfl, rfl, fun k q1 q2 => ?_⟩ ?_
    · simp only [rI_i, rI_a, rI_l, rA_i, rA_a, rA_l, rR_i, rR_a, rR_l, rL_i, rL_a, rL_l, reduceIte, Nat.reduceEqDiff]
      rw [cl_nI (by omega), upd_at]
      by_cases e : k = S - 1 - d
      · rw [if_pos e, e]
      · rw [if_neg e]; exact hk k (by omega) q2
    · dsimp only
      rw [Int32.sub_add_cancel, Int32.sub_add_cancel, cl_nI (by omega), cl_nI (by omega)]
      omega
theorem nw_lt {S : Nat} {c r : Nat → Nat} (hc : ∀ j, j < S → c j < 256) (hr : ∀ j, j < S → r j < S) : ∀ k, k ≤ S → nw c r k < 256 := by
  intro k hk
  cases k with
  | zero => exact Nat.zero_lt_succ _
  | succ k => exact hc _ (hr k (by omega))
theorem cs_le (c r : Nat → Nat) : ∀ k, cs c r k ≤ 8 * k := by
  intro k
  induction k with
  | zero => exact Nat.le_refl _
  | succ k ih => have := pc_le (nw c r k ^^^ c (r k)); simp only [cs]; omega
theorem movesM (w : Wd) {S : Nat} {c r : Nat → Nat} (hS : S < 7) (h32 : w.1 32 = nI S) (hc : ∀ j, j < S → w.2.1 38 j = nI (c j) ∧ c j < 256) (hr : ∀ k, k < S → w.2.1 47 k = nI (r k) ∧ r k < S) : F_X6_movesOfRow w = some (nI (cost S c r), w) := by
  apply Ok.eq
  unfold F_X6_movesOfRow L_X6_movesOfRow_6
  refine Ok.loop (fun a => ∃ i, i ≤ S ∧ a.1 = w ∧ a.2.1 = nI (cs c r i) ∧ a.2.2.1 = nI (nw c r i) ∧ a.2.2.2 = nI i) (fun a => 41 - a.2.2.2.toNatClampNeg) ?_ fu _ ⟨0, Nat.zero_le _, rfl, rfl, rfl, rfl⟩ (fu_big (by show 41 - _ < _; omega))
  rintro ⟨w1, v1, v2, v3⟩ ⟨i, hi, e1, e2, e3, e4⟩ kk hkk
  dsimp only at e1 e2 e3 e4 hkk ⊢
  subst e1 e2 e3 e4
  unfold F_X6_movesOfRow_6
  rw [h32]
  have hn := nw_lt (fun j hj => (hc j hj).2) (fun j hj => (hr j hj).2) i hi
  refine Ok.ite (fun z => ?_) (fun z => ?_)
  · simp (disch := omega) only [Int32.le_iff_toInt_le, Int32.lt_iff_toInt_lt, ← Int32.toInt_inj, nI_toInt, Int32.reduceToInt] at z
    have e : i = S := by omega
    subst e
    rw [X6_ones _ hn, Option.bind_some]
    dsimp only
    rw [nI_add]
    exact Ok.ret rfl
  · simp (disch := omega) only [Int32.le_iff_toInt_le, Int32.lt_iff_toInt_lt, ← Int32.toInt_inj, nI_toInt, Int32.reduceToInt] at z
    obtain ⟨r1, r2⟩ := hr i (by omega)
    obtain ⟨c1, c2⟩ := hc _ r2
    have hx : nw c r i ^^^ c (r i) < 256 := Nat.xor_lt_two_pow (n := 8) hn c2
    rw [gd_nI (show i < 6 by omega) (by omega), cl_nI (by omega), r1, gd_nI (show r i < 6 by omega) (by omega), cl_nI (by omega), c1, nI_xor, X6_ones _ hx]
    show Ok (gu true (gu (gd (w1.2.1 47 i) 6) (kk (w1, nI (cs c r i) + nI (pc (nw c r i ^^^ c (r i))), w1.2.1 38 (w1.2.1 47 i).toNatClampNeg, nI i + 1)))) _
    rw [r1, gd_nI (show r i < 6 by omega) (by omega), cl_nI (by omega), c1, nI_add, nI_1]
    exact hkk _ ⟨i + 1, by omega, rfl, rfl, rfl, rfl⟩ (by dsimp only; rw [cl_nI (by omega), cl_nI (by omega)]; omega)
theorem cost_le {S : Nat} (hS : S < 7) (c r : Nat → Nat) : cost S c r ≤ 56 := by
  have := cs_le c r S
  have := pc_le (nw c r S)
  unfold cost
  omega
def ordR (S : Nat) (c : Nat → Nat) (L : Nat) (R : Nat → Nat) (p : Int32) : Int32 := if p = -1 then nI L else if 0 ≤ p.toInt ∧ p.toInt < S then nI (R p.toInt.toNat) else -6
theorem lastS : ∀ S, S < 7 → ((nI S - 1).toInt64).toInt = (S : Int) - 1 := by decide +kernel
theorem X6_inS (w : Wd) {S : Nat} (hS : S < 7) (p : Int32) : F_X6_in w p.toInt64 0 ((nI S - 1).toInt64) = some (if 0 ≤ p.toInt ∧ p.toInt < S then 1 else 0, w) := by
  rw [X6_within, lastS S hS, show (0 : Int64).toInt = 0 from rfl]
  by_cases h : 0 ≤ p.toInt ∧ p.toInt < S
  · rw [if_pos h, if_pos (by omega)]
  · rw [if_neg h, if_neg (by omega)]
theorem order32 (w : Wd) {S : Nat} {c : Nat → Nat} (p : Int32) (hS : S < 7) (h32 : w.1 32 = nI S) (hc : ∀ j, j < S → w.2.1 38 j = nI (c j) ∧ c j < 256) : Ok (L_X6_order_32 fu (w, p, nI (S ^ S), 1000, 0)) (fun x => Fr [] [47, 48] w x.2 ∧ x.1 = ordR S c (VV S c 0 0) (rwO S c) p) := by
  have hss := (pow_SS S hS).1
  have hT := numO_lt hS c S (Nat.le_refl _)
  have hL := VV_le S c 0 0 hS
  unfold L_X6_order_32
  refine Ok.loop (fun a => ∃ t l, t ≤ S ^ S ∧ l ≤ 1000 ∧ Fr [] [47, 48] w a.1 ∧ a.2.1 = p ∧ a.2.2.1 = nI (S ^ S) ∧ a.2.2.2.1 = nI l ∧ a.2.2.2.2 = nI t ∧ (t ≤ numO S c S → VV S c 0 0 < l) ∧ (numO S c S < t → l = VV S c 0 0 ∧ ∀ k, k < S → a.1.2.1 48 k = nI (rwO S c k))) (fun a => 46657 - a.2.2.2.2.toNatClampNeg) ?_ fu _ ⟨0, 1000, Nat.zero_le _, Nat.le_refl _, Fr.rf _ _ _, rfl, rfl, rfl, rfl, fun _ => by omega, fun h => absurd h (Nat.not_lt_zero _)⟩ (fu_big (by show 46657 - _ < _; omega))
  rintro ⟨w1, v1, v2, v3, v4⟩ ⟨t, l, ht, hl, hs, e1, e2, e3, e4, hlo, hhi⟩ k32 hk32
  dsimp only at hs e1 e2 e3 e4 hlo hhi hk32 ⊢
  subst e1 e2 e3 e4
  unfold F_X6_order_32 F_X6_order_94 F_X6_order_136
  have h321 : w1.1 32 = nI S := by rw [hs.1 32 (by decide)]; exact h32
  refine Ok.ite (fun z => ?_) (fun z => ?_)
  · simp (disch := omega) only [Int32.le_iff_toInt_le, Int32.lt_iff_toInt_lt, ← Int32.toInt_inj, nI_toInt, Int32.reduceToInt] at z
    have e : t = S ^ S := by omega
    subst e
    obtain ⟨hl2, hk⟩ := hhi hT
    unfold ordR
    by_cases q : v1 = -1
    · rw [if_pos q, if_pos q, hl2]
      exact Ok.ret ⟨hs, rfl⟩
    · rw [if_neg q, if_neg q, h321, X6_inS _ hS, Option.bind_some]
      by_cases y : 0 ≤ v1.toInt ∧ v1.toInt < S
      · obtain ⟨v, hv, rfl, hv2⟩ := i32_nat y.1
        rw [if_pos y, if_neg one0, if_pos y, gd_nI (by omega) (by omega), cl_nI (by omega)]
        refine Ok.ret ⟨hs, ?_⟩
        show w1.2.1 48 v = _
        rw [hk v (by omega), hv2]
        rfl
      · rw [if_neg y, if_pos rfl, if_neg y]
        exact Ok.ret ⟨hs, rfl⟩
  · simp (disch := omega) only [Int32.le_iff_toInt_le, Int32.lt_iff_toInt_lt, ← Int32.toInt_inj, nI_toInt, Int32.reduceToInt] at z
    have htS : t < S ^ S := by omega
    refine Ok.bind (layR w1 hS h321 htS) ?_
    rintro ⟨r, w2⟩ ⟨hs2, hrow, hcase⟩
    dsimp only at hs2 hrow hcase ⊢
    have hs12 := hs.tr (hs2.mono (A' := [47, 48]) (I' := []) (by decide) (by decide))
    have h48 : w2.2.1 48 = w1.2.1 48 := hs2.2 48 (by decide)
    have skip : (¬ t = numO S c S) → Ok (k32 (w2, v1, nI (S ^ S), nI l, nI t + 1)) (fun x => Fr [] [47, 48] w x.2 ∧ x.1 = ordR S c (VV S c 0 0) (rwO S c) v1) := fun q => by
      rw [nI_1]
      refine hk32 _ ⟨t + 1, l, by omega, hl, hs12, rfl, rfl, rfl, rfl, fun y => hlo (by omega), fun y => ?_⟩ (by dsimp only; rw [cl_nI (by omega), cl_nI (by omega)]; omega)
      dsimp only
      rw [h48]
      exact hhi (by omega)
    rcases hcase with ⟨rfl, hinj⟩ | ⟨rfl, hinj⟩
    · have hpos : ∀ k, k < S → rowN S t k < S := fun k hk => rowN_lt (by omega)
      have hcl := cost_le hS c (rowN S t)
      have hge := cost_ge hS c hpos hinj
      have h322 : w2.1 32 = nI S := by rw [hs2.1 32 (by decide)]; exact h321
      rw [if_neg one0, movesM w2 hS h322 (fun j hj => by rw [hs12.2 38 (by decide)]; exact hc j hj) (fun k hk => ⟨hrow k hk, hpos k hk⟩), Option.bind_some]
      dsimp only
      refine Ok.ite (fun y => ?_) (fun y => ?_)
      · simp (disch := omega) only [Int32.le_iff_toInt_le, Int32.lt_iff_toInt_lt, ← Int32.toInt_inj, nI_toInt, Int32.reduceToInt] at y
        refine skip (fun q => ?_)
        have h1 := hlo (by omega)
        have h2 := rwO_cost hS c (r := rowN S t) (fun j hj => by rw [q]; exact rowN_star hS c hj)
        omega
      · simp (disch := omega) only [Int32.le_iff_toInt_le, Int32.lt_iff_toInt_lt, ← Int32.toInt_inj, nI_toInt, Int32.reduceToInt] at y
        unfold L_X6_order_65
        refine Ok.loop (fun a => ∃ i, i ≤ S ∧ Fr [] [47, 48] w a.1 ∧ a.2.1 = v1 ∧ a.2.2.1 = nI (S ^ S) ∧ a.2.2.2.1 = nI (cost S c (rowN S t)) ∧ a.2.2.2.2.1 = nI t ∧ a.2.2.2.2.2 = nI i ∧ (∀ k, k < S → a.1.2.1 47 k = nI (rowN S t k)) ∧ ∀ k, k < i → a.1.2.1 48 k = nI (rowN S t k)) (fun a => 41 - a.2.2.2.2.2.toNatClampNeg) ?_ fu _ ⟨0, Nat.zero_le _, hs12, rfl, rfl, rfl, rfl, rfl, hrow, fun k hk => absurd hk (Nat.not_lt_zero _)⟩ (fu_big (by show 41 - _ < _; omega))
        rintro ⟨w3, u1, u2, u3, u4, u6⟩ ⟨i, hi, hs3, g1, g2, g3, g4, g5, g47, g48⟩ kk hkk
        dsimp only at hs3 g1 g2 g3 g4 g5 g47 g48 hkk ⊢
        subst g1 g2 g3 g4 g5
        unfold F_X6_order_65 F_X6_order_94
        rw [show w3.1 32 = nI S from by rw [hs3.1 32 (by decide)]; exact h32]
        refine Ok.ite (fun x => ?_) (fun x => ?_)
        · simp (disch := omega) only [Int32.le_iff_toInt_le, Int32.lt_iff_toInt_lt, ← Int32.toInt_inj, nI_toInt, Int32.reduceToInt] at x
          have e : i = S := by omega
          subst e
          rw [nI_1]
          refine hk32 _ ⟨t + 1, cost i c (rowN i t), by omega, by omega, hs3, rfl, rfl, rfl, rfl, fun x => ?_, fun x => ?_⟩ (by dsimp only; rw [cl_nI (by omega), cl_nI (by omega)]; omega)
          · obtain ⟨k, k1, k2, k3⟩ := less_row hS c (show t < numO i c i by omega)
            exact cost_gt hS c hpos hinj k1 k2 k3
          · have hxe : t = numO i c i := by
              rcases (show t = numO i c i ∨ numO i c i < t by omega) with h | h
              · exact h
              · have := (hhi h).1
                omega
            have hrw : ∀ j, j < i → rowN i t j = rwO i c j := fun j hj => by rw [hxe]; exact rowN_star hS c hj
            exact ⟨rwO_cost hS c hrw, fun k hk => by rw [g48 k hk, hrw k hk]⟩
        · simp (disch := omega) only [Int32.le_iff_toInt_le, Int32.lt_iff_toInt_lt, ← Int32.toInt_inj, nI_toInt, Int32.reduceToInt] at x
          rw [gd_nI (show i < 6 by omega) (by omega), cl_nI (by omega), g47 i (by omega), nI_1]
          refine hkk _ ⟨i + 1, by omega, hs3.wA (by decide), rfl, rfl, rfl, rfl, rfl, fun k hk => ?_, fun k hk => ?_⟩ (by dsimp only; rw [cl_nI (by omega), cl_nI (by omega)]; omega)
          · simp only [rI_i, rI_a, rI_l, rA_i, rA_a, rA_l, rR_i, rR_a, rR_l, rL_i, rL_a, rL_l, reduceIte, Nat.reduceEqDiff]
            exact g47 k hk
          · simp only [rI_i, rI_a, rI_l, rA_i, rA_a, rA_l, rR_i, rR_a, rR_l, rL_i, rL_a, rL_l, reduceIte, Nat.reduceEqDiff]
            rw [cl_nI (by omega), upd_at]
            by_cases e : k = i
            · rw [if_pos e, e]
            · rw [if_neg e]; exact g48 k (by omega)
    · rw [if_pos rfl]
      refine skip (fun q => hinj ?_)
      have hin := rwO_inj hS c
      intro i j hij hj
      rw [q, rowN_star hS c hj, rowN_star hS c (show i < S by omega)]
      exact hin i j hij hj
theorem orderM (w : Wd) {S : Nat} {c : Nat → Nat} (p : Int32) (hS : S < 7) (h32 : w.1 32 = nI S) (hc : ∀ j, j < S → w.2.1 38 j = nI (c j) ∧ c j < 256) : Ok (F_X6_order w p) (fun x => Fr [] [47, 48] w x.2 ∧ x.1 = ordR S c (VV S c 0 0) (rwO S c) p) := by
  unfold F_X6_order L_X6_order_4
  refine Ok.loop (fun a => ∃ i, i ≤ S ∧ a.1 = w ∧ a.2.1 = p ∧ a.2.2.1 = nI (S ^ i) ∧ a.2.2.2 = nI i) (fun a => 41 - a.2.2.2.toNatClampNeg) ?_ fu _ ⟨0, Nat.zero_le _, rfl, rfl, by rw [Nat.pow_zero]; rfl, rfl⟩ (fu_big (by show 41 - _ < _; omega))
  rintro ⟨w1, v1, v2, v3⟩ ⟨i, hi, e1, e2, e3, e4⟩ kk hkk
  dsimp only at e1 e2 e3 e4 hkk ⊢
  subst e1 e2 e3 e4
  unfold F_X6_order_4
  rw [h32]
  refine Ok.ite (fun z => ?_) (fun z => ?_)
  · simp (disch := omega) only [Int32.le_iff_toInt_le, Int32.lt_iff_toInt_lt, ← Int32.toInt_inj, nI_toInt, Int32.reduceToInt] at z
    have e : i = S := by omega
    rw [e]
    exact order32 w1 v1 hS h32 hc
  · simp (disch := omega) only [Int32.le_iff_toInt_le, Int32.lt_iff_toInt_lt, ← Int32.toInt_inj, nI_toInt, Int32.reduceToInt] at z
    rw [pk_mul, ← Nat.pow_succ, nI_1]
    exact hkk _ ⟨i + 1, by omega, rfl, rfl, rfl, rfl⟩ (by dsimp only; rw [cl_nI (by omega), cl_nI (by omega)]; omega)
theorem scenes_get {w : Wd} (h : RulesRel w) : ∃ (s : Nat) (c : Nat → Nat), s < 7 ∧ w.1 11 = nI s ∧ w.1 32 = nI s ∧ (∀ i, i < s → w.2.1 11 i = nI (c i) ∧ c i < 256) ∧ ∀ i, i < s → w.2.1 38 i = nI (c i) ∧ c i < 256 := by
  obtain ⟨s, hs, e1, e2, hi, -⟩ := RR.sc h
  refine ⟨s, fun i => (w.2.1 11 i).toNatClampNeg, by omega, e1, e2, fun i q => ?_, fun i q => ?_⟩
  · obtain ⟨a1, v, a3, a4⟩ := hi i q
    dsimp only
    rw [a4, cl_nI (by omega)]
    exact ⟨rfl, a3⟩
  · obtain ⟨a1, v, a3, a4⟩ := hi i q
    dsimp only
    rw [a1, a4, cl_nI (by omega)]
    exact ⟨rfl, a3⟩
theorem eqv_order (p1 : Int32) : Eqv (fun w => F_X5_order w p1) (fun w => F_X6_order w p1) := by
  apply Eqv.query
  rintro w ⟨-, hrr, -⟩
  obtain ⟨S, c, hS, h11, h32, hcc, hcm⟩ := scenes_get hrr
  refine ⟨ordR S c (VV S c 0 0) (rwO S c) p1, ?_, fun w' _ hs' => ?_⟩
  · unfold F_X5_order F_X5_order_16 F_X5_order_54
    rw [h11]
    refine Ok.ite (fun z => ?_) (fun z => ?_)
    · simp (disch := omega) only [Int32.le_iff_toInt_le, Int32.lt_iff_toInt_lt, ← Int32.toInt_inj, nI_toInt, Int32.reduceToInt] at z
      refine Ok.ret ⟨Same.rf w, ?_⟩
      unfold ordR
      rw [if_neg (fun y => by rw [y] at z; exact absurd z (by decide)), if_neg (by omega)]
    · simp (disch := omega) only [Int32.le_iff_toInt_le, Int32.lt_iff_toInt_lt, ← Int32.toInt_inj, nI_toInt, Int32.reduceToInt] at z
      refine Ok.ite (fun y => ?_) (fun y => ?_)
      · simp (disch := omega) only [Int32.le_iff_toInt_le, Int32.lt_iff_toInt_lt, ← Int32.toInt_inj, nI_toInt, Int32.reduceToInt] at y
        refine Ok.bind (orderC w hS h11 hcc) ?_
        rintro w1 ⟨hs, h25, h31⟩
        have hsm : Same w w1 := hs.same rfl rfl
        unfold ordR
        refine Ok.ite (fun q => ?_) (fun q => ?_)
        · refine Ok.ret ⟨hsm, ?_⟩
          rw [if_pos q]
          exact h25
        · have hp0 : 0 ≤ p1.toInt := by
            have : p1.toInt ≠ -1 := fun z => q (i32_ext z)
            omega
          obtain ⟨v, hv, rfl, hv2⟩ := i32_nat hp0
          rw [gd_nI (show v < 6 by omega) (by omega), cl_nI (by omega)]
          refine Ok.ret ⟨hsm, ?_⟩
          show w1.2.1 31 v = _
          rw [if_neg q, if_pos ⟨by omega, by omega⟩, h31 v (by omega), hv2]
          rfl
      · simp (disch := omega) only [Int32.le_iff_toInt_le, Int32.lt_iff_toInt_lt, ← Int32.toInt_inj, nI_toInt, Int32.reduceToInt] at y
        refine Ok.ret ⟨Same.rf w, ?_⟩
        unfold ordR
        rw [if_neg (fun q => by rw [q, show (-1 : Int32).toInt = -1 from rfl] at y; omega), if_neg (by omega)]
  · refine (orderM w' p1 hS (by rw [hs'.1 32 (by unfold PI; omega)]; exact h32) (fun i hi => by rw [hs'.2 38 (by unfold PA; omega)]; exact hcm i hi)).mono ?_
    rintro x ⟨h1, h2⟩
    exact ⟨h1.same rfl rfl, h2⟩
