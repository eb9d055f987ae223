/-! who may be on together -/
def bN (m q : Nat) : Nat := if m.testBit q = true then 1 else 0
theorem bit_at : ∀ m, m < 256 → ∀ q, q < 8 → ((nI m >>> (nI q &&& 31)) &&& 1) = nI (bN m q) := by decide +kernel
def sB (m q : Nat) (b : Bool) : Nat := if m.testBit q = b then m else m ^^^ 2 ^ q
theorem sB_or : ∀ m, m < 256 → ∀ q, q < 8 → nI m ||| (1 <<< (nI q &&& 31)) = nI (sB m q true) := by decide +kernel
theorem sB_and : ∀ m, m < 256 → ∀ q, q < 8 → nI m &&& ((1 <<< (nI q &&& 31)) ^^^ (-1)) = nI (sB m q false) := by decide +kernel
theorem sB_lt : ∀ m, m < 256 → ∀ q, q < 8 → ∀ b, sB m q b < 256 := by decide +kernel
theorem sB_bit : ∀ m, m < 256 → ∀ q, q < 8 → ∀ b, ∀ r, r < 8 → (sB m q b).testBit r = if r = q then b else m.testBit r := by decide +kernel
theorem X5_part (w : Wd) (v : Int32) : F_X5_isPart w v = some (if 0 ≤ v.toInt ∧ v.toInt ≤ 7 then 1 else 0, w) := by
  have e : (if v < 0 then (0 : Int32) else (if 8 ≤ v then 0 else 1)) = if 0 ≤ v.toInt ∧ v.toInt ≤ 7 then 1 else 0 := by
    simp only [Int32.le_iff_toInt_le, Int32.lt_iff_toInt_lt, Int32.reduceToInt]
    by_cases h1 : v.toInt < 0
    · rw [if_pos h1, if_neg (by omega)]
    · rw [if_neg h1]
      by_cases h2 : 8 ≤ v.toInt
      · rw [if_pos h2, if_neg (by omega)]
      · rw [if_neg h2, if_pos (by omega)]
  unfold F_X5_isPart
  rw [e, isB_ite]
  rfl
theorem X6_part (w : Wd) (v : Int32) : F_X6_isPart w v = some (if 0 ≤ v.toInt ∧ v.toInt ≤ 7 then 1 else 0, w) := by
  unfold F_X6_isPart
  rw [X6_within, Option.bind_some]
  dsimp only
  rw [show ((0 : Int64).toInt) = 0 from rfl, show ((7 : Int64).toInt) = 7 from rfl, isB_ite]
  rfl
theorem pairA (w : Wd) {p q : Nat} (hp : p < 8) (hq : q < 8) (hpq : p ≠ q) {a : Nat → Nat} (ha : ∀ x, x < 8 → w.2.1 9 x = nI (a x) ∧ a x < 256) (b : Bool) (v : Int32) (hv : v = if b = true then 1 else 0) : F_X3_setPair_rules_apart w (nI p) (nI q) v = some (wA (wA w 9 (nI p) (nI (sB (a p) q b))) 9 (nI q) (nI (sB (a q) p b))) := by
  have e2 : (wA w 9 (nI p) (nI (sB (a p) q b))).2.1 9 q = nI (a q) := by
    simp only [rI_i, rI_a, rI_l, rA_i, rA_a, rA_l, rR_i, rR_a, rR_l, rL_i, rL_a, rL_l, reduceIte, Nat.reduceEqDiff]
    rw [cl_nI (by omega), upd_at, if_neg (by omega)]
    exact (ha q hq).1
  unfold F_X3_setPair_rules_apart F_X3_setPair_rules_apart_33 F_X3_setPair_rules_apart_57
  cases b with
  | true =>
    rw [if_pos rfl] at hv
    subst hv
    rw [if_neg one0, if_neg one0, gd_nI hp (by omega), gd_nI hq (by omega), cl_nI (by omega), cl_nI (by omega), (ha p hp).1, sB_or _ (ha p hp).2 _ hq, e2, sB_or _ (ha q hq).2 _ hp]
    rfl
  | false =>
    rw [if_neg (by decide)] at hv
    subst hv
    rw [if_pos rfl, if_pos rfl, gd_nI hp (by omega), gd_nI hq (by omega), cl_nI (by omega), cl_nI (by omega), (ha p hp).1, sB_and _ (ha p hp).2 _ hq, e2, sB_and _ (ha q hq).2 _ hp]
    rfl
theorem pairT (w : Wd) {p q : Nat} (hp : p < 8) (hq : q < 8) (hpq : p ≠ q) {a : Nat → Nat} (ha : ∀ x, x < 8 → w.2.1 10 x = nI (a x) ∧ a x < 256) (b : Bool) (v : Int32) (hv : v = if b = true then 1 else 0) : F_X3_setPair_rules_together w (nI p) (nI q) v = some (wA (wA w 10 (nI p) (nI (sB (a p) q b))) 10 (nI q) (nI (sB (a q) p b))) := by
  have e2 : (wA w 10 (nI p) (nI (sB (a p) q b))).2.1 10 q = nI (a q) := by
    simp only [rI_i, rI_a, rI_l, rA_i, rA_a, rA_l, rR_i, rR_a, rR_l, rL_i, rL_a, rL_l, reduceIte, Nat.reduceEqDiff]
    rw [cl_nI (by omega), upd_at, if_neg (by omega)]
    exact (ha q hq).1
  unfold F_X3_setPair_rules_together F_X3_setPair_rules_together_33 F_X3_setPair_rules_together_57
  cases b with
  | true =>
    rw [if_pos rfl] at hv
    subst hv
    rw [if_neg one0, if_neg one0, gd_nI hp (by omega), gd_nI hq (by omega), cl_nI (by omega), cl_nI (by omega), (ha p hp).1, sB_or _ (ha p hp).2 _ hq, e2, sB_or _ (ha q hq).2 _ hp]
    rfl
  | false =>
    rw [if_neg (by decide)] at hv
    subst hv
    rw [if_pos rfl, if_pos rfl, gd_nI hp (by omega), gd_nI hq (by omega), cl_nI (by omega), cl_nI (by omega), (ha p hp).1, sB_and _ (ha p hp).2 _ hq, e2, sB_and _ (ha q hq).2 _ hp]
    rfl
def sB2 (a : Nat → Nat) (p q : Nat) (b : Bool) (x : Nat) : Nat := if x = p then sB (a p) q b else if x = q then sB (a q) p b else a x
theorem sB2_bit {a : Nat → Nat} {p q x y : Nat} (hp : p < 8) (hq : q < 8) (hx : x < 8) (hy : y < 8) (ha : ∀ x, x < 8 → a x < 256) (hpq : p ≠ q) (b : Bool) : (sB2 a p q b x).testBit y = if (x = p ∧ y = q) ∨ (x = q ∧ y = p) then b else (a x).testBit y := by
  unfold sB2
  by_cases e1 : x = p
  · subst e1
    rw [if_pos rfl, sB_bit _ (ha _ hp) _ hq b _ hy]
    by_cases e2 : y = q
    · rw [if_pos e2, if_pos (Or.inl ⟨rfl, e2⟩)]
    · rw [if_neg e2, if_neg (by omega)]
  · rw [if_neg e1]
    by_cases e2 : x = q
    · subst e2
      rw [if_pos rfl, sB_bit _ (ha _ hq) _ hp b _ hy]
      by_cases e3 : y = p
      · rw [if_pos e3, if_pos (Or.inr ⟨rfl, e3⟩)]
      · rw [if_neg e3, if_neg (by omega)]
    · rw [if_neg e2, if_neg (by omega)]
theorem sB2_lt {a : Nat → Nat} {p q x : Nat} (hp : p < 8) (hq : q < 8) (hx : x < 8) (ha : ∀ x, x < 8 → a x < 256) (b : Bool) : sB2 a p q b x < 256 := by
  unfold sB2
  split
  · exact sB_lt _ (ha p hp) _ hq b
  · split
    · exact sB_lt _ (ha q hq) _ hp b
    · exact ha x hx
theorem sB2_upd {f : Nat → Int32} {a : Nat → Nat} {p q : Nat} (hpq : p ≠ q) (hf : ∀ x, x < 8 → f x = nI (a x)) (b : Bool) : ∀ x, x < 8 → upd (upd f p (nI (sB (a p) q b))) q (nI (sB (a q) p b)) x = nI (sB2 a p q b x) := by
  intro x hx
  rw [upd_at, upd_at]
  unfold sB2
  by_cases e1 : x = p
  · rw [if_neg (by omega), if_pos e1, if_pos e1]
  · rw [if_neg e1, if_neg e1]
    by_cases e2 : x = q
    · rw [if_pos e2, if_pos e2]
    · rw [if_neg e2, if_neg e2]
      exact hf x hx
theorem RR.my {l1 k1 c1 s1 m1 : Int32} {ap tg sc sl sm : Nat → Int32} {l2 k2 c2 s2 m2 : Int32} {my sc2 sl2 sm2 : Nat → Int32} (h : RR l1 k1 c1 s1 m1 ap tg sc sl sm l2 k2 c2 s2 m2 my sc2 sl2 sm2) : MayRel ap tg my ∧ ∀ ap' tg' my', MayRel ap' tg' my' → RR l1 k1 c1 s1 m1 ap' tg' sc sl sm l2 k2 c2 s2 m2 my' sc2 sl2 sm2 := by
  obtain ⟨h1, hl, hk, hc, hs, hm, hy⟩ := h
  exact ⟨hy, fun _ _ _ h' => ⟨h1, hl, hk, hc, hs, hm, h'⟩⟩
theorem eqv_may (p1 p2 p3 : Int32) : Eqv (fun w => F_X5_may w p1 p2 p3) (fun w => F_X6_may w p1 p2 p3) := by
  rintro w ⟨hpad, hr, hi0, hi1⟩
  have hrel : Rel w := ⟨hpad, hr, hi0, hi1⟩
  show Ok (F_X5_may w p1 p2 p3) _
  unfold F_X5_may F_X5_may_19
  rw [X5_part, Option.bind_some]
  dsimp only
  by_cases h1 : 0 ≤ p1.toInt ∧ p1.toInt ≤ 7
  · rw [if_pos h1, if_neg one0, X5_part, Option.bind_some]
    dsimp only
    by_cases h2 : 0 ≤ p2.toInt ∧ p2.toInt ≤ 7
    · rw [if_pos h2, if_neg one0]
      by_cases h3 : p1 = p2
      · rw [if_pos h3]
        refine Ok.ret ?_
        show Ok (F_X6_may w p1 p2 p3) _
        unfold F_X6_may F_X6_may_19
        rw [X6_part, Option.bind_some, if_pos h1, if_neg one0, X6_part, Option.bind_some, if_pos h2, if_neg one0, if_pos h3]
        exact Ok.ret ⟨rfl, hrel⟩
      · rw [if_neg h3]
        by_cases h4 : 0 ≤ p3.toInt ∧ p3.toInt ≤ 2
        · rw [X5_yes (show 0 ≤ p3.toInt ∧ p3.toInt ≤ (2 : Int32).toInt from h4), Option.bind_some, if_neg one0]
          obtain ⟨p, hp, rfl, hpe⟩ := i32_nat h1.1
          obtain ⟨q, hq, rfl, hqe⟩ := i32_nat h2.1
          obtain ⟨c, hc, rfl, hce⟩ := i32_nat h4.1
          have hp8 : p < 8 := by omega
          have hq8 : q < 8 := by omega
          have hpq : p ≠ q := fun e => h3 (by rw [e])
          obtain ⟨⟨a, t, hat, hmy⟩, hput⟩ := RR.my hr
          have ha : ∀ x, x < 8 → w.2.1 9 x = nI (a x) ∧ a x < 256 := fun x hx => ⟨(hat x hx).1, (hat x hx).2.2.1⟩
          have ht : ∀ x, x < 8 → w.2.1 10 x = nI (t x) ∧ t x < 256 := fun x hx => ⟨(hat x hx).2.1, (hat x hx).2.2.2.1⟩
          have hb1 : (if nI c = 1 then (1 : Int32) else 0) = if (decide (c = 1)) = true then 1 else 0 := by
            by_cases e : c = 1
            · rw [if_pos (by rw [e]; rfl), if_pos (by rw [e]; rfl)]
            · rw [if_neg (by simp (disch := omega) only [Int32.le_iff_toInt_le, Int32.lt_iff_toInt_lt, ← Int32.toInt_inj, nI_toInt, Int32.reduceToInt]; omega), if_neg (by simpa using e)]
          have hb2 : (if nI c = 2 then (1 : Int32) else 0) = if (decide (c = 2)) = true then 1 else 0 := by
            by_cases e : c = 2
            · rw [if_pos (by rw [e]; rfl), if_pos (by rw [e]; rfl)]
            · rw [if_neg (by simp (disch := omega) only [Int32.le_iff_toInt_le, Int32.lt_iff_toInt_lt, ← Int32.toInt_inj, nI_toInt, Int32.reduceToInt]; omega), if_neg (by simpa using e)]
          have h40 : ∀ v : Int32, F_X3_setTogether_40 w (nI p) (nI q) (nI c) v = some (v, wA (wA (wA (wA w 9 (nI p) (nI (sB (a p) q (decide (c = 1))))) 9 (nI q) (nI (sB (a q) p (decide (c = 1))))) 10 (nI p) (nI (sB (t p) q (decide (c = 2))))) 10 (nI q) (nI (sB (t q) p (decide (c = 2))))) := by
            intro v
            unfold F_X3_setTogether_40
            rw [pairA w hp8 hq8 hpq ha _ _ hb1, Option.bind_some, pairT (wA (wA w 9 (nI p) (nI (sB (a p) q (decide (c = 1))))) 9 (nI q) (nI (sB (a q) p (decide (c = 1))))) hp8 hq8 hpq (a := t) (fun x hx => ht x hx) _ _ hb2, Option.bind_some]
          have hmpq := (hmy p hp8 q hq8).1
          have hset : F_X3_setTogether w (nI p) (nI q) (nI c) = some (w.2.1 37 (8 * p + q), wA (wA (wA (wA w 9 (nI p) (nI (sB (a p) q (decide (c = 1))))) 9 (nI q) (nI (sB (a q) p (decide (c = 1))))) 10 (nI p) (nI (sB (t p) q (decide (c = 2))))) 10 (nI q) (nI (sB (t q) p (decide (c = 2))))) := by
            unfold F_X3_setTogether
            rw [gd_nI hp8 (by omega), cl_nI (by omega), (ha p hp8).1, (ht p hp8).1, bit_at _ (ha p hp8).2 _ hq8, bit_at _ (ht p hp8).2 _ hq8, hmpq]
            unfold bN
            by_cases z : (a p).testBit q = true
            · rw [if_pos z, if_pos z, if_pos (show nI 1 = 1 by decide)]
              exact h40 1
            · rw [if_neg z, if_neg z, if_neg (show ¬ nI 0 = 1 by decide)]
              by_cases z2 : (t p).testBit q = true
              · rw [if_pos z2, if_pos z2, if_pos (show nI 1 = 1 by decide)]
                exact h40 2
              · rw [if_neg z2, if_neg z2, if_neg (show ¬ nI 0 = 1 by decide)]
                exact h40 0
          dsimp only
          rw [hset, Option.bind_some]
          obtain ⟨w1, ew1⟩ : ∃ w1, w1 = wA (wA (wA (wA w 9 (nI p) (nI (sB (a p) q (decide (c = 1))))) 9 (nI q) (nI (sB (a q) p (decide (c = 1))))) 10 (nI p) (nI (sB (t p) q (decide (c = 2))))) 10 (nI q) (nI (sB (t q) p (decide (c = 2)))) := ⟨_, rfl⟩
          rw [← ew1]
          refine Ok.ret ?_
          show Ok (F_X6_may w1 (nI p) (nI q) (nI c)) _
          unfold F_X6_may
          rw [X6_part, Option.bind_some, if_pos h1, if_neg one0, X6_part, Option.bind_some, if_pos h2, if_neg one0, if_neg h3, X6_yes (show (0 : Int64).toInt ≤ (nI c).toInt ∧ (nI c).toInt ≤ (2 : Int64).toInt from h4), Option.bind_some, if_neg one0]
          dsimp only
          rw [show (8 : Int32) * nI p = nI (8 * p) from pk_mul 8 p, show (8 : Int32) * nI q = nI (8 * q) from pk_mul 8 q, nI_add, nI_add]
          refine Ok.gu (gd_nI (by omega) (by omega)) (Ok.let (fun y ey => Ok.gu (gd_nI (by omega) (by omega)) (Ok.gu (gd_nI (by omega) (by omega)) (Ok.ret ⟨?_, ?_⟩))))
          · rw [ey, cl_nI (by omega), ew1]
            rfl
          · subst ew1
            refine ⟨hpad, ?_, hi0, hi1⟩
            unfold RulesRel
            simp only [rI_i, rI_a, rI_l, rA_i, rA_a, rA_l, rR_i, rR_a, rR_l, rL_i, rL_a, rL_l, reduceIte, Nat.reduceEqDiff]
            rw [cl_nI (show 8 * p + q < 2 ^ 31 by omega), cl_nI (show 8 * q + p < 2 ^ 31 by omega), cl_nI (show p < 2 ^ 31 by omega), cl_nI (show q < 2 ^ 31 by omega)]
            refine hput _ _ _ ⟨sB2 a p q (decide (c = 1)), sB2 t p q (decide (c = 2)), fun x hx => ?_, fun x hx y hy => ?_⟩
            · have hxa := fun b => sB2_bit hp8 hq8 hx hx (fun x hx => (ha x hx).2) hpq b
              have hxt := fun b => sB2_bit hp8 hq8 hx hx (fun x hx => (ht x hx).2) hpq b
              refine ⟨sB2_upd hpq (fun x hx => (ha x hx).1) _ x hx, sB2_upd hpq (fun x hx => (ht x hx).1) _ x hx, sB2_lt hp8 hq8 hx (fun x hx => (ha x hx).2) _, sB2_lt hp8 hq8 hx (fun x hx => (ht x hx).2) _, ?_, ?_⟩
              · rw [hxa, if_neg (by omega)]; exact (hat x hx).2.2.2.2.1
              · rw [hxt, if_neg (by omega)]; exact (hat x hx).2.2.2.2.2
            · have xa := sB2_bit hp8 hq8 hx hy (fun x hx => (ha x hx).2) hpq (decide (c = 1))
              have ya := sB2_bit hp8 hq8 hy hx (fun x hx => (ha x hx).2) hpq (decide (c = 1))
              have xt := sB2_bit hp8 hq8 hx hy (fun x hx => (ht x hx).2) hpq (decide (c = 2))
              have yt := sB2_bit hp8 hq8 hy hx (fun x hx => (ht x hx).2) hpq (decide (c = 2))
              obtain ⟨m1, m2, m3, m4⟩ := hmy x hx y hy
              rw [xa, ya, xt, yt]
              by_cases z : (x = p ∧ y = q) ∨ (x = q ∧ y = p)
              · have z' : (y = p ∧ x = q) ∨ (y = q ∧ x = p) := by omega
                rw [if_pos z, if_pos z', if_pos z, if_pos z']
                refine ⟨?_, rfl, rfl, fun zz => by have z1 := of_decide_eq_true zz.1; have z2 := of_decide_eq_true zz.2; omega⟩
                rw [upd_at, upd_at]
                have hcv : nI c = (if decide (c = 1) = true then 1 else if decide (c = 2) = true then 2 else 0) := by
                  rcases (show c = 0 ∨ c = 1 ∨ c = 2 by omega) with rfl | rfl | rfl <;> decide
                by_cases z2 : 8 * x + y = 8 * q + p
                · rw [if_pos z2]; exact hcv
                · rw [if_neg z2, if_pos (by omega)]; exact hcv
              · have z' : ¬ ((y = p ∧ x = q) ∨ (y = q ∧ x = p)) := by omega
                rw [if_neg z, if_neg z', if_neg z, if_neg z']
                refine ⟨?_, m2, m3, m4⟩
                rw [upd_at, upd_at, if_neg (by omega), if_neg (by omega)]
                exact m1
        · rw [X5_not (show ¬ (0 ≤ p3.toInt ∧ p3.toInt ≤ (2 : Int32).toInt) from h4), Option.bind_some, if_pos rfl]
          refine Ok.ret ?_
          show Ok (F_X6_may w p1 p2 p3) _
          unfold F_X6_may
          rw [X6_part, Option.bind_some, if_pos h1, if_neg one0, X6_part, Option.bind_some, if_pos h2, if_neg one0, if_neg h3, X6_not (show ¬ ((0 : Int64).toInt ≤ p3.toInt ∧ p3.toInt ≤ (2 : Int64).toInt) from h4), Option.bind_some, if_pos rfl]
          exact Ok.ret ⟨rfl, hrel⟩
    · rw [if_neg h2, if_pos rfl]
      refine Ok.ret ?_
      show Ok (F_X6_may w p1 p2 p3) _
      unfold F_X6_may F_X6_may_19
      rw [X6_part, Option.bind_some, if_pos h1, if_neg one0, X6_part, Option.bind_some, if_neg h2, if_pos rfl]
      exact Ok.ret ⟨rfl, hrel⟩
  · rw [if_neg h1, if_pos rfl]
    refine Ok.ret ?_
    show Ok (F_X6_may w p1 p2 p3) _
    unfold F_X6_may F_X6_may_19
    rw [X6_part, Option.bind_some, if_neg h1, if_pos rfl]
    exact Ok.ret ⟨rfl, hrel⟩
