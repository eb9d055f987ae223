theorem mnV_max (val : Nat → Nat) (p : Nat) : ∀ S, mnV val p S ≤ 2147483647 := by
  intro S
  induction S with
  | zero => exact Nat.le_refl _
  | succ S ih =>
    simp only [mnV]
    split
    · exact ih
    · split <;> omega
theorem vl_le {S : Nat} (hS : S < 7) (c : Nat → Nat) (p on j : Nat) : vl S c p on j ≤ 64 := by
  have := VV_le S c (p ||| 2 ^ j) (c j) hS
  have := pc_le (on ^^^ c j)
  unfold vl
  omega
theorem fewBy (w : Wd) {S p on j : Nat} {c : Nat → Nat} (hS : S < 7) (hj : j < S) (hp : p < 2 ^ S) (hon : on < 256) (hc : w.2.1 32 j = nI (c j) ∧ c j < 256) (ht : w.2.1 33 ((p ||| 2 ^ j) * 6 + j) = nI (VV S c (p ||| 2 ^ j) (c j))) : F_X4_fewestBy w (nI j) (nI p) (nI on) = some (nI (vl S c p on j), w) := by
  have h64 := pow64 hS
  have hlt := or_small S hS p hp j hj
  have hx : on ^^^ c j < 256 := Nat.xor_lt_two_pow (n := 8) hon hc.2
  unfold F_X4_fewestBy
  rw [gd_nI (show j < 6 by omega) (by omega), cl_nI (by omega), hc.1, nI_xor, J6_bc _ hx, bit_1 _ (by omega), nI_or, show nI (p ||| 2 ^ j) * (6 : Int32) = nI ((p ||| 2 ^ j) * 6) from pk_mul _ 6, nI_add, gd_nI (show (p ||| 2 ^ j) * 6 + j < 384 by omega) (by omega), cl_nI (by omega)]
  show some (nI (pc (on ^^^ c j)) + w.2.1 33 ((p ||| 2 ^ j) * 6 + j), w) = _
  rw [ht, nI_add]
  rfl
theorem bN_0 {m q : Nat} : nI (bN m q) = 0 ↔ m.testBit q = false := by
  unfold bN
  cases m.testBit q with
  | false => rw [if_neg (by decide)]; exact ⟨fun _ => rfl, fun _ => rfl⟩
  | true => rw [if_pos rfl]; exact ⟨fun h => absurd h (by decide), fun h => by cases h⟩
theorem bN_1 {m q : Nat} : nI (bN m q) = 1 ↔ m.testBit q = true := by
  unfold bN
  cases m.testBit q with
  | false => rw [if_neg (by decide)]; exact ⟨fun h => absurd h (by decide), fun h => by cases h⟩
  | true => rw [if_pos rfl]; exact ⟨fun _ => rfl, fun _ => rfl⟩
/-- what a method of the order needs to know -/
def OrdC (w : Wd) (S : Nat) (c : Nat → Nat) : Prop := w.1 26 = nI S ∧ ∀ j, j < S → w.2.1 32 j = nI (c j) ∧ c j < 256
def TabC (w : Wd) (S : Nat) (c : Nat → Nat) (p : Nat) : Prop := ∀ q, p < q → q < 2 ^ S → ∀ j, j < S → q.testBit j = true → w.2.1 33 (q * 6 + j) = nI (VV S c q (c j))
theorem or_gt {S p j : Nat} (hS : S < 7) (hp : p < 2 ^ S) (hj : j < S) (hb : p.testBit j = false) : p < p ||| 2 ^ j ∧ (p ||| 2 ^ j).testBit j = true := by
  have h64 := pow64 hS
  obtain ⟨h1, h2, h3, h4⟩ := pc_or p (by omega) j (by omega)
  have e : (p ||| 2 ^ j).testBit j = true := by rw [h4 j (by omega), Bool.or_eq_true]; exact Or.inr (beq_self_eq_true _)
  refine ⟨?_, e⟩
  have : p ≤ p ||| 2 ^ j := Nat.left_le_or
  rcases Nat.lt_or_eq_of_le this with h | h
  · exact h
  · rw [← h] at e
    rw [e] at hb
    cases hb
theorem full_m1 : ∀ S, S < 7 → ((1 : Int32) <<< (nI S &&& 31)) - 1 = nI (2 ^ S - 1) := by decide +kernel
/-- the least, cut off where no order can come to -/
def m57 (x : Nat) : Nat := if x < 57 then x else 57
theorem m57_le (x : Nat) : m57 x ≤ 57 := by
  unfold m57
  by_cases a : x < 57
  · rw [if_pos a]; omega
  · rw [if_neg a]; exact Nat.le_refl _
theorem m57_min {v M : Nat} (h : v ≤ 56) : (if v < m57 M then v else m57 M) = m57 (if v < M then v else M) := by
  unfold m57
  by_cases a : M < 57
  · rw [if_pos a]
    by_cases b : v < M
    · rw [if_pos b, if_pos (show v < 57 by omega)]
    · rw [if_neg b, if_pos a]
  · rw [if_neg a, if_pos (show v < 57 by omega), if_pos (show v < M by omega), if_pos (show v < 57 by omega)]
theorem vl_56 {S p j : Nat} (hS : S < 7) (c : Nat → Nat) (on : Nat) (hp : p < 2 ^ S) (hj : j < S) (hb : p.testBit j = false) : vl S c p on j ≤ 56 := by
  have h64 := pow64 hS
  have h1 := (pc_or p (by omega) j (by omega)).1 hb
  have h2 := Vf_le S c (S - pc (p ||| 2 ^ j)) (p ||| 2 ^ j) (c j)
  have h3 := pc_le (on ^^^ c j)
  unfold vl VV
  rw [h1] at h2 ⊢
  omega
theorem fewFrom (w : Wd) {S p on : Nat} {c : Nat → Nat} (hS : S < 7) (hO : OrdC w S c) (hT : TabC w S c p) (hp : p < 2 ^ S) (hon : on < 256) : F_X4_fewestFrom w (nI p) (nI on) = some (nI (VV S c p on), w) := by
  have h64 := pow64 hS
  apply Ok.eq
  unfold F_X4_fewestFrom
  rw [hO.1, full_m1 _ hS]
  refine Ok.ite (fun q => ?_) (fun q => ?_)
  · rw [nI_eq (by omega) (by omega)] at q
    rw [q, VV_full hS, J6_bc _ hon, Option.bind_some]
    exact Ok.ret rfl
  · have hf : p ≠ 2 ^ S - 1 := fun h => q (by rw [h])
    obtain ⟨jj, j1, j2, -⟩ := VV_ex hS c hp on hf
    unfold L_X4_fewestFrom_23
    refine Ok.loop (fun a => ∃ i, i ≤ S ∧ a.1 = w ∧ a.2.1 = nI p ∧ a.2.2.1 = nI on ∧ a.2.2.2.1 = nI (m57 (mnV (vl S c p on) p i)) ∧ a.2.2.2.2 = nI i) (fun a => 41 - a.2.2.2.2.toNatClampNeg) ?_ fu _ ⟨0, Nat.zero_le _, rfl, rfl, rfl, rfl, rfl⟩ (fu_big (by show 41 - _ < _; omega))
    rintro ⟨w1, v1, v2, v3, v4⟩ ⟨i, hi, e1, e2, e3, e4, e5⟩ kk hkk
    dsimp only at e1 e2 e3 e4 e5 hkk ⊢
    subst e1 e2 e3 e4 e5
    unfold F_X4_fewestFrom_23 F_X4_fewestFrom_54
    rw [hO.1]
    have hmx := m57_le (mnV (vl S c p on) p i)
    refine Ok.ite (fun z => ?_) (fun z => ?_)
    · simp (disch := omega) only [Int32.le_iff_toInt_le, Int32.lt_iff_toInt_lt, ← Int32.toInt_inj, nI_toInt, Int32.reduceToInt] at z
      have e : i = S := by omega
      subst e
      have hmn := mnV_le (vl i c p on) p i jj j1 j2
      have hv := vl_56 hS c on hp j1 j2
      rw [VV_eq hS c hp on, if_neg (show ¬ mnV (vl i c p on) p i = 2147483647 by omega), show m57 (mnV (vl i c p on) p i) = mnV (vl i c p on) p i from if_pos (by omega)]
      exact Ok.ret rfl
    · simp (disch := omega) only [Int32.le_iff_toInt_le, Int32.lt_iff_toInt_lt, ← Int32.toInt_inj, nI_toInt, Int32.reduceToInt] at z
      have hiS : i < S := by omega
      rw [bit_at _ (by omega) _ (by omega)]
      refine Ok.ite (fun z => ?_) (fun z => ?_)
      · have hb := bN_0.mp z
        obtain ⟨g1, g2⟩ := or_gt hS hp hiS hb
        rw [fewBy w1 hS hiS hp hon (hO.2 i hiS) (hT _ g1 (or_small S hS _ hp _ hiS) i hiS g2), Option.bind_some]
        dsimp only
        have hv := vl_56 hS c on hp hiS hb
        have hm : m57 (mnV (vl S c p on) p (i + 1)) = (if vl S c p on i < m57 (mnV (vl S c p on) p i) then vl S c p on i else m57 (mnV (vl S c p on) p i)) := by
          rw [m57_min hv]
          simp only [mnV]
          rw [hb, if_neg (show ¬ false = true by decide)]
        rw [nI_1, show (if nI (vl S c p on i) < nI (m57 (mnV (vl S c p on) p i)) then nI (vl S c p on i) else nI (m57 (mnV (vl S c p on) p i))) = nI (m57 (mnV (vl S c p on) p (i + 1))) from by
          rw [hm]
          by_cases y : vl S c p on i < m57 (mnV (vl S c p on) p i)
          · rw [if_pos y, if_pos (by simp (disch := omega) only [Int32.le_iff_toInt_le, Int32.lt_iff_toInt_lt, ← Int32.toInt_inj, nI_toInt, Int32.reduceToInt]; omega)]
          · rw [if_neg y, if_neg (by simp (disch := omega) only [Int32.le_iff_toInt_le, Int32.lt_iff_toInt_lt, ← Int32.toInt_inj, nI_toInt, Int32.reduceToInt]; omega)]]
        exact hkk _ ⟨i + 1, by omega, rfl, rfl, rfl, rfl, rfl⟩ (by dsimp only; rw [cl_nI (by omega), cl_nI (by omega)]; omega)
      · have hb : p.testBit i = true := by
          cases y : p.testBit i with
          | true => rfl
          | false => exact absurd (bN_0.mpr y) z
        rw [nI_1]
        exact hkk _ ⟨i + 1, by omega, rfl, rfl, rfl, by simp only [mnV, hb]; rfl, rfl⟩ (by dsimp only; rw [cl_nI (by omega), cl_nI (by omega)]; omega)
theorem firstB (w : Wd) {S p on r : Nat} {c : Nat → Nat} (hS : S < 7) (hO : OrdC w S c) (hT : TabC w S c p) (hp : p < 2 ^ S) (hon : on < 256) (hr : isFB S c p on r) : F_X4_firstBest w (nI p) (nI on) = some (nI r, w) := by
  have h64 := pow64 hS
  obtain ⟨r1, r2, r3, r4⟩ := hr
  apply Ok.eq
  unfold F_X4_firstBest L_X4_firstBest_10
  rw [fewFrom w hS hO hT hp hon, Option.bind_some]
  dsimp only
  refine Ok.loop (fun a => ∃ i, i ≤ r ∧ a.1 = w ∧ a.2.1 = nI p ∧ a.2.2.1 = nI on ∧ a.2.2.2.1 = nI (VV S c p on) ∧ a.2.2.2.2 = nI i) (fun a => 41 - a.2.2.2.2.toNatClampNeg) ?_ fu _ ⟨0, Nat.zero_le _, rfl, rfl, rfl, rfl, rfl⟩ (fu_big (by show 41 - _ < _; omega))
  rintro ⟨w1, v1, v2, v3, v4⟩ ⟨i, hi, e1, e2, e3, e4, e5⟩ kk hkk
  dsimp only at e1 e2 e3 e4 e5 hkk ⊢
  subst e1 e2 e3 e4 e5
  unfold F_X4_firstBest_10 F_X4_firstBest_43
  have hV := VV_le S c p on hS
  have hv := vl_le hS c p on i
  rw [hO.1, if_neg (by simp (disch := omega) only [Int32.le_iff_toInt_le, Int32.lt_iff_toInt_lt, ← Int32.toInt_inj, nI_toInt, Int32.reduceToInt]; omega), bit_at _ (by omega) _ (by omega)]
  refine Ok.ite (fun z => ?_) (fun z => ?_)
  · have hb := bN_0.mp z
    obtain ⟨g1, g2⟩ := or_gt hS hp (show i < S by omega) hb
    rw [fewBy w1 hS (by omega) hp hon (hO.2 i (by omega)) (hT _ g1 (or_small S hS _ hp _ (by omega)) i (by omega) g2), Option.bind_some]
    dsimp only
    refine Ok.ite (fun y => ?_) (fun y => ?_)
    · rw [nI_eq (by omega) (by omega)] at y
      have e : i = r := by
        rcases (show i = r ∨ i < r by omega) with h | h
        · exact h
        · exact absurd y (r4 i h hb)
      rw [e]
      exact Ok.ret rfl
    · have hne : i ≠ r := fun h => y (by rw [h, r3])
      rw [nI_1]
      exact hkk _ ⟨i + 1, by omega, rfl, rfl, rfl, rfl, rfl⟩ (by dsimp only; rw [cl_nI (by omega), cl_nI (by omega)]; omega)
  · have hne : i ≠ r := fun h => z (bN_0.mpr (by rw [h]; exact r2))
    rw [nI_1]
    exact hkk _ ⟨i + 1, by omega, rfl, rfl, rfl, rfl, rfl⟩ (by dsimp only; rw [cl_nI (by omega), cl_nI (by omega)]; omega)
theorem stO_on {S : Nat} (hS : S < 7) {c : Nat → Nat} (hc : ∀ j, j < S → c j < 256) : ∀ k, k ≤ S → (stO S c k).2 < 256 := by
  intro k hk
  cases k with
  | zero => exact Nat.zero_lt_succ _
  | succ k => exact hc _ (rwO_lt hS c k (by omega))
theorem fillR (w : Wd) {S : Nat} {c : Nat → Nat} (hS : S < 7) (hO : OrdC w S c) (hT : TabC w S c 0) : Ok (F_X4_fillRow w) (fun w' => Fr [] [31] w w' ∧ ∀ k, k < S → w'.2.1 31 k = nI (rwO S c k)) := by
  have h64 := pow64 hS
  unfold F_X4_fillRow L_X4_fillRow_6
  refine Ok.loop (fun a => ∃ i, i ≤ S ∧ Fr [] [31] w a.1 ∧ a.2.1 = nI (stO S c i).1 ∧ a.2.2.1 = nI (stO S c i).2 ∧ a.2.2.2 = nI i ∧ ∀ k, k < i → a.1.2.1 31 k = nI (rwO S c k)) (fun a => 41 - a.2.2.2.toNatClampNeg) ?_ fu _ ⟨0, Nat.zero_le _, Fr.rf _ _ _, rfl, rfl, rfl, fun k hk => absurd hk (Nat.not_lt_zero _)⟩ (fu_big (by show 41 - _ < _; omega))
  rintro ⟨w1, v1, v2, v3⟩ ⟨i, hi, hs, e1, e2, e3, hk⟩ kk hkk
  dsimp only at hs e1 e2 e3 hk hkk ⊢
  subst e1 e2 e3
  unfold F_X4_fillRow_6
  have hO1 : OrdC w1 S c := by
    unfold OrdC
    rw [hs.1 26 (by decide), hs.2 32 (by decide)]
    exact hO
  have hT1 : TabC w1 S c (stO S c i).1 := fun q q1 q2 => by rw [hs.2 33 (by decide)]; exact hT q (by omega) q2
  rw [hO1.1]
  obtain ⟨g1, g2, g3⟩ := stO_ok hS c i hi
  refine Ok.ite (fun z => ?_) (fun z => ?_)
  · simp (disch := omega) only [Int32.le_iff_toInt_le, Int32.lt_iff_toInt_lt, ← Int32.toInt_inj, nI_toInt, Int32.reduceToInt] at z
    have e : i = S := by omega
    subst e
    exact Ok.ret ⟨hs, hk⟩
  · simp (disch := omega) only [Int32.le_iff_toInt_le, Int32.lt_iff_toInt_lt, ← Int32.toInt_inj, nI_toInt, Int32.reduceToInt] at z
    have hfb := g3 (by omega)
    have hlt := hfb.1
    rw [firstB w1 hS hO1 hT1 g1 (stO_on hS (fun j hj => (hO.2 j hj).2) i hi) hfb, Option.bind_some]
    dsimp only
    rw [gd_nI (show i < 6 by omega) (by omega), gd_nI (show rwO S c i < 6 by omega) (by omega), cl_nI (by omega), bit_1 _ (by omega), nI_or, nI_1, (hO1.2 _ hlt).1]
    refine hkk _ ⟨i + 1, by omega, hs.wA (by decide), rfl, rfl, rfl, fun k q => ?_⟩ (by dsimp only; rw [cl_nI (by omega), cl_nI (by omega)]; omega)
    simp only [rI_i, rI_a, rI_l, rA_i, rA_a, rA_l, rR_i, rR_a, rR_l, rL_i, rL_a, rL_l, reduceIte, Nat.reduceEqDiff]
    rw [cl_nI (by omega), upd_at]
    by_cases e : k = i
    · rw [if_pos e, e]
    · rw [if_neg e]; exact hk k (by omega)
theorem orderC (w : Wd) {S : Nat} {c : Nat → Nat} (hS : S < 7) (h11 : w.1 11 = nI S) (hc : ∀ j, j < S → w.2.1 11 j = nI (c j) ∧ c j < 256) : Ok (F_X4_choose w) (fun w' => Fr [25, 26] [31, 32, 33] w w' ∧ w'.1 25 = nI (VV S c 0 0) ∧ ∀ k, k < S → w'.2.1 31 k = nI (rwO S c k)) := by
  have h64 := pow64 hS
  have hpos : 0 < 2 ^ S := Nat.two_pow_pos _
  unfold F_X4_choose
  rw [h11, full_m1 _ hS]
  have hO : OrdC (wR (wI w 26 (nI S)) 32 (va_cpy (w.2.1 11) (w.2.1 32) 0 0 6)) S c := by
    refine ⟨by simp only [rI_i, rI_a, rI_l, rA_i, rA_a, rA_l, rR_i, rR_a, rR_l, rL_i, rL_a, rL_l, reduceIte, Nat.reduceEqDiff], fun j hj => ?_⟩
    simp only [rI_i, rI_a, rI_l, rA_i, rA_a, rA_l, rR_i, rR_a, rR_l, rL_i, rL_a, rL_l, reduceIte, Nat.reduceEqDiff]
    rw [cpy_in (show j < 6 by omega)]
    exact hc j hj
  have hs0 : Fr [25, 26] [31, 32, 33] w (wR (wI w 26 (nI S)) 32 (va_cpy (w.2.1 11) (w.2.1 32) 0 0 6)) := ((Fr.rf _ _ w).wI (by decide)).wR (by decide)
  generalize wR (wI w 26 (nI S)) 32 (va_cpy (w.2.1 11) (w.2.1 32) 0 0 6) = w0 at hO hs0 ⊢
  unfold L_X4_choose_32
  refine Ok.loop (fun a => ∃ p, p < 2 ^ S ∧ Fr [] [33] w0 a.1 ∧ a.2 = nI p ∧ TabC a.1 S c p) (fun a => a.2.toNatClampNeg) ?_ fu _ ⟨2 ^ S - 1, by omega, Fr.rf _ _ _, rfl, fun q q1 q2 => by omega⟩ (fu_big (by show (nI (2 ^ S - 1)).toNatClampNeg < _; rw [cl_nI (by omega)]; omega))
  rintro ⟨w1, v2⟩ ⟨p, hp, hs, e2, hT⟩ k32 hk32
  dsimp only at hs e2 hT hk32 ⊢
  subst e2
  unfold F_X4_choose_32
  have ord : ∀ w', Fr [] [33] w0 w' → OrdC w' S c := fun w' h => by
    unfold OrdC
    rw [h.1 26 (by decide), h.2 32 (by decide)]
    exact hO
  refine Ok.ite (fun z => ?_) (fun z => ?_)
  · have z2 : p = 0 := by
      have z3 : nI p ≤ nI 0 := z
      rw [nI_leI (by omega) (by omega)] at z3
      omega
    subst z2
    have hO1 := ord w1 hs
    rw [show (0 : Int32) = nI 0 from rfl, fewFrom w1 hS hO1 hT hp (by omega), Option.bind_some]
    dsimp only
    refine Ok.bind (fillR (wI w1 25 (nI (VV S c 0 0))) hS hO1 hT) ?_
    rintro w2 ⟨hs2, hk⟩
    have hs1 : Fr [25, 26] [31, 32, 33] w (wI w1 25 (nI (VV S c 0 0))) := (hs0.tr (hs.mono (by decide) (by decide))).wI (by decide)
    refine Ok.ret ⟨hs1.tr (hs2.mono (by decide) (by decide)), ?_, hk⟩
    rw [hs2.1 25 (by decide)]
    simp only [rI_i, rI_a, rI_l, rA_i, rA_a, rA_l, rR_i, rR_a, rR_l, rL_i, rL_a, rL_l, reduceIte, Nat.reduceEqDiff]
  · have z2 : 0 < p := by
      rcases Nat.eq_zero_or_pos p with h | h
      · subst h; exact absurd (show nI 0 ≤ 0 by decide) z
      · exact h
    unfold L_X4_choose_38
    refine Ok.loop (fun a => ∃ i, i ≤ S ∧ Fr [] [33] w0 a.1 ∧ a.2.1 = nI p ∧ a.2.2 = nI i ∧ TabC a.1 S c p ∧ ∀ j, j < i → p.testBit j = true → a.1.2.1 33 (p * 6 + j) = nI (VV S c p (c j))) (fun a => 41 - a.2.2.toNatClampNeg) ?_ fu _ ⟨0, Nat.zero_le _, hs, rfl, rfl, hT, fun k hk => absurd hk (Nat.not_lt_zero _)⟩ (fu_big (by show 41 - _ < _; omega))
    rintro ⟨w3, v3, v4⟩ ⟨i, hi, hs3, e3, e4, hT3, hrow⟩ kk hkk
    dsimp only at hs3 e3 e4 hT3 hrow hkk ⊢
    subst e3 e4
    unfold F_X4_choose_38 F_X4_choose_77
    have hO3 := ord w3 hs3
    rw [hO3.1]
    refine Ok.ite (fun y => ?_) (fun y => ?_)
    · simp (disch := omega) only [Int32.le_iff_toInt_le, Int32.lt_iff_toInt_lt, ← Int32.toInt_inj, nI_toInt, Int32.reduceToInt] at y
      have e : i = S := by omega
      subst e
      obtain ⟨p', rfl⟩ : ∃ p', p = p' + 1 := ⟨p - 1, by omega⟩
      rw [nI_m1]
      refine hk32 _ ⟨p', by omega, hs3, rfl, fun q q1 q2 j hj hb => ?_⟩ (by dsimp only; rw [cl_nI (by omega), cl_nI (by omega)]; omega)
      rcases (show q = p' + 1 ∨ p' + 1 < q by omega) with rfl | h
      · exact hrow j hj hb
      · exact hT3 q h q2 j hj hb
    · simp (disch := omega) only [Int32.le_iff_toInt_le, Int32.lt_iff_toInt_lt, ← Int32.toInt_inj, nI_toInt, Int32.reduceToInt] at y
      have hiS : i < S := by omega
      rw [bit_at _ (by omega) _ (by omega)]
      refine Ok.ite (fun x => ?_) (fun x => ?_)
      · have hb := bN_1.mp x
        rw [gd_nI (show i < 6 by omega) (by omega), cl_nI (by omega), (hO3.2 i hiS).1, fewFrom w3 hS hO3 hT3 hp (hO3.2 i hiS).2, show nI p * (6 : Int32) = nI (p * 6) from pk_mul _ 6, nI_add, gd_nI (show p * 6 + i < 384 by omega) (by omega)]
        show Ok (kk (wA w3 33 (nI (p * 6 + i)) (nI (VV S c p (c i))), nI p, nI i + 1)) _
        rw [nI_1]
        refine hkk _ ⟨i + 1, by omega, hs3.wA (by decide), rfl, rfl, fun q q1 q2 j hj hb2 => ?_, fun j hj hb2 => ?_⟩ (by dsimp only; rw [cl_nI (by omega), cl_nI (by omega)]; omega)
        · simp only [rI_i, rI_a, rI_l, rA_i, rA_a, rA_l, rR_i, rR_a, rR_l, rL_i, rL_a, rL_l, reduceIte, Nat.reduceEqDiff]
          rw [cl_nI (by omega), upd_at, if_neg (by omega)]
          exact hT3 q q1 q2 j hj hb2
        · simp only [rI_i, rI_a, rI_l, rA_i, rA_a, rA_l, rR_i, rR_a, rR_l, rL_i, rL_a, rL_l, reduceIte, Nat.reduceEqDiff]
          rw [cl_nI (by omega), upd_at]
          by_cases e : j = i
          · rw [if_pos (by omega), e]
          · rw [if_neg (by omega)]; exact hrow j (by omega) hb2
      · rw [nI_1]
        refine hkk _ ⟨i + 1, by omega, hs3, rfl, rfl, hT3, fun j hj hb2 => ?_⟩ (by dsimp only; rw [cl_nI (by omega), cl_nI (by omega)]; omega)
        rcases (show j = i ∨ j < i by omega) with rfl | h
        · exact absurd (bN_1.mpr hb2) x
        · exact hrow j h hb2
