theorem rem8 : ∀ a, a < 512 → nI a - nI a / 8 * 8 = nI (a % 8) ∧ nI a / 8 = nI (a / 8) := by decide +kernel
theorem nI_m1 (j : Nat) : nI (j + 1) + (-1) = nI j := by rw [← Int32.sub_eq_add_neg]; exact nI_pred j
theorem nI_sm1 (j : Nat) : nI j + (-1) = nI j - 1 := (Int32.sub_eq_add_neg (a := nI j) (b := 1)).symm
theorem dig_top {A way k : Nat} (hk : k < A) : way / 2 ^ (3 * (A - (k + 1))) % 8 = digA A way k ∧ way / 2 ^ (3 * (A - (k + 1))) / 8 = way / 2 ^ (3 * (A - k)) := by
  refine ⟨?_, ?_⟩
  · unfold digA
    rw [show A - (k + 1) = A - 1 - k by omega]
  · rw [Nat.div_div_eq_div_mul]
    congr 1
    rw [show 3 * (A - k) = 3 * (A - (k + 1)) + 3 by omega, Nat.pow_add]
theorem lay19 (w : Wd) {g : Nat → Nat} {n way : Nat} (hp : PadM w g n) (hall : allOk g n) (hw : way < 512) (h42 : ∀ i, i < n → g i ≠ 63 → w.2.1 42 i = nI (ev0 g i)) (Q : Int32 × Wd → Prop) (hQ : ∀ w', Fr [] [42, 49] w w' → (∀ i, i < n → w'.2.1 42 i = nI (evA g (digA (mkA g n) way) i)) → (∀ j, j < mkA g n → w'.2.1 49 j = nI (digA (mkA g n) way j)) → Ok ((F_X6_go w').bind fun x3 => L_X6_fills_83 fu (x3.2, x3.1, 0)) Q) : Ok (L_X6_fills_19 fu (w, nI way, nI (mkA g n), nI n - 1)) Q := by
  have hn := hp.2.1
  have hA := mkA_ok hall
  unfold L_X6_fills_19
  refine Ok.loop (fun a => ∃ i, i ≤ n ∧ Fr [] [42, 49] w a.1 ∧ a.2.1 = nI (way / 2 ^ (3 * (mkA g n - mkA g i))) ∧ a.2.2.1 = nI (mkA g i) ∧ a.2.2.2 = nI i - 1 ∧ (∀ j, j < n → g j ≠ 63 → a.1.2.1 42 j = nI (ev0 g j)) ∧ (∀ j, j < n → i ≤ j → g j = 63 → a.1.2.1 42 j = nI (digA (mkA g n) way (mkA g j))) ∧ ∀ j, mkA g i ≤ j → j < mkA g n → a.1.2.1 49 j = nI (digA (mkA g n) way j)) (fun a => (a.2.2.2 + 1).toNatClampNeg) ?_ fu _ ⟨n, Nat.le_refl _, Fr.rf _ _ _, by rw [Nat.sub_self]; exact congrArg nI (by omega), rfl, rfl, h42, fun j hj q => by omega, fun j q1 q2 => by omega⟩ (fu_big (by show (nI n - 1 + 1).toNatClampNeg < _; rw [Int32.sub_add_cancel, cl_nI (by omega)]; omega))
  rintro ⟨w1, v2, v3, v4⟩ ⟨i, hi, hs, e1, e2, e3, ha, hb, hc⟩ kk hkk
  dsimp only at hs e1 e2 e3 ha hb hc hkk ⊢
  subst e1 e2 e3
  unfold F_X6_fills_19 F_X6_fills_68
  cases i with
  | zero =>
    rw [if_pos (by decide)]
    refine hQ w1 hs (fun j hj => ?_) (fun j hj => hc j (Nat.zero_le _) hj)
    by_cases q : g j = 63
    · rw [hb j hj (Nat.zero_le _) q]
      unfold evA
      rw [if_neg (by omega), if_neg (by omega), if_pos q]
    · rw [ha j hj q]
      exact congrArg nI (evA_congr (fun z => absurd z q))
  | succ i =>
    rw [nI_pred, if_neg (by simp (disch := omega) only [Int32.le_iff_toInt_le, Int32.lt_iff_toInt_lt, ← Int32.toInt_inj, nI_toInt, Int32.reduceToInt]; omega), gd_nI (show i < 40 by omega) (by omega), cl_nI (by omega)]
    have h41 : w1.2.1 41 i = nI (g i) := by rw [hs.2 41 (by decide)]; exact (hp.2.2 i (by omega)).1
    have hg := (hp.2.2 i (by omega)).2
    rw [h41]
    have hmono := mkA_mono g hi
    refine Ok.ite (fun c => ?_) (fun c => ?_)
    · simp (disch := omega) only [Int32.le_iff_toInt_le, Int32.lt_iff_toInt_lt, ← Int32.toInt_inj, nI_toInt, Int32.reduceToInt] at c
      have c63 : g i = 63 := by omega
      have hy := mkA_y c63
      rw [hy] at hmono
      have hd := dig_top (way := way) (show mkA g i < mkA g n by omega)
      have hdl := Nat.div_le_self way (2 ^ (3 * (mkA g n - (mkA g i + 1))))
      rw [hy, (rem8 _ (by omega)).1, (rem8 _ (by omega)).2, hd.1, hd.2, nI_m1, gd_nI (show mkA g i < 3 by omega) (by omega)]
      show Ok (kk (_, nI (way / 2 ^ (3 * (mkA g n - mkA g i))), nI (mkA g i), nI i + (-1))) _
      rw [nI_sm1]
      refine hkk _ ⟨i, by omega, (hs.wA (by decide)).wA (by decide), rfl, rfl, rfl, fun j hj q => ?_, fun j hj q1 q2 => ?_, fun j q1 q2 => ?_⟩ ?_
      · simp only [rI_i, rI_a, rI_l, rA_i, rA_a, rA_l, rR_i, rR_a, rR_l, rL_i, rL_a, rL_l, reduceIte, Nat.reduceEqDiff]
        rw [cl_nI (by omega), upd_at, if_neg (fun z => q (by rw [z]; exact c63))]
        exact ha j hj q
      · simp only [rI_i, rI_a, rI_l, rA_i, rA_a, rA_l, rR_i, rR_a, rR_l, rL_i, rL_a, rL_l, reduceIte, Nat.reduceEqDiff]
        rw [cl_nI (by omega), upd_at]
        by_cases z : j = i
        · rw [if_pos z, z]
        · rw [if_neg z]
          exact hb j hj (by omega) q2
      · simp only [rI_i, rI_a, rI_l, rA_i, rA_a, rA_l, rR_i, rR_a, rR_l, rL_i, rL_a, rL_l, reduceIte, Nat.reduceEqDiff]
        rw [cl_nI (by omega), cl_nI (by omega), upd_at, upd_at, if_pos rfl]
        by_cases z : j = mkA g i
        · rw [if_pos z, z]
        · rw [if_neg z]
          exact hc j (by omega) q2
      · dsimp only
        rw [Int32.sub_add_cancel, Int32.sub_add_cancel, cl_nI (by omega), cl_nI (by omega)]
        omega
    · simp (disch := omega) only [Int32.le_iff_toInt_le, Int32.lt_iff_toInt_lt, ← Int32.toInt_inj, nI_toInt, Int32.reduceToInt] at c
      have hy := mkA_n (g := g) (i := i) (by omega)
      rw [hy]
      show Ok (kk (w1, _, nI (mkA g i), nI i + (-1))) _
      rw [nI_sm1]
      refine hkk _ ⟨i, by omega, hs, rfl, rfl, rfl, ha, fun j hj q1 q2 => hb j hj (by rcases (show j = i ∨ i + 1 ≤ j by omega) with z | z; (· subst z; omega); (· exact z)) q2, fun j q1 q2 => hc j (by omega) q2⟩ ?_
      dsimp only
      rw [Int32.sub_add_cancel, Int32.sub_add_cancel, cl_nI (by omega), cl_nI (by omega)]
      omega
theorem fills83 (w : Wd) {g SL SM on : Nat → Nat} {n m : Nat} {v : Int32} (hn : lnA g n ≤ 40) (hm : m ≤ 6) (h33 : w.1 33 = nI m) (hsi : ∀ i, i < m → w.2.1 39 i = nI (SL i) ∧ w.2.1 40 i = nI (SM i) ∧ SL i < 40 ∧ SM i ≤ 8) (hv : v = 0 ∨ (v = 1 ∧ w.1 35 = nI (lnA g n) ∧ ∀ l, l < lnA g n → w.2.1 43 l = nI (on l) ∧ on l < 256 ∧ atG 0 (manyA g) g n l = nI (pc (on l)))) : ∃ r : Int32, L_X6_fills_83 fu (w, v, 0) = some (r, w) ∧ ((r = 1 ∧ v = 1 ∧ sightP g n m SL SM) ∨ (r = 0 ∧ ¬ (v = 1 ∧ sightP g n m SL SM))) := by
  have key : Ok (L_X6_fills_83 fu (w, v, 0)) (fun x => x.2 = w ∧ ((x.1 = 1 ∧ v = 1 ∧ sightP g n m SL SM) ∨ (x.1 = 0 ∧ ¬ (v = 1 ∧ sightP g n m SL SM)))) := by
    unfold L_X6_fills_83
    refine Ok.loop (fun a => ∃ i, i ≤ m ∧ a.1 = w ∧ a.2.2 = nI i ∧ ((a.2.1 = 1 ∧ v = 1 ∧ sightP g n i SL SM) ∨ (a.2.1 = 0 ∧ ¬ (v = 1 ∧ sightP g n i SL SM)))) (fun a => 41 - a.2.2.toNatClampNeg) ?_ fu _ ⟨0, Nat.zero_le _, rfl, rfl, by rcases hv with h | h; (· exact Or.inr ⟨h, fun z => by rw [h] at z; exact absurd z.1 (by decide)⟩); (· exact Or.inl ⟨h.1, h.1, fun j hj => absurd hj (Nat.not_lt_zero _)⟩)⟩ (fu_big (by show 41 - _ < _; omega))
    rintro ⟨w1, v4, v5⟩ ⟨i, hi, e1, e2, hcase⟩ kk hkk
    dsimp only at e1 e2 hcase hkk ⊢
    subst e1 e2
    unfold F_X6_fills_83 F_X6_fills_149 F_X6_fills_140 F_X6_fills_141
    rw [h33]
    refine Ok.ite (fun c => ?_) (fun c => ?_)
    · simp (disch := omega) only [Int32.le_iff_toInt_le, Int32.lt_iff_toInt_lt, ← Int32.toInt_inj, nI_toInt, Int32.reduceToInt] at c
      have e : i = m := by omega
      subst e
      rcases hcase with ⟨rfl, h⟩ | ⟨rfl, h⟩
      · exact Ok.gu rfl (Ok.ret ⟨rfl, Or.inl ⟨rfl, h⟩⟩)
      · exact Ok.gu rfl (Ok.ret ⟨rfl, Or.inr ⟨rfl, h⟩⟩)
    · simp (disch := omega) only [Int32.le_iff_toInt_le, Int32.lt_iff_toInt_lt, ← Int32.toInt_inj, nI_toInt, Int32.reduceToInt] at c
      refine Ok.ite (fun q => ?_) (fun q => ?_)
      · rcases hcase with ⟨h0, h⟩ | ⟨rfl, h⟩
        · rw [h0] at q; exact absurd q one0
        · exact Ok.gu rfl (Ok.ret ⟨rfl, Or.inr ⟨rfl, fun z => h ⟨z.1, fun j hj => z.2 j (by omega)⟩⟩⟩)
      · rcases hcase with ⟨h0, hv1, hP⟩ | ⟨h0, h⟩
        · rcases hv with hv0 | ⟨-, h35, hl⟩
          · rw [hv0] at hv1; exact absurd hv1 (by decide)
          · obtain ⟨s1, s2, s3, s4⟩ := hsi i (by omega)
            rw [gd_nI (show i < 6 by omega) (by omega), cl_nI (by omega), s1, h35]
            refine Ok.ite (fun q => ?_) (fun q => ?_)
            · simp (disch := omega) only [Int32.le_iff_toInt_le, Int32.lt_iff_toInt_lt, ← Int32.toInt_inj, nI_toInt, Int32.reduceToInt] at q
              show Ok (kk (w1, 0, nI i + 1)) _
              rw [nI_1]
              exact hkk _ ⟨i + 1, by omega, rfl, rfl, Or.inr ⟨rfl, fun z => by have := (z.2 i (by omega)).1; omega⟩⟩ (by dsimp only; rw [cl_nI (by omega), cl_nI (by omega)]; omega)
            · simp (disch := omega) only [Int32.le_iff_toInt_le, Int32.lt_iff_toInt_lt, ← Int32.toInt_inj, nI_toInt, Int32.reduceToInt] at q
              obtain ⟨l1, l2, l3⟩ := hl (SL i) (by omega)
              rw [gd_nI (show SL i < 40 by omega) (by omega), cl_nI (by omega), l1, X6_ones _ l2]
              show Ok (kk (w1, (if nI (pc (on (SL i))) = w1.2.1 40 i then 1 else 0), nI i + 1)) _
              rw [nI_1, s2]
              by_cases q2 : nI (pc (on (SL i))) = nI (SM i)
              · rw [if_pos q2]
                exact hkk _ ⟨i + 1, by omega, rfl, rfl, Or.inl ⟨rfl, hv1, more (P := fun i => SL i < lnA g n ∧ atG 0 (manyA g) g n (SL i) = nI (SM i)) hP ⟨by omega, by rw [l3]; exact q2⟩⟩⟩ (by dsimp only; rw [cl_nI (by omega), cl_nI (by omega)]; omega)
              · rw [if_neg q2]
                exact hkk _ ⟨i + 1, by omega, rfl, rfl, Or.inr ⟨rfl, fun z => q2 (by rw [← l3]; exact (z.2 i (by omega)).2)⟩⟩ (by dsimp only; rw [cl_nI (by omega), cl_nI (by omega)]; omega)
        · exact absurd h0 q
  obtain ⟨⟨r, w2⟩, h1, h2, h3⟩ := key
  dsimp only at h2 h3
  exact ⟨r, by rw [h1, h2], h3⟩
def okI (b : Bool) : Int32 := if b = true then 1 else 0
theorem fillsM (w : Wd) {g SL SM : Nat → Nat} {n m way : Nat} {ok : Nat → Bool} (hp : PadM w g n) (hall : allOk g n) (hw : way < 512) (hm : m ≤ 6) (h33 : w.1 33 = nI m) (hsi : ∀ i, i < m → w.2.1 39 i = nI (SL i) ∧ w.2.1 40 i = nI (SM i) ∧ SL i < 40 ∧ SM i ≤ 8) (hok : ∀ t, ok t = true ↔ sightP g n m SL SM ∧ allGood (evA g (digA (mkA g n) t)) n) : Ok (F_X6_fills w (nI way)) (fun x => Fr [35, 36, 37, 38] [42, 43, 49] w x.2 ∧ x.1 = okI (ok way) ∧ ∀ j, j < mkA g n → x.2.2.1 49 j = nI (digA (mkA g n) way j)) := by
  unfold F_X6_fills
  refine Ok.bind (layEvents_ok w hp hall) ?_
  rintro w1 ⟨hs1, h42⟩
  have hp1 : PadM w1 g n := hp.same (hs1.same rfl rfl)
  rw [marks_eq hp1, Option.bind_some]
  dsimp only
  rw [hp1.1]
  have hln : lnA g n ≤ 40 := Nat.le_trans (lnA_le g n) hp.2.1
  refine lay19 w1 hp1 hall hw h42 _ ?_
  intro w2 hs2 hev h49
  have hd : ∀ j, digA (mkA g n) way j < 8 := digA_lt _ _
  have hp2 : PadM w2 g n := hp1.same (hs2.same rfl (by decide))
  refine Ok.bind (go_ok w2 (g := g) hp.2.1 hp2.1 hev (evA_ok hall hd) (fun i hi => evA_line hall hd hi) (fun i hi => evA_come hall hd hi)) ?_
  rintro ⟨v, w3⟩ ⟨hs3, hcase⟩
  dsimp only at hs3 hcase ⊢
  have hs : Fr [35, 36, 37, 38] [42, 43, 49] w w3 := (hs1.mono (by decide) (by decide)).tr ((hs2.mono (by decide) (by decide)).tr (hs3.mono (by decide) (by decide)))
  have h49' : ∀ j, j < mkA g n → w3.2.1 49 j = nI (digA (mkA g n) way j) := fun j hj => by rw [hs3.2 49 (by decide)]; exact h49 j hj
  have hsi3 : ∀ i, i < m → w3.2.1 39 i = nI (SL i) ∧ w3.2.1 40 i = nI (SM i) ∧ SL i < 40 ∧ SM i ≤ 8 := fun i hi => by rw [hs.2 39 (by decide), hs.2 40 (by decide)]; exact hsi i hi
  have hev2 := evA_ok hall hd
  obtain ⟨r, e, hr⟩ := fills83 w3 (g := g) (SL := SL) (SM := SM) (on := atG 0 (mskA (evA g (digA (mkA g n) way))) g n) (n := n) (m := m) (v := v) hln hm (by rw [hs.1 33 (by decide)]; exact h33) hsi3 (by
    rcases hcase with ⟨hg, e1, -, -, e35, -, e43⟩ | ⟨b, hb, e0, -⟩
    · refine Or.inr ⟨e1, e35, fun l hl => ⟨e43 l hl, ?_, ?_⟩⟩
      · exact atG_all (P := fun x => x < 256) (fun i hi => mskA_lt hev2 i (by omega)) l hl
      · exact atG_map (c := fun x => nI (pc x)) (fun i hi => manyA_pc hall hd hg i (by omega)) l hl
    · exact Or.inl e0)
  rw [e]
  refine Ok.ret ⟨hs, ?_, h49'⟩
  show r = _
  unfold okI
  rcases hcase with ⟨hg, e1, -⟩ | ⟨b, hb, e0, -⟩
  · rcases hr with ⟨rfl, -, hP⟩ | ⟨rfl, hP⟩
    · rw [if_pos ((hok way).mpr ⟨hP, hg⟩)]
    · rw [if_neg (fun z => hP ⟨e1, ((hok way).mp z).1⟩)]
  · rcases hr with ⟨rfl, h1, -⟩ | ⟨rfl, -⟩
    · rw [e0] at h1; exact absurd h1 (by decide)
    · rw [if_neg (fun z => bad_not hb ((hok way).mp z).2)]
theorem fs_at {ok : Nat → Bool} {t : Nat} (h0 : cntW ok t = 0) (h : ok t = true) : ∀ d, fsW ok (t + 1 + d) = t ∧ 0 < cntW ok (t + 1 + d) := by
  intro d
  induction d with
  | zero =>
    rw [Nat.add_zero]
    simp only [fsW, cntW, if_pos h, if_pos (show cntW ok t = 0 ∧ ok t = true from ⟨h0, h⟩)]
    exact ⟨trivial, by omega⟩
  | succ d ih =>
    rw [← Nat.add_assoc]
    simp only [fsW, cntW]
    rw [if_neg (by omega)]
    exact ⟨ih.1, by omega⟩
def fitR (ok : Nat → Bool) (A : Nat) (p : Int32) : Int32 := if p = -1 then nI (cntW ok (2 ^ (3 * A))) else if 0 ≤ p.toInt ∧ p.toInt < A ∧ 0 < cntW ok (2 ^ (3 * A)) then nI (digA A (fsW ok (2 ^ (3 * A))) p.toInt.toNat) else -6
theorem lastA : ∀ A, A < 4 → ((nI A - 1).toInt64).toInt = (A : Int) - 1 := by decide +kernel
theorem X6_inA (w : Wd) {A : Nat} (hA : A < 4) (p : Int32) : F_X6_in w p.toInt64 0 ((nI A - 1).toInt64) = some (if 0 ≤ p.toInt ∧ p.toInt < A then 1 else 0, w) := by
  rw [X6_within, lastA A hA, show (0 : Int64).toInt = 0 from rfl]
  by_cases h : 0 ≤ p.toInt ∧ p.toInt < A
  · rw [if_pos h, if_pos (by omega)]
  · rw [if_neg h, if_neg (by omega)]
theorem fitsM20 (w : Wd) {g SL SM : Nat → Nat} {n m : Nat} {ok : Nat → Bool} (p : Int32) (hp : PadM w g n) (hall : allOk g n) (hm : m ≤ 6) (h33 : w.1 33 = nI m) (hsi : ∀ i, i < m → w.2.1 39 i = nI (SL i) ∧ w.2.1 40 i = nI (SM i) ∧ SL i < 40 ∧ SM i ≤ 8) (hok : ∀ t, ok t = true ↔ sightP g n m SL SM ∧ allGood (evA g (digA (mkA g n) t)) n) : Ok (L_X6_fits_20 fu (w, p, 0, nI (2 ^ (3 * mkA g n)), 0)) (fun x => Fr [35, 36, 37, 38] [42, 43, 49] w x.2 ∧ x.1 = fitR ok (mkA g n) p) := by
  have hA : mkA g n < 4 := by have := mkA_ok hall; omega
  have h512 := pow_le512 hA
  unfold L_X6_fits_20
  refine Ok.loop (fun a => ∃ t, t ≤ 2 ^ (3 * mkA g n) ∧ Fr [35, 36, 37, 38] [42, 43, 49] w a.1 ∧ a.2.1 = p ∧ a.2.2.1 = nI (cntW ok t) ∧ a.2.2.2.1 = nI (2 ^ (3 * mkA g n)) ∧ a.2.2.2.2 = nI t ∧ (¬ p = -1 → cntW ok t = 0)) (fun a => 513 - a.2.2.2.2.toNatClampNeg) ?_ fu _ ⟨0, Nat.zero_le _, Fr.rf _ _ _, rfl, rfl, rfl, rfl, fun _ => rfl⟩ (fu_big (by show 513 - _ < _; omega))
  rintro ⟨w1, v1, v2, v3, v4⟩ ⟨t, ht, hs, e1, e2, e3, e4, h0⟩ kk hkk
  dsimp only at hs e1 e2 e3 e4 hkk ⊢
  subst e1 e2 e3 e4
  unfold F_X6_fits_20 F_X6_fits_71 F_X6_fits_67
  refine Ok.ite (fun c => ?_) (fun c => ?_)
  · simp (disch := omega) only [Int32.le_iff_toInt_le, Int32.lt_iff_toInt_lt, ← Int32.toInt_inj, nI_toInt, Int32.reduceToInt] at c
    have e : t = 2 ^ (3 * mkA g n) := by omega
    subst e
    refine Ok.ret ⟨hs, ?_⟩
    show (if v1 = -1 then _ else _) = _
    unfold fitR
    by_cases q : v1 = -1
    · rw [if_pos q, if_pos q]
    · rw [if_neg q, if_neg q, if_neg (by rw [h0 q]; omega)]
  · simp (disch := omega) only [Int32.le_iff_toInt_le, Int32.lt_iff_toInt_lt, ← Int32.toInt_inj, nI_toInt, Int32.reduceToInt] at c
    have hsm := hs.same rfl rfl
    refine Ok.bind (fillsM w1 (hp.same hsm) hall (show t < 512 by omega) hm (by rw [hs.1 33 (by decide)]; exact h33) (fun i hi => by rw [hs.2 39 (by decide), hs.2 40 (by decide)]; exact hsi i hi) hok) ?_
    rintro ⟨r, w2⟩ ⟨hs2, er, h49⟩
    dsimp only at hs2 er h49 ⊢
    subst er
    have hs' := hs.tr hs2
    unfold okI
    cases hot : ok t with
    | false =>
      rw [if_neg (show ¬ false = true by decide), if_pos rfl, nI_1]
      have hn : ¬ ok t = true := by rw [hot]; decide
      have hcn : cntW ok (t + 1) = cntW ok t := by simp only [cntW, if_neg hn, Nat.add_zero]
      exact hkk _ ⟨t + 1, by omega, hs', rfl, by rw [hcn], rfl, rfl, fun q => by rw [hcn]; exact h0 q⟩ (by dsimp only; rw [cl_nI (by omega), cl_nI (by omega)]; omega)
    | true =>
      rw [if_pos rfl, if_neg one0]
      refine Ok.ite (fun q => ?_) (fun q => ?_)
      · rw [nI_1, nI_1]
        have hcn : cntW ok (t + 1) = cntW ok t + 1 := by simp only [cntW, if_pos hot]
        exact hkk _ ⟨t + 1, by omega, hs', rfl, by rw [hcn], rfl, rfl, fun z => absurd q z⟩ (by dsimp only; rw [cl_nI (by omega), cl_nI (by omega)]; omega)
      · obtain ⟨f1, f2⟩ := fs_at (h0 q) hot (2 ^ (3 * mkA g n) - (t + 1))
        rw [show t + 1 + (2 ^ (3 * mkA g n) - (t + 1)) = 2 ^ (3 * mkA g n) by omega] at f1 f2
        rw [marks_eq (hp.same (hs'.same rfl rfl)), Option.bind_some]
        dsimp only
        rw [X6_inA _ hA, Option.bind_some]
        unfold fitR
        rw [if_neg q, f1]
        by_cases z : 0 ≤ v1.toInt ∧ v1.toInt < mkA g n
        · obtain ⟨v, hv, rfl, hv2⟩ := i32_nat z.1
          rw [if_pos z, if_neg one0, gd_nI (by omega) (by omega), cl_nI (by omega), if_pos ⟨z.1, z.2, f2⟩]
          refine Ok.ret ⟨hs', ?_⟩
          show w2.2.1 49 v = _
          rw [h49 v (by omega), hv2]
          rfl
        · rw [if_neg z, if_pos rfl, if_neg (fun y => z ⟨y.1, y.2.1⟩)]
          exact Ok.ret ⟨hs', rfl⟩
theorem couldM39 (w : Wd) {g SL SM : Nat → Nat} {n m v : Nat} {ok : Nat → Bool} (hv : v < mkA g n) (hp : PadM w g n) (hall : allOk g n) (hm : m ≤ 6) (h33 : w.1 33 = nI m) (hsi : ∀ i, i < m → w.2.1 39 i = nI (SL i) ∧ w.2.1 40 i = nI (SM i) ∧ SL i < 40 ∧ SM i ≤ 8) (hok : ∀ t, ok t = true ↔ sightP g n m SL SM ∧ allGood (evA g (digA (mkA g n) t)) n) : Ok (L_X6_could_39 fu (w, nI v, 0, nI (2 ^ (3 * mkA g n)), 0)) (fun x => Fr [35, 36, 37, 38] [42, 43, 49] w x.2 ∧ x.1 = nI (orW ok (mkA g n) v (2 ^ (3 * mkA g n)))) := by
  have hA : mkA g n < 4 := by have := mkA_ok hall; omega
  have h512 := pow_le512 hA
  unfold L_X6_could_39
  refine Ok.loop (fun a => ∃ t, t ≤ 2 ^ (3 * mkA g n) ∧ Fr [35, 36, 37, 38] [42, 43, 49] w a.1 ∧ a.2.1 = nI v ∧ a.2.2.1 = nI (orW ok (mkA g n) v t) ∧ a.2.2.2.1 = nI (2 ^ (3 * mkA g n)) ∧ a.2.2.2.2 = nI t) (fun a => 513 - a.2.2.2.2.toNatClampNeg) ?_ fu _ ⟨0, Nat.zero_le _, Fr.rf _ _ _, rfl, rfl, rfl, rfl⟩ (fu_big (by show 513 - _ < _; omega))
  rintro ⟨w1, v1, v2, v3, v4⟩ ⟨t, ht, hs, e1, e2, e3, e4⟩ kk hkk
  dsimp only at hs e1 e2 e3 e4 hkk ⊢
  subst e1 e2 e3 e4
  unfold F_X6_could_39 F_X6_could_67
  refine Ok.ite (fun c => ?_) (fun c => ?_)
  · simp (disch := omega) only [Int32.le_iff_toInt_le, Int32.lt_iff_toInt_lt, ← Int32.toInt_inj, nI_toInt, Int32.reduceToInt] at c
    have e : t = 2 ^ (3 * mkA g n) := by omega
    subst e
    exact Ok.ret ⟨hs, rfl⟩
  · simp (disch := omega) only [Int32.le_iff_toInt_le, Int32.lt_iff_toInt_lt, ← Int32.toInt_inj, nI_toInt, Int32.reduceToInt] at c
    have hsm := hs.same rfl rfl
    refine Ok.bind (fillsM w1 (hp.same hsm) hall (show t < 512 by omega) hm (by rw [hs.1 33 (by decide)]; exact h33) (fun i hi => by rw [hs.2 39 (by decide), hs.2 40 (by decide)]; exact hsi i hi) hok) ?_
    rintro ⟨r, w2⟩ ⟨hs2, er, h49⟩
    dsimp only at hs2 er h49 ⊢
    subst er
    have hs' := hs.tr hs2
    unfold okI
    cases hot : ok t with
    | false =>
      have hn : ¬ ok t = true := by rw [hot]; decide
      rw [if_neg (show ¬ false = true by decide), if_pos rfl, nI_1, show (nI (orW ok (mkA g n) v t) ||| 0) = nI (orW ok (mkA g n) v t) from (nI_or _ 0).trans (by rw [Nat.or_zero])]
      exact hkk _ ⟨t + 1, by omega, hs', rfl, by simp only [orW, if_neg hn], rfl, rfl⟩ (by dsimp only; rw [cl_nI (by omega), cl_nI (by omega)]; omega)
    | true =>
      rw [if_pos rfl, if_neg one0, gd_nI (show v < 3 by omega) (by omega), cl_nI (by omega), h49 v hv, bit_1 _ (digA_lt _ _ _), nI_1, nI_or]
      exact hkk _ ⟨t + 1, by omega, hs', rfl, by simp only [orW, if_pos hot], rfl, rfl⟩ (by dsimp only; rw [cl_nI (by omega), cl_nI (by omega)]; omega)
theorem waysM (w : Wd) {g : Nat → Nat} {n : Nat} (hp : PadM w g n) (hall : allOk g n) : F_X6_ways w = some (nI (2 ^ (3 * mkA g n)), w) := by
  have hA : mkA g n < 4 := by have := mkA_ok hall; omega
  unfold F_X6_ways
  rw [marks_eq hp, Option.bind_some]
  dsimp only
  rw [way_all _ hA]
theorem sights_get {w : Wd} (h : RulesRel w) : ∃ (m : Nat) (SL SM : Nat → Nat), m ≤ 6 ∧ w.1 12 = nI m ∧ w.1 33 = nI m ∧ (∀ i, i < m → w.2.1 12 i = nI (SL i) ∧ w.2.1 13 i = nI (SM i) ∧ SL i < 40 ∧ SM i ≤ 8) ∧ ∀ i, i < m → w.2.1 39 i = nI (SL i) ∧ w.2.1 40 i = nI (SM i) ∧ SL i < 40 ∧ SM i ≤ 8 := by
  obtain ⟨m, hm, e1, e2, hi, -⟩ := RR.si h
  refine ⟨m, fun i => (w.2.1 12 i).toNatClampNeg, fun i => (w.2.1 13 i).toNatClampNeg, hm, e1, e2, fun i q => ?_, fun i q => ?_⟩
  · obtain ⟨a1, a2, ⟨v, a3, a4⟩, ⟨u, a5, a6⟩⟩ := hi i q
    dsimp only
    rw [a4, a6, cl_nI (by omega), cl_nI (by omega)]
    exact ⟨rfl, rfl, a3, a5⟩
  · obtain ⟨a1, a2, ⟨v, a3, a4⟩, ⟨u, a5, a6⟩⟩ := hi i q
    dsimp only
    rw [a1, a2, a4, a6, cl_nI (by omega), cl_nI (by omega)]
    exact ⟨rfl, rfl, a3, a5⟩
theorem okW_ex (P : Nat → Prop) : ∃ ok : Nat → Bool, ∀ t, ok t = true ↔ P t := ⟨fun t => @decide (P t) (Classical.propDecidable _), fun t => @decide_eq_true_iff (P t) (Classical.propDecidable _)⟩
theorem eqv_fits (p1 : Int32) : Eqv (fun w => F_X5_fits w p1) (fun w => F_X6_fits w p1) := by
  apply Eqv.query
  rintro w ⟨⟨g, n, hc, hm⟩, hrr, -⟩
  obtain ⟨m, SL, SM, hm6, h12, h33, hsc, hsm⟩ := sights_get hrr
  rcases first_or (n := n) (okS g) with hall | ⟨f, f1, f2, f3⟩
  · have hall : allOk g n := hall
    have hA : mkA g n < 4 := by have := mkA_ok hall; omega
    have h512 := pow_le512 hA
    obtain ⟨ok, hok⟩ := okW_ex (fun t => sightP g n m SL SM ∧ allGood (evA g (digA (mkA g n) t)) n)
    refine ⟨fitR ok (mkA g n) p1, ?_, fun w' _ hs' => ?_⟩
    · unfold F_X5_fits F_X5_fits_38 F_X5_fits_99
      refine Ok.bind (survey_ok w hc) ?_
      rintro w1 ⟨hs, hcase⟩
      rcases hcase with ⟨f, hf, -⟩ | ⟨-, e1, e2, e3, e4, e6⟩
      · exact (fault_not hf hall).elim
      · rw [if_pos e1, e2]
        refine Ok.ite (fun c => ?_) (fun c => ?_)
        · simp (disch := omega) only [Int32.le_iff_toInt_le, Int32.lt_iff_toInt_lt, ← Int32.toInt_inj, nI_toInt, Int32.reduceToInt] at c
          refine Ok.ret ⟨hs, ?_⟩
          unfold fitR
          rw [if_neg (fun z => by rw [z] at c; exact absurd c (by decide)), if_neg (by omega)]
        · simp (disch := omega) only [Int32.le_iff_toInt_le, Int32.lt_iff_toInt_lt, ← Int32.toInt_inj, nI_toInt, Int32.reduceToInt] at c
          refine Ok.ite (fun d => ?_) (fun d => ?_)
          · simp (disch := omega) only [Int32.le_iff_toInt_le, Int32.lt_iff_toInt_lt, ← Int32.toInt_inj, nI_toInt, Int32.reduceToInt] at d
            refine Ok.bind (tryAll_ok w1 (hc.same hs) hall e2 e4 e6 hm6 (by rw [hs.1 12 (by unfold PI; omega)]; exact h12) (fun i hi => by rw [hs.2 12 (by unfold PA; omega), hs.2 13 (by unfold PA; omega)]; exact hsc i hi) hok) ?_
            rintro w2 ⟨hs2, k27, k28, k35⟩
            have hsw : Same w w2 := hs.tr (hs2.same rfl rfl)
            unfold fitR
            refine Ok.ite (fun q => ?_) (fun q => ?_)
            · refine Ok.ret ⟨hsw, ?_⟩
              rw [if_pos q]
              exact k27
            · have hp0 : 0 ≤ p1.toInt := by
                have : p1.toInt ≠ -1 := fun z => q (i32_ext z)
                omega
              rw [if_neg q, k27]
              have hcl := cntW_le ok (2 ^ (3 * mkA g n))
              obtain ⟨v, hv, rfl, hv2⟩ := i32_nat hp0
              refine Ok.ite (fun z => ?_) (fun z => ?_)
              · simp (disch := omega) only [Int32.le_iff_toInt_le, Int32.lt_iff_toInt_lt, ← Int32.toInt_inj, nI_toInt, Int32.reduceToInt] at z
                refine Ok.ret ⟨hsw, ?_⟩
                rw [if_neg (by omega)]
              · simp (disch := omega) only [Int32.le_iff_toInt_le, Int32.lt_iff_toInt_lt, ← Int32.toInt_inj, nI_toInt, Int32.reduceToInt] at z
                have hfl := fsW_lt (ok := ok) (2 ^ (3 * mkA g n)) (by omega)
                rw [k28 (by omega), X2_guessed w2 hA (by rw [hs2.1 2 (by decide)]; exact e2) (show v < mkA g n by omega) (by omega), Option.bind_some, if_pos ⟨by omega, by omega, by omega⟩]
                refine Ok.ret ⟨hsw, ?_⟩
                rw [hv2]
                rfl
          · simp (disch := omega) only [Int32.le_iff_toInt_le, Int32.lt_iff_toInt_lt, ← Int32.toInt_inj, nI_toInt, Int32.reduceToInt] at d
            refine Ok.ret ⟨hs, ?_⟩
            unfold fitR
            rw [if_neg (fun z => by rw [z, show (-1 : Int32).toInt = -1 from rfl] at d; omega), if_neg (by omega)]
    · unfold F_X6_fits
      refine Ok.bind (faultM_ok w' (hm.same hs')) ?_
      rintro ⟨r, w1⟩ ⟨e, hcase⟩
      dsimp only at e hcase ⊢
      subst e
      rcases hcase with ⟨f, hf, -⟩ | ⟨-, rfl⟩
      · exact (fault_not hf hall).elim
      · rw [if_pos (by decide), waysM _ (hm.same hs') hall, Option.bind_some]
        dsimp only
        refine (fitsM20 w1 p1 (hm.same hs') hall hm6 (by rw [hs'.1 33 (by unfold PI; omega)]; exact h33) (fun i hi => by rw [hs'.2 39 (by unfold PA; omega), hs'.2 40 (by unfold PA; omega)]; exact hsm i hi) hok).mono ?_
        rintro x ⟨h1, h2⟩
        exact ⟨h1.same rfl rfl, h2⟩
  · have hF : isFault g n f := ⟨f1, f2, f3⟩
    refine ⟨-5, ?_, fun w' _ hs' => ?_⟩
    · unfold F_X5_fits
      refine Ok.bind (survey_ok w hc) ?_
      rintro w1 ⟨hs, hcase⟩
      rcases hcase with ⟨f', hf, e⟩ | ⟨h, -⟩
      · have := hf.1
        have := hc.2.1
        rw [e, if_neg (fun z => by simp (disch := omega) only [Int32.le_iff_toInt_le, Int32.lt_iff_toInt_lt, ← Int32.toInt_inj, nI_toInt, Int32.reduceToInt] at z; omega)]
        exact Ok.ret ⟨hs, rfl⟩
      · exact (fault_not hF h).elim
    · unfold F_X6_fits
      refine Ok.bind (faultM_ok w' (hm.same hs')) ?_
      rintro ⟨r, w1⟩ ⟨e, hcase⟩
      dsimp only at e hcase ⊢
      subst e
      rcases hcase with ⟨f', hf, rfl⟩ | ⟨h, -⟩
      · have := hf.1
        have := hc.2.1
        rw [if_neg (fun z => by simp (disch := omega) only [Int32.le_iff_toInt_le, Int32.lt_iff_toInt_lt, ← Int32.toInt_inj, nI_toInt, Int32.reduceToInt] at z; omega)]
        exact Ok.ret ⟨Same.rf _, rfl⟩
      · exact (fault_not hF h).elim
theorem eqv_could (p1 : Int32) : Eqv (fun w => F_X5_could w p1) (fun w => F_X6_could w p1) := by
  apply Eqv.query
  rintro w ⟨⟨g, n, hc, hm⟩, hrr, -⟩
  obtain ⟨m, SL, SM, hm6, h12, h33, hsc, hsm⟩ := sights_get hrr
  rcases first_or (n := n) (okS g) with hall | ⟨f, f1, f2, f3⟩
  · have hall : allOk g n := hall
    have hA : mkA g n < 4 := by have := mkA_ok hall; omega
    have h512 := pow_le512 hA
    obtain ⟨ok, hok⟩ := okW_ex (fun t => sightP g n m SL SM ∧ allGood (evA g (digA (mkA g n) t)) n)
    by_cases hq : 0 ≤ p1.toInt ∧ p1.toInt < mkA g n
    · obtain ⟨v, hv, rfl, hv2⟩ := i32_nat hq.1
      refine ⟨nI (orW ok (mkA g n) v (2 ^ (3 * mkA g n))), ?_, fun w' _ hs' => ?_⟩
      · unfold F_X5_could
        refine Ok.bind (survey_ok w hc) ?_
        rintro w1 ⟨hs, hcase⟩
        rcases hcase with ⟨f, hf, -⟩ | ⟨-, e1, e2, e3, e4, e6⟩
        · exact (fault_not hf hall).elim
        · rw [if_pos e1, e2, if_neg (by simp (disch := omega) only [Int32.le_iff_toInt_le, Int32.lt_iff_toInt_lt, ← Int32.toInt_inj, nI_toInt, Int32.reduceToInt]; omega), if_pos (by simp (disch := omega) only [Int32.le_iff_toInt_le, Int32.lt_iff_toInt_lt, ← Int32.toInt_inj, nI_toInt, Int32.reduceToInt]; omega)]
          refine Ok.bind (tryAll_ok w1 (hc.same hs) hall e2 e4 e6 hm6 (by rw [hs.1 12 (by unfold PI; omega)]; exact h12) (fun i hi => by rw [hs.2 12 (by unfold PA; omega), hs.2 13 (by unfold PA; omega)]; exact hsc i hi) hok) ?_
          rintro w2 ⟨hs2, k27, k28, k35⟩
          rw [gd_nI (by omega) (by omega), cl_nI (by omega)]
          exact Ok.ret ⟨hs.tr (hs2.same rfl rfl), k35 v (by omega)⟩
      · unfold F_X6_could
        refine Ok.bind (faultM_ok w' (hm.same hs')) ?_
        rintro ⟨r, w1⟩ ⟨e, hcase⟩
        dsimp only at e hcase ⊢
        subst e
        rcases hcase with ⟨f, hf, -⟩ | ⟨-, rfl⟩
        · exact (fault_not hf hall).elim
        · rw [if_pos (by decide), marks_eq (hm.same hs'), Option.bind_some]
          dsimp only
          rw [X6_inA _ hA, Option.bind_some, if_pos hq, if_neg one0, waysM _ (hm.same hs') hall, Option.bind_some]
          dsimp only
          refine (couldM39 w1 (show v < mkA g n by omega) (hm.same hs') hall hm6 (by rw [hs'.1 33 (by unfold PI; omega)]; exact h33) (fun i hi => by rw [hs'.2 39 (by unfold PA; omega), hs'.2 40 (by unfold PA; omega)]; exact hsm i hi) hok).mono ?_
          rintro x ⟨h1, h2⟩
          exact ⟨h1.same rfl rfl, h2⟩
    · refine ⟨-6, ?_, fun w' _ hs' => ?_⟩
      · unfold F_X5_could F_X5_could_37
        refine Ok.bind (survey_ok w hc) ?_
        rintro w1 ⟨hs, hcase⟩
        rcases hcase with ⟨f, hf, -⟩ | ⟨-, e1, e2, -⟩
        · exact (fault_not hf hall).elim
        · rw [if_pos e1, e2]
          refine Ok.ite (fun c => Ok.ret ⟨hs, rfl⟩) (fun c => ?_)
          rw [if_neg (fun d => by simp (disch := omega) only [Int32.le_iff_toInt_le, Int32.lt_iff_toInt_lt, ← Int32.toInt_inj, nI_toInt, Int32.reduceToInt] at c d; omega)]
          exact Ok.ret ⟨hs, rfl⟩
      · unfold F_X6_could
        refine Ok.bind (faultM_ok w' (hm.same hs')) ?_
        rintro ⟨r, w1⟩ ⟨e, hcase⟩
        dsimp only at e hcase ⊢
        subst e
        rcases hcase with ⟨f, hf, -⟩ | ⟨-, rfl⟩
        · exact (fault_not hf hall).elim
        · rw [if_pos (by decide), marks_eq (hm.same hs'), Option.bind_some]
          dsimp only
          rw [X6_inA _ hA, Option.bind_some, if_neg hq, if_pos rfl]
          exact Ok.ret ⟨Same.rf _, rfl⟩
  · have hF : isFault g n f := ⟨f1, f2, f3⟩
    refine ⟨-5, ?_, fun w' _ hs' => ?_⟩
    · unfold F_X5_could
      refine Ok.bind (survey_ok w hc) ?_
      rintro w1 ⟨hs, hcase⟩
      rcases hcase with ⟨f', hf, e⟩ | ⟨h, -⟩
      · have := hf.1
        have := hc.2.1
        rw [e, if_neg (fun z => by simp (disch := omega) only [Int32.le_iff_toInt_le, Int32.lt_iff_toInt_lt, ← Int32.toInt_inj, nI_toInt, Int32.reduceToInt] at z; omega)]
        exact Ok.ret ⟨hs, rfl⟩
      · exact (fault_not hF h).elim
    · unfold F_X6_could
      refine Ok.bind (faultM_ok w' (hm.same hs')) ?_
      rintro ⟨r, w1⟩ ⟨e, hcase⟩
      dsimp only at e hcase ⊢
      subst e
      rcases hcase with ⟨f', hf, rfl⟩ | ⟨h, -⟩
      · have := hf.1
        have := hc.2.1
        rw [if_neg (fun z => by simp (disch := omega) only [Int32.le_iff_toInt_le, Int32.lt_iff_toInt_lt, ← Int32.toInt_inj, nI_toInt, Int32.reduceToInt] at z; omega)]
        exact Ok.ret ⟨Same.rf _, rfl⟩
      · exact (fault_not hF h).elim
