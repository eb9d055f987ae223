def holdB (l k a h : Nat) : Bool := (l == 0 && a == k) || (l == 1 && a % 2 == 1) || (l == 2 && decide (h ≤ a))
theorem holdB_iff {l k a h : Nat} : holdB l k a h = true ↔ holdP l k a h := by
  unfold holdB holdP
  simp only [Bool.or_eq_true, Bool.and_eq_true, beq_iff_eq, decide_eq_true_eq]
  omega
def evX (s : Nat) : Nat → Nat
  | 0 => s
  | i + 1 => (75 * evX s i + 74) % 65537
def evM (s : Nat) : Nat → Nat
  | 0 => 0
  | i + 1 => evM s i ^^^ 2 ^ (evX s (i + 1) % 8)
def evH (s l k : Nat) : Nat → Nat
  | 0 => 0
  | i + 1 => evH s l k i + if holdB l k (pc (evM s (i + 1))) (if i = 0 then k else pc (evM s i)) = true then 1 else 0
def evT (s : Nat) : Nat → Nat
  | 0 => 0
  | i + 1 => if evT s i < pc (evM s (i + 1)) then pc (evM s (i + 1)) else evT s i
theorem evX_lt {s : Nat} (hs : s < 10000) (i : Nat) : evX s i < 65537 := by
  cases i with
  | zero => show s < 65537; omega
  | succ i => exact Nat.mod_lt _ (by decide)
theorem evM_lt (s i : Nat) : evM s i < 256 := by
  induction i with
  | zero => exact Nat.le_of_ble_eq_true rfl
  | succ i ih => exact bit_lt _ ih _ (Nat.mod_lt _ (by decide))
theorem evT_le (s i : Nat) : evT s i ≤ 8 := by
  induction i with
  | zero => exact Nat.zero_le _
  | succ i ih =>
    simp only [evT]
    split
    · exact pc_le _
    · exact ih
theorem evH_le (s l k i : Nat) : evH s l k i ≤ i := by
  induction i with
  | zero => exact Nat.zero_le _
  | succ i ih => simp only [evH]; split <;> (try split) <;> omega
theorem ev_x32 {x : Nat} (h : x < 65537) : ((75 * nI x) + 74) - ((75 * nI x) + 74) / 65537 * 65537 = nI ((75 * x + 74) % 65537) := by
  rw [show (75 : Int32) * nI x = nI (75 * x) from pk_mul 75 x, show nI (75 * x) + (74 : Int32) = nI (75 * x + 74) from nI_add _ 74]
  exact pk_rem (d := 65537) (by omega) (by omega) (by omega)
theorem lN_rem {a d : Nat} (ha : a < 2 ^ 31) (hd : d < 2 ^ 31) (h0 : 0 < d) : lN a - lN a / lN d * lN d = lN (a % d) := by
  have e : lN a / lN d = lN (a / d) := by
    apply Int64.toInt_inj.mp
    have h1 : a / d ≤ a := Nat.div_le_self a d
    rw [Int64.toInt_div, lN_toInt ha, lN_toInt hd, lN_toInt (by omega), Int.tdiv_eq_ediv_of_nonneg (by omega)]
    rw [← Int.natCast_ediv]
    generalize a / d = q at h1 ⊢
    exact Int.bmod_eq_of_le (by omega) (by omega)
  rw [e, lN_mul, lN_sub (Nat.div_mul_le_self a d)]
  exact congrArg lN (by have := Nat.div_add_mod' a d; omega)
theorem ev_x64 {x : Nat} (h : x < 65537) : (((75 * (nI x).toInt64) + 74) - ((75 * (nI x).toInt64) + 74) / 65537 * 65537).toInt32 = nI ((75 * x + 74) % 65537) := by
  rw [nI_l (by omega), show (75 : Int64) * lN x = lN (75 * x) from lN_mul 75 x, show lN (75 * x) + (74 : Int64) = lN (75 * x + 74) from lN_add _ 74]
  rw [show lN (75 * x + 74) - lN (75 * x + 74) / 65537 * 65537 = lN ((75 * x + 74) % 65537) from lN_rem (d := 65537) (by omega) (by omega) (by omega), lN_i]
def evR (s l k m what : Nat) : Int32 := if what = 0 then nI (evH s l k m) else if what = 1 then nI (pc (evM s m)) else nI (evT s m)
theorem evenC (w : Wd) {s m what l k : Nat} (hs : s < 10000) (hm : m < 100) (hw : what ≤ 2) (hl : l ≤ 2) (hk : k ≤ 8) (e8 : w.1 8 = nI l) (e9 : w.1 9 = nI k) : L_X5_evening_59 fu (w, nI m, nI what, nI s, 0, 0, 0, 0, nI k, 0) = some (evR s l k m what, w) := by
  apply Ok.eq
  unfold L_X5_evening_59
  refine Ok.loop (fun a => ∃ i, i ≤ m ∧ a.1 = w ∧ a.2.1 = nI m ∧ a.2.2.1 = nI what ∧ a.2.2.2.1 = nI (evX s i) ∧ a.2.2.2.2.1 = nI (evM s i) ∧ a.2.2.2.2.2.1 = nI (pc (evM s i)) ∧ a.2.2.2.2.2.2.1 = nI (evT s i) ∧ a.2.2.2.2.2.2.2.1 = nI (evH s l k i) ∧ a.2.2.2.2.2.2.2.2.1 = nI (if i = 0 then k else pc (evM s i)) ∧ a.2.2.2.2.2.2.2.2.2 = nI i) (fun a => 101 - a.2.2.2.2.2.2.2.2.2.toNatClampNeg) ?_ fu _ ⟨0, Nat.zero_le _, rfl, rfl, rfl, rfl, rfl, (by show (0 : Int32) = nI (pc 0); decide), rfl, rfl, rfl, rfl⟩ (fu_big (by show 101 - _ < _; omega))
  rintro ⟨w1, v2, v3, v4, v5, v6, v7, v8, v9, v10⟩ ⟨i, hi, e1, e2, e3, e4, e5, e6, e7, e88, e99, e10⟩ kk hkk
  dsimp only at e1 e2 e3 e4 e5 e6 e7 e88 e99 e10 hkk ⊢
  subst e1 e2 e3 e4 e5 e6 e7 e88 e99 e10
  have ht := evT_le s i
  have hh := evH_le s l k i
  unfold F_X5_evening_59
  refine Ok.ite (fun c => ?_) (fun c => ?_)
  · simp (disch := omega) only [Int32.le_iff_toInt_le, Int32.lt_iff_toInt_lt, ← Int32.toInt_inj, nI_toInt, Int32.reduceToInt] at c
    have e : i = m := by omega
    subst e
    unfold evR
    rcases (show what = 0 ∨ what = 1 ∨ what = 2 by omega) with rfl | rfl | rfl
    · rw [if_pos (by decide)]
      exact Ok.ret rfl
    · rw [if_neg (by decide), if_pos (by decide)]
      exact Ok.ret rfl
    · rw [if_neg (by decide), if_neg (by decide)]
      exact Ok.ret rfl
  · simp (disch := omega) only [Int32.le_iff_toInt_le, Int32.lt_iff_toInt_lt, ← Int32.toInt_inj, nI_toInt, Int32.reduceToInt] at c
    refine Ok.let (fun x ex => ?_)
    rw [ev_x32 (evX_lt hs i)] at ex
    have ex : x = nI (evX s (i + 1)) := ex
    subst ex
    have hx := evX_lt hs (i + 1)
    refine Ok.let (fun y ey => ?_)
    rw [show nI (evX s (i + 1)) - nI (evX s (i + 1)) / 8 * 8 = nI (evX s (i + 1) % 8) from pk_rem (d := 8) (by omega) (by omega) (by omega), bit_1 _ (by omega), bit_xor _ (evM_lt s i) _ (by omega)] at ey
    have ey : y = nI (evM s (i + 1)) := ey
    subst ey
    rw [J6_bc _ (evM_lt s (i + 1)), Option.bind_some]
    dsimp only
    have hah : (if i = 0 then k else pc (evM s i)) ≤ 8 := by
      split
      · exact hk
      · exact pc_le _
    obtain ⟨r, hr, hcase⟩ := X3_holds w1 (a := pc (evM s (i + 1))) hl hk (pc_le _) hah e8 e9
    rw [hr, Option.bind_some, nI_1 i]
    have hp := pc_le (evM s (i + 1))
    refine hkk _ ⟨i + 1, by omega, rfl, rfl, rfl, rfl, rfl, rfl, ?_, ?_, rfl, rfl⟩ (by dsimp only; rw [cl_nI (by omega), cl_nI (by omega)]; omega)
    · dsimp only
      simp only [evT]
      by_cases q : evT s i < pc (evM s (i + 1))
      · rw [if_pos q, if_pos (by simp (disch := omega) only [Int32.le_iff_toInt_le, Int32.lt_iff_toInt_lt, ← Int32.toInt_inj, nI_toInt, Int32.reduceToInt]; omega)]
      · rw [if_neg q, if_neg (by simp (disch := omega) only [Int32.le_iff_toInt_le, Int32.lt_iff_toInt_lt, ← Int32.toInt_inj, nI_toInt, Int32.reduceToInt]; omega)]
    · dsimp only
      simp only [evH]
      rcases hcase with ⟨e, hP⟩ | ⟨e, hP⟩
      · rw [e, if_neg one0, if_pos (holdB_iff.mpr hP), nI_1]
      · rw [e, if_pos rfl, if_neg (fun q => hP (holdB_iff.mp q))]
        rfl
theorem evenM (w : Wd) {s m what l k : Nat} (hs : s < 10000) (hm : m < 100) (hw : what ≤ 2) (hl : l ≤ 2) (hk : k ≤ 8) (e8 : w.1 29 = nI l) (e9 : w.1 30 = nI k) : L_X6_evening_58 fu (w, nI m, nI what, nI s, 0, 0, 0, -6, 0) = some (evR s l k m what, w) := by
  apply Ok.eq
  unfold L_X6_evening_58
  refine Ok.loop (fun a => ∃ i, i ≤ m ∧ a.1 = w ∧ a.2.1 = nI m ∧ a.2.2.1 = nI what ∧ a.2.2.2.1 = nI (evX s i) ∧ a.2.2.2.2.1 = nI (evM s i) ∧ a.2.2.2.2.2.1 = nI (evH s l k i) ∧ a.2.2.2.2.2.2.1 = nI (evT s i) ∧ a.2.2.2.2.2.2.2.1 = (if i = 0 then -6 else nI (pc (evM s i))) ∧ a.2.2.2.2.2.2.2.2 = nI i) (fun a => 101 - a.2.2.2.2.2.2.2.2.toNatClampNeg) ?_ fu _ ⟨0, Nat.zero_le _, rfl, rfl, rfl, rfl, rfl, rfl, rfl, rfl, rfl⟩ (fu_big (by show 101 - _ < _; omega))
  rintro ⟨w1, v2, v3, v4, v5, v6, v7, v8, v9⟩ ⟨i, hi, e1, e2, e3, e4, e5, e6, e7, e88, e99⟩ kk hkk
  dsimp only at e1 e2 e3 e4 e5 e6 e7 e88 e99 hkk ⊢
  subst e1 e2 e3 e4 e5 e6 e7 e88 e99
  have ht := evT_le s i
  have hh := evH_le s l k i
  unfold F_X6_evening_58
  refine Ok.ite (fun c => ?_) (fun c => ?_)
  · simp (disch := omega) only [Int32.le_iff_toInt_le, Int32.lt_iff_toInt_lt, ← Int32.toInt_inj, nI_toInt, Int32.reduceToInt] at c
    have e : i = m := by omega
    subst e
    unfold evR F_X6_evening_172
    rcases (show what = 0 ∨ what = 1 ∨ what = 2 by omega) with rfl | rfl | rfl
    · rw [if_pos (by decide)]
      exact Ok.ret rfl
    · rw [if_neg (by decide), if_pos (by decide), X6_ones _ (evM_lt s i), Option.bind_some]
      exact Ok.ret rfl
    · rw [if_neg (by decide), if_neg (by decide)]
      exact Ok.ret rfl
  · simp (disch := omega) only [Int32.le_iff_toInt_le, Int32.lt_iff_toInt_lt, ← Int32.toInt_inj, nI_toInt, Int32.reduceToInt] at c
    refine Ok.let (fun x ex => ?_)
    rw [ev_x64 (evX_lt hs i)] at ex
    have ex : x = nI (evX s (i + 1)) := ex
    subst ex
    have hx := evX_lt hs (i + 1)
    refine Ok.let (fun y ey => ?_)
    rw [show nI (evX s (i + 1)) - nI (evX s (i + 1)) / 8 * 8 = nI (evX s (i + 1) % 8) from pk_rem (d := 8) (by omega) (by omega) (by omega), bit_1 _ (by omega), bit_xor _ (evM_lt s i) _ (by omega)] at ey
    have ey : y = nI (evM s (i + 1)) := ey
    subst ey
    rw [X6_ones _ (evM_lt s (i + 1)), Option.bind_some]
    dsimp only
    have hah : (if i = 0 then k else pc (evM s i)) ≤ 8 := by
      split
      · exact hk
      · exact pc_le _
    obtain ⟨r, hr, hcase⟩ := X6_holds_g w1 (a := pc (evM s (i + 1))) (x := if i = 0 then -6 else nI (pc (evM s i))) (h := if i = 0 then k else pc (evM s i)) hl hk (pc_le _) hah e8 e9 (by
      by_cases q : i = 0
      · rw [if_pos q, if_pos q, if_neg (by decide)]
      · have hp := pc_le (evM s i)
        rw [if_neg q, if_neg q, if_pos (by simp (disch := omega) only [Int32.le_iff_toInt_le, Int32.lt_iff_toInt_lt, ← Int32.toInt_inj, nI_toInt, Int32.reduceToInt]; omega)])
    rw [hr, Option.bind_some]
    have hp := pc_le (evM s (i + 1))
    refine Ok.let (fun z ez => ?_)
    rw [nI_1]
    refine hkk _ ⟨i + 1, by omega, rfl, rfl, rfl, rfl, rfl, ?_, ?_, ?_, rfl⟩ (by dsimp only; rw [cl_nI (by omega), cl_nI (by omega)]; omega)
    · dsimp only
      simp only [evH]
      rw [ez]
      rcases hcase with ⟨e, hP⟩ | ⟨e, hP⟩
      · rw [e, if_neg one0, if_pos (holdB_iff.mpr hP), nI_1]
      · rw [e, if_pos rfl, if_neg (fun q => hP (holdB_iff.mp q))]
        exact Int32.add_zero _
    · dsimp only
      simp only [evT]
      by_cases q : evT s i < pc (evM s (i + 1))
      · rw [if_pos q, if_neg (by simp (disch := omega) only [Int32.le_iff_toInt_le, Int32.lt_iff_toInt_lt, ← Int32.toInt_inj, nI_toInt, Int32.reduceToInt]; omega)]
      · rw [if_neg q, if_pos (by simp (disch := omega) only [Int32.le_iff_toInt_le, Int32.lt_iff_toInt_lt, ← Int32.toInt_inj, nI_toInt, Int32.reduceToInt]; omega)]
    · dsimp only
      rw [if_neg (by omega)]
theorem eqv_evening (p1 p2 p3 : Int32) : Eqv (fun w => F_X5_evening w p1 p2 p3) (fun w => F_X6_evening w p1 p2 p3) := by
  apply Eqv.query
  rintro w ⟨-, hrr, -⟩
  obtain ⟨l, k, c, hl, hk, hch, e8, e9, e10, e29, e30, e31, -⟩ := RR.lk hrr
  by_cases h1 : 0 ≤ p1.toInt ∧ p1.toInt ≤ 9999
  · by_cases h2 : 1 ≤ p2.toInt ∧ p2.toInt ≤ 99
    · by_cases h3 : 0 ≤ p3.toInt ∧ p3.toInt ≤ 2
      · obtain ⟨s, hs, rfl, hs2⟩ := i32_nat h1.1
        obtain ⟨m, hm, rfl, hm2⟩ := i32_nat (show 0 ≤ p2.toInt by omega)
        obtain ⟨v, hv, rfl, hv2⟩ := i32_nat h3.1
        refine ⟨evR s l k m v, ?_, fun w' hw' hs' => ?_⟩
        · unfold F_X5_evening
          rw [X5_yes (show 0 ≤ (nI s).toInt ∧ (nI s).toInt ≤ (9999 : Int32).toInt from h1), Option.bind_some, if_neg one0, if_neg (by simp (disch := omega) only [Int32.le_iff_toInt_le, Int32.lt_iff_toInt_lt, ← Int32.toInt_inj, nI_toInt, Int32.reduceToInt]; omega), if_neg (by simp (disch := omega) only [Int32.le_iff_toInt_le, Int32.lt_iff_toInt_lt, ← Int32.toInt_inj, nI_toInt, Int32.reduceToInt]; omega), X5_yes (show 0 ≤ (nI v).toInt ∧ (nI v).toInt ≤ (2 : Int32).toInt from h3), Option.bind_some, if_neg one0]
          dsimp only
          rw [e9, evenC w (by omega) (by omega) (by omega) hl hk e8 e9]
          exact Ok.ret ⟨Same.rf w, rfl⟩
        · unfold F_X6_evening
          rw [X6_yes (show (0 : Int64).toInt ≤ (nI s).toInt ∧ (nI s).toInt ≤ (9999 : Int64).toInt from h1), Option.bind_some, if_neg one0, X6_yes (show (1 : Int64).toInt ≤ (nI m).toInt ∧ (nI m).toInt ≤ (99 : Int64).toInt from h2), Option.bind_some, if_neg one0, X6_yes (show (0 : Int64).toInt ≤ (nI v).toInt ∧ (nI v).toInt ≤ (2 : Int64).toInt from h3), Option.bind_some, if_neg one0]
          dsimp only
          rw [evenM w' (by omega) (by omega) (by omega) hl hk (by rw [hs'.1 29 (by unfold PI; omega)]; exact e29) (by rw [hs'.1 30 (by unfold PI; omega)]; exact e30)]
          exact Ok.ret ⟨Same.rf w', rfl⟩
      · refine ⟨-2, ?_, fun w' hw' hs' => ?_⟩
        · unfold F_X5_evening F_X5_evening_29
          rw [X5_yes (show 0 ≤ p1.toInt ∧ p1.toInt ≤ (9999 : Int32).toInt from h1), Option.bind_some, if_neg one0]
          refine Ok.ite (fun _ => Ok.ret ⟨Same.rf w, rfl⟩) (fun _ => Ok.ite (fun _ => Ok.ret ⟨Same.rf w, rfl⟩) (fun _ => ?_))
          rw [X5_not (show ¬ (0 ≤ p3.toInt ∧ p3.toInt ≤ (2 : Int32).toInt) from h3), Option.bind_some, if_pos rfl]
          exact Ok.ret ⟨Same.rf w, rfl⟩
        · unfold F_X6_evening F_X6_evening_36
          rw [X6_yes (show (0 : Int64).toInt ≤ p1.toInt ∧ p1.toInt ≤ (9999 : Int64).toInt from h1), Option.bind_some, if_neg one0, X6_yes (show (1 : Int64).toInt ≤ p2.toInt ∧ p2.toInt ≤ (99 : Int64).toInt from h2), Option.bind_some, if_neg one0, X6_not (show ¬ ((0 : Int64).toInt ≤ p3.toInt ∧ p3.toInt ≤ (2 : Int64).toInt) from h3), Option.bind_some, if_pos rfl]
          exact Ok.ret ⟨Same.rf w', rfl⟩
    · refine ⟨-2, ?_, fun w' hw' hs' => ?_⟩
      · unfold F_X5_evening F_X5_evening_29
        rw [X5_yes (show 0 ≤ p1.toInt ∧ p1.toInt ≤ (9999 : Int32).toInt from h1), Option.bind_some, if_neg one0]
        refine Ok.ite (fun _ => Ok.ret ⟨Same.rf w, rfl⟩) (fun c1 => Ok.ite (fun _ => Ok.ret ⟨Same.rf w, rfl⟩) (fun c2 => ?_))
        exfalso
        rw [Int32.lt_iff_toInt_lt] at c1 c2
        simp only [Int32.reduceToInt] at c1 c2
        omega
      · unfold F_X6_evening F_X6_evening_36
        rw [X6_yes (show (0 : Int64).toInt ≤ p1.toInt ∧ p1.toInt ≤ (9999 : Int64).toInt from h1), Option.bind_some, if_neg one0, X6_not (show ¬ ((1 : Int64).toInt ≤ p2.toInt ∧ p2.toInt ≤ (99 : Int64).toInt) from h2), Option.bind_some, if_pos rfl]
        exact Ok.ret ⟨Same.rf w', rfl⟩
  · refine ⟨-2, ?_, fun w' hw' hs' => ?_⟩
    · unfold F_X5_evening F_X5_evening_29
      rw [X5_not (show ¬ (0 ≤ p1.toInt ∧ p1.toInt ≤ (9999 : Int32).toInt) from h1), Option.bind_some, if_pos rfl]
      exact Ok.ret ⟨Same.rf w, rfl⟩
    · unfold F_X6_evening F_X6_evening_36
      rw [X6_not (show ¬ ((0 : Int64).toInt ≤ p1.toInt ∧ p1.toInt ≤ (9999 : Int64).toInt) from h1), Option.bind_some, if_pos rfl]
      exact Ok.ret ⟨Same.rf w', rfl⟩
