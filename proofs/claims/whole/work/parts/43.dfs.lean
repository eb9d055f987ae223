/-! a search that takes the first, level by level -/
def dfOe {α : Type} (a b : Option α) : Option α := match a with
  | some x => some x
  | none => b
theorem dfOe_as {α : Type} (a b c : Option α) : dfOe (dfOe a b) c = dfOe a (dfOe b c) := by cases a <;> rfl
theorem dfOe_r {α : Type} (a : Option α) : dfOe a none = a := by cases a <;> rfl
def dfTr {α : Type} (F : Nat → Option α) : Nat → Nat → Option α
  | 0, _ => none
  | k + 1, v => dfOe (F v) (dfTr F k (v + 1))
theorem dfTr_ex {α : Type} {F : Nat → Option α} {g : α} : ∀ k v, dfTr F k v = some g → ∃ u, v ≤ u ∧ u < v + k ∧ F u = some g := by
  intro k
  induction k with
  | zero => intro v h; cases h
  | succ k ih =>
    intro v h
    simp only [dfTr] at h
    cases q : F v with
    | some x =>
      rw [q] at h
      exact ⟨v, Nat.le_refl _, by omega, q.trans h⟩
    | none =>
      rw [q] at h
      obtain ⟨u, h1, h2, h3⟩ := ih (v + 1) h
      exact ⟨u, by omega, by omega, h3⟩
theorem dfTr_some {α : Type} {F : Nat → Option α} {u : Nat} (hu : F u ≠ none) : ∀ k v, v ≤ u → u < v + k → dfTr F k v ≠ none := by
  intro k
  induction k with
  | zero => intro v h1 h2; omega
  | succ k ih =>
    intro v h1 h2 h
    simp only [dfTr] at h
    cases q : F v with
    | some x => rw [q] at h; cases h
    | none =>
      rw [q] at h
      by_cases e : v = u
      · rw [e] at q; exact hu q
      · exact ih (v + 1) (by omega) (by omega) h
def dfUp (f : Nat → Nat) (p v : Nat) : Nat → Nat := fun i => if i = p then v else f i
theorem dfUp_at (f : Nat → Nat) (p v i : Nat) : dfUp f p v i = if i = p then v else f i := rfl
/-- how many players the parts below p have, numbered from 0 -/
def dfU (hs : Nat → Bool) (f : Nat → Nat) : Nat → Nat
  | 0 => 0
  | p + 1 => if hs p = true then max (dfU hs f p) (f p + 1) else dfU hs f p
def dfC (hs : Nat → Bool) (P : Nat) (f : Nat → Nat) (p : Nat) : Nat := if hs p = true then min (dfU hs f p + 1) P else 1
def dfK (hs : Nat → Bool) (cl : Nat → Nat → Bool) (f : Nat → Nat) (p v : Nat) : Nat → Bool
  | 0 => true
  | q + 1 => dfK hs cl f p v q && !(hs q && (decide (f q = v) && cl q p))
def dfO (hs : Nat → Bool) (cl : Nat → Nat → Bool) (f : Nat → Nat) (p v : Nat) : Bool := !(hs p) || dfK hs cl f p v p
def dfS (hs : Nat → Bool) (cl : Nat → Nat → Bool) (P : Nat) : Nat → (Nat → Nat) → Option (Nat → Nat)
  | 0, f => some (fun i => if i < 8 then f i else 0)
  | d + 1, f => dfTr (fun v => if dfO hs cl f (7 - d) v = true then dfS hs cl P d (dfUp f (7 - d) v) else none) (dfC hs P f (7 - d)) 0
def dfF (hs : Nat → Bool) (cl : Nat → Nat → Bool) (P p : Nat) (f : Nat → Nat) (v : Nat) : Option (Nat → Nat) := if dfO hs cl f p v = true then dfS hs cl P (7 - p) (dfUp f p v) else none
def dfB (hs : Nat → Bool) (cl : Nat → Nat → Bool) (P : Nat) : Nat → (Nat → Nat) → Option (Nat → Nat)
  | 0, _ => none
  | p + 1, f => dfOe (dfTr (dfF hs cl P p f) (dfC hs P f p - (f p + 1)) (f p + 1)) (dfB hs cl P p f)
def dfV (hs : Nat → Bool) (cl : Nat → Nat → Bool) (P p v : Nat) (f : Nat → Nat) : Option (Nat → Nat) := dfOe (dfTr (dfF hs cl P p f) (dfC hs P f p - v) v) (dfB hs cl P p f)
theorem dfK_iff {hs : Nat → Bool} {cl : Nat → Nat → Bool} {f : Nat → Nat} {p v : Nat} : ∀ n, dfK hs cl f p v n = true ↔ ∀ q, q < n → ¬ (hs q = true ∧ f q = v ∧ cl q p = true) := by
  intro n
  induction n with
  | zero => exact ⟨fun _ q hq => absurd hq (Nat.not_lt_zero _), fun _ => rfl⟩
  | succ n ih =>
    simp only [dfK, Bool.and_eq_true, Bool.not_eq_true', Bool.and_eq_false_iff, decide_eq_false_iff_not]
    rw [ih]
    constructor
    · rintro ⟨h1, h2⟩ q hq ⟨a, b, c⟩
      by_cases e : q = n
      · subst e
        rcases h2 with h | h | h
        · rw [a] at h; cases h
        · exact h b
        · rw [c] at h; cases h
      · exact h1 q (by omega) ⟨a, b, c⟩
    · intro h
      refine ⟨fun q hq => h q (by omega), ?_⟩
      have := h n (by omega)
      cases a : hs n
      · exact Or.inl rfl
      · cases c : cl n p
        · exact Or.inr (Or.inr rfl)
        · exact Or.inr (Or.inl (fun b => this ⟨a, b, c⟩))
theorem dfO_iff {hs : Nat → Bool} {cl : Nat → Nat → Bool} {f : Nat → Nat} {p v : Nat} : dfO hs cl f p v = true ↔ (hs p = true → ∀ q, q < p → ¬ (hs q = true ∧ f q = v ∧ cl q p = true)) := by
  unfold dfO
  rw [Bool.or_eq_true, dfK_iff, Bool.not_eq_true']
  cases hs p
  · exact ⟨fun _ h => (by cases h), fun _ => Or.inl rfl⟩
  · exact ⟨fun h _ => h.elim (fun e => by cases e) id, fun h => Or.inr (h rfl)⟩
def agr (p : Nat) (f f' : Nat → Nat) : Prop := ∀ i, i < p → f i = f' i
theorem agr.mono {p q : Nat} {f f' : Nat → Nat} (h : agr p f f') (hq : q ≤ p) : agr q f f' := fun i hi => h i (by omega)
theorem agr.up {p : Nat} {f f' : Nat → Nat} (h : agr p f f') (v : Nat) : agr (p + 1) (dfUp f p v) (dfUp f' p v) := fun i hi => by
  rw [dfUp_at, dfUp_at]
  by_cases e : i = p
  · rw [if_pos e, if_pos e]
  · rw [if_neg e, if_neg e]; exact h i (by omega)
theorem agr_up (f : Nat → Nat) (p v : Nat) : agr p (dfUp f p v) f := fun i hi => by rw [dfUp_at, if_neg (by omega)]
theorem dfU_congr {hs : Nat → Bool} {f f' : Nat → Nat} : ∀ p, agr p f f' → dfU hs f p = dfU hs f' p := by
  intro p
  induction p with
  | zero => intro _; rfl
  | succ p ih => intro h; simp only [dfU, ih (h.mono (Nat.le_succ p)), h p (Nat.lt_succ_self p)]
theorem dfC_congr {hs : Nat → Bool} {P p : Nat} {f f' : Nat → Nat} (h : agr p f f') : dfC hs P f p = dfC hs P f' p := by
  unfold dfC
  rw [dfU_congr p h]
theorem dfO_congr {hs : Nat → Bool} {cl : Nat → Nat → Bool} {p v : Nat} {f f' : Nat → Nat} (h : agr p f f') : dfO hs cl f p v = dfO hs cl f' p v := by
  apply Bool.eq_iff_iff.mpr
  rw [dfO_iff, dfO_iff]
  constructor
  · intro k a q hq; rw [← h q hq]; exact k a q hq
  · intro k a q hq; rw [h q hq]; exact k a q hq
theorem dfS_congr {hs : Nat → Bool} {cl : Nat → Nat → Bool} {P : Nat} : ∀ d f f', d ≤ 8 → agr (8 - d) f f' → dfS hs cl P d f = dfS hs cl P d f' := by
  intro d
  induction d with
  | zero =>
    intro f f' _ h
    simp only [dfS]
    congr 1
    funext i
    by_cases e : i < 8
    · rw [if_pos e, if_pos e]; exact h i e
    · rw [if_neg e, if_neg e]
  | succ d ih =>
    intro f f' hd h
    have h7 : agr (7 - d) f f' := h.mono (by omega)
    simp only [dfS]
    rw [dfC_congr h7]
    congr 1
    funext v
    rw [dfO_congr h7, ih _ _ (by omega) ((h7.up v).mono (by omega))]
theorem dfS_at {hs : Nat → Bool} {cl : Nat → Nat → Bool} {P p : Nat} (hp : p < 8) (f : Nat → Nat) : dfS hs cl P (8 - p) f = dfTr (dfF hs cl P p f) (dfC hs P f p) 0 := by
  obtain ⟨d, hd, rfl⟩ : ∃ d, d < 8 ∧ p = 7 - d := ⟨7 - p, by omega, by omega⟩
  rw [show 8 - (7 - d) = d + 1 by omega]
  simp only [dfS]
  unfold dfF
  rw [show 7 - (7 - d) = d by omega]
theorem dfF_congr {hs : Nat → Bool} {cl : Nat → Nat → Bool} {P p : Nat} (hp : p < 8) {f f' : Nat → Nat} (h : agr p f f') : dfF hs cl P p f = dfF hs cl P p f' := by
  funext v
  unfold dfF
  rw [dfO_congr h, dfS_congr _ _ _ (by omega) ((h.up v).mono (by omega))]
theorem dfB_congr {hs : Nat → Bool} {cl : Nat → Nat → Bool} {P : Nat} {f f' : Nat → Nat} : ∀ p, p ≤ 8 → agr p f f' → dfB hs cl P p f = dfB hs cl P p f' := by
  intro p
  induction p with
  | zero => intro _ _; rfl
  | succ p ih =>
    intro hp h
    have h' := h.mono (Nat.le_succ p)
    simp only [dfB]
    rw [ih (by omega) h', dfF_congr (by omega) h', dfC_congr h', h p (Nat.lt_succ_self p)]
theorem dfV_0 {hs : Nat → Bool} {cl : Nat → Nat → Bool} {P : Nat} (f : Nat → Nat) : dfV hs cl P 0 0 f = dfS hs cl P 8 f := by
  rw [show dfS hs cl P 8 f = dfS hs cl P (8 - 0) f from rfl, dfS_at (by omega)]
  unfold dfV
  exact dfOe_r _
theorem dfV_end0 {hs : Nat → Bool} {cl : Nat → Nat → Bool} {P v : Nat} {f : Nat → Nat} (h : dfC hs P f 0 ≤ v) : dfV hs cl P 0 v f = none := by
  unfold dfV
  rw [show dfC hs P f 0 - v = 0 by omega]
  rfl
theorem dfV_end {hs : Nat → Bool} {cl : Nat → Nat → Bool} {P p v : Nat} {f : Nat → Nat} (h : dfC hs P f (p + 1) ≤ v) : dfV hs cl P (p + 1) v f = dfV hs cl P p (f p + 1) f := by
  unfold dfV
  rw [show dfC hs P f (p + 1) - v = 0 by omega]
  rfl
theorem dfV_at {hs : Nat → Bool} {cl : Nat → Nat → Bool} {P p v : Nat} {f : Nat → Nat} (h : v < dfC hs P f p) : dfV hs cl P p v f = dfOe (dfF hs cl P p f v) (dfV hs cl P p (v + 1) f) := by
  unfold dfV
  rw [show dfC hs P f p - v = (dfC hs P f p - (v + 1)) + 1 by omega]
  simp only [dfTr]
  rw [dfOe_as]
theorem dfV_bad {hs : Nat → Bool} {cl : Nat → Nat → Bool} {P p v : Nat} {f : Nat → Nat} (h : v < dfC hs P f p) (ho : dfO hs cl f p v = false) : dfV hs cl P p v f = dfV hs cl P p (v + 1) f := by
  rw [dfV_at h]
  unfold dfF
  rw [if_neg (by rw [ho]; exact Bool.false_ne_true)]
  rfl
theorem dfV_next {hs : Nat → Bool} {cl : Nat → Nat → Bool} {P p v : Nat} {f : Nat → Nat} (h : v < dfC hs P f p) (ho : dfO hs cl f p v = true) (hp : p < 7) : dfV hs cl P p v f = dfV hs cl P (p + 1) 0 (dfUp f p v) := by
  rw [dfV_at h]
  have h1 : dfF hs cl P p f v = dfTr (dfF hs cl P (p + 1) (dfUp f p v)) (dfC hs P (dfUp f p v) (p + 1)) 0 := by
    rw [← dfS_at (by omega)]
    unfold dfF
    rw [if_pos ho, show 7 - p = 8 - (p + 1) by omega]
  have a := agr_up f p v
  have h2 : dfB hs cl P (p + 1) (dfUp f p v) = dfV hs cl P p (v + 1) f := by
    simp only [dfB]
    rw [dfB_congr p (by omega) a, dfF_congr (by omega) a, dfC_congr a, dfUp_at, if_pos rfl]
    rfl
  rw [h1, ← h2]
  rfl
theorem dfV_done {hs : Nat → Bool} {cl : Nat → Nat → Bool} {P v : Nat} {f : Nat → Nat} (h : v < dfC hs P f 7) (ho : dfO hs cl f 7 v = true) : dfV hs cl P 7 v f = some (fun i => if i < 8 then dfUp f 7 v i else 0) := by
  rw [dfV_at h]
  unfold dfF
  rw [if_pos ho]
  rfl
theorem dfU_le {hs : Nat → Bool} {f : Nat → Nat} : ∀ p, (∀ i, i < p → f i ≤ i) → dfU hs f p ≤ p := by
  intro p
  induction p with
  | zero => intro _; exact Nat.le_refl _
  | succ p ih =>
    intro h
    have h1 := ih (fun i hi => h i (by omega))
    have h2 := h p (by omega)
    simp only [dfU]
    split <;> omega
theorem dfC_le {hs : Nat → Bool} {P p : Nat} {f : Nat → Nat} (h : ∀ i, i < p → f i ≤ i) : dfC hs P f p ≤ p + 1 := by
  have := dfU_le (hs := hs) p h
  unfold dfC
  split <;> omega
theorem dfU_gt {hs : Nat → Bool} {f : Nat → Nat} : ∀ p q, q < p → hs q = true → f q < dfU hs f p := by
  intro p
  induction p with
  | zero => intro q hq; omega
  | succ p ih =>
    intro q hq h
    simp only [dfU]
    by_cases e : q = p
    · subst e
      rw [if_pos h]
      omega
    · have := ih q (by omega) h
      split <;> omega
theorem up_le {f : Nat → Nat} {p v : Nat} (h : ∀ i, i < p → f i ≤ i) (hv : v ≤ p) : ∀ i, i < p + 1 → dfUp f p v i ≤ i := fun i hi => by
  rw [dfUp_at]
  by_cases e : i = p
  · rw [if_pos e]; omega
  · rw [if_neg e]; exact h i (by omega)
theorem dfS_le {hs : Nat → Bool} {cl : Nat → Nat → Bool} {P : Nat} {g : Nat → Nat} : ∀ d f, d ≤ 8 → (∀ i, i < 8 - d → f i ≤ i) → dfS hs cl P d f = some g → ∀ i, g i ≤ i := by
  intro d
  induction d with
  | zero =>
    intro f _ h e i
    simp only [dfS, Option.some.injEq] at e
    rw [← e]
    dsimp only
    split
    · exact h i (by omega)
    · exact Nat.zero_le _
  | succ d ih =>
    intro f hd h e
    simp only [dfS] at e
    obtain ⟨u, -, h2, h3⟩ := dfTr_ex _ _ e
    split at h3
    · have hle := dfC_le (hs := hs) (P := P) (p := 7 - d) (f := f) (fun i hi => h i (by omega))
      have := up_le (p := 7 - d) (v := u) (fun i hi => h i (by omega)) (by omega)
      exact ih (dfUp f (7 - d) u) (by omega) (fun i hi => this i (by omega)) h3
    · cases h3
theorem dfS_8 {hs : Nat → Bool} {cl : Nat → Nat → Bool} : ∀ d f, d ≤ 8 → dfU hs f (8 - d) ≤ 8 - d → dfS hs cl 8 d f ≠ none := by
  intro d
  induction d with
  | zero => intro f _ _ h; cases h
  | succ d ih =>
    intro f hd hu
    rw [show 8 - (d + 1) = 7 - d by omega] at hu
    have key : ∀ u, u < dfC hs 8 f (7 - d) → dfO hs cl f (7 - d) u = true → (hs (7 - d) = true → u ≤ 7 - d) → dfS hs cl 8 (d + 1) f ≠ none := by
      intro u h1 h2 h3
      simp only [dfS]
      refine dfTr_some (u := u) ?_ _ _ (Nat.zero_le _) (by omega)
      rw [if_pos h2]
      apply ih _ (by omega)
      rw [show 8 - d = (7 - d) + 1 by omega]
      simp only [dfU]
      rw [dfU_congr _ (agr_up f (7 - d) u), dfUp_at, if_pos rfl]
      split
      · have := h3 (by assumption); omega
      · omega
    cases q : hs (7 - d)
    · exact key 0 (by unfold dfC; rw [q]; exact Nat.zero_lt_one) (dfO_iff.mpr (fun a => by rw [q] at a; cases a)) (fun a => by rw [q] at a; cases a)
    · refine key (dfU hs f (7 - d)) (by unfold dfC; rw [if_pos q]; omega) (dfO_iff.mpr (fun _ x hx hc => ?_)) (fun _ => hu)
      have := dfU_gt (hs := hs) (f := f) (7 - d) x hx hc.1
      have := hc.2.1
      omega
theorem dfS_no {hs : Nat → Bool} {cl : Nat → Nat → Bool} {P : Nat} (hn : ∀ p, p < 8 → hs p = false) : ∀ d f, d ≤ 8 → dfS hs cl P d f ≠ none := by
  intro d
  induction d with
  | zero => intro f _ h; cases h
  | succ d ih =>
    intro f hd
    simp only [dfS]
    have q := hn (7 - d) (by omega)
    refine dfTr_some (u := 0) ?_ _ _ (Nat.zero_le _) (by unfold dfC; rw [q]; exact Nat.zero_lt_one)
    rw [if_pos (dfO_iff.mpr (fun a => by rw [q] at a; cases a))]
    exact ih _ (by omega)
theorem dfS_0 {hs : Nat → Bool} {cl : Nat → Nat → Bool} {p : Nat} (hp : p < 8) (h : hs p = true) : ∀ d f, d ≤ 8 → 8 - d ≤ p → dfS hs cl 0 d f = none := by
  intro d
  induction d with
  | zero => intro f _ h; omega
  | succ d ih =>
    intro f hd hle
    simp only [dfS]
    cases q : hs (7 - d)
    · have e : dfC hs 0 f (7 - d) = 1 := by unfold dfC; rw [q]; rfl
      rw [e]
      simp only [dfTr]
      rw [if_pos (dfO_iff.mpr (fun a => by rw [q] at a; cases a)), ih _ (by omega) (by
        have : p ≠ 7 - d := fun e => by rw [← e, h] at q; cases q
        omega)]
      rfl
    · have e : dfC hs 0 f (7 - d) = 0 := by unfold dfC; rw [if_pos q]; omega
      rw [e]
      rfl
/-- the fewest players, and who is what -/
def isCs (hs : Nat → Bool) (cl : Nat → Nat → Bool) (n : Nat) (g : Nat → Nat) : Prop := dfS hs cl n 8 (fun _ => 0) = some g ∧ ∀ m, m < n → dfS hs cl m 8 (fun _ => 0) = none
theorem dfS_any {hs : Nat → Bool} {cl : Nat → Nat → Bool} {P : Nat} (f : Nat → Nat) : dfS hs cl P 8 f = dfS hs cl P 8 (fun _ => 0) := dfS_congr 8 _ _ (Nat.le_refl _) (fun i hi => by omega)
theorem isCs_ex (hs : Nat → Bool) (cl : Nat → Nat → Bool) : ∃ n g, n ≤ 8 ∧ isCs hs cl n g ∧ (∀ i, g i ≤ i) ∧ (n = 0 ↔ ∀ p, p < 8 → hs p = false) := by
  rcases first_or (n := 9) (fun m => dfS hs cl m 8 (fun _ => 0) = none) with h | ⟨n, h1, h2, h3⟩
  · exact absurd (h 8 (by omega)) (dfS_8 8 _ (Nat.le_refl _) (Nat.zero_le _))
  · cases e : dfS hs cl n 8 (fun _ => 0) with
    | none => exact absurd e h2
    | some g =>
      refine ⟨n, g, by omega, ⟨e, h3⟩, dfS_le 8 _ (Nat.le_refl _) (fun i hi => Nat.zero_le _) e, ?_⟩
      constructor
      · intro hn p hp
        subst hn
        cases q : hs p
        · rfl
        · rw [dfS_0 hp q 8 _ (Nat.le_refl _) (by omega)] at e
          cases e
      · intro hn
        rcases Nat.eq_zero_or_pos n with q | q
        · exact q
        · exact absurd (h3 0 q) (dfS_no hn 8 _ (Nat.le_refl _))
/-! how many steps it may take -/
def dfW (p : Nat) : Nat := if p = 7 then 1 else if p = 6 then 10 else if p = 5 then 72 else if p = 4 then 434 else if p = 3 then 2172 else if p = 2 then 8690 else if p = 1 then 26072 else if p = 0 then 52146 else 0
theorem dfW_s : ∀ p, p < 7 → dfW p = (p + 2) * dfW (p + 1) + 2 := by decide
theorem dfW_pos : ∀ p, p < 8 → 0 < dfW p := by decide
def dfM (f : Nat → Nat) : Nat → Nat
  | 0 => 0
  | p + 1 => (p - f p) * dfW p + 1 + dfM f p
theorem dfM_congr {f f' : Nat → Nat} : ∀ p, agr p f f' → dfM f p = dfM f' p := by
  intro p
  induction p with
  | zero => intro _; rfl
  | succ p ih => intro h; simp only [dfM, ih (h.mono (Nat.le_succ p)), h p (Nat.lt_succ_self p)]
def dfN (f : Nat → Nat) (p v : Nat) : Nat := (p + 1 - v) * dfW p + 1 + dfM f p
theorem dfN_end {f : Nat → Nat} {p v : Nat} (hf : f p ≤ p) : dfN f p (f p + 1) < dfN f (p + 1) v := by
  unfold dfN
  simp only [dfM]
  rw [show p + 1 - (f p + 1) = p - f p by omega]
  omega
theorem dfN_bad {f : Nat → Nat} {p v : Nat} (hp : p < 8) (hv : v ≤ p) : dfN f p (v + 1) < dfN f p v := by
  unfold dfN
  have := dfW_pos p hp
  rw [show p + 1 - v = (p + 1 - (v + 1)) + 1 by omega, Nat.succ_mul]
  omega
theorem dfN_next {f : Nat → Nat} {p v : Nat} (hp : p < 7) (hv : v ≤ p) : dfN (dfUp f p v) (p + 1) 0 < dfN f p v := by
  unfold dfN
  simp only [dfM]
  rw [dfM_congr p (agr_up f p v), dfUp_at, if_pos rfl, show p + 1 - v = (p - v) + 1 by omega, Nat.succ_mul, dfW_s p hp, show p + 1 + 1 - 0 = p + 2 by omega]
  omega
theorem dfN_0 (f : Nat → Nat) : dfN f 0 0 = 52147 := by
  unfold dfN
  simp only [dfM]
  decide
theorem Ok.loopR {α β : Type} {body : (α → Option β) → α → Option β} (I : Nat → α → Prop) {P : β → Prop} (h : ∀ m a, I m a → ∀ k : α → Option β, (∀ m' a', m' < m → I m' a' → Ok (k a') P) → Ok (body k a) P) : ∀ n m a, I m a → m < n → Ok (it body n a) P := by
  intro n
  induction n with
  | zero => intro m a _ h2; exact absurd h2 (Nat.not_lt_zero _)
  | succ n ih => intro m a h1 h2; exact h m a h1 (it body n) (fun m' a' h3 h4 => ih m' a' h4 (by omega))
