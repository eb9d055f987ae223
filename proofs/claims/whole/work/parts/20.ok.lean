/-! running the pure functions -/
def Ok {β : Type} (o : Option β) (P : β → Prop) : Prop := ∃ b, o = some b ∧ P b
theorem Ok.ret {β : Type} {b : β} {P : β → Prop} (h : P b) : Ok (some b) P := ⟨b, rfl, h⟩
theorem Ok.gu {β : Type} {c : Bool} {a : Option β} {P : β → Prop} (hc : c = true) (h : Ok a P) : Ok (gu c a) P := by subst hc; exact h
theorem Ok.bind {α β : Type} {o : Option α} {f : α → Option β} {P1 : α → Prop} {P : β → Prop} (h : Ok o P1) (k : ∀ x, P1 x → Ok (f x) P) : Ok (o.bind f) P := by
  obtain ⟨x, rfl, hx⟩ := h
  exact k x hx
theorem Ok.ite {β : Type} {c : Prop} {d : Decidable c} {a b : Option β} {P : β → Prop} (ha : c → Ok a P) (hb : ¬ c → Ok b P) : Ok (if c then a else b) P := by
  by_cases h : c
  · rw [if_pos h]; exact ha h
  · rw [if_neg h]; exact hb h
theorem Ok.let {α β : Type} {e : α} {f : α → Option β} {P : β → Prop} (h : ∀ x, x = e → Ok (f x) P) : Ok (Let e f) P := h e rfl
theorem Ok.mono {β : Type} {o : Option β} {P Q : β → Prop} (h : Ok o P) (k : ∀ b, P b → Q b) : Ok o Q := by
  obtain ⟨b, h1, h2⟩ := h
  exact ⟨b, h1, k b h2⟩
theorem Ok.loop {α β : Type} {body : (α → Option β) → α → Option β} (I : α → Prop) (μ : α → Nat) {P : β → Prop} (h : ∀ a, I a → ∀ k : α → Option β, (∀ a', I a' → μ a' < μ a → Ok (k a') P) → Ok (body k a) P) : ∀ n a, I a → μ a < n → Ok (it body n a) P := by
  intro n
  induction n with
  | zero => intro a _ h2; exact absurd h2 (Nat.not_lt_zero _)
  | succ n ih => intro a h1 h2; exact h a h1 (it body n) (fun a' h3 h4 => ih a' h3 (by omega))
theorem fu_big {n : Nat} (h : n < 1000000) : n < fu := h
/-! numbers -/
theorem gd_nI {i n : Nat} (h : i < n) (hn : n < 2 ^ 31) : gd (nI i) n = true := by
  rw [gd_iff, nI_toInt (by omega)]
  omega
theorem cl_nI {n : Nat} (h : n < 2 ^ 31) : (nI n).toNatClampNeg = n := nI_clamp h
theorem i32_ext {x y : Int32} (h : x.toInt = y.toInt) : x = y := Int32.toInt_inj.mp h
theorem i32_cases (x : Int32) : x.toInt < 0 ∨ ∃ n : Nat, n < 2 ^ 31 ∧ x = nI n := by
  by_cases h : x.toInt < 0
  · exact Or.inl h
  · refine Or.inr ⟨x.toInt.toNat, ?_, ?_⟩
    · have := Int32.toInt_lt x
      omega
    · apply i32_ext
      rw [nI_toInt (by have := Int32.toInt_lt x; omega)]
      omega
theorem isB_ite (c : Prop) (d : Decidable c) : isB (if c then 1 else 0) = true := by
  by_cases h : c
  · rw [if_pos h]; rfl
  · rw [if_neg h]; rfl
/-! reading behind writes -/
theorem rI_i (w : Wd) (k : Nat) (v : Int32) (j : Nat) : (wI w k v).1 j = if j = k then v else w.1 j := rfl
theorem rI_a (w : Wd) (k : Nat) (v : Int32) : (wI w k v).2.1 = w.2.1 := rfl
theorem rI_l (w : Wd) (k : Nat) (v : Int32) : (wI w k v).2.2 = w.2.2 := rfl
theorem rR_i (w : Wd) (k : Nat) (f : Nat → Int32) : (wR w k f).1 = w.1 := rfl
theorem rR_a (w : Wd) (k : Nat) (f : Nat → Int32) (j : Nat) : (wR w k f).2.1 j = if j = k then f else w.2.1 j := rfl
theorem rR_l (w : Wd) (k : Nat) (f : Nat → Int32) : (wR w k f).2.2 = w.2.2 := rfl
theorem rA_i (w : Wd) (k : Nat) (i v : Int32) : (wA w k i v).1 = w.1 := rfl
theorem rA_a (w : Wd) (k : Nat) (i v : Int32) (j : Nat) : (wA w k i v).2.1 j = if j = k then upd (w.2.1 k) i.toNatClampNeg v else w.2.1 j := rfl
theorem rA_l (w : Wd) (k : Nat) (i v : Int32) : (wA w k i v).2.2 = w.2.2 := rfl
theorem rL_i (w : Wd) (k : Nat) (i : Int32) (v : Int64) : (wL w k i v).1 = w.1 := rfl
theorem rL_a (w : Wd) (k : Nat) (i : Int32) (v : Int64) : (wL w k i v).2.1 = w.2.1 := rfl
theorem rL_l (w : Wd) (k : Nat) (i : Int32) (v : Int64) (j : Nat) : (wL w k i v).2.2 j = if j = k then vp_updL (w.2.2 k) i.toNatClampNeg v else w.2.2 j := rfl
theorem upd_at (f : Nat → Int32) (k : Nat) (x : Int32) (j : Nat) : upd f k x j = if j = k then x else f j := rfl
/-! what a query leaves as it was -/
def PI (k : Nat) : Prop := k = 0 ∨ (8 ≤ k ∧ k ≤ 22) ∨ (29 ≤ k ∧ k ≤ 34)
def PA (k : Nat) : Prop := k = 2 ∨ k = 5 ∨ (9 ≤ k ∧ k ≤ 25) ∨ (37 ≤ k ∧ k ≤ 41) ∨ k = 50 ∨ k = 51
def Same (w w' : Wd) : Prop := (∀ k, PI k → w'.1 k = w.1 k) ∧ ∀ k, PA k → w'.2.1 k = w.2.1 k
theorem Same.rf (w : Wd) : Same w w := ⟨fun _ _ => rfl, fun _ _ => rfl⟩
theorem Same.tr {a b c : Wd} (h : Same a b) (g : Same b c) : Same a c := ⟨fun k q => (g.1 k q).trans (h.1 k q), fun k q => (g.2 k q).trans (h.2 k q)⟩
theorem Same.wI {a b : Wd} (h : Same a b) {k : Nat} {v : Int32} (hk : ¬ PI k) : Same a (wI b k v) := by
  refine ⟨fun j q => ?_, h.2⟩
  have hj : ¬ j = k := fun e => hk (e ▸ q)
  rw [rI_i, if_neg hj]
  exact h.1 j q
theorem Same.wA {a b : Wd} (h : Same a b) {k : Nat} {i v : Int32} (hk : ¬ PA k) : Same a (wA b k i v) := by
  refine ⟨h.1, fun j q => ?_⟩
  have hj : ¬ j = k := fun e => hk (e ▸ q)
  rw [rA_a, if_neg hj]
  exact h.2 j q
theorem Same.wR {a b : Wd} (h : Same a b) {k : Nat} {f : Nat → Int32} (hk : ¬ PA k) : Same a (wR b k f) := by
  refine ⟨h.1, fun j q => ?_⟩
  have hj : ¬ j = k := fun e => hk (e ▸ q)
  rw [rR_a, if_neg hj]
  exact h.2 j q
theorem Same.wL {a b : Wd} (h : Same a b) {k : Nat} {i : Int32} {v : Int64} : Same a (wL b k i v) := h
/-! small methods -/
theorem X5_isWithin (w : Wd) (v m : Int32) : F_X5_isWithin w v m = some (if 0 ≤ v ∧ v ≤ m then 1 else 0, w) := by
  have e : (if v < 0 then (0 : Int32) else (if m < v then 0 else 1)) = if 0 ≤ v ∧ v ≤ m then 1 else 0 := by
    by_cases h1 : v < 0
    · rw [if_pos h1, if_neg (fun h => by have := h.1; rw [Int32.le_iff_toInt_le] at this; rw [Int32.lt_iff_toInt_lt] at h1; omega)]
    · rw [if_neg h1]
      by_cases h2 : m < v
      · rw [if_pos h2, if_neg (fun h => by have := h.2; rw [Int32.le_iff_toInt_le] at this; rw [Int32.lt_iff_toInt_lt] at h2; omega)]
      · rw [if_neg h2, if_pos]
        rw [Int32.lt_iff_toInt_lt] at h1 h2
        rw [Int32.le_iff_toInt_le, Int32.le_iff_toInt_le]
        omega
  unfold F_X5_isWithin
  rw [e, isB_ite]
  rfl
theorem test_lits (v : Int32) (i : Nat) (h : i ≤ 40) (hv : v = nI i) (c : ¬ v ≤ 46) : False := by
  subst hv
  simp (disch := omega) only [Int32.le_iff_toInt_le, nI_toInt, Int32.reduceToInt] at c
  omega
theorem test_lits2 (v : Int32) (i : Nat) (h : i ≤ 40) (hv : v = nI i) (c : v = 46) : False := by
  subst hv
  simp (disch := omega) only [← Int32.toInt_inj, nI_toInt, Int32.reduceToInt] at c
  omega
