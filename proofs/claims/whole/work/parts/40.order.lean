/-! the order of scenes -/
theorem pc_or : ∀ m, m < 256 → ∀ r, r < 8 → (m.testBit r = false → pc (m ||| 2 ^ r) = pc m + 1) ∧ (m.testBit r = true → m ||| 2 ^ r = m) ∧ m ||| 2 ^ r < 256 ∧ ∀ x, x < 8 → (m ||| 2 ^ r).testBit x = (m.testBit x || x == r) := by decide +kernel
theorem pc_small : ∀ S, S < 7 → ∀ m, m < 2 ^ S → pc m ≤ S ∧ (pc m = S → m = 2 ^ S - 1) := by decide +kernel
theorem or_small : ∀ S, S < 7 → ∀ m, m < 2 ^ S → ∀ r, r < S → m ||| 2 ^ r < 2 ^ S := by decide +kernel
theorem full_bit : ∀ S, S < 7 → pc (2 ^ S - 1) = S ∧ ∀ r, r < S → (2 ^ S - 1).testBit r = true := by decide +kernel
theorem pow64 {S : Nat} (h : S < 7) : 2 ^ S ≤ 64 := Nat.le_trans (Nat.pow_le_pow_right (by decide) (show S ≤ 6 by omega)) (by decide)
def mnV (val : Nat → Nat) (p : Nat) : Nat → Nat
  | 0 => 2147483647
  | j + 1 => if p.testBit j = true then mnV val p j else if val j < mnV val p j then val j else mnV val p j
theorem mnV_congr {val val' : Nat → Nat} {p : Nat} : ∀ S, (∀ j, j < S → p.testBit j = false → val j = val' j) → mnV val p S = mnV val' p S := by
  intro S
  induction S with
  | zero => intro _; rfl
  | succ S ih =>
    intro h
    simp only [mnV]
    rw [ih (fun j hj => h j (by omega))]
    cases hb : p.testBit S with
    | true => rfl
    | false => rw [h S (by omega) hb]
theorem mnV_le (val : Nat → Nat) (p : Nat) : ∀ S j, j < S → p.testBit j = false → mnV val p S ≤ val j := by
  intro S
  induction S with
  | zero => intro j hj; exact absurd hj (Nat.not_lt_zero _)
  | succ S ih =>
    intro j hj hb
    simp only [mnV]
    rcases (show j = S ∨ j < S by omega) with rfl | h
    · rw [hb, if_neg (by decide)]
      split <;> omega
    · have := ih j h hb
      split
      · exact this
      · split <;> omega
theorem mnV_at (val : Nat → Nat) (p : Nat) : ∀ S, mnV val p S = 2147483647 ∨ ∃ j, j < S ∧ p.testBit j = false ∧ mnV val p S = val j := by
  intro S
  induction S with
  | zero => exact Or.inl rfl
  | succ S ih =>
    simp only [mnV]
    cases hb : p.testBit S with
    | true =>
      rw [if_pos rfl]
      rcases ih with h | ⟨j, h1, h2, h3⟩
      · exact Or.inl h
      · exact Or.inr ⟨j, by omega, h2, h3⟩
    | false =>
      rw [if_neg (by decide)]
      by_cases q : val S < mnV val p S
      · rw [if_pos q]; exact Or.inr ⟨S, by omega, hb, rfl⟩
      · rw [if_neg q]
        rcases ih with h | ⟨j, h1, h2, h3⟩
        · exact Or.inl h
        · exact Or.inr ⟨j, by omega, h2, h3⟩
def Vf (S : Nat) (c : Nat → Nat) : Nat → Nat → Nat → Nat
  | 0, _, on => pc on
  | f + 1, p, on => if mnV (fun j => pc (on ^^^ c j) + Vf S c f (p ||| 2 ^ j) (c j)) p S = 2147483647 then pc on else mnV (fun j => pc (on ^^^ c j) + Vf S c f (p ||| 2 ^ j) (c j)) p S
def VV (S : Nat) (c : Nat → Nat) (p on : Nat) : Nat := Vf S c (S - pc p) p on
def vl (S : Nat) (c : Nat → Nat) (p on j : Nat) : Nat := pc (on ^^^ c j) + VV S c (p ||| 2 ^ j) (c j)
theorem Vf_le (S : Nat) (c : Nat → Nat) : ∀ f p on, Vf S c f p on ≤ 8 * (f + 1) := by
  intro f
  induction f with
  | zero => intro p on; have := pc_le on; simp only [Vf]; omega
  | succ f ih =>
    intro p on
    simp only [Vf]
    split
    · have := pc_le on; omega
    · rename_i q
      rcases mnV_at (fun j => pc (on ^^^ c j) + Vf S c f (p ||| 2 ^ j) (c j)) p S with h | ⟨j, h1, h2, h3⟩
      · exact absurd h q
      · have h4 := ih (p ||| 2 ^ j) (c j)
        have h5 := pc_le (on ^^^ c j)
        rw [h3]
        show pc (on ^^^ c j) + Vf S c f (p ||| 2 ^ j) (c j) ≤ _
        omega
theorem VV_le (S : Nat) (c : Nat → Nat) (p on : Nat) (hS : S < 7) : VV S c p on ≤ 56 := by
  have := Vf_le S c (S - pc p) p on
  unfold VV
  omega
theorem VV_eq {S : Nat} (hS : S < 7) (c : Nat → Nat) {p : Nat} (hp : p < 2 ^ S) (on : Nat) : VV S c p on = if mnV (vl S c p on) p S = 2147483647 then pc on else mnV (vl S c p on) p S := by
  have h64 := pow64 hS
  obtain ⟨h1, h2⟩ := pc_small S hS p hp
  rcases (show S - pc p = 0 ∨ ∃ f, S - pc p = f + 1 from by rcases Nat.eq_zero_or_pos (S - pc p) with h | h; (· exact Or.inl h); (· exact Or.inr ⟨S - pc p - 1, by omega⟩)) with h | ⟨f, h⟩
  · have hf := h2 (by omega)
    have e : mnV (vl S c p on) p S = 2147483647 := by
      rcases mnV_at (vl S c p on) p S with q | ⟨j, q1, q2, q3⟩
      · exact q
      · rw [hf, (full_bit S hS).2 j q1] at q2
        cases q2
    rw [if_pos e]
    unfold VV
    rw [h]
    simp only [Vf]
  · have e : mnV (vl S c p on) p S = mnV (fun j => pc (on ^^^ c j) + Vf S c f (p ||| 2 ^ j) (c j)) p S := by
      refine mnV_congr S (fun j hj hb => ?_)
      unfold vl VV
      rw [((pc_or p (by omega) j (by omega)).1 hb), show S - (pc p + 1) = f by omega]
    rw [e]
    unfold VV
    rw [h]
    simp only [Vf]
theorem VV_full {S : Nat} (hS : S < 7) (c : Nat → Nat) (on : Nat) : VV S c (2 ^ S - 1) on = pc on := by
  unfold VV
  rw [(full_bit S hS).1, Nat.sub_self]
  simp only [Vf]
theorem VV_min {S : Nat} (hS : S < 7) (c : Nat → Nat) {p j : Nat} (hp : p < 2 ^ S) (on : Nat) (hj : j < S) (hb : p.testBit j = false) : VV S c p on ≤ vl S c p on j := by
  have h1 := mnV_le (vl S c p on) p S j hj hb
  have h2 : vl S c p on j ≤ 64 := by
    have := VV_le S c (p ||| 2 ^ j) (c j) hS
    have := pc_le (on ^^^ c j)
    unfold vl
    omega
  rw [VV_eq hS c hp on, if_neg (by omega)]
  exact h1
theorem VV_ex {S : Nat} (hS : S < 7) (c : Nat → Nat) {p : Nat} (hp : p < 2 ^ S) (on : Nat) (hf : p ≠ 2 ^ S - 1) : ∃ j, j < S ∧ p.testBit j = false ∧ vl S c p on j = VV S c p on := by
  have h64 := pow64 hS
  obtain ⟨h1, h2⟩ := pc_small S hS p hp
  rcases mnV_at (vl S c p on) p S with h | ⟨j, q1, q2, q3⟩
  · exfalso
    have hall : ∀ j, j < S → p.testBit j = true := fun j hj => by
      cases hb : p.testBit j with
      | true => rfl
      | false =>
        have h3 := mnV_le (vl S c p on) p S j hj hb
        have h4 : vl S c p on j ≤ 64 := by
          have := VV_le S c (p ||| 2 ^ j) (c j) hS
          have := pc_le (on ^^^ c j)
          unfold vl
          omega
        omega
    apply hf
    apply Nat.eq_of_testBit_eq
    intro i
    by_cases hi : i < S
    · rw [hall i hi, (full_bit S hS).2 i hi]
    · rw [Nat.testBit_lt_two_pow (Nat.lt_of_lt_of_le hp (Nat.pow_le_pow_right (by decide) (by omega))), Nat.testBit_lt_two_pow]
      have : 0 < 2 ^ S := Nat.two_pow_pos _
      exact Nat.lt_of_lt_of_le (show 2 ^ S - 1 < 2 ^ S by omega) (Nat.pow_le_pow_right (by decide) (by omega))
  · have h4 : vl S c p on j ≤ 64 := by
      have := VV_le S c (p ||| 2 ^ j) (c j) hS
      have := pc_le (on ^^^ c j)
      unfold vl
      omega
    refine ⟨j, q1, q2, ?_⟩
    rw [VV_eq hS c hp on, if_neg (by omega), q3]
/-- the first that is best -/
def isFB (S : Nat) (c : Nat → Nat) (p on r : Nat) : Prop := r < S ∧ p.testBit r = false ∧ vl S c p on r = VV S c p on ∧ ∀ j, j < r → p.testBit j = false → vl S c p on j ≠ VV S c p on
noncomputable def fb (S : Nat) (c : Nat → Nat) (p on : Nat) : Nat := Classical.epsilon (isFB S c p on)
theorem fb_ok {S : Nat} (hS : S < 7) (c : Nat → Nat) {p : Nat} (hp : p < 2 ^ S) (on : Nat) (hf : p ≠ 2 ^ S - 1) : isFB S c p on (fb S c p on) := by
  apply Classical.epsilon_spec
  obtain ⟨j, h1, h2, h3⟩ := VV_ex hS c hp on hf
  rcases first_or (n := S) (fun j => ¬ (p.testBit j = false ∧ vl S c p on j = VV S c p on)) with h | ⟨f, f1, f2, f3⟩
  · exact absurd ⟨h2, h3⟩ (h j h1)
  · have f2 := Classical.not_not.mp f2
    exact ⟨f, f1, f2.1, f2.2, fun i hi hb q => f3 i hi ⟨hb, q⟩⟩
noncomputable def stO (S : Nat) (c : Nat → Nat) : Nat → Nat × Nat
  | 0 => (0, 0)
  | k + 1 => ((stO S c k).1 ||| 2 ^ fb S c (stO S c k).1 (stO S c k).2, c (fb S c (stO S c k).1 (stO S c k).2))
noncomputable def rwO (S : Nat) (c : Nat → Nat) (k : Nat) : Nat := fb S c (stO S c k).1 (stO S c k).2
theorem stO_ok {S : Nat} (hS : S < 7) (c : Nat → Nat) : ∀ k, k ≤ S → (stO S c k).1 < 2 ^ S ∧ pc (stO S c k).1 = k ∧ (k < S → isFB S c (stO S c k).1 (stO S c k).2 (rwO S c k)) := by
  have h64 := pow64 hS
  have step : ∀ k p, k < S → p < 2 ^ S → pc p = k → p ≠ 2 ^ S - 1 := fun k p h1 h2 h3 q => by
    rw [q, (full_bit S hS).1] at h3
    omega
  intro k
  induction k with
  | zero =>
    intro _
    refine ⟨Nat.two_pow_pos _, show pc 0 = 0 from rfl, fun h => ?_⟩
    exact fb_ok hS c (Nat.two_pow_pos _) _ (step 0 0 h (Nat.two_pow_pos _) rfl)
  | succ k ih =>
    intro hk
    obtain ⟨h1, h2, h3⟩ := ih (by omega)
    obtain ⟨f1, f2, f3, f4⟩ := h3 (by omega)
    have e : (stO S c (k + 1)).1 = (stO S c k).1 ||| 2 ^ rwO S c k := rfl
    have g1 : (stO S c (k + 1)).1 < 2 ^ S := by rw [e]; exact or_small S hS _ h1 _ f1
    have g2 : pc (stO S c (k + 1)).1 = k + 1 := by rw [e, (pc_or _ (by omega) _ (by omega)).1 f2, h2]
    exact ⟨g1, g2, fun h => fb_ok hS c g1 _ (step _ _ h g1 g2)⟩
/-! rows -/
def injR (r : Nat → Nat) (S : Nat) : Prop := ∀ i j, i < j → j < S → r i ≠ r j
def nw (c r : Nat → Nat) : Nat → Nat
  | 0 => 0
  | k + 1 => c (r k)
def cs (c r : Nat → Nat) : Nat → Nat
  | 0 => 0
  | k + 1 => cs c r k + pc (nw c r k ^^^ c (r k))
def plS (r : Nat → Nat) : Nat → Nat
  | 0 => 0
  | k + 1 => plS r k ||| 2 ^ r k
def cost (S : Nat) (c r : Nat → Nat) : Nat := cs c r S + pc (nw c r S)
theorem plS_ok {r : Nat → Nat} {S : Nat} (hS : S < 7) (hr : ∀ j, j < S → r j < S) (hi : injR r S) : ∀ k, k ≤ S → plS r k < 2 ^ S ∧ pc (plS r k) = k ∧ ∀ x, x < 8 → ((plS r k).testBit x = true ↔ ∃ j, j < k ∧ r j = x) := by
  have h64 := pow64 hS
  intro k
  induction k with
  | zero => exact fun _ => ⟨Nat.two_pow_pos _, show pc 0 = 0 from rfl, fun x hx => ⟨fun q => (by simp only [plS, Nat.zero_testBit] at q; cases q), fun ⟨j, hj, _⟩ => absurd hj (Nat.not_lt_zero _)⟩⟩
  | succ k ih =>
    intro hk
    obtain ⟨h1, h2, h3⟩ := ih (by omega)
    have hrk := hr k (by omega)
    have hb : (plS r k).testBit (r k) = false := by
      cases q : (plS r k).testBit (r k) with
      | false => rfl
      | true =>
        obtain ⟨j, j1, j2⟩ := (h3 (r k) (by omega)).mp q
        exact absurd j2 (hi j k j1 (by omega))
    obtain ⟨p1, p2, p3, p4⟩ := pc_or (plS r k) (by omega) (r k) (by omega)
    refine ⟨or_small S hS _ h1 _ hrk, by show pc (plS r k ||| 2 ^ r k) = _; rw [p1 hb, h2], fun x hx => ?_⟩
    show (plS r k ||| 2 ^ r k).testBit x = true ↔ _
    rw [p4 x hx, Bool.or_eq_true, h3 x hx, beq_iff_eq]
    refine ⟨fun q => ?_, fun ⟨j, j1, j2⟩ => ?_⟩
    · rcases q with ⟨j, j1, j2⟩ | q
      · exact ⟨j, by omega, j2⟩
      · exact ⟨k, by omega, q.symm⟩
    · rcases (show j = k ∨ j < k by omega) with rfl | z
      · exact Or.inr j2.symm
      · exact Or.inl ⟨j, z, j2⟩
theorem plS_bit {r : Nat → Nat} {S k : Nat} (hS : S < 7) (hr : ∀ j, j < S → r j < S) (hi : injR r S) (hk : k < S) : (plS r k).testBit (r k) = false := by
  obtain ⟨h1, h2, h3⟩ := plS_ok hS hr hi k (by omega)
  have hrk := hr k hk
  cases q : (plS r k).testBit (r k) with
  | false => rfl
  | true =>
    obtain ⟨j, j1, j2⟩ := (h3 (r k) (by omega)).mp q
    exact absurd j2 (hi j k j1 (by omega))
/-- what is left, from a place on, costs no less than the best -/
theorem tail_le {r : Nat → Nat} {S : Nat} (hS : S < 7) (c : Nat → Nat) (hr : ∀ j, j < S → r j < S) (hi : injR r S) : ∀ d k, k + d = S → cs c r k + VV S c (plS r k) (nw c r k) ≤ cost S c r := by
  have h64 := pow64 hS
  intro d
  induction d with
  | zero =>
    intro k hk
    have e : k = S := by omega
    subst e
    obtain ⟨h1, h2, h3⟩ := plS_ok hS hr hi k (Nat.le_refl _)
    have hf := (pc_small k hS _ h1).2 h2
    rw [hf, VV_full hS]
    exact Nat.le_refl _
  | succ d ih =>
    intro k hk
    obtain ⟨h1, h2, h3⟩ := plS_ok hS hr hi k (by omega)
    have h4 := ih (k + 1) (by omega)
    have h5 := VV_min hS c h1 (nw c r k) (hr k (by omega)) (plS_bit hS hr hi (by omega))
    have h6 : vl S c (plS r k) (nw c r k) (r k) = pc (nw c r k ^^^ c (r k)) + VV S c (plS r (k + 1)) (nw c r (k + 1)) := rfl
    have h7 : cs c r (k + 1) = cs c r k + pc (nw c r k ^^^ c (r k)) := rfl
    omega
/-- as long as the row is the greedy one, nothing is lost -/
theorem same_pre {r : Nat → Nat} {S : Nat} (hS : S < 7) (c : Nat → Nat) : ∀ k, k ≤ S → (∀ j, j < k → r j = rwO S c j) → plS r k = (stO S c k).1 ∧ nw c r k = (stO S c k).2 ∧ cs c r k + VV S c (plS r k) (nw c r k) = VV S c 0 0 := by
  intro k
  induction k with
  | zero => intro _ _; exact ⟨rfl, rfl, Nat.zero_add _⟩
  | succ k ih =>
    intro hk h
    obtain ⟨h1, h2, h3⟩ := ih (by omega) (fun j hj => h j (by omega))
    have hrk := h k (by omega)
    obtain ⟨g1, g2, g3⟩ := stO_ok hS c k (by omega)
    obtain ⟨f1, f2, f3, f4⟩ := g3 (by omega)
    have e1 : plS r (k + 1) = (stO S c (k + 1)).1 := by
      show plS r k ||| 2 ^ r k = (stO S c k).1 ||| 2 ^ rwO S c k
      rw [h1, hrk]
    have e2 : nw c r (k + 1) = (stO S c (k + 1)).2 := by
      show c (r k) = c (rwO S c k)
      rw [hrk]
    refine ⟨e1, e2, ?_⟩
    have e3 : cs c r (k + 1) = cs c r k + pc (nw c r k ^^^ c (r k)) := rfl
    have e4 : vl S c (stO S c k).1 (stO S c k).2 (rwO S c k) = pc (nw c r k ^^^ c (r k)) + VV S c (plS r (k + 1)) (nw c r (k + 1)) := by
      rw [h2, hrk, e1, e2]
      rfl
    rw [h1, h2] at h3
    omega
theorem rwO_lt {S : Nat} (hS : S < 7) (c : Nat → Nat) : ∀ k, k < S → rwO S c k < S := fun k hk => ((stO_ok hS c k (by omega)).2.2 hk).1
theorem rwO_inj {S : Nat} (hS : S < 7) (c : Nat → Nat) : injR (rwO S c) S := by
  have h64 := pow64 hS
  have key : ∀ j, j ≤ S → ∀ i, i < j → (stO S c j).1.testBit (rwO S c i) = true := by
    intro j
    induction j with
    | zero => intro _ i hi; exact absurd hi (Nat.not_lt_zero _)
    | succ j ih =>
      intro hj i hi
      obtain ⟨g1, g2, g3⟩ := stO_ok hS c j (by omega)
      have hrj := rwO_lt hS c j (by omega)
      have hri := rwO_lt hS c i (by omega)
      show ((stO S c j).1 ||| 2 ^ rwO S c j).testBit (rwO S c i) = true
      rw [(pc_or _ (by omega) _ (by omega)).2.2.2 _ (by omega), Bool.or_eq_true]
      rcases (show i = j ∨ i < j by omega) with rfl | h
      · exact Or.inr (beq_self_eq_true _)
      · exact Or.inl (ih (by omega) i h)
  intro i j hij hj q
  have h1 := key j (by omega) i hij
  have h2 := ((stO_ok hS c j (by omega)).2.2 hj).2.1
  rw [q, h2] at h1
  cases h1
theorem rwO_cost {S : Nat} (hS : S < 7) (c : Nat → Nat) {r : Nat → Nat} (h : ∀ j, j < S → r j = rwO S c j) : cost S c r = VV S c 0 0 := by
  obtain ⟨h1, h2, h3⟩ := same_pre (r := r) hS c S (Nat.le_refl _) h
  obtain ⟨g1, g2, -⟩ := stO_ok hS c S (Nat.le_refl _)
  have hf := (pc_small S hS _ g1).2 g2
  rw [h1, hf, VV_full hS] at h3
  exact h3
theorem cost_ge {S : Nat} (hS : S < 7) (c : Nat → Nat) {r : Nat → Nat} (hr : ∀ j, j < S → r j < S) (hi : injR r S) : VV S c 0 0 ≤ cost S c r := by
  have := tail_le hS c hr hi S 0 (by omega)
  simp only [cs, plS, nw] at this
  omega
theorem cost_gt {S : Nat} (hS : S < 7) (c : Nat → Nat) {r : Nat → Nat} (hr : ∀ j, j < S → r j < S) (hi : injR r S) {k : Nat} (hk : k < S) (hpre : ∀ j, j < k → r j = rwO S c j) (hlt : r k < rwO S c k) : VV S c 0 0 < cost S c r := by
  obtain ⟨h1, h2, h3⟩ := same_pre hS c k (by omega) hpre
  obtain ⟨g1, g2, g3⟩ := stO_ok hS c k (by omega)
  obtain ⟨f1, f2, f3, f4⟩ := g3 hk
  have hb := plS_bit hS hr hi hk
  have hn := f4 (r k) hlt (by rw [← h1]; exact hb)
  rw [← h1, ← h2] at hn
  obtain ⟨p1, p2, p3⟩ := plS_ok hS hr hi k (by omega)
  have hm := VV_min hS c p1 (nw c r k) (hr k hk) hb
  have ht := tail_le hS c hr hi (S - (k + 1)) (k + 1) (by omega)
  have h6 : vl S c (plS r k) (nw c r k) (r k) = pc (nw c r k ^^^ c (r k)) + VV S c (plS r (k + 1)) (nw c r (k + 1)) := rfl
  have h7 : cs c r (k + 1) = cs c r k + pc (nw c r k ^^^ c (r k)) := rfl
  omega
/-! rows as numbers -/
def rowN (S t k : Nat) : Nat := t / S ^ (S - 1 - k) % S
noncomputable def numO (S : Nat) (c : Nat → Nat) : Nat → Nat
  | 0 => 0
  | k + 1 => S * numO S c k + rwO S c k
theorem numO_lt {S : Nat} (hS : S < 7) (c : Nat → Nat) : ∀ k, k ≤ S → numO S c k < S ^ k := by
  intro k
  induction k with
  | zero => intro _; exact Nat.one_pos
  | succ k ih =>
    intro hk
    have h1 := ih (by omega)
    have h2 := rwO_lt hS c k (by omega)
    show S * numO S c k + rwO S c k < S ^ (k + 1)
    have h3 : S * (numO S c k + 1) ≤ S * S ^ k := Nat.mul_le_mul_left _ h1
    rw [Nat.mul_add, Nat.mul_one] at h3
    rw [Nat.pow_succ, Nat.mul_comm (S ^ k)]
    omega
theorem numO_div {S : Nat} (hS : S < 7) (c : Nat → Nat) (k : Nat) : ∀ d, k + d ≤ S → numO S c (k + d) / S ^ d = numO S c k := by
  intro d
  induction d with
  | zero => intro _; rw [Nat.pow_zero, Nat.div_one, Nat.add_zero]
  | succ d ih =>
    intro hk
    have h2 := rwO_lt hS c (k + d) (by omega)
    rw [Nat.pow_succ, Nat.mul_comm, ← Nat.div_div_eq_div_mul]
    have e : numO S c (k + (d + 1)) / S = numO S c (k + d) := by
      show (S * numO S c (k + d) + rwO S c (k + d)) / S = _
      rw [Nat.mul_add_div (by omega), Nat.div_eq_of_lt h2, Nat.add_zero]
    rw [e]
    exact ih (by omega)
theorem rowN_lt {S t k : Nat} (h : 0 < S) : rowN S t k < S := Nat.mod_lt _ h
theorem rowN_star {S : Nat} (hS : S < 7) (c : Nat → Nat) {k : Nat} (hk : k < S) : rowN S (numO S c S) k = rwO S c k := by
  unfold rowN
  have h := numO_div hS c (k + 1) (S - 1 - k) (by omega)
  rw [show k + 1 + (S - 1 - k) = S by omega] at h
  rw [h]
  show (S * numO S c k + rwO S c k) % S = _
  rw [Nat.mul_add_mod, Nat.mod_eq_of_lt (rwO_lt hS c k hk)]
theorem pre_step {S t k : Nat} (hk : k < S) : t / S ^ (S - (k + 1)) = S * (t / S ^ (S - k)) + rowN S t k := by
  unfold rowN
  rw [show S - 1 - k = S - (k + 1) by omega, show S - k = S - (k + 1) + 1 by omega, Nat.pow_succ, ← Nat.div_div_eq_div_mul]
  exact (Nat.div_add_mod _ _).symm
theorem less_row {S : Nat} (hS : S < 7) (c : Nat → Nat) {t : Nat} (ht : t < numO S c S) : ∃ k, k < S ∧ (∀ j, j < k → rowN S t j = rwO S c j) ∧ rowN S t k < rwO S c k := by
  have hlt := numO_lt hS c S (Nat.le_refl _)
  rcases first_or (n := S + 1) (fun j => t / S ^ (S - j) = numO S c S / S ^ (S - j)) with h | ⟨f, f1, f2, f3⟩
  · have := h S (by omega)
    rw [Nat.sub_self, Nat.pow_zero, Nat.div_one, Nat.div_one] at this
    omega
  · cases f with
    | zero =>
      exfalso
      apply f2
      rw [Nat.sub_zero, Nat.div_eq_of_lt (show t < S ^ S by omega), Nat.div_eq_of_lt hlt]
    | succ k =>
      have hk : k < S := by omega
      have h1 := f3 k (by omega)
      have h2 := pre_step (t := t) hk
      have h3 := pre_step (t := numO S c S) hk
      have h4 : t / S ^ (S - (k + 1)) ≤ numO S c S / S ^ (S - (k + 1)) := Nat.div_le_div_right (by omega)
      rw [rowN_star hS c hk, ← h1] at h3
      refine ⟨k, hk, fun j hj => ?_, ?_⟩
      · have a1 := f3 j (by omega)
        have a2 := f3 (j + 1) (by omega)
        have a3 := pre_step (t := t) (show j < S by omega)
        have a4 := pre_step (t := numO S c S) (show j < S by omega)
        rw [rowN_star hS c (by omega)] at a4
        rw [← a1, ← a2] at a4
        omega
      · omega
/-! whether a number is a row: each scene once -/
def hb (S t : Nat) : Nat → Nat
  | 0 => 0
  | d + 1 => hb S t d ||| 2 ^ rowN S t (S - 1 - d)
theorem hb_ok {S : Nat} (hS : S < 7) (t : Nat) : ∀ d, d ≤ S → hb S t d < 2 ^ S ∧ pc (hb S t d) ≤ d ∧ (∀ x, x < 8 → ((hb S t d).testBit x = true ↔ ∃ j, j < d ∧ rowN S t (S - 1 - j) = x)) := by
  have h64 := pow64 hS
  intro d
  induction d with
  | zero => exact fun _ => ⟨Nat.two_pow_pos _, show pc 0 ≤ 0 from Nat.le_refl _, fun x hx => ⟨fun q => (by simp only [hb, Nat.zero_testBit] at q; cases q), fun ⟨j, hj, _⟩ => absurd hj (Nat.not_lt_zero _)⟩⟩
  | succ d ih =>
    intro hd
    obtain ⟨h1, h2, h3⟩ := ih (by omega)
    have hr : rowN S t (S - 1 - d) < S := rowN_lt (by omega)
    obtain ⟨p1, p2, p3, p4⟩ := pc_or (hb S t d) (by omega) (rowN S t (S - 1 - d)) (by omega)
    refine ⟨or_small S hS _ h1 _ hr, ?_, fun x hx => ?_⟩
    · show pc (hb S t d ||| 2 ^ rowN S t (S - 1 - d)) ≤ _
      cases q : (hb S t d).testBit (rowN S t (S - 1 - d)) with
      | true => rw [p2 q]; omega
      | false => rw [p1 q]; omega
    · show (hb S t d ||| 2 ^ rowN S t (S - 1 - d)).testBit x = true ↔ _
      rw [p4 x hx, Bool.or_eq_true, h3 x hx, beq_iff_eq]
      refine ⟨fun q => ?_, fun ⟨j, j1, j2⟩ => ?_⟩
      · rcases q with ⟨j, j1, j2⟩ | q
        · exact ⟨j, by omega, j2⟩
        · exact ⟨d, by omega, q.symm⟩
      · rcases (show j = d ∨ j < d by omega) with rfl | z
        · exact Or.inr j2.symm
        · exact Or.inl ⟨j, z, j2⟩
theorem hb_inj {S : Nat} (hS : S < 7) (t : Nat) : hb S t S = 2 ^ S - 1 ↔ injR (rowN S t) S := by
  have h64 := pow64 hS
  constructor
  · intro h i j hij hj q
    have hi' : S - 1 - (S - 1 - i) = i := by omega
    have key : ∀ e, S - 1 - i + 1 + e ≤ S → pc (hb S t (S - 1 - i + 1 + e)) ≤ S - 1 - i + e := by
      intro e
      induction e with
      | zero =>
        intro _
        obtain ⟨h1, h2, h3⟩ := hb_ok hS t (S - 1 - i) (by omega)
        have hr : rowN S t i < S := rowN_lt (by omega)
        obtain ⟨p1, p2, p3, p4⟩ := pc_or (hb S t (S - 1 - i)) (by omega) (rowN S t i) (by omega)
        show pc (hb S t (S - 1 - i) ||| 2 ^ rowN S t (S - 1 - (S - 1 - i))) ≤ _
        rw [hi', p2 ((h3 _ (by omega)).mpr ⟨S - 1 - j, by omega, by rw [show S - 1 - (S - 1 - j) = j by omega]; exact q.symm⟩)]
        exact h2
      | succ e ih =>
        intro he
        have h0 := ih (by omega)
        obtain ⟨h1, h2, h3⟩ := hb_ok hS t (S - 1 - i + 1 + e) (by omega)
        have hr : rowN S t (S - 1 - (S - 1 - i + 1 + e)) < S := rowN_lt (by omega)
        obtain ⟨p1, p2, p3, p4⟩ := pc_or (hb S t (S - 1 - i + 1 + e)) (by omega) _ (show rowN S t (S - 1 - (S - 1 - i + 1 + e)) < 8 by omega)
        show pc (hb S t (S - 1 - i + 1 + e) ||| 2 ^ rowN S t (S - 1 - (S - 1 - i + 1 + e))) ≤ _
        cases z : (hb S t (S - 1 - i + 1 + e)).testBit (rowN S t (S - 1 - (S - 1 - i + 1 + e))) with
        | true => rw [p2 z]; omega
        | false => rw [p1 z]; omega
    have := key i (by omega)
    rw [show S - 1 - i + 1 + i = S by omega, h, (full_bit S hS).1] at this
    omega
  · intro h
    have key : ∀ d, d ≤ S → pc (hb S t d) = d := by
      intro d
      induction d with
      | zero => intro _; exact (show pc 0 = 0 from rfl)
      | succ d ih =>
        intro hd
        obtain ⟨h1, h2, h3⟩ := hb_ok hS t d (by omega)
        have hr : rowN S t (S - 1 - d) < S := rowN_lt (by omega)
        obtain ⟨p1, p2, p3, p4⟩ := pc_or (hb S t d) (by omega) (rowN S t (S - 1 - d)) (by omega)
        show pc (hb S t d ||| 2 ^ rowN S t (S - 1 - d)) = _
        rw [p1, ih (by omega)]
        cases q : (hb S t d).testBit (rowN S t (S - 1 - d)) with
        | false => rfl
        | true =>
          obtain ⟨j, j1, j2⟩ := (h3 _ (by omega)).mp q
          exact absurd j2.symm (h (S - 1 - d) (S - 1 - j) (by omega) (by omega))
    exact (pc_small S hS _ (hb_ok hS t S (Nat.le_refl _)).1).2 (key S (Nat.le_refl _))
