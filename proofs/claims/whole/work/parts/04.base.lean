/-! the world: int fields by number, arrays by number; the cells that hold it -/
abbrev Wd : Type := (Nat → Int32) × (Nat → Nat → Int32) × (Nat → Nat → Int64)
abbrev ET : Type := va_G × (Nat → Nat) × (Nat → ClassId)
def wI (w : Wd) (k : Nat) (v : Int32) : Wd := (upd w.1 k v, w.2.1, w.2.2)
def wR (w : Wd) (k : Nat) (f : Nat → Int32) : Wd := (w.1, va_up w.2.1 k f, w.2.2)
def wA (w : Wd) (k : Nat) (i v : Int32) : Wd := wR w k (upd (w.2.1 k) i.toNatClampNeg v)
def wL (w : Wd) (k : Nat) (i : Int32) (v : Int64) : Wd := (w.1, w.2.1, va_up w.2.2 k (vp_updL (w.2.2 k) i.toNatClampNeg v))
def imgs (E : ET) : Nat → Option Nat := va_up (va_up (fun _ => none) 0 (some (E.2.1 14))) 1 (some (E.2.1 20))
def cellsOf (E : ET) (w : Wd) : va_W := [(E.2.1 0, .inr (5, [.ref (E.2.1 8), .ref (E.2.1 1), .ref (E.2.1 2), .ref (E.2.1 4), .ref (E.2.1 26), .ref (E.2.1 30), .ref (E.2.1 34), .ref (E.2.1 3)])),
  (E.2.1 1, .inl (E.2.2 3, 2, .inr (.inr (.inr (.inr (imgs E)))))),
  (E.2.1 2, .inl (E.2.2 2, 2, .inl (w.2.1 2))),
  (E.2.1 3, .inl (E.2.2 0, 9, .inl (w.2.1 3))),
  (E.2.1 4, .inr (2, [.ref (E.2.1 5), .int (w.1 0), .int (w.1 1), .int (w.1 2), .int (w.1 3), .int (w.1 4), .ref (E.2.1 6), .int (w.1 5), .int (w.1 6), .int (w.1 7), .ref (E.2.1 7)])),
  (E.2.1 5, .inl (E.2.2 0, 40, .inl (w.2.1 5))),
  (E.2.1 6, .inl (E.2.2 0, 40, .inl (w.2.1 6))),
  (E.2.1 7, .inl (E.2.2 0, 40, .inl (w.2.1 7))),
  (E.2.1 8, .inr (3, [.int (w.1 8), .int (w.1 9), .int (w.1 10), .int (w.1 11), .int (w.1 12), .ref (E.2.1 9), .ref (E.2.1 10), .ref (E.2.1 11), .ref (E.2.1 12), .ref (E.2.1 13)])),
  (E.2.1 9, .inl (E.2.2 0, 8, .inl (w.2.1 9))),
  (E.2.1 10, .inl (E.2.2 0, 8, .inl (w.2.1 10))),
  (E.2.1 11, .inl (E.2.2 0, 6, .inl (w.2.1 11))),
  (E.2.1 12, .inl (E.2.2 0, 6, .inl (w.2.1 12))),
  (E.2.1 13, .inl (E.2.2 0, 6, .inl (w.2.1 13))),
  (E.2.1 14, .inr (3, [.int (w.1 13), .int (w.1 14), .int (w.1 15), .int (w.1 16), .int (w.1 17), .ref (E.2.1 15), .ref (E.2.1 16), .ref (E.2.1 17), .ref (E.2.1 18), .ref (E.2.1 19)])),
  (E.2.1 15, .inl (E.2.2 0, 8, .inl (w.2.1 15))),
  (E.2.1 16, .inl (E.2.2 0, 8, .inl (w.2.1 16))),
  (E.2.1 17, .inl (E.2.2 0, 6, .inl (w.2.1 17))),
  (E.2.1 18, .inl (E.2.2 0, 6, .inl (w.2.1 18))),
  (E.2.1 19, .inl (E.2.2 0, 6, .inl (w.2.1 19))),
  (E.2.1 20, .inr (3, [.int (w.1 18), .int (w.1 19), .int (w.1 20), .int (w.1 21), .int (w.1 22), .ref (E.2.1 21), .ref (E.2.1 22), .ref (E.2.1 23), .ref (E.2.1 24), .ref (E.2.1 25)])),
  (E.2.1 21, .inl (E.2.2 0, 8, .inl (w.2.1 21))),
  (E.2.1 22, .inl (E.2.2 0, 8, .inl (w.2.1 22))),
  (E.2.1 23, .inl (E.2.2 0, 6, .inl (w.2.1 23))),
  (E.2.1 24, .inl (E.2.2 0, 6, .inl (w.2.1 24))),
  (E.2.1 25, .inl (E.2.2 0, 6, .inl (w.2.1 25))),
  (E.2.1 26, .inr (0, [.int (w.1 23), .ref (E.2.1 27), .int (w.1 24), .ref (E.2.1 28), .ref (E.2.1 29)])),
  (E.2.1 27, .inl (E.2.2 0, 8, .inl (w.2.1 27))),
  (E.2.1 28, .inl (E.2.2 1, 8, .inr (.inl (w.2.2 28)))),
  (E.2.1 29, .inl (E.2.2 0, 8, .inl (w.2.1 29))),
  (E.2.1 30, .inr (4, [.int (w.1 25), .ref (E.2.1 31), .int (w.1 26), .ref (E.2.1 32), .ref (E.2.1 33)])),
  (E.2.1 31, .inl (E.2.2 0, 6, .inl (w.2.1 31))),
  (E.2.1 32, .inl (E.2.2 0, 6, .inl (w.2.1 32))),
  (E.2.1 33, .inl (E.2.2 0, 384, .inl (w.2.1 33))),
  (E.2.1 34, .inr (1, [.int (w.1 27), .int (w.1 28), .ref (E.2.1 35)])),
  (E.2.1 35, .inl (E.2.2 0, 3, .inl (w.2.1 35))),
  (E.2.1 36, .inr (6, [.int (w.1 29), .int (w.1 30), .int (w.1 31), .ref (E.2.1 37), .ref (E.2.1 38), .int (w.1 32), .ref (E.2.1 39), .ref (E.2.1 40), .int (w.1 33), .ref (E.2.1 41), .int (w.1 34), .ref (E.2.1 42), .ref (E.2.1 43), .int (w.1 35), .int (w.1 36), .int (w.1 37), .int (w.1 38), .ref (E.2.1 44), .ref (E.2.1 45), .ref (E.2.1 46), .ref (E.2.1 47), .ref (E.2.1 48), .ref (E.2.1 49), .ref (E.2.1 50), .ref (E.2.1 51), .int (w.1 39), .int (w.1 40)])),
  (E.2.1 37, .inl (E.2.2 0, 64, .inl (w.2.1 37))),
  (E.2.1 38, .inl (E.2.2 0, 6, .inl (w.2.1 38))),
  (E.2.1 39, .inl (E.2.2 0, 6, .inl (w.2.1 39))),
  (E.2.1 40, .inl (E.2.2 0, 6, .inl (w.2.1 40))),
  (E.2.1 41, .inl (E.2.2 0, 40, .inl (w.2.1 41))),
  (E.2.1 42, .inl (E.2.2 0, 40, .inl (w.2.1 42))),
  (E.2.1 43, .inl (E.2.2 0, 40, .inl (w.2.1 43))),
  (E.2.1 44, .inl (E.2.2 0, 40, .inl (w.2.1 44))),
  (E.2.1 45, .inl (E.2.2 0, 8, .inl (w.2.1 45))),
  (E.2.1 46, .inl (E.2.2 0, 8, .inl (w.2.1 46))),
  (E.2.1 47, .inl (E.2.2 0, 6, .inl (w.2.1 47))),
  (E.2.1 48, .inl (E.2.2 0, 6, .inl (w.2.1 48))),
  (E.2.1 49, .inl (E.2.2 0, 3, .inl (w.2.1 49))),
  (E.2.1 50, .inl (E.2.2 0, 200, .inl (w.2.1 50))),
  (E.2.1 51, .inl (E.2.2 2, 2, .inl (w.2.1 51)))]
def tysOf (E : ET) : List (ClassId × FieldType) := [(E.2.2 0, .int), (E.2.2 1, .long), (E.2.2 2, .boolean), (E.2.2 3, .object RX3)]
theorem cells_dom (E : ET) (w : Wd) : (cellsOf E w).map Prod.fst = (List.range 52).map E.2.1 := rfl
theorem cells_at {E : ET} {w : Wd} {k : Nat} {q : Nat × va_E} (h : (cellsOf E w)[k]? = some q) : k < 52 ∧ q.1 = E.2.1 k := by
  have h1 : ((cellsOf E w).map Prod.fst)[k]? = some q.1 := by rw [List.getElem?_map, h]; rfl
  rw [cells_dom, List.getElem?_map] at h1
  obtain ⟨a, h2, h3⟩ := Option.map_eq_some_iff.mp h1
  obtain ⟨h4, h5⟩ := List.getElem?_eq_some_iff.mp h2
  rw [List.length_range] at h4
  rw [List.getElem_range] at h5
  exact ⟨h4, by rw [← h3, h5]⟩
theorem cells_ex (E : ET) (w : Wd) {k : Nat} (h : k < 52) : ∃ e, (cellsOf E w)[k]? = some (E.2.1 k, e) := by
  have hl : (cellsOf E w).length = 52 := rfl
  have h2 : k < (cellsOf E w).length := by omega
  refine ⟨((cellsOf E w)[k]).2, ?_⟩
  rw [List.getElem?_eq_getElem h2]
  have h3 := cells_at (List.getElem?_eq_getElem h2)
  rw [← h3.2]
theorem dom_any {A : Nat → Prop} {E : ET} {w : Wd} (w2 : Wd) (h : va_D A (cellsOf E w)) : va_D A (cellsOf E w2) := by
  refine ⟨fun i j p q hi hj hpq => ?_, fun k q hk => ?_⟩
  · obtain ⟨h1, h2⟩ := cells_at hi
    obtain ⟨h3, h4⟩ := cells_at hj
    obtain ⟨e, he⟩ := cells_ex E w h1
    obtain ⟨f, hf⟩ := cells_ex E w h3
    exact h.1 i j _ _ he hf (by show E.2.1 i = E.2.1 j; rw [← h2, ← h4, hpq])
  · obtain ⟨h1, h2⟩ := cells_at hk
    obtain ⟨e, he⟩ := cells_ex E w h1
    rw [h2]
    exact h.2 k _ he
def AA (E : ET) (sz : Nat) : Nat → Prop := fun q => (∃ k, k < 52 ∧ q = E.2.1 k) ∨ sz ≤ q
theorem AA_in {A : Nat → Prop} {E : ET} {w : Wd} (h : va_D A (cellsOf E w)) {n sz : Nat} (hn : n ≤ sz) (hA : ∀ q, n ≤ q → A q) : ∀ q, AA E sz q → A q := by
  intro q hq
  rcases hq with ⟨k, h1, h2⟩ | h1
  · obtain ⟨e, he⟩ := cells_ex E w h1
    rw [h2]
    exact h.2 k _ he
  · exact hA q (Nat.le_trans hn h1)
theorem dom_AA {A : Nat → Prop} {E : ET} {w : Wd} (sz : Nat) (h : va_D A (cellsOf E w)) : va_D (AA E sz) (cellsOf E w) := by
  refine ⟨h.1, fun k q hk => ?_⟩
  obtain ⟨h1, h2⟩ := cells_at hk
  exact Or.inl ⟨k, h1, h2⟩
abbrev Fx : Type := ET × Program × Launch × Env × Room × State × MethodId × Array Value × List Frame × Method × Code × (Nat → Prop) × (State → Prop) × Nat × Nat × Nat
abbrev Ad (X : Fx) (k : Nat) : Nat := X.1.2.1 k
def Wa (X : Fx) (w : Wd) (pc : Nat) (lv : List (Nat × Value)) (st : List Value) : Prop :=
  match X with
  | (E, p, l, e, R, s, m, args, below, meth, c, A, Q, nL, ck, sk) => ∀ (H : Heap) (locs : List Loc) (ls : Array Slot), va_P E.1 vwCl (cellsOf E w) H → va_S A s.heap H locs → lv_has ls nL lv → W p l e R s m args below meth c H locs ck sk Q (F0 m pc ls st)
def Cx (X : Fx) (cc : ByteArray) (own : String) (nl fr lo : Nat) : Prop :=
  match X with
  | (E, p, _, _, R, s, m, args, _, meth, c, A, _, nL, ck, sk) => p.tables.exec = Jvm.exec ∧ c.code = cc ∧ c.maxLocals = nL ∧ nL = nl ∧ s.vm.findClass own = some m.cls ∧ (∀ w ∈ gT, w.before args s = true) ∧ va_K E.1 vwCl (tysOf E) s ∧ meth.locks = false ∧ (∀ q, s.heap.size ≤ q → A q) ∧ (∀ w, va_D A (cellsOf E w)) ∧ fr ≤ R.frames ∧ lo ≤ R.locals ∧ ck ≤ R.cells ∧ sk ≤ R.slots ∧ ∀ v ∈ gN, va_Nw v s
theorem gT_good : ∀ w ∈ gT, goodWord w = true := fun w h => (List.mem_filter.mp h).2
theorem gd_code {w : Cond} (h : w ∈ gT) : GoodIn gT (w :: gT) := fun v hv => by
  rcases List.mem_cons.mp hv with rfl | h2
  · exact ⟨h, good_of_word (gT_good _ h)⟩
  · exact ⟨h2, good_of_word (gT_good _ h2)⟩
theorem gN_warm {s U : State} (hW : s.WarmedH U.vm) (h : ∀ w ∈ gN, va_Nw w s) : ∀ w ∈ gN, va_Nw w U := by
  intro w hw
  have h1 := (List.mem_filter.mp hw).2
  cases w <;> first | (cases h1; done) | exact va_Nw.warmF hW (h _ hw)
theorem gN_same {u U : State} (hv : u.vm = U.vm) (h : ∀ w ∈ gN, va_Nw w u) : ∀ w ∈ gN, va_Nw w U := by
  intro w hw
  have h1 := (List.mem_filter.mp hw).2
  cases w <;> first | (cases h1; done) | exact va_Nw.same rfl hv (h _ hw)
def gd (i : Int32) (n : Nat) : Bool := decide (0 ≤ i.toInt) && decide (i.toInt < n)
theorem gd_iff {i : Int32} {n : Nat} : gd i n = true ↔ 0 ≤ i.toInt ∧ i.toInt < n := by
  simp only [gd, Bool.and_eq_true, decide_eq_true_eq]
theorem gd_in {i : Int32} {n : Nat} (h : gd i n = true) : vp_in i n := vp_in_iff.mpr (gd_iff.mp h)
/-- goes on where a test holds -/
def gu {β : Type} (b : Bool) (a : Option β) : Option β := match b with
  | true => a
  | false => none
theorem gu_some {β : Type} {b : Bool} {a : Option β} {r : β} (h : gu b a = some r) : b = true ∧ a = some r := by
  cases b with
  | true => exact ⟨rfl, h⟩
  | false => cases h
def it {α β : Type} (body : (α → Option β) → α → Option β) : Nat → α → Option β
  | 0, _ => none
  | n + 1, a => body (it body n) a
theorem it_mach {α β : Type} {body : (α → Option β) → α → Option β} {b : β} {P : α → Prop} (h : ∀ k, (∀ a, k a = some b → P a) → ∀ a, body k a = some b → P a) : ∀ n a, it body n a = some b → P a := by
  intro n
  induction n with
  | zero => intro a h2; cases h2
  | succ n ih => intro a h2; exact h (it body n) ih a h2
def fu : Nat := 1000000
def Let {α β : Type} (a : α) (f : α → β) : β := f a
theorem obind {α β : Type} {o : Option α} {f : α → Option β} {b : β} (h : o.bind f = some b) : ∃ a, o = some a ∧ f a = some b := by
  cases o with
  | none => cases h
  | some a => exact ⟨a, rfl, h⟩
def ushr (x y : Int32) : Int32 := (x.toUInt32 >>> (y.toUInt32 &&& Int32.toUInt32 31)).toInt32
def lushr (x : Int64) (y : Int32) : Int64 := (x.toUInt64 >>> (y.toInt64.toUInt64 &&& Int64.toUInt64 63)).toInt64
def lshl (x : Int64) (y : Int32) : Int64 := x <<< (y.toInt64 &&& 63)
section WR
variable {X : Fx} {cc : ByteArray} {own : String} {nl fr lo : Nat} {w : Wd} {pc : Nat} {lv : List (Nat × Value)} {rest : List Value}
theorem wa_iadd (h : Cx X cc own nl fr lo) {x y : Int32} (d : decode cc pc = .ok (.iadd, 1)) (k : Wa X w (pc + 1) lv (.int (x + y) :: rest)) : Wa X w pc lv (.int y :: .int x :: rest) := by
  obtain ⟨E, p, l, e, R, s, m, args, below, meth, c, A, Q, nL, ck, sk⟩ := X
  obtain ⟨hx, hb, hml, hnl, hown, hts, hK, hlk, hA, hD, hfr, hlo, hck, hsk, hnw⟩ := h
  exact fun H locs ls hP hS hl => lv_iadd hx hb d (k H locs ls hP hS hl)
theorem wa_isub (h : Cx X cc own nl fr lo) {x y : Int32} (d : decode cc pc = .ok (.isub, 1)) (k : Wa X w (pc + 1) lv (.int (x - y) :: rest)) : Wa X w pc lv (.int y :: .int x :: rest) := by
  obtain ⟨E, p, l, e, R, s, m, args, below, meth, c, A, Q, nL, ck, sk⟩ := X
  obtain ⟨hx, hb, hml, hnl, hown, hts, hK, hlk, hA, hD, hfr, hlo, hck, hsk, hnw⟩ := h
  exact fun H locs ls hP hS hl => lv_isub hx hb d (k H locs ls hP hS hl)
theorem wa_imul (h : Cx X cc own nl fr lo) {x y : Int32} (d : decode cc pc = .ok (.imul, 1)) (k : Wa X w (pc + 1) lv (.int (x * y) :: rest)) : Wa X w pc lv (.int y :: .int x :: rest) := by
  obtain ⟨E, p, l, e, R, s, m, args, below, meth, c, A, Q, nL, ck, sk⟩ := X
  obtain ⟨hx, hb, hml, hnl, hown, hts, hK, hlk, hA, hD, hfr, hlo, hck, hsk, hnw⟩ := h
  exact fun H locs ls hP hS hl => lv_imul hx hb d (k H locs ls hP hS hl)
theorem wa_iand (h : Cx X cc own nl fr lo) {x y : Int32} (d : decode cc pc = .ok (.iand, 1)) (k : Wa X w (pc + 1) lv (.int (x &&& y) :: rest)) : Wa X w pc lv (.int y :: .int x :: rest) := by
  obtain ⟨E, p, l, e, R, s, m, args, below, meth, c, A, Q, nL, ck, sk⟩ := X
  obtain ⟨hx, hb, hml, hnl, hown, hts, hK, hlk, hA, hD, hfr, hlo, hck, hsk, hnw⟩ := h
  exact fun H locs ls hP hS hl => lv_iand hx hb d (k H locs ls hP hS hl)
theorem wa_ior (h : Cx X cc own nl fr lo) {x y : Int32} (d : decode cc pc = .ok (.ior, 1)) (k : Wa X w (pc + 1) lv (.int (x ||| y) :: rest)) : Wa X w pc lv (.int y :: .int x :: rest) := by
  obtain ⟨E, p, l, e, R, s, m, args, below, meth, c, A, Q, nL, ck, sk⟩ := X
  obtain ⟨hx, hb, hml, hnl, hown, hts, hK, hlk, hA, hD, hfr, hlo, hck, hsk, hnw⟩ := h
  exact fun H locs ls hP hS hl => lv_ior hx hb d (k H locs ls hP hS hl)
theorem wa_ixor (h : Cx X cc own nl fr lo) {x y : Int32} (d : decode cc pc = .ok (.ixor, 1)) (k : Wa X w (pc + 1) lv (.int (x ^^^ y) :: rest)) : Wa X w pc lv (.int y :: .int x :: rest) := by
  obtain ⟨E, p, l, e, R, s, m, args, below, meth, c, A, Q, nL, ck, sk⟩ := X
  obtain ⟨hx, hb, hml, hnl, hown, hts, hK, hlk, hA, hD, hfr, hlo, hck, hsk, hnw⟩ := h
  exact fun H locs ls hP hS hl => lv_ixor hx hb d (k H locs ls hP hS hl)
theorem wa_ishl (h : Cx X cc own nl fr lo) {x y : Int32} (d : decode cc pc = .ok (.ishl, 1)) (k : Wa X w (pc + 1) lv (.int (x <<< (y &&& 31)) :: rest)) : Wa X w pc lv (.int y :: .int x :: rest) := by
  obtain ⟨E, p, l, e, R, s, m, args, below, meth, c, A, Q, nL, ck, sk⟩ := X
  obtain ⟨hx, hb, hml, hnl, hown, hts, hK, hlk, hA, hD, hfr, hlo, hck, hsk, hnw⟩ := h
  exact fun H locs ls hP hS hl => lv_ishl hx hb d (k H locs ls hP hS hl)
theorem wa_ishr (h : Cx X cc own nl fr lo) {x y : Int32} (d : decode cc pc = .ok (.ishr, 1)) (k : Wa X w (pc + 1) lv (.int (x >>> (y &&& 31)) :: rest)) : Wa X w pc lv (.int y :: .int x :: rest) := by
  obtain ⟨E, p, l, e, R, s, m, args, below, meth, c, A, Q, nL, ck, sk⟩ := X
  obtain ⟨hx, hb, hml, hnl, hown, hts, hK, hlk, hA, hD, hfr, hlo, hck, hsk, hnw⟩ := h
  exact fun H locs ls hP hS hl => lv_ishr hx hb d (k H locs ls hP hS hl)
theorem wa_iushr (h : Cx X cc own nl fr lo) {x y : Int32} (d : decode cc pc = .ok (.iushr, 1)) (k : Wa X w (pc + 1) lv (.int (ushr x y) :: rest)) : Wa X w pc lv (.int y :: .int x :: rest) := by
  obtain ⟨E, p, l, e, R, s, m, args, below, meth, c, A, Q, nL, ck, sk⟩ := X
  obtain ⟨hx, hb, hml, hnl, hown, hts, hK, hlk, hA, hD, hfr, hlo, hck, hsk, hnw⟩ := h
  exact fun H locs ls hP hS hl => lv_iushr hx hb d rfl (k H locs ls hP hS hl)
theorem wa_ladd (h : Cx X cc own nl fr lo) {x y : Int64} (d : decode cc pc = .ok (.ladd, 1)) (k : Wa X w (pc + 1) lv (.long (x + y) :: rest)) : Wa X w pc lv (.long y :: .long x :: rest) := by
  obtain ⟨E, p, l, e, R, s, m, args, below, meth, c, A, Q, nL, ck, sk⟩ := X
  obtain ⟨hx, hb, hml, hnl, hown, hts, hK, hlk, hA, hD, hfr, hlo, hck, hsk, hnw⟩ := h
  exact fun H locs ls hP hS hl => lv_ladd hx hb d (k H locs ls hP hS hl)
theorem wa_lsub (h : Cx X cc own nl fr lo) {x y : Int64} (d : decode cc pc = .ok (.lsub, 1)) (k : Wa X w (pc + 1) lv (.long (x - y) :: rest)) : Wa X w pc lv (.long y :: .long x :: rest) := by
  obtain ⟨E, p, l, e, R, s, m, args, below, meth, c, A, Q, nL, ck, sk⟩ := X
  obtain ⟨hx, hb, hml, hnl, hown, hts, hK, hlk, hA, hD, hfr, hlo, hck, hsk, hnw⟩ := h
  exact fun H locs ls hP hS hl => lv_lsub hx hb d (k H locs ls hP hS hl)
theorem wa_lmul (h : Cx X cc own nl fr lo) {x y : Int64} (d : decode cc pc = .ok (.lmul, 1)) (k : Wa X w (pc + 1) lv (.long (x * y) :: rest)) : Wa X w pc lv (.long y :: .long x :: rest) := by
  obtain ⟨E, p, l, e, R, s, m, args, below, meth, c, A, Q, nL, ck, sk⟩ := X
  obtain ⟨hx, hb, hml, hnl, hown, hts, hK, hlk, hA, hD, hfr, hlo, hck, hsk, hnw⟩ := h
  exact fun H locs ls hP hS hl => lv_lmul hx hb d (k H locs ls hP hS hl)
theorem wa_land (h : Cx X cc own nl fr lo) {x y : Int64} (d : decode cc pc = .ok (.land, 1)) (k : Wa X w (pc + 1) lv (.long (x &&& y) :: rest)) : Wa X w pc lv (.long y :: .long x :: rest) := by
  obtain ⟨E, p, l, e, R, s, m, args, below, meth, c, A, Q, nL, ck, sk⟩ := X
  obtain ⟨hx, hb, hml, hnl, hown, hts, hK, hlk, hA, hD, hfr, hlo, hck, hsk, hnw⟩ := h
  exact fun H locs ls hP hS hl => lv_land hx hb d (k H locs ls hP hS hl)
theorem wa_lor (h : Cx X cc own nl fr lo) {x y : Int64} (d : decode cc pc = .ok (.lor, 1)) (k : Wa X w (pc + 1) lv (.long (x ||| y) :: rest)) : Wa X w pc lv (.long y :: .long x :: rest) := by
  obtain ⟨E, p, l, e, R, s, m, args, below, meth, c, A, Q, nL, ck, sk⟩ := X
  obtain ⟨hx, hb, hml, hnl, hown, hts, hK, hlk, hA, hD, hfr, hlo, hck, hsk, hnw⟩ := h
  exact fun H locs ls hP hS hl => lv_lor hx hb d (k H locs ls hP hS hl)
theorem wa_idiv (h : Cx X cc own nl fr lo) {x y : Int32} (hne : ¬ y = 0) (d : decode cc pc = .ok (.idiv, 1)) (k : Wa X w (pc + 1) lv (.int (x / y) :: rest)) : Wa X w pc lv (.int y :: .int x :: rest) := by
  obtain ⟨E, p, l, e, R, s, m, args, below, meth, c, A, Q, nL, ck, sk⟩ := X
  obtain ⟨hx, hb, hml, hnl, hown, hts, hK, hlk, hA, hD, hfr, hlo, hck, hsk, hnw⟩ := h
  exact fun H locs ls hP hS hl => lv_idiv hx hb d hne (k H locs ls hP hS hl)
theorem wa_irem (h : Cx X cc own nl fr lo) {x y : Int32} (hne : ¬ y = 0) (d : decode cc pc = .ok (.irem, 1)) (k : Wa X w (pc + 1) lv (.int (x - x / y * y) :: rest)) : Wa X w pc lv (.int y :: .int x :: rest) := by
  obtain ⟨E, p, l, e, R, s, m, args, below, meth, c, A, Q, nL, ck, sk⟩ := X
  obtain ⟨hx, hb, hml, hnl, hown, hts, hK, hlk, hA, hD, hfr, hlo, hck, hsk, hnw⟩ := h
  exact fun H locs ls hP hS hl => lv_irem hx hb d hne (k H locs ls hP hS hl)
theorem wa_lrem (h : Cx X cc own nl fr lo) {x y : Int64} (hne : ¬ y = 0) (d : decode cc pc = .ok (.lrem, 1)) (k : Wa X w (pc + 1) lv (.long (x - x / y * y) :: rest)) : Wa X w pc lv (.long y :: .long x :: rest) := by
  obtain ⟨E, p, l, e, R, s, m, args, below, meth, c, A, Q, nL, ck, sk⟩ := X
  obtain ⟨hx, hb, hml, hnl, hown, hts, hK, hlk, hA, hD, hfr, hlo, hck, hsk, hnw⟩ := h
  exact fun H locs ls hP hS hl => lv_lrem hx hb d hne (k H locs ls hP hS hl)
theorem wa_lshl (h : Cx X cc own nl fr lo) {x : Int64} {y : Int32} (d : decode cc pc = .ok (.lshl, 1)) (k : Wa X w (pc + 1) lv (.long (lshl x y) :: rest)) : Wa X w pc lv (.int y :: .long x :: rest) := by
  obtain ⟨E, p, l, e, R, s, m, args, below, meth, c, A, Q, nL, ck, sk⟩ := X
  obtain ⟨hx, hb, hml, hnl, hown, hts, hK, hlk, hA, hD, hfr, hlo, hck, hsk, hnw⟩ := h
  exact fun H locs ls hP hS hl => lv_lshl hx hb d rfl (k H locs ls hP hS hl)
theorem wa_lushr (h : Cx X cc own nl fr lo) {x : Int64} {y : Int32} (d : decode cc pc = .ok (.lushr, 1)) (k : Wa X w (pc + 1) lv (.long (lushr x y) :: rest)) : Wa X w pc lv (.int y :: .long x :: rest) := by
  obtain ⟨E, p, l, e, R, s, m, args, below, meth, c, A, Q, nL, ck, sk⟩ := X
  obtain ⟨hx, hb, hml, hnl, hown, hts, hK, hlk, hA, hD, hfr, hlo, hck, hsk, hnw⟩ := h
  exact fun H locs ls hP hS hl => lv_lushr hx hb d rfl (k H locs ls hP hS hl)
theorem wa_lcmp (h : Cx X cc own nl fr lo) {x y : Int64} (d : decode cc pc = .ok (.lcmp, 1)) (k : Wa X w (pc + 1) lv (.int (lg_cmp x y) :: rest)) : Wa X w pc lv (.long y :: .long x :: rest) := by
  obtain ⟨E, p, l, e, R, s, m, args, below, meth, c, A, Q, nL, ck, sk⟩ := X
  obtain ⟨hx, hb, hml, hnl, hown, hts, hK, hlk, hA, hD, hfr, hlo, hck, hsk, hnw⟩ := h
  exact fun H locs ls hP hS hl => W.lcmp hx hb d (k H locs ls hP hS hl)
theorem wa_i2l (h : Cx X cc own nl fr lo) {x : Int32} (d : decode cc pc = .ok (.i2l, 1)) (k : Wa X w (pc + 1) lv (.long x.toInt64 :: rest)) : Wa X w pc lv (.int x :: rest) := by
  obtain ⟨E, p, l, e, R, s, m, args, below, meth, c, A, Q, nL, ck, sk⟩ := X
  obtain ⟨hx, hb, hml, hnl, hown, hts, hK, hlk, hA, hD, hfr, hlo, hck, hsk, hnw⟩ := h
  exact fun H locs ls hP hS hl => lv_i2l hx hb d rfl (k H locs ls hP hS hl)
theorem wa_l2i (h : Cx X cc own nl fr lo) {x : Int64} (d : decode cc pc = .ok (.l2i, 1)) (k : Wa X w (pc + 1) lv (.int x.toInt32 :: rest)) : Wa X w pc lv (.long x :: rest) := by
  obtain ⟨E, p, l, e, R, s, m, args, below, meth, c, A, Q, nL, ck, sk⟩ := X
  obtain ⟨hx, hb, hml, hnl, hown, hts, hK, hlk, hA, hD, hfr, hlo, hck, hsk, hnw⟩ := h
  exact fun H locs ls hP hS hl => lv_l2i hx hb d rfl (k H locs ls hP hS hl)
theorem wa_iconst (h : Cx X cc own nl fr lo) {n : Int} (v : Int32) (hv : Int32.ofInt n = v) (d : decode cc pc = .ok (.iconst n, 1)) (k : Wa X w (pc + 1) lv (.int v :: rest)) : Wa X w pc lv rest := by
  obtain ⟨E, p, l, e, R, s, m, args, below, meth, c, A, Q, nL, ck, sk⟩ := X
  obtain ⟨hx, hb, hml, hnl, hown, hts, hK, hlk, hA, hD, hfr, hlo, hck, hsk, hnw⟩ := h
  exact fun H locs ls hP hS hl => lv_iconst hx hb d hv (k H locs ls hP hS hl)
theorem wa_bipush (h : Cx X cc own nl fr lo) {n : Int} (v : Int32) (hv : (Int8.ofInt n).toInt32 = v) (d : decode cc pc = .ok (.bipush n, 2)) (k : Wa X w (pc + 2) lv (.int v :: rest)) : Wa X w pc lv rest := by
  obtain ⟨E, p, l, e, R, s, m, args, below, meth, c, A, Q, nL, ck, sk⟩ := X
  obtain ⟨hx, hb, hml, hnl, hown, hts, hK, hlk, hA, hD, hfr, hlo, hck, hsk, hnw⟩ := h
  exact fun H locs ls hP hS hl => lv_bipush hx hb d hv (k H locs ls hP hS hl)
theorem wa_sipush (h : Cx X cc own nl fr lo) {n : Int} (v : Int32) (hv : (Int16.ofInt n).toInt32 = v) (d : decode cc pc = .ok (.sipush n, 3)) (k : Wa X w (pc + 3) lv (.int v :: rest)) : Wa X w pc lv rest := by
  obtain ⟨E, p, l, e, R, s, m, args, below, meth, c, A, Q, nL, ck, sk⟩ := X
  obtain ⟨hx, hb, hml, hnl, hown, hts, hK, hlk, hA, hD, hfr, hlo, hck, hsk, hnw⟩ := h
  exact fun H locs ls hP hS hl => lv_sipush hx hb d hv (k H locs ls hP hS hl)
theorem wa_lconst (h : Cx X cc own nl fr lo) {n : Fin 2} (v : Int64) (hv : Int64.ofNat (n : Nat) = v) (d : decode cc pc = .ok (.lconst n, 1)) (k : Wa X w (pc + 1) lv (.long v :: rest)) : Wa X w pc lv rest := by
  obtain ⟨E, p, l, e, R, s, m, args, below, meth, c, A, Q, nL, ck, sk⟩ := X
  obtain ⟨hx, hb, hml, hnl, hown, hts, hK, hlk, hA, hD, hfr, hlo, hck, hsk, hnw⟩ := h
  exact fun H locs ls hP hS hl => lv_lconst hx hb d hv (k H locs ls hP hS hl)
theorem wa_ldc (h : Cx X cc own nl fr lo) {i : Nat} {v : Int32} (hc : Cond.constant own i v ∈ gT) (d : decode cc pc = .ok (.ldc i, 2)) (k : Wa X w (pc + 2) lv (.int v :: rest)) : Wa X w pc lv rest := by
  obtain ⟨E, p, l, e, R, s, m, args, below, meth, c, A, Q, nL, ck, sk⟩ := X
  obtain ⟨hx, hb, hml, hnl, hown, hts, hK, hlk, hA, hD, hfr, hlo, hck, hsk, hnw⟩ := h
  exact fun H locs ls hP hS hl => lv_ldc hx hb hown (hts _ hc) d (k H locs ls hP hS hl)
theorem wa_ldcw (h : Cx X cc own nl fr lo) {i : Nat} {v : Int32} (hc : Cond.constant own i v ∈ gT) (d : decode cc pc = .ok (.ldc_w i, 3)) (k : Wa X w (pc + 3) lv (.int v :: rest)) : Wa X w pc lv rest := by
  obtain ⟨E, p, l, e, R, s, m, args, below, meth, c, A, Q, nL, ck, sk⟩ := X
  obtain ⟨hx, hb, hml, hnl, hown, hts, hK, hlk, hA, hD, hfr, hlo, hck, hsk, hnw⟩ := h
  exact fun H locs ls hP hS hl => lv_ldcw hx hb hown (hts _ hc) d (k H locs ls hP hS hl)
theorem wa_ldc2 (h : Cx X cc own nl fr lo) {i : Nat} {v : Int64} (hc : Cond.constantLong own i v ∈ gT) (d : decode cc pc = .ok (.ldc2_w i, 3)) (k : Wa X w (pc + 3) lv (.long v :: rest)) : Wa X w pc lv rest := by
  obtain ⟨E, p, l, e, R, s, m, args, below, meth, c, A, Q, nL, ck, sk⟩ := X
  obtain ⟨hx, hb, hml, hnl, hown, hts, hK, hlk, hA, hD, hfr, hlo, hck, hsk, hnw⟩ := h
  exact fun H locs ls hP hS hl => lv_ldc2 hx hb hown (hts _ hc) d (k H locs ls hP hS hl)
theorem wa_iload_n (h : Cx X cc own nl fr lo) {f : Fin 4} {i : Nat} {x : Int32} (j : Nat) (hi : (f : Nat) = i) (hj : lv[j]? = some (i, .int x)) (d : decode cc pc = .ok (.iload_n f, 1)) (k : Wa X w (pc + 1) lv (.int x :: rest)) : Wa X w pc lv rest := by
  obtain ⟨E, p, l, e, R, s, m, args, below, meth, c, A, Q, nL, ck, sk⟩ := X
  obtain ⟨hx, hb, hml, hnl, hown, hts, hK, hlk, hA, hD, hfr, hlo, hck, hsk, hnw⟩ := h
  exact fun H locs ls hP hS hl => lv_iload_n hx hb d hi (lv_at hl j hj) (k H locs ls hP hS hl)
theorem wa_iload (h : Cx X cc own nl fr lo) {i : Nat} {x : Int32} (j : Nat) (hj : lv[j]? = some (i, .int x)) (d : decode cc pc = .ok (.iload i, 2)) (k : Wa X w (pc + 2) lv (.int x :: rest)) : Wa X w pc lv rest := by
  obtain ⟨E, p, l, e, R, s, m, args, below, meth, c, A, Q, nL, ck, sk⟩ := X
  obtain ⟨hx, hb, hml, hnl, hown, hts, hK, hlk, hA, hD, hfr, hlo, hck, hsk, hnw⟩ := h
  exact fun H locs ls hP hS hl => lv_iload hx hb d (lv_at hl j hj) (k H locs ls hP hS hl)
theorem wa_lload_n (h : Cx X cc own nl fr lo) {f : Fin 4} {i : Nat} {x : Int64} (j : Nat) (hi : (f : Nat) = i) (hj : lv[j]? = some (i, .long x)) (d : decode cc pc = .ok (.lload_n f, 1)) (k : Wa X w (pc + 1) lv (.long x :: rest)) : Wa X w pc lv rest := by
  obtain ⟨E, p, l, e, R, s, m, args, below, meth, c, A, Q, nL, ck, sk⟩ := X
  obtain ⟨hx, hb, hml, hnl, hown, hts, hK, hlk, hA, hD, hfr, hlo, hck, hsk, hnw⟩ := h
  exact fun H locs ls hP hS hl => lv_lload_n hx hb d hi (lv_at hl j hj) (k H locs ls hP hS hl)
theorem wa_lload (h : Cx X cc own nl fr lo) {i : Nat} {x : Int64} (j : Nat) (hj : lv[j]? = some (i, .long x)) (d : decode cc pc = .ok (.lload i, 2)) (k : Wa X w (pc + 2) lv (.long x :: rest)) : Wa X w pc lv rest := by
  obtain ⟨E, p, l, e, R, s, m, args, below, meth, c, A, Q, nL, ck, sk⟩ := X
  obtain ⟨hx, hb, hml, hnl, hown, hts, hK, hlk, hA, hD, hfr, hlo, hck, hsk, hnw⟩ := h
  exact fun H locs ls hP hS hl => lv_lload hx hb d (lv_at hl j hj) (k H locs ls hP hS hl)
theorem wa_aload_n (h : Cx X cc own nl fr lo) {f : Fin 4} {i : Nat} {x : Nat} (j : Nat) (hi : (f : Nat) = i) (hj : lv[j]? = some (i, .ref x)) (d : decode cc pc = .ok (.aload_n f, 1)) (k : Wa X w (pc + 1) lv (.ref x :: rest)) : Wa X w pc lv rest := by
  obtain ⟨E, p, l, e, R, s, m, args, below, meth, c, A, Q, nL, ck, sk⟩ := X
  obtain ⟨hx, hb, hml, hnl, hown, hts, hK, hlk, hA, hD, hfr, hlo, hck, hsk, hnw⟩ := h
  exact fun H locs ls hP hS hl => lv_aload_n hx hb d hi (lv_at hl j hj) (k H locs ls hP hS hl)
theorem wa_aload (h : Cx X cc own nl fr lo) {i : Nat} {x : Nat} (j : Nat) (hj : lv[j]? = some (i, .ref x)) (d : decode cc pc = .ok (.aload i, 2)) (k : Wa X w (pc + 2) lv (.ref x :: rest)) : Wa X w pc lv rest := by
  obtain ⟨E, p, l, e, R, s, m, args, below, meth, c, A, Q, nL, ck, sk⟩ := X
  obtain ⟨hx, hb, hml, hnl, hown, hts, hK, hlk, hA, hD, hfr, hlo, hck, hsk, hnw⟩ := h
  exact fun H locs ls hP hS hl => lv_aload hx hb d (lv_at hl j hj) (k H locs ls hP hS hl)
theorem wa_istore_n (h : Cx X cc own nl fr lo) {f : Fin 4} {i : Nat} {x : Int32} {lv2 : List (Nat × Value)} (hi : (f : Nat) = i) (hn : i < nl) (hl2 : (i, Value.int x) :: lv.filter (fun q => !(q.1 == i) && !(q.1 + 1 == i && q.2.category == 2)) = lv2) (d : decode cc pc = .ok (.istore_n f, 1)) (k : Wa X w (pc + 1) lv2 rest) : Wa X w pc lv (.int x :: rest) := by
  obtain ⟨E, p, l, e, R, s, m, args, below, meth, c, A, Q, nL, ck, sk⟩ := X
  obtain ⟨hx, hb, hml, hnl, hown, hts, hK, hlk, hA, hD, hfr, hlo, hck, hsk, hnw⟩ := h
  exact fun H locs ls hP hS hl => lv_istore_n hx hb d hi hl (hnl ▸ hn) hl2 (fun ls hl => k H locs ls hP hS hl)
theorem wa_istore (h : Cx X cc own nl fr lo) {i : Nat} {x : Int32} {lv2 : List (Nat × Value)} (hn : i < nl) (hl2 : (i, Value.int x) :: lv.filter (fun q => !(q.1 == i) && !(q.1 + 1 == i && q.2.category == 2)) = lv2) (d : decode cc pc = .ok (.istore i, 2)) (k : Wa X w (pc + 2) lv2 rest) : Wa X w pc lv (.int x :: rest) := by
  obtain ⟨E, p, l, e, R, s, m, args, below, meth, c, A, Q, nL, ck, sk⟩ := X
  obtain ⟨hx, hb, hml, hnl, hown, hts, hK, hlk, hA, hD, hfr, hlo, hck, hsk, hnw⟩ := h
  exact fun H locs ls hP hS hl => lv_istore hx hb d hl (hnl ▸ hn) hl2 (fun ls hl => k H locs ls hP hS hl)
theorem wa_astore_n (h : Cx X cc own nl fr lo) {f : Fin 4} {i : Nat} {x : Nat} {lv2 : List (Nat × Value)} (hi : (f : Nat) = i) (hn : i < nl) (hl2 : (i, Value.ref x) :: lv.filter (fun q => !(q.1 == i) && !(q.1 + 1 == i && q.2.category == 2)) = lv2) (d : decode cc pc = .ok (.astore_n f, 1)) (k : Wa X w (pc + 1) lv2 rest) : Wa X w pc lv (.ref x :: rest) := by
  obtain ⟨E, p, l, e, R, s, m, args, below, meth, c, A, Q, nL, ck, sk⟩ := X
  obtain ⟨hx, hb, hml, hnl, hown, hts, hK, hlk, hA, hD, hfr, hlo, hck, hsk, hnw⟩ := h
  exact fun H locs ls hP hS hl => lv_astore_n hx hb d hi hl (hnl ▸ hn) hl2 (fun ls hl => k H locs ls hP hS hl)
theorem wa_astore (h : Cx X cc own nl fr lo) {i : Nat} {x : Nat} {lv2 : List (Nat × Value)} (hn : i < nl) (hl2 : (i, Value.ref x) :: lv.filter (fun q => !(q.1 == i) && !(q.1 + 1 == i && q.2.category == 2)) = lv2) (d : decode cc pc = .ok (.astore i, 2)) (k : Wa X w (pc + 2) lv2 rest) : Wa X w pc lv (.ref x :: rest) := by
  obtain ⟨E, p, l, e, R, s, m, args, below, meth, c, A, Q, nL, ck, sk⟩ := X
  obtain ⟨hx, hb, hml, hnl, hown, hts, hK, hlk, hA, hD, hfr, hlo, hck, hsk, hnw⟩ := h
  exact fun H locs ls hP hS hl => lv_astore hx hb d hl (hnl ▸ hn) hl2 (fun ls hl => k H locs ls hP hS hl)
theorem wa_lstore_n (h : Cx X cc own nl fr lo) {f : Fin 4} {i : Nat} {x : Int64} {lv2 : List (Nat × Value)} (hi : (f : Nat) = i) (hn : i + 1 < nl) (hl2 : (i, Value.long x) :: lv.filter (fun q => !(q.1 == i) && (!(q.1 == i + 1) && !(q.1 + 1 == i && q.2.category == 2))) = lv2) (d : decode cc pc = .ok (.lstore_n f, 1)) (k : Wa X w (pc + 1) lv2 rest) : Wa X w pc lv (.long x :: rest) := by
  obtain ⟨E, p, l, e, R, s, m, args, below, meth, c, A, Q, nL, ck, sk⟩ := X
  obtain ⟨hx, hb, hml, hnl, hown, hts, hK, hlk, hA, hD, hfr, hlo, hck, hsk, hnw⟩ := h
  exact fun H locs ls hP hS hl => lv_lstore_n hx hb d hi hl (hnl ▸ hn) hl2 (fun ls hl => k H locs ls hP hS hl)
theorem wa_lstore (h : Cx X cc own nl fr lo) {i : Nat} {x : Int64} {lv2 : List (Nat × Value)} (hn : i + 1 < nl) (hl2 : (i, Value.long x) :: lv.filter (fun q => !(q.1 == i) && (!(q.1 == i + 1) && !(q.1 + 1 == i && q.2.category == 2))) = lv2) (d : decode cc pc = .ok (.lstore i, 2)) (k : Wa X w (pc + 2) lv2 rest) : Wa X w pc lv (.long x :: rest) := by
  obtain ⟨E, p, l, e, R, s, m, args, below, meth, c, A, Q, nL, ck, sk⟩ := X
  obtain ⟨hx, hb, hml, hnl, hown, hts, hK, hlk, hA, hD, hfr, hlo, hck, hsk, hnw⟩ := h
  exact fun H locs ls hP hS hl => lv_lstore hx hb d hl (hnl ▸ hn) hl2 (fun ls hl => k H locs ls hP hS hl)
theorem wa_iinc (h : Cx X cc own nl fr lo) {i : Nat} {n : Int} {x v : Int32} {lv2 : List (Nat × Value)} (j : Nat) (hj : lv[j]? = some (i, .int x)) (hv : x + Int32.ofInt n = v) (hn : i < nl) (hl2 : (i, Value.int v) :: lv.filter (fun q => !(q.1 == i) && !(q.1 + 1 == i && q.2.category == 2)) = lv2) (d : decode cc pc = .ok (.iinc i n, 3)) (k : Wa X w (pc + 3) lv2 rest) : Wa X w pc lv rest := by
  obtain ⟨E, p, l, e, R, s, m, args, below, meth, c, A, Q, nL, ck, sk⟩ := X
  obtain ⟨hx, hb, hml, hnl, hown, hts, hK, hlk, hA, hD, hfr, hlo, hck, hsk, hnw⟩ := h
  exact fun H locs ls hP hS hl => lv_iinc hx hb d hl hj hv (hnl ▸ hn) hl2 (fun ls hl => k H locs ls hP hS hl)
theorem wa_goto (h : Cx X cc own nl fr lo) {off : Int} (tgt : Nat) (ht : (pc : Int) + off = (tgt : Int)) (d : decode cc pc = .ok (.goto off, 3)) (k : Wa X w tgt lv rest) : Wa X w pc lv rest := by
  obtain ⟨E, p, l, e, R, s, m, args, below, meth, c, A, Q, nL, ck, sk⟩ := X
  obtain ⟨hx, hb, hml, hnl, hown, hts, hK, hlk, hA, hD, hfr, hlo, hck, hsk, hnw⟩ := h
  exact fun H locs ls hP hS hl => lv_goto hx hb d ht (k H locs ls hP hS hl)
theorem wa_dup (h : Cx X cc own nl fr lo) {v : Value} (hv : v.category = 1) (d : decode cc pc = .ok (.dup, 1)) (k : Wa X w (pc + 1) lv (v :: v :: rest)) : Wa X w pc lv (v :: rest) := by
  obtain ⟨E, p, l, e, R, s, m, args, below, meth, c, A, Q, nL, ck, sk⟩ := X
  obtain ⟨hx, hb, hml, hnl, hown, hts, hK, hlk, hA, hD, hfr, hlo, hck, hsk, hnw⟩ := h
  exact fun H locs ls hP hS hl => lv_dup hx hb d hv (k H locs ls hP hS hl)
theorem wa_dup2 (h : Cx X cc own nl fr lo) {v u : Value} (hv : v.category = 1) (hu : u.category = 1) (d : decode cc pc = .ok (.dup2, 1)) (k : Wa X w (pc + 1) lv (v :: u :: v :: u :: rest)) : Wa X w pc lv (v :: u :: rest) := by
  obtain ⟨E, p, l, e, R, s, m, args, below, meth, c, A, Q, nL, ck, sk⟩ := X
  obtain ⟨hx, hb, hml, hnl, hown, hts, hK, hlk, hA, hD, hfr, hlo, hck, hsk, hnw⟩ := h
  exact fun H locs ls hP hS hl => lv_dup2_11 hx hb d hv hu (k H locs ls hP hS hl)
theorem wa_if_eq (h : Cx X cc own nl fr lo) {x : Int32} {off : Int} (tgt : Nat) (ht : (pc : Int) + off = (tgt : Int)) (d : decode cc pc = .ok (.ifCond .eq off, 3)) (kt : x = 0 → Wa X w tgt lv rest) (kf : ¬ x = 0 → Wa X w (pc + 3) lv rest) : Wa X w pc lv (.int x :: rest) := by
  obtain ⟨E, p, l, e, R, s, m, args, below, meth, c, A, Q, nL, ck, sk⟩ := X
  obtain ⟨hx, hb, hml, hnl, hown, hts, hK, hlk, hA, hD, hfr, hlo, hck, hsk, hnw⟩ := h
  exact fun H locs ls hP hS hl => lv_if_eq hx hb d ht (fun c => kt c H locs ls hP hS hl) (fun c => kf c H locs ls hP hS hl)
theorem wa_icmp_eq (h : Cx X cc own nl fr lo) {x y : Int32} {off : Int} (tgt : Nat) (ht : (pc : Int) + off = (tgt : Int)) (d : decode cc pc = .ok (.if_icmp .eq off, 3)) (kt : x = y → Wa X w tgt lv rest) (kf : ¬ x = y → Wa X w (pc + 3) lv rest) : Wa X w pc lv (.int y :: .int x :: rest) := by
  obtain ⟨E, p, l, e, R, s, m, args, below, meth, c, A, Q, nL, ck, sk⟩ := X
  obtain ⟨hx, hb, hml, hnl, hown, hts, hK, hlk, hA, hD, hfr, hlo, hck, hsk, hnw⟩ := h
  exact fun H locs ls hP hS hl => lv_icmp_eq hx hb d ht (fun c => kt c H locs ls hP hS hl) (fun c => kf c H locs ls hP hS hl)
theorem wa_if_ne (h : Cx X cc own nl fr lo) {x : Int32} {off : Int} (tgt : Nat) (ht : (pc : Int) + off = (tgt : Int)) (d : decode cc pc = .ok (.ifCond .ne off, 3)) (kt : ¬ x = 0 → Wa X w tgt lv rest) (kf : x = 0 → Wa X w (pc + 3) lv rest) : Wa X w pc lv (.int x :: rest) := by
  obtain ⟨E, p, l, e, R, s, m, args, below, meth, c, A, Q, nL, ck, sk⟩ := X
  obtain ⟨hx, hb, hml, hnl, hown, hts, hK, hlk, hA, hD, hfr, hlo, hck, hsk, hnw⟩ := h
  exact fun H locs ls hP hS hl => lv_if_ne hx hb d ht (fun c => kt c H locs ls hP hS hl) (fun c => kf c H locs ls hP hS hl)
theorem wa_icmp_ne (h : Cx X cc own nl fr lo) {x y : Int32} {off : Int} (tgt : Nat) (ht : (pc : Int) + off = (tgt : Int)) (d : decode cc pc = .ok (.if_icmp .ne off, 3)) (kt : ¬ x = y → Wa X w tgt lv rest) (kf : x = y → Wa X w (pc + 3) lv rest) : Wa X w pc lv (.int y :: .int x :: rest) := by
  obtain ⟨E, p, l, e, R, s, m, args, below, meth, c, A, Q, nL, ck, sk⟩ := X
  obtain ⟨hx, hb, hml, hnl, hown, hts, hK, hlk, hA, hD, hfr, hlo, hck, hsk, hnw⟩ := h
  exact fun H locs ls hP hS hl => lv_icmp_ne hx hb d ht (fun c => kt c H locs ls hP hS hl) (fun c => kf c H locs ls hP hS hl)
theorem wa_if_lt (h : Cx X cc own nl fr lo) {x : Int32} {off : Int} (tgt : Nat) (ht : (pc : Int) + off = (tgt : Int)) (d : decode cc pc = .ok (.ifCond .lt off, 3)) (kt : x < 0 → Wa X w tgt lv rest) (kf : ¬ x < 0 → Wa X w (pc + 3) lv rest) : Wa X w pc lv (.int x :: rest) := by
  obtain ⟨E, p, l, e, R, s, m, args, below, meth, c, A, Q, nL, ck, sk⟩ := X
  obtain ⟨hx, hb, hml, hnl, hown, hts, hK, hlk, hA, hD, hfr, hlo, hck, hsk, hnw⟩ := h
  exact fun H locs ls hP hS hl => lv_if_lt hx hb d ht (fun c => kt c H locs ls hP hS hl) (fun c => kf c H locs ls hP hS hl)
theorem wa_icmp_lt (h : Cx X cc own nl fr lo) {x y : Int32} {off : Int} (tgt : Nat) (ht : (pc : Int) + off = (tgt : Int)) (d : decode cc pc = .ok (.if_icmp .lt off, 3)) (kt : x < y → Wa X w tgt lv rest) (kf : ¬ x < y → Wa X w (pc + 3) lv rest) : Wa X w pc lv (.int y :: .int x :: rest) := by
  obtain ⟨E, p, l, e, R, s, m, args, below, meth, c, A, Q, nL, ck, sk⟩ := X
  obtain ⟨hx, hb, hml, hnl, hown, hts, hK, hlk, hA, hD, hfr, hlo, hck, hsk, hnw⟩ := h
  exact fun H locs ls hP hS hl => lv_icmp_lt hx hb d ht (fun c => kt c H locs ls hP hS hl) (fun c => kf c H locs ls hP hS hl)
theorem wa_if_ge (h : Cx X cc own nl fr lo) {x : Int32} {off : Int} (tgt : Nat) (ht : (pc : Int) + off = (tgt : Int)) (d : decode cc pc = .ok (.ifCond .ge off, 3)) (kt : 0 ≤ x → Wa X w tgt lv rest) (kf : ¬ 0 ≤ x → Wa X w (pc + 3) lv rest) : Wa X w pc lv (.int x :: rest) := by
  obtain ⟨E, p, l, e, R, s, m, args, below, meth, c, A, Q, nL, ck, sk⟩ := X
  obtain ⟨hx, hb, hml, hnl, hown, hts, hK, hlk, hA, hD, hfr, hlo, hck, hsk, hnw⟩ := h
  exact fun H locs ls hP hS hl => lv_if_ge hx hb d ht (fun c => kt c H locs ls hP hS hl) (fun c => kf c H locs ls hP hS hl)
theorem wa_icmp_ge (h : Cx X cc own nl fr lo) {x y : Int32} {off : Int} (tgt : Nat) (ht : (pc : Int) + off = (tgt : Int)) (d : decode cc pc = .ok (.if_icmp .ge off, 3)) (kt : y ≤ x → Wa X w tgt lv rest) (kf : ¬ y ≤ x → Wa X w (pc + 3) lv rest) : Wa X w pc lv (.int y :: .int x :: rest) := by
  obtain ⟨E, p, l, e, R, s, m, args, below, meth, c, A, Q, nL, ck, sk⟩ := X
  obtain ⟨hx, hb, hml, hnl, hown, hts, hK, hlk, hA, hD, hfr, hlo, hck, hsk, hnw⟩ := h
  exact fun H locs ls hP hS hl => lv_icmp_ge hx hb d ht (fun c => kt c H locs ls hP hS hl) (fun c => kf c H locs ls hP hS hl)
theorem wa_if_gt (h : Cx X cc own nl fr lo) {x : Int32} {off : Int} (tgt : Nat) (ht : (pc : Int) + off = (tgt : Int)) (d : decode cc pc = .ok (.ifCond .gt off, 3)) (kt : 0 < x → Wa X w tgt lv rest) (kf : ¬ 0 < x → Wa X w (pc + 3) lv rest) : Wa X w pc lv (.int x :: rest) := by
  obtain ⟨E, p, l, e, R, s, m, args, below, meth, c, A, Q, nL, ck, sk⟩ := X
  obtain ⟨hx, hb, hml, hnl, hown, hts, hK, hlk, hA, hD, hfr, hlo, hck, hsk, hnw⟩ := h
  exact fun H locs ls hP hS hl => lv_if_gt hx hb d ht (fun c => kt c H locs ls hP hS hl) (fun c => kf c H locs ls hP hS hl)
theorem wa_icmp_gt (h : Cx X cc own nl fr lo) {x y : Int32} {off : Int} (tgt : Nat) (ht : (pc : Int) + off = (tgt : Int)) (d : decode cc pc = .ok (.if_icmp .gt off, 3)) (kt : y < x → Wa X w tgt lv rest) (kf : ¬ y < x → Wa X w (pc + 3) lv rest) : Wa X w pc lv (.int y :: .int x :: rest) := by
  obtain ⟨E, p, l, e, R, s, m, args, below, meth, c, A, Q, nL, ck, sk⟩ := X
  obtain ⟨hx, hb, hml, hnl, hown, hts, hK, hlk, hA, hD, hfr, hlo, hck, hsk, hnw⟩ := h
  exact fun H locs ls hP hS hl => lv_icmp_gt hx hb d ht (fun c => kt c H locs ls hP hS hl) (fun c => kf c H locs ls hP hS hl)
theorem wa_if_le (h : Cx X cc own nl fr lo) {x : Int32} {off : Int} (tgt : Nat) (ht : (pc : Int) + off = (tgt : Int)) (d : decode cc pc = .ok (.ifCond .le off, 3)) (kt : x ≤ 0 → Wa X w tgt lv rest) (kf : ¬ x ≤ 0 → Wa X w (pc + 3) lv rest) : Wa X w pc lv (.int x :: rest) := by
  obtain ⟨E, p, l, e, R, s, m, args, below, meth, c, A, Q, nL, ck, sk⟩ := X
  obtain ⟨hx, hb, hml, hnl, hown, hts, hK, hlk, hA, hD, hfr, hlo, hck, hsk, hnw⟩ := h
  exact fun H locs ls hP hS hl => lv_if_le hx hb d ht (fun c => kt c H locs ls hP hS hl) (fun c => kf c H locs ls hP hS hl)
theorem wa_icmp_le (h : Cx X cc own nl fr lo) {x y : Int32} {off : Int} (tgt : Nat) (ht : (pc : Int) + off = (tgt : Int)) (d : decode cc pc = .ok (.if_icmp .le off, 3)) (kt : x ≤ y → Wa X w tgt lv rest) (kf : ¬ x ≤ y → Wa X w (pc + 3) lv rest) : Wa X w pc lv (.int y :: .int x :: rest) := by
  obtain ⟨E, p, l, e, R, s, m, args, below, meth, c, A, Q, nL, ck, sk⟩ := X
  obtain ⟨hx, hb, hml, hnl, hown, hts, hK, hlk, hA, hD, hfr, hlo, hck, hsk, hnw⟩ := h
  exact fun H locs ls hP hS hl => lv_icmp_le hx hb d ht (fun c => kt c H locs ls hP hS hl) (fun c => kf c H locs ls hP hS hl)
theorem wa_sub (ks : List Nat) {lv2 : List (Nat × Value)} (hp : lv_pick lv ks = lv2) (k : Wa X w pc lv2 rest) : Wa X w pc lv rest := by
  obtain ⟨E, p, l, e, R, s, m, args, below, meth, c, A, Q, nL, ck, sk⟩ := X
  exact fun H locs ls hP hS hl => k H locs ls hP hS (lv_sub hl ks hp)
theorem wa_tout (h : Cx X cc own nl fr lo) {dflt lo2 hi : Int} {offs : Array Int} {len : Nat} {x : Int32} (tgt : Nat) (hz : x.toInt < lo2 ∨ hi < x.toInt) (ht : (pc : Int) + dflt = (tgt : Int)) (d : decode cc pc = .ok (.tableswitch dflt lo2 hi offs, len)) (k : Wa X w tgt lv rest) : Wa X w pc lv (.int x :: rest) := by
  obtain ⟨E, p, l, e, R, s, m, args, below, meth, c, A, Q, nL, ck, sk⟩ := X
  obtain ⟨hx, hb, hml, hnl, hown, hts, hK, hlk, hA, hD, hfr, hlo, hck, hsk, hnw⟩ := h
  exact fun H locs ls hP hS hl => lv_tableOut hx hb d hz ht (k H locs ls hP hS hl)
theorem wa_tin (h : Cx X cc own nl fr lo) {dflt lo2 hi : Int} {offs : Array Int} {len : Nat} {x : Int32} {off : Int} (tgt : Nat) (h1 : ¬ x.toInt < lo2) (h2 : ¬ hi < x.toInt) (ho : offs[(x.toInt - lo2).toNat]? = some off) (ht : (pc : Int) + off = (tgt : Int)) (d : decode cc pc = .ok (.tableswitch dflt lo2 hi offs, len)) (k : Wa X w tgt lv rest) : Wa X w pc lv (.int x :: rest) := by
  obtain ⟨E, p, l, e, R, s, m, args, below, meth, c, A, Q, nL, ck, sk⟩ := X
  obtain ⟨hx, hb, hml, hnl, hown, hts, hK, hlk, hA, hD, hfr, hlo, hck, hsk, hnw⟩ := h
  exact fun H locs ls hP hS hl => lv_tableIn hx hb d h1 h2 ho ht (k H locs ls hP hS hl)
theorem wa_mmax (h : Cx X cc own nl fr lo) {i : Nat} {x y : Int32} (hlk2 : Cond.methodLink own i Lib.Math.max.name ∈ gT) (hst : Cond.static Lib.Math.max.name ∈ gT) (hin : Cond.initialized "java/lang/Math" ∈ gT) (hcd : Cond.code Lib.Math.max.name Lib.Math.max.code 2 (some .int) ∈ gT) (hf : 1 ≤ fr) (ho : (rest.map fun v => v.category).sum + 13 ≤ lo) (d : decode cc pc = .ok (.invokestatic i, 3)) (k : Wa X w (pc + 3) lv (.int (if x < y then y else x) :: rest)) : Wa X w pc lv (.int y :: .int x :: rest) := by
  obtain ⟨E, p, l, e, R, s, m, args, below, meth, c, A, Q, nL, ck, sk⟩ := X
  obtain ⟨hx, hb, hml, hnl, hown, hts, hK, hlk, hA, hD, hfr, hlo, hck, hsk, hnw⟩ := h
  exact fun H locs ls hP hS hl => va_mmax hx hb (hml.trans hl.1.symm) hown (hts _ hlk2) (hts _ hst) (hts _ hin) (hts _ hcd) (Nat.le_trans hf hfr) (Nat.le_trans ho hlo) hck hsk d (k H locs ls hP hS hl)
theorem wa_mmin (h : Cx X cc own nl fr lo) {i : Nat} {x y : Int32} (hlk2 : Cond.methodLink own i Lib.Math.min.name ∈ gT) (hst : Cond.static Lib.Math.min.name ∈ gT) (hin : Cond.initialized "java/lang/Math" ∈ gT) (hcd : Cond.code Lib.Math.min.name Lib.Math.min.code 2 (some .int) ∈ gT) (hf : 1 ≤ fr) (ho : (rest.map fun v => v.category).sum + 13 ≤ lo) (d : decode cc pc = .ok (.invokestatic i, 3)) (k : Wa X w (pc + 3) lv (.int (if y < x then y else x) :: rest)) : Wa X w pc lv (.int y :: .int x :: rest) := by
  obtain ⟨E, p, l, e, R, s, m, args, below, meth, c, A, Q, nL, ck, sk⟩ := X
  obtain ⟨hx, hb, hml, hnl, hown, hts, hK, hlk, hA, hD, hfr, hlo, hck, hsk, hnw⟩ := h
  exact fun H locs ls hP hS hl => va_mmin hx hb (hml.trans hl.1.symm) hown (hts _ hlk2) (hts _ hst) (hts _ hin) (hts _ hcd) (Nat.le_trans hf hfr) (Nat.le_trans ho hlo) hck hsk d (k H locs ls hP hS hl)
theorem wa_getG (h : Cx X cc own nl fr lo) {ref C : String} {T : u_T} {N ci index : Nat} (hin : ∀ w ∈ u_ws C T N, w ∈ gT) (q0 : Nat) {fs : List Value} (he : (cellsOf X.1 w)[q0]? = some (Ad X q0, .inr (ci, fs))) (hc : vwCl[ci]? = some (C, T, N)) (k : Nat) (hk : k < N) (hl : Cond.fieldLink own index ref (T k).2.1 (T k).2.2.1 ∈ gT) (hsame : (T k).1 = ref) {v : Value} (hv : fs[k]? = some v) (d : decode cc pc = .ok (.getfield index, 3)) (kk : Wa X w (pc + 3) lv (v :: rest)) : Wa X w pc lv (.ref (Ad X q0) :: rest) := by
  obtain ⟨E, p, l, e, R, s, m, args, below, meth, c, A, Q, nL, ck, sk⟩ := X
  obtain ⟨hx, hb, hml, hnl, hown, hts, hK, hlk, hA, hD, hfr, hlo, hck, hsk, hnw⟩ := h
  exact fun H locs ls hP hS hl2 => va_get hx hb hts hin hown hK hP q0 he hc k hk (hts _ hl) (fun x hx => hsame ▸ hx) hv d (kk H locs ls hP hS hl2)
theorem wa_getNG (h : Cx X cc own nl fr lo) {ref C host : String} {T : u_T} {N ci index : Nat} (hin : ∀ w ∈ u_ws C T N, w ∈ gT) (q0 : Nat) {fs : List Value} (he : (cellsOf X.1 w)[q0]? = some (Ad X q0, .inr (ci, fs))) (hc : vwCl[ci]? = some (C, T, N)) (k : Nat) (hk : k < N) (hl : Cond.fieldLinkNest own index ref (T k).2.1 (T k).2.2.1 host ∈ gN) (hsame : (T k).1 = ref) {v : Value} (hv : fs[k]? = some v) (d : decode cc pc = .ok (.getfield index, 3)) (kk : Wa X w (pc + 3) lv (v :: rest)) : Wa X w pc lv (.ref (Ad X q0) :: rest) := by
  obtain ⟨E, p, l, e, R, s, m, args, below, meth, c, A, Q, nL, ck, sk⟩ := X
  obtain ⟨hx, hb, hml, hnl, hown, hts, hK, hlk, hA, hD, hfr, hlo, hck, hsk, hnw⟩ := h
  exact fun H locs ls hP hS hl2 => va_getN hx hb hts hin hown hK hP q0 he hc k hk (va_Nw.use rfl (hnw _ hl)) (fun x hx => hsame ▸ hx) hv d (kk H locs ls hP hS hl2)
theorem wa_putG (h : Cx X cc own nl fr lo) {ref C : String} {T : u_T} {N ci index : Nat} (hin : ∀ w ∈ u_ws C T N, w ∈ gT) (ty0 : Nat → FieldType) (hty : ∀ k, k < N → parseFieldDescriptor (T k).2.2.1 = some (ty0 k)) (hnm : ∀ a, a < N → ∀ b, b < N → a ≠ b → (T a).2.1 ≠ (T b).2.1) (q0 : Nat) {fs : List Value} (he : (cellsOf X.1 w)[q0]? = some (Ad X q0, .inr (ci, fs))) (hc : vwCl[ci]? = some (C, T, N)) (k : Nat) (hk : k < N) (hl : Cond.fieldLink own index ref (T k).2.1 (T k).2.2.1 ∈ gT) (hsame : (T k).1 = ref) (hfin : (T k).2.2.2 = false) {ty : FieldType} {v : Value} (hd : parseFieldDescriptor (T k).2.2.1 = some ty) (hn : narrow ty v = v) (hfit : fits ty v = true) (hlen : k < fs.length) (w2 : Wd) (hw2 : (cellsOf X.1 w).set q0 (Ad X q0, .inr (ci, fs.set k v)) = cellsOf X.1 w2) (d : decode cc pc = .ok (.putfield index, 3)) (kk : Wa X w2 (pc + 3) lv rest) : Wa X w pc lv (v :: .ref (Ad X q0) :: rest) := by
  obtain ⟨E, p, l, e, R, s, m, args, below, meth, c, A, Q, nL, ck, sk⟩ := X
  obtain ⟨hx, hb, hml, hnl, hown, hts, hK, hlk, hA, hD, hfr, hlo, hck, hsk, hnw⟩ := h
  exact fun H locs ls hP hS hl2 => va_put hx hb hts hin ty0 hty hnm hown hK hP (hD w) hS q0 he hc k hk (hts _ hl) (fun x hx => hsame ▸ hx) hfin hd hn hfit hlen d (fun H1 locs1 hP1 hD1 hS1 => kk H1 locs1 ls (hw2 ▸ hP1) hS1 hl2)
theorem wa_putNG (h : Cx X cc own nl fr lo) {ref C host : String} {T : u_T} {N ci index : Nat} (hin : ∀ w ∈ u_ws C T N, w ∈ gT) (ty0 : Nat → FieldType) (hty : ∀ k, k < N → parseFieldDescriptor (T k).2.2.1 = some (ty0 k)) (hnm : ∀ a, a < N → ∀ b, b < N → a ≠ b → (T a).2.1 ≠ (T b).2.1) (q0 : Nat) {fs : List Value} (he : (cellsOf X.1 w)[q0]? = some (Ad X q0, .inr (ci, fs))) (hc : vwCl[ci]? = some (C, T, N)) (k : Nat) (hk : k < N) (hl : Cond.fieldLinkNest own index ref (T k).2.1 (T k).2.2.1 host ∈ gN) (hsame : (T k).1 = ref) (hfin : (T k).2.2.2 = false) {ty : FieldType} {v : Value} (hd : parseFieldDescriptor (T k).2.2.1 = some ty) (hn : narrow ty v = v) (hfit : fits ty v = true) (hlen : k < fs.length) (w2 : Wd) (hw2 : (cellsOf X.1 w).set q0 (Ad X q0, .inr (ci, fs.set k v)) = cellsOf X.1 w2) (d : decode cc pc = .ok (.putfield index, 3)) (kk : Wa X w2 (pc + 3) lv rest) : Wa X w pc lv (v :: .ref (Ad X q0) :: rest) := by
  obtain ⟨E, p, l, e, R, s, m, args, below, meth, c, A, Q, nL, ck, sk⟩ := X
  obtain ⟨hx, hb, hml, hnl, hown, hts, hK, hlk, hA, hD, hfr, hlo, hck, hsk, hnw⟩ := h
  exact fun H locs ls hP hS hl2 => va_putN hx hb hts hin ty0 hty hnm hown hK hP (hD w) hS q0 he hc k hk (va_Nw.use rfl (hnw _ hl)) (fun x hx => hsame ▸ hx) hfin hd hn hfit hlen d (fun H1 locs1 hP1 hD1 hS1 => kk H1 locs1 ls (hw2 ▸ hP1) hS1 hl2)
theorem wa_ialdG (h : Cx X cc own nl fr lo) (q0 : Nat) {n : Nat} {f : Nat → Int32} (ha : (cellsOf X.1 w)[q0]? = some (Ad X q0, .inl (X.1.2.2 0, n, .inl f))) {i : Int32} (hg : gd i n = true) (d : decode cc pc = .ok (.iaload, 1)) (kk : Wa X w (pc + 1) lv (.int (f i.toNatClampNeg) :: rest)) : Wa X w pc lv (.int i :: .ref (Ad X q0) :: rest) := by
  obtain ⟨E, p, l, e, R, s, m, args, below, meth, c, A, Q, nL, ck, sk⟩ := X
  obtain ⟨hx, hb, hml, hnl, hown, hts, hK, hlk, hA, hD, hfr, hlo, hck, hsk, hnw⟩ := h
  exact fun H locs ls hP hS hl => va_iald hx hb hK hP q0 0 ha rfl (gd_in hg) d (kk H locs ls hP hS hl)
theorem wa_zaldG (h : Cx X cc own nl fr lo) (q0 : Nat) {n : Nat} {f : Nat → Int32} (ha : (cellsOf X.1 w)[q0]? = some (Ad X q0, .inl (X.1.2.2 2, n, .inl f))) {i : Int32} (hg : gd i n = true) (d : decode cc pc = .ok (.baload, 1)) (kk : Wa X w (pc + 1) lv (.int (f i.toNatClampNeg) :: rest)) : Wa X w pc lv (.int i :: .ref (Ad X q0) :: rest) := by
  obtain ⟨E, p, l, e, R, s, m, args, below, meth, c, A, Q, nL, ck, sk⟩ := X
  obtain ⟨hx, hb, hml, hnl, hown, hts, hK, hlk, hA, hD, hfr, hlo, hck, hsk, hnw⟩ := h
  exact fun H locs ls hP hS hl => va_zald hx hb hK hP q0 2 ha rfl (gd_in hg) d (kk H locs ls hP hS hl)
theorem wa_laldG (h : Cx X cc own nl fr lo) (q0 : Nat) {n : Nat} {f : Nat → Int64} (ha : (cellsOf X.1 w)[q0]? = some (Ad X q0, .inl (X.1.2.2 1, n, .inr (.inl f)))) {i : Int32} (hg : gd i n = true) (d : decode cc pc = .ok (.laload, 1)) (kk : Wa X w (pc + 1) lv (.long (f i.toNatClampNeg) :: rest)) : Wa X w pc lv (.int i :: .ref (Ad X q0) :: rest) := by
  obtain ⟨E, p, l, e, R, s, m, args, below, meth, c, A, Q, nL, ck, sk⟩ := X
  obtain ⟨hx, hb, hml, hnl, hown, hts, hK, hlk, hA, hD, hfr, hlo, hck, hsk, hnw⟩ := h
  exact fun H locs ls hP hS hl => va_lald hx hb hK hP q0 1 ha rfl (gd_in hg) d (kk H locs ls hP hS hl)
theorem wa_iastG (h : Cx X cc own nl fr lo) (q0 : Nat) {n : Nat} {f : Nat → Int32} (ha : (cellsOf X.1 w)[q0]? = some (Ad X q0, .inl (X.1.2.2 0, n, .inl f))) {i x : Int32} (hg : gd i n = true) (w2 : Wd) (hw2 : (cellsOf X.1 w).set q0 (Ad X q0, .inl (X.1.2.2 0, n, .inl (upd f i.toNatClampNeg x))) = cellsOf X.1 w2) (d : decode cc pc = .ok (.iastore, 1)) (kk : Wa X w2 (pc + 1) lv rest) : Wa X w pc lv (.int x :: .int i :: .ref (Ad X q0) :: rest) := by
  obtain ⟨E, p, l, e, R, s, m, args, below, meth, c, A, Q, nL, ck, sk⟩ := X
  obtain ⟨hx, hb, hml, hnl, hown, hts, hK, hlk, hA, hD, hfr, hlo, hck, hsk, hnw⟩ := h
  exact fun H locs ls hP hS hl => va_iast hx hb hK hP (hD w) hS q0 0 ha rfl (gd_in hg) d (fun H1 locs1 hP1 hD1 hS1 => kk H1 locs1 ls (hw2 ▸ hP1) hS1 hl)
theorem wa_zastG (h : Cx X cc own nl fr lo) (q0 : Nat) {n : Nat} {f : Nat → Int32} (ha : (cellsOf X.1 w)[q0]? = some (Ad X q0, .inl (X.1.2.2 2, n, .inl f))) {i x : Int32} (hg : gd i n = true) (hv : vp_nar .boolean x = x) (w2 : Wd) (hw2 : (cellsOf X.1 w).set q0 (Ad X q0, .inl (X.1.2.2 2, n, .inl (upd f i.toNatClampNeg x))) = cellsOf X.1 w2) (d : decode cc pc = .ok (.bastore, 1)) (kk : Wa X w2 (pc + 1) lv rest) : Wa X w pc lv (.int x :: .int i :: .ref (Ad X q0) :: rest) := by
  obtain ⟨E, p, l, e, R, s, m, args, below, meth, c, A, Q, nL, ck, sk⟩ := X
  obtain ⟨hx, hb, hml, hnl, hown, hts, hK, hlk, hA, hD, hfr, hlo, hck, hsk, hnw⟩ := h
  exact fun H locs ls hP hS hl => va_zast hx hb hK hP (hD w) hS q0 2 ha rfl (gd_in hg) d (fun H1 locs1 hP1 hD1 hS1 => kk H1 locs1 ls (by rw [hv] at hP1; exact hw2 ▸ hP1) hS1 hl)
theorem wa_lastG (h : Cx X cc own nl fr lo) (q0 : Nat) {n : Nat} {f : Nat → Int64} (ha : (cellsOf X.1 w)[q0]? = some (Ad X q0, .inl (X.1.2.2 1, n, .inr (.inl f)))) {i : Int32} {x : Int64} (hg : gd i n = true) (w2 : Wd) (hw2 : (cellsOf X.1 w).set q0 (Ad X q0, .inl (X.1.2.2 1, n, .inr (.inl (vp_updL f i.toNatClampNeg x)))) = cellsOf X.1 w2) (d : decode cc pc = .ok (.lastore, 1)) (kk : Wa X w2 (pc + 1) lv rest) : Wa X w pc lv (.long x :: .int i :: .ref (Ad X q0) :: rest) := by
  obtain ⟨E, p, l, e, R, s, m, args, below, meth, c, A, Q, nL, ck, sk⟩ := X
  obtain ⟨hx, hb, hml, hnl, hown, hts, hK, hlk, hA, hD, hfr, hlo, hck, hsk, hnw⟩ := h
  exact fun H locs ls hP hS hl => va_last hx hb hK hP (hD w) hS q0 1 ha rfl (gd_in hg) d (fun H1 locs1 hP1 hD1 hS1 => kk H1 locs1 ls (hw2 ▸ hP1) hS1 hl)
theorem wa_alenG (h : Cx X cc own nl fr lo) (q0 : Nat) {x : vp_A} (ha : (cellsOf X.1 w)[q0]? = some (Ad X q0, .inl (X.1.2.2 0, x))) (v : Int32) (hv : Int32.ofNat x.1 = v) (d : decode cc pc = .ok (.arraylength, 1)) (kk : Wa X w (pc + 1) lv (.int v :: rest)) : Wa X w pc lv (.ref (Ad X q0) :: rest) := by
  obtain ⟨E, p, l, e, R, s, m, args, below, meth, c, A, Q, nL, ck, sk⟩ := X
  obtain ⟨hx, hb, hml, hnl, hown, hts, hK, hlk, hA, hD, hfr, hlo, hck, hsk, hnw⟩ := h
  exact fun H locs ls hP hS hl => va_alen hx hb hK hP q0 0 ha rfl hv d (kk H locs ls hP hS hl)
theorem wa_aaldG (h : Cx X cc own nl fr lo) (q0 : Nat) {n : Nat} {f : Nat → Option Nat} (ha : (cellsOf X.1 w)[q0]? = some (Ad X q0, .inl (X.1.2.2 3, n, .inr (.inr (.inr (.inr f)))))) {i : Int32} (hg : gd i n = true) (v : Nat) (hf : f i.toNatClampNeg = some v) (d : decode cc pc = .ok (.aaload, 1)) (kk : Wa X w (pc + 1) lv (.ref v :: rest)) : Wa X w pc lv (.int i :: .ref (Ad X q0) :: rest) := by
  obtain ⟨E, p, l, e, R, s, m, args, below, meth, c, A, Q, nL, ck, sk⟩ := X
  obtain ⟨hx, hb, hml, hnl, hown, hts, hK, hlk, hA, hD, hfr, hlo, hck, hsk, hnw⟩ := h
  exact fun H locs ls hP hS hl => va_aldq hx hb hK hP q0 3 ha rfl (gd_in hg) d (by rw [hf]; exact kk H locs ls hP hS hl)
theorem wa_copyG (h : Cx X cc own nl fr lo) {i : Nat} (hlk2 : Cond.methodLink own i arraycopyName ∈ gT) (q0 q1 : Nat) {n0 n1 : Nat} {f g : Nat → Int32} (ha0 : (cellsOf X.1 w)[q0]? = some (Ad X q0, .inl (X.1.2.2 0, n0, .inl f))) (ha1 : (cellsOf X.1 w)[q1]? = some (Ad X q1, .inl (X.1.2.2 0, n1, .inl g))) {sp dp n : Int32} (h1 : ¬ sp < 0) (h2 : ¬ dp < 0) (h3 : ¬ n < 0) (h4 : sp.toNatClampNeg + n.toNatClampNeg ≤ n0) (h5 : dp.toNatClampNeg + n.toNatClampNeg ≤ n1) (hf : 1 ≤ fr) (ho : (rest.map fun v => v.category).sum + (nativeFrameWords "java/lang/System" "arraycopy" 5 + 11) ≤ lo) (w2 : Wd) (hw2 : (cellsOf X.1 w).set q1 (Ad X q1, .inl (X.1.2.2 0, n1, .inl (va_cpy f g sp.toNatClampNeg dp.toNatClampNeg n.toNatClampNeg))) = cellsOf X.1 w2) (d : decode cc pc = .ok (.invokestatic i, 3)) (kk : Wa X w2 (pc + 3) lv rest) : Wa X w pc lv (.int n :: .int dp :: .ref (Ad X q1) :: .int sp :: .ref (Ad X q0) :: rest) := by
  obtain ⟨E, p, l, e, R, s, m, args, below, meth, c, A, Q, nL, ck, sk⟩ := X
  obtain ⟨hx, hb, hml, hnl, hown, hts, hK, hlk, hA, hD, hfr, hlo, hck, hsk, hnw⟩ := h
  exact fun H locs ls hP hS hl => va_copyi hx hb (hml.trans hl.1.symm) hown (hts _ hlk2) (hts _ nt_arraycopyName) (hts _ st_arraycopyName) (hts _ in_J10) hK hP (hD w) hS q0 q1 0 0 ha0 ha1 rfl rfl rfl h1 h2 h3 h4 h5 (fun _ _ => rfl) (Nat.le_trans hf hfr) (Nat.le_trans ho hlo) d (fun H1 locs1 hP1 hD1 hS1 => kk H1 locs1 ls (hw2 ▸ hP1) hS1 hl)
def Sx (X : Fx) (b L : Nat) (xs : Nat → Int32) : Prop :=
  match X with
  | (_, _, _, _, _, s, _, _, _, _, _, A, _, _, _, _) => va_X b L xs s s.heap ∧ b < s.heap.size ∧ ¬ A b
theorem wa_slen (h : Cx X cc own nl fr lo) {b L : Nat} {xs : Nat → Int32} (hs : Sx X b L xs) (d : decode cc pc = .ok (.arraylength, 1)) (k : Wa X w (pc + 1) lv (.int (Int32.ofNat L) :: rest)) : Wa X w pc lv (.ref b :: rest) := by
  obtain ⟨E, p, l, e, R, s, m, args, below, meth, c, A, Q, nL, ck, sk⟩ := X
  obtain ⟨hx, hb, hml, hnl, hown, hts, hK, hlk, hA, hD, hfr, hlo, hck, hsk, hnw⟩ := h
  obtain ⟨h1, h2, h3⟩ := hs
  exact fun H locs ls hP hS hl => va_slen hx hb h1 h2 h3 hS d (k H locs ls hP hS hl)
theorem wa_sld (h : Cx X cc own nl fr lo) {b L : Nat} {xs : Nat → Int32} (hs : Sx X b L xs) {i : Int32} (hg : gd i L = true) (d : decode cc pc = .ok (.iaload, 1)) (k : Wa X w (pc + 1) lv (.int (xs i.toNatClampNeg) :: rest)) : Wa X w pc lv (.int i :: .ref b :: rest) := by
  obtain ⟨E, p, l, e, R, s, m, args, below, meth, c, A, Q, nL, ck, sk⟩ := X
  obtain ⟨hx, hb, hml, hnl, hown, hts, hK, hlk, hA, hD, hfr, hlo, hck, hsk, hnw⟩ := h
  obtain ⟨h1, h2, h3⟩ := hs
  exact fun H locs ls hP hS hl => va_sld hx hb h1 h2 h3 hS (gd_in hg) d (k H locs ls hP hS hl)
end WR
def PB (E : ET) (w : Wd) (sz : Nat) : State → Prop := fun U => U.heap.size = sz ∧ va_P E.1 vwCl (cellsOf E w) U.heap ∧ va_K E.1 vwCl (tysOf E) U ∧ va_D (fun _ => True) (cellsOf E w) ∧ ∀ v ∈ gN, va_Nw v U
theorem PB_blind (av : List Value) (E : ET) (w : Wd) (sz : Nat) : FrameBlind (va_Pc av (PB E w sz)) := fun a U g mk q => by
  obtain ⟨q0, q1, qP, qK, qD, qN⟩ := q
  exact ⟨q0, q1, qP, va_K.moved (u := U) (U := U.calling g mk a) (Vm.Alike.refl U.vm) qK, qD, gN_same (u := U) (U := U.calling g mk a) rfl qN⟩
def rmOf (fr lo : Nat) : Room := { frames := fr, cells := 0, slots := 0, locals := lo }
def CB (y : MethodName) (cy : ByteArray) (mL : Nat) (ret : Option FieldType) (n : Nat) : Prop := Cond.code y cy mL ret ∈ gT ∧ Cond.initialized y.cls ∈ gT ∧ y.cls ≠ "java/lang/invoke/MethodHandle" ∧ y.cls ≠ "java/lang/invoke/VarHandle" ∧ (parseMethodDescriptor y.desc).map (fun d => d.parameters.length) = some n
def CV (y : MethodName) (cy : ByteArray) (mL : Nat) (ret : Option FieldType) (n : Nat) : Prop := CB y cy mL ret n ∧ Cond.instanceMethod y ∈ gT ∧ Cond.selects y.cls y y ∈ gT
def CS (y : MethodName) (cy : ByteArray) (mL : Nat) (ret : Option FieldType) (n : Nat) : Prop := CB y cy mL ret n ∧ Cond.static y ∈ gT
def Gi (y : MethodName) (cc : ByteArray) (mL : Nat) (ret : Option FieldType) (fr lo : Nat) (av : ET → List Value) (w w1 : Wd) (r : Int32) : Prop := ∀ (l : Launch) (E : ET) (sz : Nat), Met l y (Cond.code y cc mL ret :: gT) (rmOf fr lo) (va_Pc (av E) (PB E w sz)) (va_Qi (S := Unit) (fun r2 _ => r2 = r) (fun _ t => va_P E.1 vwCl (cellsOf E w1) t.heap) (AA E sz)) 0 0 (AA E sz)
theorem Gi.of {y : MethodName} {cc : ByteArray} {mL fr lo : Nat} {av : ET → List Value} {w w1 : Wd} {r : Int32} {ty : FieldType} (hy : plainName y.cls = true) (hlen : ∀ E, (lg_sl (av E)).length ≤ mL) (body : ∀ X : Fx, Cx X cc y.cls mL fr lo → (∀ pc lv, decode cc pc = .ok (.ireturn, 1) → narrow ty (.int r) = .int r → Wa X w1 pc lv [.int r]) → Wa X w 0 (lv_args 0 (av X.1)) []) : Gi y cc mL (some ty) fr lo av w w1 r := by
  intro l E sz
  refine Met.ofW (cc := cc) (maxL := mL) (ret := (some ty)) hy rfl ?_
  intro p e s m args below meth c s₁ B hml hv
  obtain ⟨rfl, hsz, hP, hK, hD0, hN⟩ := hv
  subst hsz
  have hts := atoms_spec (ws := Cond.code y cc mL (some ty) :: gT) B.pre
  have hD : va_D (AA E s.heap.size) (cellsOf E w) := dom_AA _ hD0
  have hlk := B.notSynchronized
  have hC : Cx (E, p, l, e, rmOf fr lo, s, m, (av E).toArray, below, meth, c, AA E s.heap.size, MQ below (va_Qi (S := Unit) (fun r2 _ => r2 = r) (fun _ t => va_P E.1 vwCl (cellsOf E w1) t.heap) (AA E s.heap.size)) (av E).toArray s 0 0 (AA E s.heap.size), mL, 0, 0) cc y.cls mL fr lo := ⟨B.exec, B.bytes, hml, rfl, findClass_of_methodNamed B.named, fun w h => hts w (List.mem_cons_of_mem _ h), hK, hlk, fun q h => Or.inr h, fun w2 => dom_any w2 hD, Nat.le_refl _, Nat.le_refl _, Nat.zero_le _, Nat.zero_le _, hN⟩
  have hb := body _ hC (fun pc lv d hnar => fun H locs ls hP hS hl => W.zret B.exec B.bytes B.returns hnar (fun t ht hW => ⟨⟨r, (), rfl, rfl, by show va_P E.1 vwCl (cellsOf E w1) t.heap; rw [ht]; exact hP⟩, hS.F ht⟩) hS.2.2 d hlk)
  rw [lg_entry_eq]
  exact hb s.heap [] _ hP va_S.rf (lv_entry (av E) (hlen E))
theorem wa_callVi {X : Fx} {cc : ByteArray} {own : String} {nl fr lo : Nat} (h : Cx X cc own nl fr lo) {w : Wd} {pc : Nat} {lv : List (Nat × Value)} {rest : List Value} {y : MethodName} {cy : ByteArray} {mL n f1 l1 index : Nat} {ret : Option FieldType} {av : ET → List Value} {w1 : Wd} {r : Int32} (g : Gi y cy mL ret f1 l1 av w w1 r) (hM : CV y cy mL ret n) (hml2 : Cond.methodLink own index y ∈ gT) {As st : List Value} (q0 : Nat) {ci N : Nat} {T : u_T} {fs : List Value} (he : (cellsOf X.1 w)[q0]? = some (Ad X q0, .inr (ci, fs))) (hcl : vwCl[ci]? = some (y.cls, T, N)) (hav : av X.1 = .ref (Ad X q0) :: As) (hst : st = As.reverse ++ .ref (Ad X q0) :: rest) (hn : As.length = n) (hR : f1 + 1 ≤ fr ∧ 8 + (mL + 11) + l1 ≤ lo) (hcat : (rest.map fun v => v.category).sum ≤ 8) (d : decode cc pc = .ok (.invokevirtual index, 3)) (kk : Wa X w1 (pc + 3) lv (.int r :: rest)) : Wa X w pc lv st := by
  subst hst
  obtain ⟨E, p, l, e, R, s, m, args, below, meth, c, A, Q, nL, ck, sk⟩ := X
  obtain ⟨hx, hb, hml, hnl, hown, hts, hK, hlk, hA, hD, hfr, hlo, hck, hsk, hnw⟩ := h
  intro H locs ls hP hS hl
  have hav : av E = _ := hav
  obtain ⟨⟨hcd, hini, hd1, hd2, hd3⟩, -⟩ := id hM
  have hF : ∀ q, AA E H.size q → A q := AA_in (hD w) hS.1 hA
  have cb := callB_of (R := R) (own := own) (index := index) n hts (gd_code hcd) rfl rfl rfl (hts _ hini) (hts _ hml2) ⟨hd1, hd2, hd3⟩ (rm := rmOf f1 l1) (mc := 0) (ms := 0) ⟨Nat.le_trans hR.1 hfr, Nat.le_trans hR.2 hlo⟩
  refine va_calli (va_runV (As := As) (rest := rest) ⟨hx, hb, hml, hown, hts⟩ (g l E H.size) ⟨cb, hts _ hM.2.1, hts _ hM.2.2⟩ ⟨PB_blind _ _ _ _, va_recv hK hP hcl he, fun U hU hW => ⟨by rw [hav], by rw [hU], by rw [hU]; exact hP, va_K.moved hW.alike hK, (hD w).weaken (fun _ _ _ _ => trivial), gN_warm hW hnw⟩⟩ rfl hn hl.1 rfl (lv_room hcat) d ⟨hck, hsk⟩) hS (fun q _ hq => hF q hq) hF (fun r2 u t H1 locs1 ht hvm hw hB hz1 hk1 hS1 => by subst hw; exact kk H1 locs1 ls (ht ▸ hB) hS1 hl)
theorem wa_callSi {X : Fx} {cc : ByteArray} {own : String} {nl fr lo : Nat} (h : Cx X cc own nl fr lo) {w : Wd} {pc : Nat} {lv : List (Nat × Value)} {rest : List Value} {y : MethodName} {cy : ByteArray} {mL n f1 l1 index : Nat} {ret : Option FieldType} {av : ET → List Value} {w1 : Wd} {r : Int32} (g : Gi y cy mL ret f1 l1 av w w1 r) (hM : CS y cy mL ret n) (hml2 : Cond.methodLink own index y ∈ gT) {As st : List Value} (hav : av X.1 = As) (hst : st = As.reverse ++ rest) (hn : As.length = n) (hR : f1 + 1 ≤ fr ∧ 8 + (mL + 11) + l1 ≤ lo) (hcat : (rest.map fun v => v.category).sum ≤ 8) (d : decode cc pc = .ok (.invokestatic index, 3)) (kk : Wa X w1 (pc + 3) lv (.int r :: rest)) : Wa X w pc lv st := by
  subst hst
  obtain ⟨E, p, l, e, R, s, m, args, below, meth, c, A, Q, nL, ck, sk⟩ := X
  obtain ⟨hx, hb, hml, hnl, hown, hts, hK, hlk, hA, hD, hfr, hlo, hck, hsk, hnw⟩ := h
  intro H locs ls hP hS hl
  have hav : av E = _ := hav
  obtain ⟨⟨hcd, hini, hd1, hd2, hd3⟩, -⟩ := id hM
  have hF : ∀ q, AA E H.size q → A q := AA_in (hD w) hS.1 hA
  have cb := callB_of (R := R) (own := own) (index := index) n hts (gd_code hcd) rfl rfl rfl (hts _ hini) (hts _ hml2) ⟨hd1, hd2, hd3⟩ (rm := rmOf f1 l1) (mc := 0) (ms := 0) ⟨Nat.le_trans hR.1 hfr, Nat.le_trans hR.2 hlo⟩
  refine va_calli (va_runS (As := As) (rest := rest) ⟨hx, hb, hml, hown, hts⟩ (g l E H.size) ⟨cb, hts _ hM.2⟩ ⟨PB_blind _ _ _ _, fun U hU hW => ⟨by rw [hav], by rw [hU], by rw [hU]; exact hP, va_K.moved hW.alike hK, (hD w).weaken (fun _ _ _ _ => trivial), gN_warm hW hnw⟩⟩ rfl hn hl.1 rfl (lv_room hcat) d ⟨hck, hsk⟩) hS (fun q _ hq => hF q hq) hF (fun r2 u t H1 locs1 ht hvm hw hB hz1 hk1 hS1 => by subst hw; exact kk H1 locs1 ls (ht ▸ hB) hS1 hl)
def Gl (y : MethodName) (cc : ByteArray) (mL : Nat) (ret : Option FieldType) (fr lo : Nat) (av : ET → List Value) (w w1 : Wd) (r : Int64) : Prop := ∀ (l : Launch) (E : ET) (sz : Nat), Met l y (Cond.code y cc mL ret :: gT) (rmOf fr lo) (va_Pc (av E) (PB E w sz)) (va_Ql (S := Unit) (fun r2 _ => r2 = r) (fun _ t => va_P E.1 vwCl (cellsOf E w1) t.heap) (AA E sz)) 0 0 (AA E sz)
theorem Gl.of {y : MethodName} {cc : ByteArray} {mL fr lo : Nat} {av : ET → List Value} {w w1 : Wd} {r : Int64} (hy : plainName y.cls = true) (hlen : ∀ E, (lg_sl (av E)).length ≤ mL) (body : ∀ X : Fx, Cx X cc y.cls mL fr lo → (∀ pc lv, decode cc pc = .ok (.lreturn, 1) → Wa X w1 pc lv [.long r]) → Wa X w 0 (lv_args 0 (av X.1)) []) : Gl y cc mL (some .long) fr lo av w w1 r := by
  intro l E sz
  refine Met.ofW (cc := cc) (maxL := mL) (ret := (some .long)) hy rfl ?_
  intro p e s m args below meth c s₁ B hml hv
  obtain ⟨rfl, hsz, hP, hK, hD0, hN⟩ := hv
  subst hsz
  have hts := atoms_spec (ws := Cond.code y cc mL (some .long) :: gT) B.pre
  have hD : va_D (AA E s.heap.size) (cellsOf E w) := dom_AA _ hD0
  have hlk := B.notSynchronized
  have hC : Cx (E, p, l, e, rmOf fr lo, s, m, (av E).toArray, below, meth, c, AA E s.heap.size, MQ below (va_Ql (S := Unit) (fun r2 _ => r2 = r) (fun _ t => va_P E.1 vwCl (cellsOf E w1) t.heap) (AA E s.heap.size)) (av E).toArray s 0 0 (AA E s.heap.size), mL, 0, 0) cc y.cls mL fr lo := ⟨B.exec, B.bytes, hml, rfl, findClass_of_methodNamed B.named, fun w h => hts w (List.mem_cons_of_mem _ h), hK, hlk, fun q h => Or.inr h, fun w2 => dom_any w2 hD, Nat.le_refl _, Nat.le_refl _, Nat.zero_le _, Nat.zero_le _, hN⟩
  have hb := body _ hC (fun pc lv d => fun H locs ls hP hS hl => W.lret B.exec B.bytes B.returns (fun t ht hW => ⟨⟨r, (), rfl, rfl, by show va_P E.1 vwCl (cellsOf E w1) t.heap; rw [ht]; exact hP⟩, hS.F ht⟩) hS.2.2 d hlk)
  rw [lg_entry_eq]
  exact hb s.heap [] _ hP va_S.rf (lv_entry (av E) (hlen E))
theorem wa_callVl {X : Fx} {cc : ByteArray} {own : String} {nl fr lo : Nat} (h : Cx X cc own nl fr lo) {w : Wd} {pc : Nat} {lv : List (Nat × Value)} {rest : List Value} {y : MethodName} {cy : ByteArray} {mL n f1 l1 index : Nat} {ret : Option FieldType} {av : ET → List Value} {w1 : Wd} {r : Int64} (g : Gl y cy mL ret f1 l1 av w w1 r) (hM : CV y cy mL ret n) (hml2 : Cond.methodLink own index y ∈ gT) {As st : List Value} (q0 : Nat) {ci N : Nat} {T : u_T} {fs : List Value} (he : (cellsOf X.1 w)[q0]? = some (Ad X q0, .inr (ci, fs))) (hcl : vwCl[ci]? = some (y.cls, T, N)) (hav : av X.1 = .ref (Ad X q0) :: As) (hst : st = As.reverse ++ .ref (Ad X q0) :: rest) (hn : As.length = n) (hR : f1 + 1 ≤ fr ∧ 8 + (mL + 11) + l1 ≤ lo) (hcat : (rest.map fun v => v.category).sum ≤ 8) (d : decode cc pc = .ok (.invokevirtual index, 3)) (kk : Wa X w1 (pc + 3) lv (.long r :: rest)) : Wa X w pc lv st := by
  subst hst
  obtain ⟨E, p, l, e, R, s, m, args, below, meth, c, A, Q, nL, ck, sk⟩ := X
  obtain ⟨hx, hb, hml, hnl, hown, hts, hK, hlk, hA, hD, hfr, hlo, hck, hsk, hnw⟩ := h
  intro H locs ls hP hS hl
  have hav : av E = _ := hav
  obtain ⟨⟨hcd, hini, hd1, hd2, hd3⟩, -⟩ := id hM
  have hF : ∀ q, AA E H.size q → A q := AA_in (hD w) hS.1 hA
  have cb := callB_of (R := R) (own := own) (index := index) n hts (gd_code hcd) rfl rfl rfl (hts _ hini) (hts _ hml2) ⟨hd1, hd2, hd3⟩ (rm := rmOf f1 l1) (mc := 0) (ms := 0) ⟨Nat.le_trans hR.1 hfr, Nat.le_trans hR.2 hlo⟩
  refine va_calll (va_runV (As := As) (rest := rest) ⟨hx, hb, hml, hown, hts⟩ (g l E H.size) ⟨cb, hts _ hM.2.1, hts _ hM.2.2⟩ ⟨PB_blind _ _ _ _, va_recv hK hP hcl he, fun U hU hW => ⟨by rw [hav], by rw [hU], by rw [hU]; exact hP, va_K.moved hW.alike hK, (hD w).weaken (fun _ _ _ _ => trivial), gN_warm hW hnw⟩⟩ rfl hn hl.1 rfl (lv_room hcat) d ⟨hck, hsk⟩) hS (fun q _ hq => hF q hq) hF (fun r2 u t H1 locs1 ht hvm hw hB hz1 hk1 hS1 => by subst hw; exact kk H1 locs1 ls (ht ▸ hB) hS1 hl)
theorem wa_callSl {X : Fx} {cc : ByteArray} {own : String} {nl fr lo : Nat} (h : Cx X cc own nl fr lo) {w : Wd} {pc : Nat} {lv : List (Nat × Value)} {rest : List Value} {y : MethodName} {cy : ByteArray} {mL n f1 l1 index : Nat} {ret : Option FieldType} {av : ET → List Value} {w1 : Wd} {r : Int64} (g : Gl y cy mL ret f1 l1 av w w1 r) (hM : CS y cy mL ret n) (hml2 : Cond.methodLink own index y ∈ gT) {As st : List Value} (hav : av X.1 = As) (hst : st = As.reverse ++ rest) (hn : As.length = n) (hR : f1 + 1 ≤ fr ∧ 8 + (mL + 11) + l1 ≤ lo) (hcat : (rest.map fun v => v.category).sum ≤ 8) (d : decode cc pc = .ok (.invokestatic index, 3)) (kk : Wa X w1 (pc + 3) lv (.long r :: rest)) : Wa X w pc lv st := by
  subst hst
  obtain ⟨E, p, l, e, R, s, m, args, below, meth, c, A, Q, nL, ck, sk⟩ := X
  obtain ⟨hx, hb, hml, hnl, hown, hts, hK, hlk, hA, hD, hfr, hlo, hck, hsk, hnw⟩ := h
  intro H locs ls hP hS hl
  have hav : av E = _ := hav
  obtain ⟨⟨hcd, hini, hd1, hd2, hd3⟩, -⟩ := id hM
  have hF : ∀ q, AA E H.size q → A q := AA_in (hD w) hS.1 hA
  have cb := callB_of (R := R) (own := own) (index := index) n hts (gd_code hcd) rfl rfl rfl (hts _ hini) (hts _ hml2) ⟨hd1, hd2, hd3⟩ (rm := rmOf f1 l1) (mc := 0) (ms := 0) ⟨Nat.le_trans hR.1 hfr, Nat.le_trans hR.2 hlo⟩
  refine va_calll (va_runS (As := As) (rest := rest) ⟨hx, hb, hml, hown, hts⟩ (g l E H.size) ⟨cb, hts _ hM.2⟩ ⟨PB_blind _ _ _ _, fun U hU hW => ⟨by rw [hav], by rw [hU], by rw [hU]; exact hP, va_K.moved hW.alike hK, (hD w).weaken (fun _ _ _ _ => trivial), gN_warm hW hnw⟩⟩ rfl hn hl.1 rfl (lv_room hcat) d ⟨hck, hsk⟩) hS (fun q _ hq => hF q hq) hF (fun r2 u t H1 locs1 ht hvm hw hB hz1 hk1 hS1 => by subst hw; exact kk H1 locs1 ls (ht ▸ hB) hS1 hl)
def Gv (y : MethodName) (cc : ByteArray) (mL : Nat) (ret : Option FieldType) (fr lo : Nat) (av : ET → List Value) (w w1 : Wd) : Prop := ∀ (l : Launch) (E : ET) (sz : Nat), Met l y (Cond.code y cc mL ret :: gT) (rmOf fr lo) (va_Pc (av E) (PB E w sz)) (va_Qv (S := Unit) (fun _ => True) (fun _ t => va_P E.1 vwCl (cellsOf E w1) t.heap) (AA E sz)) 0 0 (AA E sz)
theorem Gv.of {y : MethodName} {cc : ByteArray} {mL fr lo : Nat} {av : ET → List Value} {w w1 : Wd} (hy : plainName y.cls = true) (hlen : ∀ E, (lg_sl (av E)).length ≤ mL) (body : ∀ X : Fx, Cx X cc y.cls mL fr lo → (∀ pc lv, decode cc pc = .ok (.return_, 1) → Wa X w1 pc lv []) → Wa X w 0 (lv_args 0 (av X.1)) []) : Gv y cc mL none fr lo av w w1 := by
  intro l E sz
  refine Met.ofW (cc := cc) (maxL := mL) (ret := none) hy rfl ?_
  intro p e s m args below meth c s₁ B hml hv
  obtain ⟨rfl, hsz, hP, hK, hD0, hN⟩ := hv
  subst hsz
  have hts := atoms_spec (ws := Cond.code y cc mL none :: gT) B.pre
  have hD : va_D (AA E s.heap.size) (cellsOf E w) := dom_AA _ hD0
  have hlk := B.notSynchronized
  have hC : Cx (E, p, l, e, rmOf fr lo, s, m, (av E).toArray, below, meth, c, AA E s.heap.size, MQ below (va_Qv (S := Unit) (fun _ => True) (fun _ t => va_P E.1 vwCl (cellsOf E w1) t.heap) (AA E s.heap.size)) (av E).toArray s 0 0 (AA E s.heap.size), mL, 0, 0) cc y.cls mL fr lo := ⟨B.exec, B.bytes, hml, rfl, findClass_of_methodNamed B.named, fun w h => hts w (List.mem_cons_of_mem _ h), hK, hlk, fun q h => Or.inr h, fun w2 => dom_any w2 hD, Nat.le_refl _, Nat.le_refl _, Nat.zero_le _, Nat.zero_le _, hN⟩
  have hb := body _ hC (fun pc lv d => fun H locs ls hP hS hl => W.vret B.exec B.bytes B.returns (fun t ht hW => ⟨⟨(), rfl, trivial, by show va_P E.1 vwCl (cellsOf E w1) t.heap; rw [ht]; exact hP⟩, hS.F ht⟩) hS.2.2 d hlk)
  rw [lg_entry_eq]
  exact hb s.heap [] _ hP va_S.rf (lv_entry (av E) (hlen E))
theorem wa_callVv {X : Fx} {cc : ByteArray} {own : String} {nl fr lo : Nat} (h : Cx X cc own nl fr lo) {w : Wd} {pc : Nat} {lv : List (Nat × Value)} {rest : List Value} {y : MethodName} {cy : ByteArray} {mL n f1 l1 index : Nat} {ret : Option FieldType} {av : ET → List Value} {w1 : Wd} (g : Gv y cy mL ret f1 l1 av w w1) (hM : CV y cy mL ret n) (hml2 : Cond.methodLink own index y ∈ gT) {As st : List Value} (q0 : Nat) {ci N : Nat} {T : u_T} {fs : List Value} (he : (cellsOf X.1 w)[q0]? = some (Ad X q0, .inr (ci, fs))) (hcl : vwCl[ci]? = some (y.cls, T, N)) (hav : av X.1 = .ref (Ad X q0) :: As) (hst : st = As.reverse ++ .ref (Ad X q0) :: rest) (hn : As.length = n) (hR : f1 + 1 ≤ fr ∧ 8 + (mL + 11) + l1 ≤ lo) (hcat : (rest.map fun v => v.category).sum ≤ 8) (d : decode cc pc = .ok (.invokevirtual index, 3)) (kk : Wa X w1 (pc + 3) lv (rest)) : Wa X w pc lv st := by
  subst hst
  obtain ⟨E, p, l, e, R, s, m, args, below, meth, c, A, Q, nL, ck, sk⟩ := X
  obtain ⟨hx, hb, hml, hnl, hown, hts, hK, hlk, hA, hD, hfr, hlo, hck, hsk, hnw⟩ := h
  intro H locs ls hP hS hl
  have hav : av E = _ := hav
  obtain ⟨⟨hcd, hini, hd1, hd2, hd3⟩, -⟩ := id hM
  have hF : ∀ q, AA E H.size q → A q := AA_in (hD w) hS.1 hA
  have cb := callB_of (R := R) (own := own) (index := index) n hts (gd_code hcd) rfl rfl rfl (hts _ hini) (hts _ hml2) ⟨hd1, hd2, hd3⟩ (rm := rmOf f1 l1) (mc := 0) (ms := 0) ⟨Nat.le_trans hR.1 hfr, Nat.le_trans hR.2 hlo⟩
  refine va_callv (va_runV (As := As) (rest := rest) ⟨hx, hb, hml, hown, hts⟩ (g l E H.size) ⟨cb, hts _ hM.2.1, hts _ hM.2.2⟩ ⟨PB_blind _ _ _ _, va_recv hK hP hcl he, fun U hU hW => ⟨by rw [hav], by rw [hU], by rw [hU]; exact hP, va_K.moved hW.alike hK, (hD w).weaken (fun _ _ _ _ => trivial), gN_warm hW hnw⟩⟩ rfl hn hl.1 rfl (lv_room hcat) d ⟨hck, hsk⟩) hS (fun q _ hq => hF q hq) hF (fun u t H1 locs1 ht hvm hw hB hz1 hk1 hS1 => kk H1 locs1 ls (ht ▸ hB) hS1 hl)
theorem wa_callSv {X : Fx} {cc : ByteArray} {own : String} {nl fr lo : Nat} (h : Cx X cc own nl fr lo) {w : Wd} {pc : Nat} {lv : List (Nat × Value)} {rest : List Value} {y : MethodName} {cy : ByteArray} {mL n f1 l1 index : Nat} {ret : Option FieldType} {av : ET → List Value} {w1 : Wd} (g : Gv y cy mL ret f1 l1 av w w1) (hM : CS y cy mL ret n) (hml2 : Cond.methodLink own index y ∈ gT) {As st : List Value} (hav : av X.1 = As) (hst : st = As.reverse ++ rest) (hn : As.length = n) (hR : f1 + 1 ≤ fr ∧ 8 + (mL + 11) + l1 ≤ lo) (hcat : (rest.map fun v => v.category).sum ≤ 8) (d : decode cc pc = .ok (.invokestatic index, 3)) (kk : Wa X w1 (pc + 3) lv (rest)) : Wa X w pc lv st := by
  subst hst
  obtain ⟨E, p, l, e, R, s, m, args, below, meth, c, A, Q, nL, ck, sk⟩ := X
  obtain ⟨hx, hb, hml, hnl, hown, hts, hK, hlk, hA, hD, hfr, hlo, hck, hsk, hnw⟩ := h
  intro H locs ls hP hS hl
  have hav : av E = _ := hav
  obtain ⟨⟨hcd, hini, hd1, hd2, hd3⟩, -⟩ := id hM
  have hF : ∀ q, AA E H.size q → A q := AA_in (hD w) hS.1 hA
  have cb := callB_of (R := R) (own := own) (index := index) n hts (gd_code hcd) rfl rfl rfl (hts _ hini) (hts _ hml2) ⟨hd1, hd2, hd3⟩ (rm := rmOf f1 l1) (mc := 0) (ms := 0) ⟨Nat.le_trans hR.1 hfr, Nat.le_trans hR.2 hlo⟩
  refine va_callv (va_runS (As := As) (rest := rest) ⟨hx, hb, hml, hown, hts⟩ (g l E H.size) ⟨cb, hts _ hM.2⟩ ⟨PB_blind _ _ _ _, fun U hU hW => ⟨by rw [hav], by rw [hU], by rw [hU]; exact hP, va_K.moved hW.alike hK, (hD w).weaken (fun _ _ _ _ => trivial), gN_warm hW hnw⟩⟩ rfl hn hl.1 rfl (lv_room hcat) d ⟨hck, hsk⟩) hS (fun q _ hq => hF q hq) hF (fun u t H1 locs1 ht hvm hw hB hz1 hk1 hS1 => kk H1 locs1 ls (ht ▸ hB) hS1 hl)
