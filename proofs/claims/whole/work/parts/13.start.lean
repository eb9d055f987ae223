/-! THE CLAIM OUT OF ONE WALK OF THE LAW'S BODY. Your part is whole_start (and what it stands on); all else here is the same for every law, but numbers. -/
def R_law : String := "StageCountLaw"
def lw_P (b : Addr) (xs : List Int32) (args : Array Value) (s : State) : Prop := args = #[.ref b] ∧ s.IntsAt b xs ∧ xs.length ≤ 2048 ∧ (Jvm.Cond.and given_1 narrow_1).before args s = true
def lw_Q (_ : Array Value) (s : State) (o : Outcome) (t : State) : Prop := o = .returned (some (.int 1)) ∧ Framed s o t [] 600000 7302250
def lw_Z (below : List Frame) (a : Array Value) (s : State) : State → Prop := fun t => ∃ o, t.status = .running ∧ Ended t below o ∧ lw_Q a s o t
/-- the law's own end, with 1 on the stack, nothing written that was there before, its room as the claim has it -/
theorem lw_ret {p : Program} {l : Launch} {e : Env} {s : State} {m : MethodId} {below : List Frame} {meth : Method} {c : Code} {b : Nat} (hx : p.tables.exec = Jvm.exec) (hb : c.code = code) (hr : meth.sig.returnType = ret) (hlocks : meth.locks = false) {pc : Nat} {H : Heap} {ls : Array Slot} (hdg : decode code pc = .ok (.ireturn, 1)) : W p l e room_1 s m #[Value.ref b] below meth c H [] 600000 7302250 (lw_Z below #[Value.ref b] s) (F0 m pc ls [.int 1]) := by
  intro T hT X
  obtain ⟨fs, hret, hrun, hended, hW, hframe⟩ := X.leave (v := some (.int 1)) (hlocks := hlocks) (fun h => by rw [hr] at h; cases h)
  have hmeth' : T.vm.method? m = some meth := X.method'
  refine ⟨T.setFrames fs, ?_, .returned (some (.int 1)), hrun, hended, rfl, ⟨_, rfl⟩, hW, hframe⟩
  jvm_step X.here [X.here.top, hx, hb, hdg, hmeth', hr, ret, narrow_b1]
  (try refine ⟨rfl, ?_⟩); (try refine ⟨rfl, ?_⟩)
  first | (intro acts; rw [hret _ acts rfl rfl rfl]) | rw [hret _ _ rfl rfl rfl]
  exact Steps.refl _
/-- what holds at the law's entry: the machine, the code, the tables' words (any of lw_tbl by 'hts w (by decide +kernel)'), the script of L ints xs at the cell b, what the Statement gives of the start (any of its parts by flat_of_before) -/
def lw_At (p : Program) (s : State) (m : MethodId) (meth : Method) (c : Code) (b L : Nat) (xs : Nat → Int32) : Prop :=
  p.tables.exec = Jvm.exec ∧ c.code = code ∧ meth.sig.returnType = ret ∧ c.maxLocals = 4 ∧ s.vm.findClass R_law = some m.cls ∧ (∀ w ∈ lw_tbl, w.before #[Value.ref b] s = true) ∧ va_X b L xs s s.heap ∧ b < s.heap.size ∧ meth.locks = false ∧ (Jvm.Cond.and given_1 narrow_1).before #[Value.ref b] s = true
/-- the world behind the constructors -/
def w00 : Wd := (fun k => if k = 9 then 3 else if k = 14 then 3 else if k = 19 then 3 else if k = 30 then 3 else 0, fun _ _ => 0, fun _ _ => 0)
set_option maxRecDepth 100000 in
set_option maxHeartbeats 4000000 in
theorem whole_start_open (hmath : ∀ (xs : Nat → Int32) (L : Nat), L ≤ 2048 → L_L_law_18 xs L fu (w00, 0) = some ()) {p : Program} {e : Env} {s : State} {m : MethodId} {below : List Frame} {meth : Method} {c : Code} (l : Launch) {b L : Nat} {xs : Nat → Int32} (hL : L ≤ 2048) (C0 : lw_At p s m meth c b L xs) : W p l e room_1 s m #[Value.ref b] below meth c s.heap [] 0 0 (lw_Z below #[Value.ref b] s) (entryFrame m ([Value.ref b] : List Value).toArray 4) := by
  obtain ⟨hx, hb, hr, hml, hown, hts, hX, hbl, hlocks, hgv⟩ := id C0
  have hgT : ∀ w ∈ gT, w.before #[Value.ref b] s = true := fun w h => hts w (List.mem_filter.mp h).1
  have hgN : ∀ v ∈ gN, va_Nw v s := by
    intro v hv
    obtain ⟨h1, h2⟩ := List.mem_filter.mp hv
    have h3 := hts v h1
    cases v <;> first | (cases h2; done) | exact va_Nw.of rfl h3
  have hAO : va_AO RX3 s := hts _ ao_in
  obtain ⟨c0, i0, k0⟩ := u_known (C := RX0) (T := TX0) (N := 5) (n := 5) hgT inX0 (hgT _ is_X0)
  obtain ⟨c1, i1, k1⟩ := u_known (C := RX1) (T := TX1) (N := 3) (n := 3) hgT inX1 (hgT _ is_X1)
  obtain ⟨c2, i2, k2⟩ := u_known (C := RX2) (T := TX2) (N := 11) (n := 11) hgT inX2 (hgT _ is_X2)
  obtain ⟨c3, i3, k3⟩ := u_known (C := RX3) (T := TX3) (N := 10) (n := 10) hgT inX3 (hgT _ is_X3)
  obtain ⟨c4, i4, k4⟩ := u_known (C := RX4) (T := TX4) (N := 5) (n := 5) hgT inX4 (hgT _ is_X4)
  obtain ⟨c5, i5, k5⟩ := u_known (C := RX5) (T := TX5) (N := 8) (n := 8) hgT inX5 (hgT _ is_X5)
  obtain ⟨c6, i6, k6⟩ := u_known (C := RX6) (T := TX6) (N := 27) (n := 27) hgT inX6 (hgT _ is_X6)
  obtain ⟨dC, dI, hKc⟩ : ∃ (dC : Nat → ClassId) (dI : Nat → Nat → Nat), ∀ (k : Nat) (q : vw_C), vwCl[k]? = some q → u_Kn s q.1 q.2.1 q.2.2 (dC k) (dI k) := by
    refine ⟨fun k => [c0, c1, c2, c3, c4, c5, c6].getD k c0, fun k => [i0, i1, i2, i3, i4, i5, i6].getD k i0, ?_⟩
    intro k q hq
    match k, hq with
    | 0, hq => cases hq; exact k0
    | 1, hq => cases hq; exact k1
    | 2, hq => cases hq; exact k2
    | 3, hq => cases hq; exact k3
    | 4, hq => cases hq; exact k4
    | 5, hq => cases hq; exact k5
    | 6, hq => cases hq; exact k6
    | k + 7, hq => simp [vwCl] at hq
  obtain ⟨a0, kA0, cm0, f0, g0, h0⟩ := Cond.arrayClass_spec (hgT _ ac_I)
  obtain ⟨a1, kA1, cm1, f1, g1, h1⟩ := Cond.arrayClass_spec (hgT _ ac_J)
  obtain ⟨a2, kA2, cm2, f2, g2, h2⟩ := Cond.arrayClass_spec (hgT _ ac_Z)
  obtain ⟨cm3, a3, kA3, f3, f4, g3, h3, f5⟩ := Cond.arrayOver_spec (hts _ ao_in)
  obtain ⟨ca, hK⟩ : ∃ ca : Nat → ClassId, va_K (dC, dI) vwCl (tys4 ca) s := by
    refine ⟨fun k => [a0, a1, a2, a3].getD k a0, hKc, fun k q hq => ?_⟩
    match k, hq with
    | 0, hq => cases hq; exact ⟨fun n z => ⟨fun k h => (by cases h), kA0, g0, cm0, h0⟩, f0⟩
    | 1, hq => cases hq; exact ⟨fun n z => ⟨fun k h => (by cases h), kA1, g1, cm1, h1⟩, f1⟩
    | 2, hq => cases hq; exact ⟨fun n z => ⟨fun k h => (by cases h), kA2, g2, cm2, h2⟩, f2⟩
    | 3, hq => cases hq; exact ⟨fun n z => ⟨fun k h => (by cases h), kA3, g3, cm3, h3⟩, kA3, cm3, g3, h3, f3, f5⟩
    | k + 4, hq => simp [tys4] at hq
  obtain ⟨Y, eY⟩ : ∃ Y : Fy, Y = ((dC, dI), ca, p, l, e, room_1, s, m, #[Value.ref b], below, meth, c, (fun q : Nat => s.heap.size ≤ q), lw_Z below #[Value.ref b] s, 4) := ⟨_, rfl⟩
  have hY : Cy Y cL_law RL 4 2048 84000 600000 7302250 false := by
    rw [eY]
    exact ⟨hx, hb, hml, rfl, hown, hgT, hK, hlocks, fun _ h => h, (fun h => by cases h), Nat.le_refl _, Nat.le_refl _, Nat.le_refl _, Nat.le_refl _, hgN, hAO⟩
  have key : Wk Y [] 0 0 0 [(0, .ref b)] [] := by
    refine wk_new hY inX5 tyX5 tyX5_ok cl_L_7 is_X5 in_X5 (ci := 5) rfl [.null, .null, .null, .null, .null, .null, .null, .null] (fun j hj => by rcases (show j = 0 ∨ j = 1 ∨ j = 2 ∨ j = 3 ∨ j = 4 ∨ j = 5 ∨ j = 6 ∨ j = 7 by omega) with rfl | rfl | rfl | rfl | rfl | rfl | rfl | rfl <;> rfl) (by decide) (by decide) dL_law_0 (fun q1 => ?_)
    refine (show Wk Y [(q1, .inr (5, [.null, .null, .null, .null, .null, .null, .null, .null]))] 1 8 3 [(0, .ref b)] [.ref q1] from ?_)
    refine wk_dup hY rfl dL_law_3 ?_
    refine wk_init hY (ck := 1) (sk := 8) (wr := []) gX5_init ⟨cd_X5_init, in_X5, by decide +kernel, by decide +kernel, by decide +kernel⟩ rfl im_X5_init ml_L_9 0 [] rfl rfl (by decide) (by decide) ⟨by decide, by decide⟩ (by decide) (by decide) (Nat.le_of_ble_eq_true rfl) dL_law_4 (fun u => ?_)
    obtain ⟨q2, e_q2⟩ : ∃ z, z = u.getD 0 0 := ⟨_, rfl⟩
    obtain ⟨q3, e_q3⟩ : ∃ z, z = u.getD 1 0 := ⟨_, rfl⟩
    obtain ⟨q4, e_q4⟩ : ∃ z, z = u.getD 2 0 := ⟨_, rfl⟩
    obtain ⟨q5, e_q5⟩ : ∃ z, z = u.getD 3 0 := ⟨_, rfl⟩
    obtain ⟨q6, e_q6⟩ : ∃ z, z = u.getD 4 0 := ⟨_, rfl⟩
    obtain ⟨q7, e_q7⟩ : ∃ z, z = u.getD 5 0 := ⟨_, rfl⟩
    obtain ⟨q8, e_q8⟩ : ∃ z, z = u.getD 6 0 := ⟨_, rfl⟩
    obtain ⟨q9, e_q9⟩ : ∃ z, z = u.getD 7 0 := ⟨_, rfl⟩
    obtain ⟨q10, e_q10⟩ : ∃ z, z = u.getD 8 0 := ⟨_, rfl⟩
    obtain ⟨q11, e_q11⟩ : ∃ z, z = u.getD 9 0 := ⟨_, rfl⟩
    obtain ⟨q12, e_q12⟩ : ∃ z, z = u.getD 10 0 := ⟨_, rfl⟩
    obtain ⟨q13, e_q13⟩ : ∃ z, z = u.getD 11 0 := ⟨_, rfl⟩
    obtain ⟨q14, e_q14⟩ : ∃ z, z = u.getD 12 0 := ⟨_, rfl⟩
    obtain ⟨q15, e_q15⟩ : ∃ z, z = u.getD 13 0 := ⟨_, rfl⟩
    obtain ⟨q16, e_q16⟩ : ∃ z, z = u.getD 14 0 := ⟨_, rfl⟩
    obtain ⟨q17, e_q17⟩ : ∃ z, z = u.getD 15 0 := ⟨_, rfl⟩
    obtain ⟨q18, e_q18⟩ : ∃ z, z = u.getD 16 0 := ⟨_, rfl⟩
    obtain ⟨q19, e_q19⟩ : ∃ z, z = u.getD 17 0 := ⟨_, rfl⟩
    obtain ⟨q20, e_q20⟩ : ∃ z, z = u.getD 18 0 := ⟨_, rfl⟩
    obtain ⟨q21, e_q21⟩ : ∃ z, z = u.getD 19 0 := ⟨_, rfl⟩
    obtain ⟨q22, e_q22⟩ : ∃ z, z = u.getD 20 0 := ⟨_, rfl⟩
    obtain ⟨q23, e_q23⟩ : ∃ z, z = u.getD 21 0 := ⟨_, rfl⟩
    obtain ⟨q24, e_q24⟩ : ∃ z, z = u.getD 22 0 := ⟨_, rfl⟩
    obtain ⟨q25, e_q25⟩ : ∃ z, z = u.getD 23 0 := ⟨_, rfl⟩
    obtain ⟨q26, e_q26⟩ : ∃ z, z = u.getD 24 0 := ⟨_, rfl⟩
    obtain ⟨q27, e_q27⟩ : ∃ z, z = u.getD 25 0 := ⟨_, rfl⟩
    obtain ⟨q28, e_q28⟩ : ∃ z, z = u.getD 26 0 := ⟨_, rfl⟩
    obtain ⟨q29, e_q29⟩ : ∃ z, z = u.getD 27 0 := ⟨_, rfl⟩
    obtain ⟨q30, e_q30⟩ : ∃ z, z = u.getD 28 0 := ⟨_, rfl⟩
    obtain ⟨q31, e_q31⟩ : ∃ z, z = u.getD 29 0 := ⟨_, rfl⟩
    obtain ⟨q32, e_q32⟩ : ∃ z, z = u.getD 30 0 := ⟨_, rfl⟩
    obtain ⟨q33, e_q33⟩ : ∃ z, z = u.getD 31 0 := ⟨_, rfl⟩
    obtain ⟨q34, e_q34⟩ : ∃ z, z = u.getD 32 0 := ⟨_, rfl⟩
    obtain ⟨q35, e_q35⟩ : ∃ z, z = u.getD 33 0 := ⟨_, rfl⟩
    obtain ⟨q36, e_q36⟩ : ∃ z, z = u.getD 34 0 := ⟨_, rfl⟩
    refine (show Wk Y ([] ++ nw_X5 Y.2.1 q1 (u.getD 0 0) (u.getD 1 0) (u.getD 2 0) (u.getD 3 0) (u.getD 4 0) (u.getD 5 0) (u.getD 6 0) (u.getD 7 0) (u.getD 8 0) (u.getD 9 0) (u.getD 10 0) (u.getD 11 0) (u.getD 12 0) (u.getD 13 0) (u.getD 14 0) (u.getD 15 0) (u.getD 16 0) (u.getD 17 0) (u.getD 18 0) (u.getD 19 0) (u.getD 20 0) (u.getD 21 0) (u.getD 22 0) (u.getD 23 0) (u.getD 24 0) (u.getD 25 0) (u.getD 26 0) (u.getD 27 0) (u.getD 28 0) (u.getD 29 0) (u.getD 30 0) (u.getD 31 0) (u.getD 32 0) (u.getD 33 0) (u.getD 34 0)) 36 720 7 [(0, .ref b)] [.ref q1] from ?_)
    rw [← e_q2, ← e_q3, ← e_q4, ← e_q5, ← e_q6, ← e_q7, ← e_q8, ← e_q9, ← e_q10, ← e_q11, ← e_q12, ← e_q13, ← e_q14, ← e_q15, ← e_q16, ← e_q17, ← e_q18, ← e_q19, ← e_q20, ← e_q21, ← e_q22, ← e_q23, ← e_q24, ← e_q25, ← e_q26, ← e_q27, ← e_q28, ← e_q29, ← e_q30, ← e_q31, ← e_q32, ← e_q33, ← e_q34, ← e_q35, ← e_q36]
    refine (show Wk Y [(q1, .inr (5, [.ref q2, .ref q8, .ref q21, .ref q22, .ref q26, .ref q30, .ref q34, .ref q36])), (q2, .inr (3, [.int 0, .int 3, .int 0, .int 0, .int 0, .ref q3, .ref q4, .ref q5, .ref q6, .ref q7])), (q3, .inl (Y.2.1 0, 8, .inl (fun _ => 0))), (q4, .inl (Y.2.1 0, 8, .inl (fun _ => 0))), (q5, .inl (Y.2.1 0, 6, .inl (fun _ => 0))), (q6, .inl (Y.2.1 0, 6, .inl (fun _ => 0))), (q7, .inl (Y.2.1 0, 6, .inl (fun _ => 0))), (q8, .inl (Y.2.1 3, 2, .inr (.inr (.inr (.inr (va_up (va_up (fun _ => none) 0 (some q9)) 1 (some q15))))))), (q9, .inr (3, [.int 0, .int 3, .int 0, .int 0, .int 0, .ref q10, .ref q11, .ref q12, .ref q13, .ref q14])), (q10, .inl (Y.2.1 0, 8, .inl (fun _ => 0))), (q11, .inl (Y.2.1 0, 8, .inl (fun _ => 0))), (q12, .inl (Y.2.1 0, 6, .inl (fun _ => 0))), (q13, .inl (Y.2.1 0, 6, .inl (fun _ => 0))), (q14, .inl (Y.2.1 0, 6, .inl (fun _ => 0))), (q15, .inr (3, [.int 0, .int 3, .int 0, .int 0, .int 0, .ref q16, .ref q17, .ref q18, .ref q19, .ref q20])), (q16, .inl (Y.2.1 0, 8, .inl (fun _ => 0))), (q17, .inl (Y.2.1 0, 8, .inl (fun _ => 0))), (q18, .inl (Y.2.1 0, 6, .inl (fun _ => 0))), (q19, .inl (Y.2.1 0, 6, .inl (fun _ => 0))), (q20, .inl (Y.2.1 0, 6, .inl (fun _ => 0))), (q21, .inl (Y.2.1 2, 2, .inl (fun _ => 0))), (q22, .inr (2, [.ref q23, .int 0, .int 0, .int 0, .int 0, .int 0, .ref q24, .int 0, .int 0, .int 0, .ref q25])), (q23, .inl (Y.2.1 0, 40, .inl (fun _ => 0))), (q24, .inl (Y.2.1 0, 40, .inl (fun _ => 0))), (q25, .inl (Y.2.1 0, 40, .inl (fun _ => 0))), (q26, .inr (0, [.int 0, .ref q27, .int 0, .ref q28, .ref q29])), (q27, .inl (Y.2.1 0, 8, .inl (fun _ => 0))), (q28, .inl (Y.2.1 1, 8, .inr (.inl (fun _ => 0)))), (q29, .inl (Y.2.1 0, 8, .inl (fun _ => 0))), (q30, .inr (4, [.int 0, .ref q31, .int 0, .ref q32, .ref q33])), (q31, .inl (Y.2.1 0, 6, .inl (fun _ => 0))), (q32, .inl (Y.2.1 0, 6, .inl (fun _ => 0))), (q33, .inl (Y.2.1 0, 384, .inl (fun _ => 0))), (q34, .inr (1, [.int 0, .int 0, .ref q35])), (q35, .inl (Y.2.1 0, 3, .inl (fun _ => 0))), (q36, .inl (Y.2.1 0, 9, .inl (fun _ => 0)))] 36 720 7 [(0, .ref b)] [.ref q1] from ?_)
    refine wk_astore_n hY (lv2 := [(1, .ref q1), (0, .ref b)]) rfl (by decide) rfl dL_law_7 ?_
    refine wk_new hY inX6 tyX6 tyX6_ok cl_L_10 is_X6 in_X6 (ci := 6) rfl [.int 0, .int 0, .int 0, .null, .null, .int 0, .null, .null, .int 0, .null, .int 0, .null, .null, .int 0, .int 0, .int 0, .int 0, .null, .null, .null, .null, .null, .null, .null, .null, .int 0, .int 0] (fun j hj => by rcases (show j = 0 ∨ j = 1 ∨ j = 2 ∨ j = 3 ∨ j = 4 ∨ j = 5 ∨ j = 6 ∨ j = 7 ∨ j = 8 ∨ j = 9 ∨ j = 10 ∨ j = 11 ∨ j = 12 ∨ j = 13 ∨ j = 14 ∨ j = 15 ∨ j = 16 ∨ j = 17 ∨ j = 18 ∨ j = 19 ∨ j = 20 ∨ j = 21 ∨ j = 22 ∨ j = 23 ∨ j = 24 ∨ j = 25 ∨ j = 26 by omega) with rfl | rfl | rfl | rfl | rfl | rfl | rfl | rfl | rfl | rfl | rfl | rfl | rfl | rfl | rfl | rfl | rfl | rfl | rfl | rfl | rfl | rfl | rfl | rfl | rfl | rfl | rfl <;> rfl) (by decide) (by decide) dL_law_8 (fun q37 => ?_)
    refine (show Wk Y [(q1, .inr (5, [.ref q2, .ref q8, .ref q21, .ref q22, .ref q26, .ref q30, .ref q34, .ref q36])), (q2, .inr (3, [.int 0, .int 3, .int 0, .int 0, .int 0, .ref q3, .ref q4, .ref q5, .ref q6, .ref q7])), (q3, .inl (Y.2.1 0, 8, .inl (fun _ => 0))), (q4, .inl (Y.2.1 0, 8, .inl (fun _ => 0))), (q5, .inl (Y.2.1 0, 6, .inl (fun _ => 0))), (q6, .inl (Y.2.1 0, 6, .inl (fun _ => 0))), (q7, .inl (Y.2.1 0, 6, .inl (fun _ => 0))), (q8, .inl (Y.2.1 3, 2, .inr (.inr (.inr (.inr (va_up (va_up (fun _ => none) 0 (some q9)) 1 (some q15))))))), (q9, .inr (3, [.int 0, .int 3, .int 0, .int 0, .int 0, .ref q10, .ref q11, .ref q12, .ref q13, .ref q14])), (q10, .inl (Y.2.1 0, 8, .inl (fun _ => 0))), (q11, .inl (Y.2.1 0, 8, .inl (fun _ => 0))), (q12, .inl (Y.2.1 0, 6, .inl (fun _ => 0))), (q13, .inl (Y.2.1 0, 6, .inl (fun _ => 0))), (q14, .inl (Y.2.1 0, 6, .inl (fun _ => 0))), (q15, .inr (3, [.int 0, .int 3, .int 0, .int 0, .int 0, .ref q16, .ref q17, .ref q18, .ref q19, .ref q20])), (q16, .inl (Y.2.1 0, 8, .inl (fun _ => 0))), (q17, .inl (Y.2.1 0, 8, .inl (fun _ => 0))), (q18, .inl (Y.2.1 0, 6, .inl (fun _ => 0))), (q19, .inl (Y.2.1 0, 6, .inl (fun _ => 0))), (q20, .inl (Y.2.1 0, 6, .inl (fun _ => 0))), (q21, .inl (Y.2.1 2, 2, .inl (fun _ => 0))), (q22, .inr (2, [.ref q23, .int 0, .int 0, .int 0, .int 0, .int 0, .ref q24, .int 0, .int 0, .int 0, .ref q25])), (q23, .inl (Y.2.1 0, 40, .inl (fun _ => 0))), (q24, .inl (Y.2.1 0, 40, .inl (fun _ => 0))), (q25, .inl (Y.2.1 0, 40, .inl (fun _ => 0))), (q26, .inr (0, [.int 0, .ref q27, .int 0, .ref q28, .ref q29])), (q27, .inl (Y.2.1 0, 8, .inl (fun _ => 0))), (q28, .inl (Y.2.1 1, 8, .inr (.inl (fun _ => 0)))), (q29, .inl (Y.2.1 0, 8, .inl (fun _ => 0))), (q30, .inr (4, [.int 0, .ref q31, .int 0, .ref q32, .ref q33])), (q31, .inl (Y.2.1 0, 6, .inl (fun _ => 0))), (q32, .inl (Y.2.1 0, 6, .inl (fun _ => 0))), (q33, .inl (Y.2.1 0, 384, .inl (fun _ => 0))), (q34, .inr (1, [.int 0, .int 0, .ref q35])), (q35, .inl (Y.2.1 0, 3, .inl (fun _ => 0))), (q36, .inl (Y.2.1 0, 9, .inl (fun _ => 0))), (q37, .inr (6, [.int 0, .int 0, .int 0, .null, .null, .int 0, .null, .null, .int 0, .null, .int 0, .null, .null, .int 0, .int 0, .int 0, .int 0, .null, .null, .null, .null, .null, .null, .null, .null, .int 0, .int 0]))] 37 747 11 [(1, .ref q1), (0, .ref b)] [.ref q37] from ?_)
    refine wk_dup hY rfl dL_law_11 ?_
    refine wk_init hY (ck := 37) (sk := 747) (wr := [(q1, .inr (5, [.ref q2, .ref q8, .ref q21, .ref q22, .ref q26, .ref q30, .ref q34, .ref q36])), (q2, .inr (3, [.int 0, .int 3, .int 0, .int 0, .int 0, .ref q3, .ref q4, .ref q5, .ref q6, .ref q7])), (q3, .inl (Y.2.1 0, 8, .inl (fun _ => 0))), (q4, .inl (Y.2.1 0, 8, .inl (fun _ => 0))), (q5, .inl (Y.2.1 0, 6, .inl (fun _ => 0))), (q6, .inl (Y.2.1 0, 6, .inl (fun _ => 0))), (q7, .inl (Y.2.1 0, 6, .inl (fun _ => 0))), (q8, .inl (Y.2.1 3, 2, .inr (.inr (.inr (.inr (va_up (va_up (fun _ => none) 0 (some q9)) 1 (some q15))))))), (q9, .inr (3, [.int 0, .int 3, .int 0, .int 0, .int 0, .ref q10, .ref q11, .ref q12, .ref q13, .ref q14])), (q10, .inl (Y.2.1 0, 8, .inl (fun _ => 0))), (q11, .inl (Y.2.1 0, 8, .inl (fun _ => 0))), (q12, .inl (Y.2.1 0, 6, .inl (fun _ => 0))), (q13, .inl (Y.2.1 0, 6, .inl (fun _ => 0))), (q14, .inl (Y.2.1 0, 6, .inl (fun _ => 0))), (q15, .inr (3, [.int 0, .int 3, .int 0, .int 0, .int 0, .ref q16, .ref q17, .ref q18, .ref q19, .ref q20])), (q16, .inl (Y.2.1 0, 8, .inl (fun _ => 0))), (q17, .inl (Y.2.1 0, 8, .inl (fun _ => 0))), (q18, .inl (Y.2.1 0, 6, .inl (fun _ => 0))), (q19, .inl (Y.2.1 0, 6, .inl (fun _ => 0))), (q20, .inl (Y.2.1 0, 6, .inl (fun _ => 0))), (q21, .inl (Y.2.1 2, 2, .inl (fun _ => 0))), (q22, .inr (2, [.ref q23, .int 0, .int 0, .int 0, .int 0, .int 0, .ref q24, .int 0, .int 0, .int 0, .ref q25])), (q23, .inl (Y.2.1 0, 40, .inl (fun _ => 0))), (q24, .inl (Y.2.1 0, 40, .inl (fun _ => 0))), (q25, .inl (Y.2.1 0, 40, .inl (fun _ => 0))), (q26, .inr (0, [.int 0, .ref q27, .int 0, .ref q28, .ref q29])), (q27, .inl (Y.2.1 0, 8, .inl (fun _ => 0))), (q28, .inl (Y.2.1 1, 8, .inr (.inl (fun _ => 0)))), (q29, .inl (Y.2.1 0, 8, .inl (fun _ => 0))), (q30, .inr (4, [.int 0, .ref q31, .int 0, .ref q32, .ref q33])), (q31, .inl (Y.2.1 0, 6, .inl (fun _ => 0))), (q32, .inl (Y.2.1 0, 6, .inl (fun _ => 0))), (q33, .inl (Y.2.1 0, 384, .inl (fun _ => 0))), (q34, .inr (1, [.int 0, .int 0, .ref q35])), (q35, .inl (Y.2.1 0, 3, .inl (fun _ => 0))), (q36, .inl (Y.2.1 0, 9, .inl (fun _ => 0)))]) gX6_init ⟨cd_X6_init, in_X6, by decide +kernel, by decide +kernel, by decide +kernel⟩ rfl im_X6_init ml_L_12 36 [0, 1, 2, 3, 4, 5, 6, 7, 8, 9, 10, 11, 12, 13, 14, 15, 16, 17, 18, 19, 20, 21, 22, 23, 24, 25, 26, 27, 28, 29, 30, 31, 32, 33, 34, 35] rfl rfl (by decide) (by decide) ⟨by decide, by decide⟩ (by decide) (by decide) (Nat.le_of_ble_eq_true rfl) dL_law_12 (fun u => ?_)
    obtain ⟨q38, e_q38⟩ : ∃ z, z = u.getD 0 0 := ⟨_, rfl⟩
    obtain ⟨q39, e_q39⟩ : ∃ z, z = u.getD 1 0 := ⟨_, rfl⟩
    obtain ⟨q40, e_q40⟩ : ∃ z, z = u.getD 2 0 := ⟨_, rfl⟩
    obtain ⟨q41, e_q41⟩ : ∃ z, z = u.getD 3 0 := ⟨_, rfl⟩
    obtain ⟨q42, e_q42⟩ : ∃ z, z = u.getD 4 0 := ⟨_, rfl⟩
    obtain ⟨q43, e_q43⟩ : ∃ z, z = u.getD 5 0 := ⟨_, rfl⟩
    obtain ⟨q44, e_q44⟩ : ∃ z, z = u.getD 6 0 := ⟨_, rfl⟩
    obtain ⟨q45, e_q45⟩ : ∃ z, z = u.getD 7 0 := ⟨_, rfl⟩
    obtain ⟨q46, e_q46⟩ : ∃ z, z = u.getD 8 0 := ⟨_, rfl⟩
    obtain ⟨q47, e_q47⟩ : ∃ z, z = u.getD 9 0 := ⟨_, rfl⟩
    obtain ⟨q48, e_q48⟩ : ∃ z, z = u.getD 10 0 := ⟨_, rfl⟩
    obtain ⟨q49, e_q49⟩ : ∃ z, z = u.getD 11 0 := ⟨_, rfl⟩
    obtain ⟨q50, e_q50⟩ : ∃ z, z = u.getD 12 0 := ⟨_, rfl⟩
    obtain ⟨q51, e_q51⟩ : ∃ z, z = u.getD 13 0 := ⟨_, rfl⟩
    obtain ⟨q52, e_q52⟩ : ∃ z, z = u.getD 14 0 := ⟨_, rfl⟩
    refine (show Wk Y ([(q1, .inr (5, [.ref q2, .ref q8, .ref q21, .ref q22, .ref q26, .ref q30, .ref q34, .ref q36])), (q2, .inr (3, [.int 0, .int 3, .int 0, .int 0, .int 0, .ref q3, .ref q4, .ref q5, .ref q6, .ref q7])), (q3, .inl (Y.2.1 0, 8, .inl (fun _ => 0))), (q4, .inl (Y.2.1 0, 8, .inl (fun _ => 0))), (q5, .inl (Y.2.1 0, 6, .inl (fun _ => 0))), (q6, .inl (Y.2.1 0, 6, .inl (fun _ => 0))), (q7, .inl (Y.2.1 0, 6, .inl (fun _ => 0))), (q8, .inl (Y.2.1 3, 2, .inr (.inr (.inr (.inr (va_up (va_up (fun _ => none) 0 (some q9)) 1 (some q15))))))), (q9, .inr (3, [.int 0, .int 3, .int 0, .int 0, .int 0, .ref q10, .ref q11, .ref q12, .ref q13, .ref q14])), (q10, .inl (Y.2.1 0, 8, .inl (fun _ => 0))), (q11, .inl (Y.2.1 0, 8, .inl (fun _ => 0))), (q12, .inl (Y.2.1 0, 6, .inl (fun _ => 0))), (q13, .inl (Y.2.1 0, 6, .inl (fun _ => 0))), (q14, .inl (Y.2.1 0, 6, .inl (fun _ => 0))), (q15, .inr (3, [.int 0, .int 3, .int 0, .int 0, .int 0, .ref q16, .ref q17, .ref q18, .ref q19, .ref q20])), (q16, .inl (Y.2.1 0, 8, .inl (fun _ => 0))), (q17, .inl (Y.2.1 0, 8, .inl (fun _ => 0))), (q18, .inl (Y.2.1 0, 6, .inl (fun _ => 0))), (q19, .inl (Y.2.1 0, 6, .inl (fun _ => 0))), (q20, .inl (Y.2.1 0, 6, .inl (fun _ => 0))), (q21, .inl (Y.2.1 2, 2, .inl (fun _ => 0))), (q22, .inr (2, [.ref q23, .int 0, .int 0, .int 0, .int 0, .int 0, .ref q24, .int 0, .int 0, .int 0, .ref q25])), (q23, .inl (Y.2.1 0, 40, .inl (fun _ => 0))), (q24, .inl (Y.2.1 0, 40, .inl (fun _ => 0))), (q25, .inl (Y.2.1 0, 40, .inl (fun _ => 0))), (q26, .inr (0, [.int 0, .ref q27, .int 0, .ref q28, .ref q29])), (q27, .inl (Y.2.1 0, 8, .inl (fun _ => 0))), (q28, .inl (Y.2.1 1, 8, .inr (.inl (fun _ => 0)))), (q29, .inl (Y.2.1 0, 8, .inl (fun _ => 0))), (q30, .inr (4, [.int 0, .ref q31, .int 0, .ref q32, .ref q33])), (q31, .inl (Y.2.1 0, 6, .inl (fun _ => 0))), (q32, .inl (Y.2.1 0, 6, .inl (fun _ => 0))), (q33, .inl (Y.2.1 0, 384, .inl (fun _ => 0))), (q34, .inr (1, [.int 0, .int 0, .ref q35])), (q35, .inl (Y.2.1 0, 3, .inl (fun _ => 0))), (q36, .inl (Y.2.1 0, 9, .inl (fun _ => 0)))] ++ nw_X6 Y.2.1 q37 (u.getD 0 0) (u.getD 1 0) (u.getD 2 0) (u.getD 3 0) (u.getD 4 0) (u.getD 5 0) (u.getD 6 0) (u.getD 7 0) (u.getD 8 0) (u.getD 9 0) (u.getD 10 0) (u.getD 11 0) (u.getD 12 0) (u.getD 13 0) (u.getD 14 0)) 52 1222 15 [(1, .ref q1), (0, .ref b)] [.ref q37] from ?_)
    rw [← e_q38, ← e_q39, ← e_q40, ← e_q41, ← e_q42, ← e_q43, ← e_q44, ← e_q45, ← e_q46, ← e_q47, ← e_q48, ← e_q49, ← e_q50, ← e_q51, ← e_q52]
    refine (show Wk Y [(q1, .inr (5, [.ref q2, .ref q8, .ref q21, .ref q22, .ref q26, .ref q30, .ref q34, .ref q36])), (q2, .inr (3, [.int 0, .int 3, .int 0, .int 0, .int 0, .ref q3, .ref q4, .ref q5, .ref q6, .ref q7])), (q3, .inl (Y.2.1 0, 8, .inl (fun _ => 0))), (q4, .inl (Y.2.1 0, 8, .inl (fun _ => 0))), (q5, .inl (Y.2.1 0, 6, .inl (fun _ => 0))), (q6, .inl (Y.2.1 0, 6, .inl (fun _ => 0))), (q7, .inl (Y.2.1 0, 6, .inl (fun _ => 0))), (q8, .inl (Y.2.1 3, 2, .inr (.inr (.inr (.inr (va_up (va_up (fun _ => none) 0 (some q9)) 1 (some q15))))))), (q9, .inr (3, [.int 0, .int 3, .int 0, .int 0, .int 0, .ref q10, .ref q11, .ref q12, .ref q13, .ref q14])), (q10, .inl (Y.2.1 0, 8, .inl (fun _ => 0))), (q11, .inl (Y.2.1 0, 8, .inl (fun _ => 0))), (q12, .inl (Y.2.1 0, 6, .inl (fun _ => 0))), (q13, .inl (Y.2.1 0, 6, .inl (fun _ => 0))), (q14, .inl (Y.2.1 0, 6, .inl (fun _ => 0))), (q15, .inr (3, [.int 0, .int 3, .int 0, .int 0, .int 0, .ref q16, .ref q17, .ref q18, .ref q19, .ref q20])), (q16, .inl (Y.2.1 0, 8, .inl (fun _ => 0))), (q17, .inl (Y.2.1 0, 8, .inl (fun _ => 0))), (q18, .inl (Y.2.1 0, 6, .inl (fun _ => 0))), (q19, .inl (Y.2.1 0, 6, .inl (fun _ => 0))), (q20, .inl (Y.2.1 0, 6, .inl (fun _ => 0))), (q21, .inl (Y.2.1 2, 2, .inl (fun _ => 0))), (q22, .inr (2, [.ref q23, .int 0, .int 0, .int 0, .int 0, .int 0, .ref q24, .int 0, .int 0, .int 0, .ref q25])), (q23, .inl (Y.2.1 0, 40, .inl (fun _ => 0))), (q24, .inl (Y.2.1 0, 40, .inl (fun _ => 0))), (q25, .inl (Y.2.1 0, 40, .inl (fun _ => 0))), (q26, .inr (0, [.int 0, .ref q27, .int 0, .ref q28, .ref q29])), (q27, .inl (Y.2.1 0, 8, .inl (fun _ => 0))), (q28, .inl (Y.2.1 1, 8, .inr (.inl (fun _ => 0)))), (q29, .inl (Y.2.1 0, 8, .inl (fun _ => 0))), (q30, .inr (4, [.int 0, .ref q31, .int 0, .ref q32, .ref q33])), (q31, .inl (Y.2.1 0, 6, .inl (fun _ => 0))), (q32, .inl (Y.2.1 0, 6, .inl (fun _ => 0))), (q33, .inl (Y.2.1 0, 384, .inl (fun _ => 0))), (q34, .inr (1, [.int 0, .int 0, .ref q35])), (q35, .inl (Y.2.1 0, 3, .inl (fun _ => 0))), (q36, .inl (Y.2.1 0, 9, .inl (fun _ => 0))), (q37, .inr (6, [.int 0, .int 3, .int 0, .ref q38, .ref q39, .int 0, .ref q40, .ref q41, .int 0, .ref q42, .int 0, .ref q43, .ref q44, .int 0, .int 0, .int 0, .int 0, .ref q45, .ref q46, .ref q47, .ref q48, .ref q49, .ref q50, .ref q51, .ref q52, .int 0, .int 0])), (q38, .inl (Y.2.1 0, 64, .inl (fun _ => 0))), (q39, .inl (Y.2.1 0, 6, .inl (fun _ => 0))), (q40, .inl (Y.2.1 0, 6, .inl (fun _ => 0))), (q41, .inl (Y.2.1 0, 6, .inl (fun _ => 0))), (q42, .inl (Y.2.1 0, 40, .inl (fun _ => 0))), (q43, .inl (Y.2.1 0, 40, .inl (fun _ => 0))), (q44, .inl (Y.2.1 0, 40, .inl (fun _ => 0))), (q45, .inl (Y.2.1 0, 40, .inl (fun _ => 0))), (q46, .inl (Y.2.1 0, 8, .inl (fun _ => 0))), (q47, .inl (Y.2.1 0, 8, .inl (fun _ => 0))), (q48, .inl (Y.2.1 0, 6, .inl (fun _ => 0))), (q49, .inl (Y.2.1 0, 6, .inl (fun _ => 0))), (q50, .inl (Y.2.1 0, 3, .inl (fun _ => 0))), (q51, .inl (Y.2.1 0, 200, .inl (fun _ => 0))), (q52, .inl (Y.2.1 2, 2, .inl (fun _ => 0)))] 52 1222 15 [(1, .ref q1), (0, .ref b)] [.ref q37] from ?_)
    refine wk_astore_n hY (lv2 := [(2, .ref q37), (1, .ref q1), (0, .ref b)]) rfl (by decide) rfl dL_law_15 ?_
    refine wk_iconst hY 0 (by decide) dL_law_16 ?_
    refine wk_istore_n hY (lv2 := [(3, .int 0), (2, .ref q37), (1, .ref q1), (0, .ref b)]) rfl (by decide) rfl dL_law_17 ?_
    have eca : Y.2.1 = ca := by rw [eY]
    rw [eca, eY]
    intro H locs ls hP hD hS hl
    have hP1 := hP.sub (ws' := cellsOf ((dC, dI), (fun k => ([q1, q8, q21, q36, q22, q23, q24, q25, q2, q3, q4, q5, q6, q7, q9, q10, q11, q12, q13, q14, q15, q16, q17, q18, q19, q20, q26, q27, q28, q29, q30, q31, q32, q33, q34, q35, q37, q38, q39, q40, q41, q42, q43, q44, q45, q46, q47, q48, q49, q50, q51, q52] : List Nat).getD k 0), ca) w00) [0, 7, 20, 35, 21, 22, 23, 24, 1, 2, 3, 4, 5, 6, 8, 9, 10, 11, 12, 13, 14, 15, 16, 17, 18, 19, 25, 26, 27, 28, 29, 30, 31, 32, 33, 34, 36, 37, 38, 39, 40, 41, 42, 43, 44, 45, 46, 47, 48, 49, 50, 51] rfl
    have hD1 := hD.sub (ws' := cellsOf ((dC, dI), (fun k => ([q1, q8, q21, q36, q22, q23, q24, q25, q2, q3, q4, q5, q6, q7, q9, q10, q11, q12, q13, q14, q15, q16, q17, q18, q19, q20, q26, q27, q28, q29, q30, q31, q32, q33, q34, q35, q37, q38, q39, q40, q41, q42, q43, q44, q45, q46, q47, q48, q49, q50, q51, q52] : List Nat).getD k 0), ca) w00) [0, 7, 20, 35, 21, 22, 23, 24, 1, 2, 3, 4, 5, 6, 8, 9, 10, 11, 12, 13, 14, 15, 16, 17, 18, 19, 25, 26, 27, 28, 29, 30, 31, 32, 33, 34, 36, 37, 38, 39, 40, 41, 42, 43, 44, 45, 46, 47, 48, 49, 50, 51] (by decide) rfl
    have hCx : Cx (((dC, dI), (fun k => ([q1, q8, q21, q36, q22, q23, q24, q25, q2, q3, q4, q5, q6, q7, q9, q10, q11, q12, q13, q14, q15, q16, q17, q18, q19, q20, q26, q27, q28, q29, q30, q31, q32, q33, q34, q35, q37, q38, q39, q40, q41, q42, q43, q44, q45, q46, q47, q48, q49, q50, q51, q52] : List Nat).getD k 0), ca), p, l, e, room_1, s, m, #[Value.ref b], below, meth, c, (fun q : Nat => s.heap.size ≤ q), lw_Z below #[Value.ref b] s, 4, 600000, 7302250) cL_law RL 4 15 630 := ⟨hx, hb, hml, rfl, hown, hgT, hK, hlocks, fun _ h => h, fun w2 => dom_any w2 hD1, by decide, by decide, Nat.le_refl _, Nat.le_refl _, hgN⟩
    refine W.widen (k := 600000) (n := 7302250) (by decide) (by decide) ?_
    exact t_L_law_18 hCx (fun w lv => fun H locs ls hP hS hl => va_forget (fun q hq => hS.2.2 q hq) (lw_ret hx hb hr hlocks dL_law_713)) ⟨hX, hbl, Nat.not_le.mpr hbl⟩ fu (w00, 0) (hmath xs L hL) H locs ls hP1 hS (lv_sub hl [3, 2, 1, 0] rfl)
  rw [eY] at key
  rw [lg_entry_eq]
  exact key s.heap [] _ (fun k q h => by simp at h) ⟨fun i j p q h => by simp at h, fun k q h => by simp at h⟩ va_S.rf (lv_entry [.ref b] (Nat.le_of_ble_eq_true rfl))
