theorem itp {β : Type} {c : Prop} {d : Decidable c} {a b : Option β} {r : β} (hc : c) (h : (if c then a else b) = some r) : a = some r := by rw [if_pos hc] at h; exact h
theorem itn {β : Type} {c : Prop} {d : Decidable c} {a b : Option β} {r : β} (hc : ¬ c) (h : (if c then a else b) = some r) : b = some r := by rw [if_neg hc] at h; exact h
def isB (v : Int32) : Bool := decide (v = 0) || decide (v = 1)
theorem isB_or {v : Int32} (h : isB v = true) : v = 0 ∨ v = 1 := by simpa [isB] using h
theorem wa_let {β : Type} {X : Fx} {w : Wd} {pc : Nat} {lv : List (Nat × Value)} {st : List Value} {e : Int32} {f : Int32 → Option β} {b : β} (h : Let e f = some b) (k : ∀ v, f v = some b → Wa X w pc lv (.int v :: st)) : Wa X w pc lv (.int e :: st) := k e h
theorem wa_letl {β : Type} {X : Fx} {w : Wd} {pc : Nat} {lv : List (Nat × Value)} {st : List Value} {e : Int64} {f : Int64 → Option β} {b : β} (h : Let e f = some b) (k : ∀ v, f v = some b → Wa X w pc lv (.long v :: st)) : Wa X w pc lv (.long e :: st) := k e h
theorem ret_i {X : Fx} {cc : ByteArray} {w w1 : Wd} {a r : Int32} {pc : Nat} {lv : List (Nat × Value)} (hE : ∀ pc lv, decode cc pc = .ok (.ireturn, 1) → narrow .int (.int r) = .int r → Wa X w1 pc lv [.int r]) (h : some (a, w) = some (r, w1)) (d : decode cc pc = .ok (.ireturn, 1)) : Wa X w pc lv [.int a] := by cases h; exact hE _ _ d rfl
theorem ret_z {X : Fx} {cc : ByteArray} {w w1 : Wd} {a r : Int32} {pc : Nat} {lv : List (Nat × Value)} (hE : ∀ pc lv, decode cc pc = .ok (.ireturn, 1) → narrow .boolean (.int r) = .int r → Wa X w1 pc lv [.int r]) (h : some (a, w) = some (r, w1)) (hb : a = 0 ∨ a = 1) (d : decode cc pc = .ok (.ireturn, 1)) : Wa X w pc lv [.int a] := by cases h; exact hE _ _ d (nar_b hb)
theorem ret_l {X : Fx} {cc : ByteArray} {w w1 : Wd} {a r : Int64} {pc : Nat} {lv : List (Nat × Value)} (hE : ∀ pc lv, decode cc pc = .ok (.lreturn, 1) → Wa X w1 pc lv [.long r]) (h : some (a, w) = some (r, w1)) (d : decode cc pc = .ok (.lreturn, 1)) : Wa X w pc lv [.long a] := by cases h; exact hE _ _ d
theorem ret_v {X : Fx} {cc : ByteArray} {w w1 : Wd} {pc : Nat} {lv : List (Nat × Value)} (hE : ∀ pc lv, decode cc pc = .ok (.return_, 1) → Wa X w1 pc lv []) (h : some w = some w1) (d : decode cc pc = .ok (.return_, 1)) : Wa X w pc lv [] := by cases h; exact hE _ _ d
theorem toInt_lit {x y : Int32} {n : Int} (h : x.toInt = n) (hy : y.toInt = n) : x = y := Int32.toInt_inj.mp (h.trans hy.symm)
theorem tsw_out {x lo hi : Int} (h : ¬ (x < lo ∨ hi < x) → False) : x < lo ∨ hi < x := Classical.byContradiction h
theorem ce_stage (E : ET) (w : Wd) : (cellsOf E w)[0]? = some (E.2.1 0, .inr (5, [.ref (E.2.1 8), .ref (E.2.1 1), .ref (E.2.1 2), .ref (E.2.1 4), .ref (E.2.1 26), .ref (E.2.1 30), .ref (E.2.1 34), .ref (E.2.1 3)])) := rfl
theorem ce_play (E : ET) (w : Wd) : (cellsOf E w)[4]? = some (E.2.1 4, .inr (2, [.ref (E.2.1 5), .int (w.1 0), .int (w.1 1), .int (w.1 2), .int (w.1 3), .int (w.1 4), .ref (E.2.1 6), .int (w.1 5), .int (w.1 6), .int (w.1 7), .ref (E.2.1 7)])) := rfl
theorem ce_rules (E : ET) (w : Wd) : (cellsOf E w)[8]? = some (E.2.1 8, .inr (3, [.int (w.1 8), .int (w.1 9), .int (w.1 10), .int (w.1 11), .int (w.1 12), .ref (E.2.1 9), .ref (E.2.1 10), .ref (E.2.1 11), .ref (E.2.1 12), .ref (E.2.1 13)])) := rfl
theorem ce_img0 (E : ET) (w : Wd) : (cellsOf E w)[14]? = some (E.2.1 14, .inr (3, [.int (w.1 13), .int (w.1 14), .int (w.1 15), .int (w.1 16), .int (w.1 17), .ref (E.2.1 15), .ref (E.2.1 16), .ref (E.2.1 17), .ref (E.2.1 18), .ref (E.2.1 19)])) := rfl
theorem ce_img1 (E : ET) (w : Wd) : (cellsOf E w)[20]? = some (E.2.1 20, .inr (3, [.int (w.1 18), .int (w.1 19), .int (w.1 20), .int (w.1 21), .int (w.1 22), .ref (E.2.1 21), .ref (E.2.1 22), .ref (E.2.1 23), .ref (E.2.1 24), .ref (E.2.1 25)])) := rfl
theorem ce_company (E : ET) (w : Wd) : (cellsOf E w)[26]? = some (E.2.1 26, .inr (0, [.int (w.1 23), .ref (E.2.1 27), .int (w.1 24), .ref (E.2.1 28), .ref (E.2.1 29)])) := rfl
theorem ce_order (E : ET) (w : Wd) : (cellsOf E w)[30]? = some (E.2.1 30, .inr (4, [.int (w.1 25), .ref (E.2.1 31), .int (w.1 26), .ref (E.2.1 32), .ref (E.2.1 33)])) := rfl
theorem ce_guess (E : ET) (w : Wd) : (cellsOf E w)[34]? = some (E.2.1 34, .inr (1, [.int (w.1 27), .int (w.1 28), .ref (E.2.1 35)])) := rfl
theorem ce_model (E : ET) (w : Wd) : (cellsOf E w)[36]? = some (E.2.1 36, .inr (6, [.int (w.1 29), .int (w.1 30), .int (w.1 31), .ref (E.2.1 37), .ref (E.2.1 38), .int (w.1 32), .ref (E.2.1 39), .ref (E.2.1 40), .int (w.1 33), .ref (E.2.1 41), .int (w.1 34), .ref (E.2.1 42), .ref (E.2.1 43), .int (w.1 35), .int (w.1 36), .int (w.1 37), .int (w.1 38), .ref (E.2.1 44), .ref (E.2.1 45), .ref (E.2.1 46), .ref (E.2.1 47), .ref (E.2.1 48), .ref (E.2.1 49), .ref (E.2.1 50), .ref (E.2.1 51), .int (w.1 39), .int (w.1 40)])) := rfl
theorem ki_1 : Int32.ofInt (1) = 1 := by decide
theorem ki_2 : Int32.ofInt (2) = 2 := by decide
theorem kb_m2 : (Int8.ofInt (-2)).toInt32 = (-2) := by decide
theorem kb_9 : (Int8.ofInt (9)).toInt32 = 9 := by decide
theorem kb_8 : (Int8.ofInt (8)).toInt32 = 8 := by decide
theorem ki_0 : Int32.ofInt (0) = 0 := by decide
theorem kb_33 : (Int8.ofInt (33)).toInt32 = 33 := by decide
theorem kb_126 : (Int8.ofInt (126)).toInt32 = 126 := by decide
theorem kb_40 : (Int8.ofInt (40)).toInt32 = 40 := by decide
theorem kb_m4 : (Int8.ofInt (-4)).toInt32 = (-4) := by decide
theorem kb_m6 : (Int8.ofInt (-6)).toInt32 = (-6) := by decide
theorem kb_65 : (Int8.ofInt (65)).toInt32 = 65 := by decide
theorem kb_72 : (Int8.ofInt (72)).toInt32 = 72 := by decide
theorem kb_97 : (Int8.ofInt (97)).toInt32 = 97 := by decide
theorem kb_104 : (Int8.ofInt (104)).toInt32 = 104 := by decide
theorem kb_46 : (Int8.ofInt (46)).toInt32 = 46 := by decide
theorem kb_63 : (Int8.ofInt (63)).toInt32 = 63 := by decide
theorem ki_3 : Int32.ofInt (3) = 3 := by decide
theorem ki_m1 : Int32.ofInt (-1) = (-1) := by decide
theorem kb_7 : (Int8.ofInt (7)).toInt32 = 7 := by decide
theorem kb_m3 : (Int8.ofInt (-3)).toInt32 = (-3) := by decide
theorem kb_m5 : (Int8.ofInt (-5)).toInt32 = (-5) := by decide
theorem ki_4 : Int32.ofInt (4) = 4 := by decide
theorem kb_16 : (Int8.ofInt (16)).toInt32 = 16 := by decide
theorem kb_32 : (Int8.ofInt (32)).toInt32 = 32 := by decide
theorem kb_127 : (Int8.ofInt (127)).toInt32 = 127 := by decide
theorem kb_10 : (Int8.ofInt (10)).toInt32 = 10 := by decide
theorem ks_255 : (Int16.ofInt (255)).toInt32 = 255 := by decide
theorem kb_6 : (Int8.ofInt (6)).toInt32 = 6 := by decide
theorem kb_57 : (Int8.ofInt (57)).toInt32 = 57 := by decide
theorem kb_39 : (Int8.ofInt (39)).toInt32 = 39 := by decide
theorem ks_9999 : (Int16.ofInt (9999)).toInt32 = 9999 := by decide
theorem kb_99 : (Int8.ofInt (99)).toInt32 = 99 := by decide
theorem kb_75 : (Int8.ofInt (75)).toInt32 = 75 := by decide
theorem kb_74 : (Int8.ofInt (74)).toInt32 = 74 := by decide
theorem ks_1000 : (Int16.ofInt (1000)).toInt32 = 1000 := by decide
theorem kb_100 : (Int8.ofInt (100)).toInt32 = 100 := by decide
theorem kb_64 : (Int8.ofInt (64)).toInt32 = 64 := by decide
-- StageCount.isWithin(II)Z
def F_X5_isWithin (w : Wd) (p0 : Int32) (p1 : Int32) : Option (Int32 × Wd) :=
  gu (isB (if p0 < 0 then 0 else (if p1 < p0 then (0 : Int32) else 1))) (some ((if p0 < 0 then 0 else (if p1 < p0 then (0 : Int32) else 1)), w))
-- StageCount.set(II)I
def F_X5_set_100  (w : Wd) (v3 : Int32) : Option (Int32 × Wd) :=
  some (v3, w)
def F_X5_set_97  (w : Wd) : Option (Int32 × Wd) :=
  F_X5_set_100 w (-2)
def F_X5_set_64  (w : Wd) (v1 : Int32) (v2 : Int32) : Option (Int32 × Wd) :=
  if v1 = 2 then
  (F_X5_isWithin w v2 9).bind fun x1 =>
  if x1.1 = 0 then
  F_X5_set_97 x1.2
  else
  F_X5_set_100 (wI x1.2 10 v2) (x1.2.1 10)
  else
  F_X5_set_97 w
def F_X5_set_31  (w : Wd) (v1 : Int32) (v2 : Int32) : Option (Int32 × Wd) :=
  if v1 = 1 then
  (F_X5_isWithin w v2 8).bind fun x2 =>
  if x2.1 = 0 then
  F_X5_set_64 x2.2 v1 v2
  else
  F_X5_set_100 (wI x2.2 9 v2) (x2.2.1 9)
  else
  F_X5_set_64 w v1 v2
def F_X5_set (w : Wd) (p1 : Int32) (p2 : Int32) : Option (Int32 × Wd) :=
  if p1 = 0 then
  (F_X5_isWithin w p2 2).bind fun x3 =>
  if x3.1 = 0 then
  F_X5_set_31 x3.2 p1 p2
  else
  F_X5_set_100 (wI x3.2 8 p2) (x3.2.1 8)
  else
  F_X5_set_31 w p1 p2
-- StageCount$Play.add(I)I
def F_X2_add (w : Wd) (p1 : Int32) : Option (Int32 × Wd) :=
  if (w.1 0) < 40 then
  gu (gd (w.1 0) 40) <|
  some ((w.1 0 + 1), (wI (wA w 5 (w.1 0) p1) 0 (w.1 0 + 1)))
  else
  some ((-4), w)
-- StageCount.say(I)I
def F_X5_say_12  (w : Wd) : Option (Int32 × Wd) :=
  some ((-2), w)
def F_X5_say (w : Wd) (p1 : Int32) : Option (Int32 × Wd) :=
  if p1 < 33 then
  F_X5_say_12 w
  else
  if p1 ≤ 126 then
  (F_X2_add w p1).bind fun x1 =>
  some (x1.1, x1.2)
  else
  F_X5_say_12 w
-- StageCount.wipe()I
def F_X5_wipe (w : Wd)  : Option (Int32 × Wd) :=
  some (w.1 0, (wI w 0 0))
-- StageCount$Play.isComing(I)Z
def F_X2_isComing (w : Wd) (p0 : Int32) : Option (Int32 × Wd) :=
  gu (isB (if p0 < 65 then 0 else (if 72 < p0 then (0 : Int32) else 1))) (some ((if p0 < 65 then 0 else (if 72 < p0 then (0 : Int32) else 1)), w))
-- StageCount$Play.isGoing(I)Z
def F_X2_isGoing (w : Wd) (p0 : Int32) : Option (Int32 × Wd) :=
  gu (isB (if p0 < 97 then 0 else (if 104 < p0 then (0 : Int32) else 1))) (some ((if p0 < 97 then 0 else (if 104 < p0 then (0 : Int32) else 1)), w))
-- StageCount$Play.survey()V
def F_X2_survey_155  (w : Wd) : Option (Wd) :=
  some w
def F_X2_survey_149 (k25 : Wd × Int32 × Int32 → Option (Wd)) (w : Wd) (v1 : Int32) (v2 : Int32) : Option (Wd) :=
  k25 (w, v1, (v2 + 1))
def F_X2_survey_144 (k25 : Wd × Int32 × Int32 → Option (Wd)) (w : Wd) (v1 : Int32) (v2 : Int32) : Option (Wd) :=
  F_X2_survey_149 k25 (wI w 1 v2) v1 v2
def F_X2_survey_25 (k25 : Wd × Int32 × Int32 → Option (Wd)) (w : Wd) (v1 : Int32) (v2 : Int32) : Option (Wd) :=
  if (w.1 0) ≤ v2 then
  F_X2_survey_155 w
  else
  if (w.1 1) = (-6) then
  gu (gd v2 40) <|
  (F_X2_isComing w (w.2.1 5 v2.toNatClampNeg)).bind fun x1 =>
  if x1.1 = 0 then
  (F_X2_isGoing x1.2 (w.2.1 5 v2.toNatClampNeg)).bind fun x2 =>
  if x2.1 = 0 then
  if (w.2.1 5 v2.toNatClampNeg) = 46 then
  gu (gd (x2.2.1 4) 40) <|
  F_X2_survey_149 k25 (wI (wA x2.2 6 (x2.2.1 4) v1) 4 (x2.2.1 4 + 1)) v1 v2
  else
  if (w.2.1 5 v2.toNatClampNeg) = 63 then
  if 3 ≤ (x2.2.1 2) then
  F_X2_survey_144 k25 x2.2 v1 v2
  else
  F_X2_survey_149 k25 (wI x2.2 2 (x2.2.1 2 + 1)) (v1 + 1) v2
  else
  F_X2_survey_144 k25 x2.2 v1 v2
  else
  F_X2_survey_149 k25 x2.2 (v1 + (-1)) v2
  else
  F_X2_survey_149 k25 (wI x1.2 3 (x1.2.1 3 + 1)) (v1 + 1) v2
  else
  F_X2_survey_155 w
def L_X2_survey_25  (n : Nat) (a : Wd × Int32 × Int32) : Option (Wd) := it (fun k a => F_X2_survey_25  k a.1 a.2.1 a.2.2) n a
def F_X2_survey (w : Wd)  : Option (Wd) :=
  L_X2_survey_25  fu ((wI (wI (wI (wI w 1 (-6)) 2 0) 3 0) 4 0), 0, 0)
-- StageCount.fault()I
def F_X5_fault (w : Wd)  : Option (Int32 × Wd) :=
  (F_X2_survey w).bind fun x1 =>
  some (x1.1 1, x1)
-- StageCount$Play.guessed(II)I
def F_X2_guessed (w : Wd) (p1 : Int32) (p2 : Int32) : Option (Int32 × Wd) :=
  some (((p1 >>> ((3 * ((w.1 2 - 1) - p2)) &&& 31)) &&& 7), w)
-- StageCount$Play.comer(II)I
def F_X2_comer (w : Wd) (p1 : Int32) (p2 : Int32) : Option (Int32 × Wd) :=
  if p1 = 63 then
  (F_X2_guessed (wI w 7 (w.1 7 + 1)) p2 ((w.1 7 + 1) - 1)).bind fun x1 =>
  some (x1.1, x1.2)
  else
  some ((p1 - 65), w)
-- StageCount$Play.refuseUnless(ZII)V
def F_X2_refuseUnless_14  (w : Wd) : Option (Wd) :=
  some w
def F_X2_refuseUnless (w : Wd) (p1 : Int32) (p2 : Int32) (p3 : Int32) : Option (Wd) :=
  if p1 = 0 then
  F_X2_refuseUnless_14 (wI (wI w 5 p2) 6 p3)
  else
  F_X2_refuseUnless_14 w
-- StageCount$Play.perform(I)V
def F_X2_perform_158  (w : Wd) : Option (Wd) :=
  some w
def F_X2_perform_152 (k24 : Wd × Int32 × Int32 × Int32 × Int32 → Option (Wd)) (w : Wd) (v1 : Int32) (v2 : Int32) (v3 : Int32) (v4 : Int32) : Option (Wd) :=
  k24 (w, v1, v2, v3, (v4 + 1))
def F_X2_perform_24 (k24 : Wd × Int32 × Int32 × Int32 × Int32 → Option (Wd)) (w : Wd) (v1 : Int32) (v2 : Int32) (v3 : Int32) (v4 : Int32) : Option (Wd) :=
  if (w.1 0) ≤ v4 then
  F_X2_perform_158 w
  else
  if (w.1 5) = (-6) then
  gu (gd v4 40) <|
  if (w.2.1 5 v4.toNatClampNeg) = 46 then
  gu (gd v3 40) <|
  F_X2_perform_152 k24 (wA w 7 v3 v2) v1 v2 (v3 + 1) v4
  else
  (F_X2_isGoing w (w.2.1 5 v4.toNatClampNeg)).bind fun x1 =>
  if x1.1 = 0 then
  (F_X2_comer x1.2 (w.2.1 5 v4.toNatClampNeg) v1).bind fun x2 =>
  (F_X2_refuseUnless x2.2 (if (v2 &&& (1 <<< (x2.1 &&& 31))) = 0 then (1 : Int32) else 0) v4 1).bind fun x3 =>
  F_X2_perform_152 k24 x3 v1 (v2 ||| (1 <<< (x2.1 &&& 31))) v3 v4
  else
  Let ((1 <<< ((w.2.1 5 v4.toNatClampNeg - 97) &&& 31)) : Int32) fun y4 =>
  (F_X2_refuseUnless x1.2 (if (v2 &&& y4) = 0 then (0 : Int32) else 1) v4 2).bind fun x5 =>
  F_X2_perform_152 k24 x5 v1 (v2 &&& (y4 ^^^ (-1))) v3 v4
  else
  F_X2_perform_158 w
def L_X2_perform_24  (n : Nat) (a : Wd × Int32 × Int32 × Int32 × Int32) : Option (Wd) := it (fun k a => F_X2_perform_24  k a.1 a.2.1 a.2.2.1 a.2.2.2.1 a.2.2.2.2) n a
def F_X2_perform (w : Wd) (p1 : Int32) : Option (Wd) :=
  L_X2_perform_24  fu ((wI (wI (wI w 5 (-6)) 6 (-6)) 7 0), p1, 0, 0, 0)
-- StageCount.refusalOfEvents()I
def F_X5_refusalOfEvents (w : Wd)  : Option (Int32 × Wd) :=
  (F_X2_survey w).bind fun x1 =>
  if (x1.1 1) = (-6) then
  if (x1.1 2) ≤ 0 then
  (F_X2_perform x1 0).bind fun x2 =>
  some (0, x2)
  else
  some ((-3), x1)
  else
  some ((-5), x1)
-- StageCount$Rules.holds(II)Z
def F_X3_holds (w : Wd) (p1 : Int32) (p2 : Int32) : Option (Int32 × Wd) :=
  if (w.1 8) = 0 then
  gu (isB (if p1 = (w.1 9) then (1 : Int32) else 0)) (some ((if p1 = (w.1 9) then (1 : Int32) else 0), w))
  else
  gu (isB (if (w.1 8) = 1 then (if (p1 &&& 1) = 1 then (1 : Int32) else 0) else (if p1 < p2 then (0 : Int32) else 1))) (some ((if (w.1 8) = 1 then (if (p1 &&& 1) = 1 then (1 : Int32) else 0) else (if p1 < p2 then (0 : Int32) else 1)), w))
-- StageCount$Rules.firstAgainstLaw(LStageCount$Play;)I
def F_X3_firstAgainstLaw_7 (k7 : Wd × Int32 × Int32 → Option (Int32 × Wd)) (w : Wd) (v2 : Int32) (v3 : Int32) : Option (Int32 × Wd) :=
  if (w.1 4) ≤ v3 then
  some ((-6), w)
  else
  gu (gd v3 40) <|
  (F_X3_holds w (w.2.1 6 v3.toNatClampNeg) v2).bind fun x1 =>
  if x1.1 = 0 then
  some (v3, x1.2)
  else
  k7 (x1.2, w.2.1 6 v3.toNatClampNeg, (v3 + 1))
def L_X3_firstAgainstLaw_7  (n : Nat) (a : Wd × Int32 × Int32) : Option (Int32 × Wd) := it (fun k a => F_X3_firstAgainstLaw_7  k a.1 a.2.1 a.2.2) n a
def F_X3_firstAgainstLaw (w : Wd)  : Option (Int32 × Wd) :=
  L_X3_firstAgainstLaw_7  fu (w, w.1 9, 0)
-- StageCount.refusalOfLines()I
def F_X5_refusalOfLines (w : Wd)  : Option (Int32 × Wd) :=
  (F_X5_refusalOfEvents w).bind fun x1 =>
  some ((if x1.1 = 0 then (if (x1.2.1 5) = (-6) then x1.1 else (-5)) else x1.1), x1.2)
-- StageCount.judge(I)I
def F_X5_judge_72  (w : Wd) (s0 : Int32) : Option (Int32 × Wd) :=
  some (s0, w)
def F_X5_judge_27  (w : Wd) (v1 : Int32) (s0 : Int32) : Option (Int32 × Wd) :=
  if s0 = 0 then
  if v1 = 0 then
  some (w.1 5, w)
  else
  if v1 = 1 then
  F_X5_judge_72 w (w.1 6)
  else
  (F_X3_firstAgainstLaw w).bind fun x3 =>
  F_X5_judge_72 x3.2 x3.1
  else
  some (s0, w)
def F_X5_judge (w : Wd) (p1 : Int32) : Option (Int32 × Wd) :=
  (F_X5_isWithin w p1 2).bind fun x1 =>
  if x1.1 = 0 then
  some ((-2), x1.2)
  else
  if p1 = 2 then
  (F_X5_refusalOfLines x1.2).bind fun x4 =>
  F_X5_judge_27 x4.2 p1 x4.1
  else
  (F_X5_refusalOfEvents x1.2).bind fun x2 =>
  F_X5_judge_27 x2.2 p1 x2.1
-- StageCount.isLine(I)Z
def F_X5_isLine (w : Wd) (p1 : Int32) : Option (Int32 × Wd) :=
  gu (isB (if p1 < 0 then 0 else (if (w.1 4) ≤ p1 then (0 : Int32) else 1))) (some ((if p1 < 0 then 0 else (if (w.1 4) ≤ p1 then (0 : Int32) else 1)), w))
-- StageCount.on(I)I
def F_X5_on_33  (w : Wd) (s0 : Int32) : Option (Int32 × Wd) :=
  some (s0, w)
def F_X5_on (w : Wd) (p1 : Int32) : Option (Int32 × Wd) :=
  (F_X5_refusalOfLines w).bind fun x1 =>
  if x1.1 = 0 then
  (F_X5_isLine x1.2 p1).bind fun x2 =>
  if x2.1 = 0 then
  F_X5_on_33 x2.2 (-2)
  else
  gu (gd p1 40) <|
  F_X5_on_33 x2.2 (x2.2.2.1 7 p1.toNatClampNeg)
  else
  some (x1.1, x1.2)
-- StageCount$Play.linesOf(I)J
def F_X2_linesOf_5 (k5 : Wd × Int32 × Int64 × Int32 → Option (Int64 × Wd)) (w : Wd) (v1 : Int32) (v2 : Int64) (v4 : Int32) : Option (Int64 × Wd) :=
  if (w.1 4) ≤ v4 then
  some (v2, w)
  else
  gu (gd v4 40) <|
  Let ((v2 ||| (lshl (((w.2.1 7 v4.toNatClampNeg >>> (v1 &&& 31)) &&& 1).toInt64) v4)) : Int64) fun y1 =>
  k5 (w, v1, y1, (v4 + 1))
def L_X2_linesOf_5  (n : Nat) (a : Wd × Int32 × Int64 × Int32) : Option (Int64 × Wd) := it (fun k a => F_X2_linesOf_5  k a.1 a.2.1 a.2.2.1 a.2.2.2) n a
def F_X2_linesOf (w : Wd) (p1 : Int32) : Option (Int64 × Wd) :=
  L_X2_linesOf_5  fu (w, p1, 0, 0)
-- java/lang/Long.bitCount(J)I
def F_J13_bitCount (w : Wd) (p0 : Int64) : Option (Int32 × Wd) :=
  Let ((p0 - ((lushr p0 1) &&& 6148914691236517205)) : Int64) fun y1 =>
  Let (((y1 &&& 3689348814741910323) + ((lushr y1 2) &&& 3689348814741910323)) : Int64) fun y2 =>
  Let (((y2 + (lushr y2 4)) &&& 1085102592571150095) : Int64) fun y3 =>
  Let (((y3 + (lushr y3 8)) + (lushr (y3 + (lushr y3 8)) 16)) : Int64) fun y4 =>
  some (((y4 + (lushr y4 32)).toInt32 &&& 127), w)
-- StageCount.lines(I)I
def F_X5_lines_12  (w : Wd) : Option (Int32 × Wd) :=
  some ((-1), w)
def F_X5_lines_65  (w : Wd) (s0 : Int32) : Option (Int32 × Wd) :=
  some (s0, w)
def F_X5_lines (w : Wd) (p1 : Int32) : Option (Int32 × Wd) :=
  if p1 < (-2) then
  F_X5_lines_12 w
  else
  if p1 < 8 then
  (F_X5_refusalOfLines w).bind fun x1 =>
  if x1.1 = 0 then
  if p1 = (-2) then
  some (x1.2.1 3, x1.2)
  else
  if p1 = (-1) then
  F_X5_lines_65 x1.2 (x1.2.1 4)
  else
  (F_X2_linesOf x1.2 p1).bind fun x2 =>
  (F_J13_bitCount x2.2 x2.1).bind fun x3 =>
  F_X5_lines_65 x3.2 x3.1
  else
  some (x1.1, x1.2)
  else
  F_X5_lines_12 w
-- StageCount.isPart(I)Z
def F_X5_isPart (w : Wd) (p0 : Int32) : Option (Int32 × Wd) :=
  gu (isB (if p0 < 0 then 0 else (if 8 ≤ p0 then (0 : Int32) else 1))) (some ((if p0 < 0 then 0 else (if 8 ≤ p0 then (0 : Int32) else 1)), w))
-- StageCount$Rules.setPair([IIIZ)V
def F_X3_setPair_rules_apart_57  (w : Wd) (s0 : Int32) (s1 : Int32) : Option (Wd) :=
  gu (gd s1 8) <|
  some (wA w 9 s1 s0)
def F_X3_setPair_rules_apart_33  (w : Wd) (v2 : Int32) (v3 : Int32) (v4 : Int32) (s0 : Int32) (s1 : Int32) : Option (Wd) :=
  gu (gd s1 8) <|
  if v3 = 0 then
  gu (gd v2 8) <|
  F_X3_setPair_rules_apart_57 (wA w 9 s1 s0) ((wA w 9 s1 s0).2.1 9 v2.toNatClampNeg &&& (v4 ^^^ (-1))) v2
  else
  gu (gd v2 8) <|
  F_X3_setPair_rules_apart_57 (wA w 9 s1 s0) ((wA w 9 s1 s0).2.1 9 v2.toNatClampNeg ||| v4) v2
def F_X3_setPair_rules_apart (w : Wd) (p1 : Int32) (p2 : Int32) (p3 : Int32) : Option (Wd) :=
  if p3 = 0 then
  gu (gd p1 8) <|
  F_X3_setPair_rules_apart_33 w p2 p3 (1 <<< (p1 &&& 31)) (w.2.1 9 p1.toNatClampNeg &&& ((1 <<< (p2 &&& 31)) ^^^ (-1))) p1
  else
  gu (gd p1 8) <|
  F_X3_setPair_rules_apart_33 w p2 p3 (1 <<< (p1 &&& 31)) (w.2.1 9 p1.toNatClampNeg ||| (1 <<< (p2 &&& 31))) p1
-- StageCount$Rules.setPair([IIIZ)V
def F_X3_setPair_rules_together_57  (w : Wd) (s0 : Int32) (s1 : Int32) : Option (Wd) :=
  gu (gd s1 8) <|
  some (wA w 10 s1 s0)
def F_X3_setPair_rules_together_33  (w : Wd) (v2 : Int32) (v3 : Int32) (v4 : Int32) (s0 : Int32) (s1 : Int32) : Option (Wd) :=
  gu (gd s1 8) <|
  if v3 = 0 then
  gu (gd v2 8) <|
  F_X3_setPair_rules_together_57 (wA w 10 s1 s0) ((wA w 10 s1 s0).2.1 10 v2.toNatClampNeg &&& (v4 ^^^ (-1))) v2
  else
  gu (gd v2 8) <|
  F_X3_setPair_rules_together_57 (wA w 10 s1 s0) ((wA w 10 s1 s0).2.1 10 v2.toNatClampNeg ||| v4) v2
def F_X3_setPair_rules_together (w : Wd) (p1 : Int32) (p2 : Int32) (p3 : Int32) : Option (Wd) :=
  if p3 = 0 then
  gu (gd p1 8) <|
  F_X3_setPair_rules_together_33 w p2 p3 (1 <<< (p1 &&& 31)) (w.2.1 10 p1.toNatClampNeg &&& ((1 <<< (p2 &&& 31)) ^^^ (-1))) p1
  else
  gu (gd p1 8) <|
  F_X3_setPair_rules_together_33 w p2 p3 (1 <<< (p1 &&& 31)) (w.2.1 10 p1.toNatClampNeg ||| (1 <<< (p2 &&& 31))) p1
-- StageCount$Rules.setTogether(III)I
def F_X3_setTogether_40  (w : Wd) (v1 : Int32) (v2 : Int32) (v3 : Int32) (v4 : Int32) : Option (Int32 × Wd) :=
  (F_X3_setPair_rules_apart w v1 v2 (if v3 = 1 then (1 : Int32) else 0)).bind fun x1 =>
  (F_X3_setPair_rules_together x1 v1 v2 (if v3 = 2 then (1 : Int32) else 0)).bind fun x2 =>
  some (v4, x2)
def F_X3_setTogether (w : Wd) (p1 : Int32) (p2 : Int32) (p3 : Int32) : Option (Int32 × Wd) :=
  gu (gd p1 8) <|
  if ((w.2.1 9 p1.toNatClampNeg >>> (p2 &&& 31)) &&& 1) = 1 then
  F_X3_setTogether_40 w p1 p2 p3 1
  else
  gu (gd p1 8) <|
  F_X3_setTogether_40 w p1 p2 p3 (if ((w.2.1 10 p1.toNatClampNeg >>> (p2 &&& 31)) &&& 1) = 1 then (2 : Int32) else 0)
-- StageCount.may(III)I
def F_X5_may_19  (w : Wd) : Option (Int32 × Wd) :=
  some ((-1), w)
def F_X5_may (w : Wd) (p1 : Int32) (p2 : Int32) (p3 : Int32) : Option (Int32 × Wd) :=
  (F_X5_isPart w p1).bind fun x1 =>
  if x1.1 = 0 then
  F_X5_may_19 x1.2
  else
  (F_X5_isPart x1.2 p2).bind fun x2 =>
  if x2.1 = 0 then
  F_X5_may_19 x2.2
  else
  if p1 = p2 then
  F_X5_may_19 x2.2
  else
  (F_X5_isWithin x2.2 p3 2).bind fun x3 =>
  if x3.1 = 0 then
  some ((-2), x3.2)
  else
  (F_X3_setTogether x3.2 p1 p2 p3).bind fun x4 =>
  some (x4.1, x4.2)
-- StageCount$Rules.breaksMay(I)Z
def F_X3_breaksMay_53 (k2 : Wd × Int32 × Int32 → Option (Int32 × Wd)) (w : Wd) (v1 : Int32) (v2 : Int32) : Option (Int32 × Wd) :=
  k2 (w, v1, (v2 + 1))
def F_X3_breaksMay_51  (w : Wd) : Option (Int32 × Wd) :=
  some (1, w)
def F_X3_breaksMay_2 (k2 : Wd × Int32 × Int32 → Option (Int32 × Wd)) (w : Wd) (v1 : Int32) (v2 : Int32) : Option (Int32 × Wd) :=
  if 8 ≤ v2 then
  some (0, w)
  else
  Let ((if ((v1 >>> (v2 &&& 31)) &&& 1) = 1 then (1 : Int32) else 0) : Int32) fun y1 =>
  if y1 = 0 then
  F_X3_breaksMay_53 k2 w v1 v2
  else
  gu (gd v2 8) <|
  if (w.2.1 9 v2.toNatClampNeg &&& v1) = 0 then
  gu (gd v2 8) <|
  if (w.2.1 10 v2.toNatClampNeg &&& (v1 ^^^ (-1))) = 0 then
  F_X3_breaksMay_53 k2 w v1 v2
  else
  F_X3_breaksMay_51 w
  else
  F_X3_breaksMay_51 w
def L_X3_breaksMay_2  (n : Nat) (a : Wd × Int32 × Int32) : Option (Int32 × Wd) := it (fun k a => F_X3_breaksMay_2  k a.1 a.2.1 a.2.2) n a
def F_X3_breaksMay (w : Wd) (p1 : Int32) : Option (Int32 × Wd) :=
  L_X3_breaksMay_2  fu (w, p1, 0)
-- StageCount$Rules.firstAgainstMay(LStageCount$Play;)I
def F_X3_firstAgainstMay_2 (k2 : Wd × Int32 → Option (Int32 × Wd)) (w : Wd) (v2 : Int32) : Option (Int32 × Wd) :=
  if (w.1 4) ≤ v2 then
  some ((-6), w)
  else
  gu (gd v2 40) <|
  (F_X3_breaksMay w (w.2.1 7 v2.toNatClampNeg)).bind fun x1 =>
  if x1.1 = 0 then
  k2 (x1.2, (v2 + 1))
  else
  some (v2, x1.2)
def L_X3_firstAgainstMay_2  (n : Nat) (a : Wd × Int32) : Option (Int32 × Wd) := it (fun k a => F_X3_firstAgainstMay_2  k a.1 a.2) n a
def F_X3_firstAgainstMay (w : Wd)  : Option (Int32 × Wd) :=
  L_X3_firstAgainstMay_2  fu (w, 0)
-- StageCount.broken()I
def F_X5_broken_24  (w : Wd) (s0 : Int32) : Option (Int32 × Wd) :=
  some (s0, w)
def F_X5_broken (w : Wd)  : Option (Int32 × Wd) :=
  (F_X5_refusalOfLines w).bind fun x1 =>
  if x1.1 = 0 then
  (F_X3_firstAgainstMay x1.2).bind fun x2 =>
  F_X5_broken_24 x2.2 x2.1
  else
  F_X5_broken_24 x1.2 x1.1
-- StageCount.strangersAt(I)I
def F_X5_strangersAt (w : Wd) (p1 : Int32) : Option (Int32 × Wd) :=
  gu (gd p1 40) <|
  some ((w.1 9 - w.2.1 6 p1.toNatClampNeg), w)
-- StageCount.bar()I
def F_X5_bar_2 (k2 : Wd × Int32 → Option (Int32 × Wd)) (w : Wd) (v1 : Int32) : Option (Int32 × Wd) :=
  if (w.1 4) ≤ v1 then
  some ((-6), w)
  else
  (F_X5_strangersAt w v1).bind fun x1 =>
  if 0 ≤ x1.1 then
  k2 (x1.2, (v1 + 1))
  else
  some (v1, x1.2)
def L_X5_bar_2  (n : Nat) (a : Wd × Int32) : Option (Int32 × Wd) := it (fun k a => F_X5_bar_2  k a.1 a.2) n a
def F_X5_bar (w : Wd)  : Option (Int32 × Wd) :=
  L_X5_bar_2  fu (w, 0)
-- StageCount.mostStrangers()I
def F_X5_mostStrangers_4 (k4 : Wd × Int32 × Int32 → Option (Int32 × Wd)) (w : Wd) (v1 : Int32) (v2 : Int32) : Option (Int32 × Wd) :=
  if (w.1 4) ≤ v2 then
  some (v1, w)
  else
  (F_X5_strangersAt w v2).bind fun x1 =>
  k4 (x1.2, (if v1 < x1.1 then x1.1 else v1), (v2 + 1))
def L_X5_mostStrangers_4  (n : Nat) (a : Wd × Int32 × Int32) : Option (Int32 × Wd) := it (fun k a => F_X5_mostStrangers_4  k a.1 a.2.1 a.2.2) n a
def F_X5_mostStrangers (w : Wd)  : Option (Int32 × Wd) :=
  L_X5_mostStrangers_4  fu (w, 0, 0)
-- StageCount.strangersComings()I
def F_X5_strangersComings_6 (k6 : Wd × Int32 × Int32 × Int32 → Option (Int32 × Wd)) (w : Wd) (v1 : Int32) (v2 : Int32) (v3 : Int32) : Option (Int32 × Wd) :=
  if (w.1 4) ≤ v3 then
  some (v1, w)
  else
  (F_X5_strangersAt w v3).bind fun x1 =>
  Let ((v1 + (if 0 < (x1.1 - v2) then (x1.1 - v2) else 0)) : Int32) fun y2 =>
  (F_X5_strangersAt x1.2 v3).bind fun x3 =>
  k6 (x3.2, y2, x3.1, (v3 + 1))
def L_X5_strangersComings_6  (n : Nat) (a : Wd × Int32 × Int32 × Int32) : Option (Int32 × Wd) := it (fun k a => F_X5_strangersComings_6  k a.1 a.2.1 a.2.2.1 a.2.2.2) n a
def F_X5_strangersComings (w : Wd)  : Option (Int32 × Wd) :=
  L_X5_strangersComings_6  fu (w, 0, 0, 0)
-- StageCount.strangers(I)I
def F_X5_strangers_101  (w : Wd) (s0 : Int32) : Option (Int32 × Wd) :=
  some (s0, w)
def F_X5_strangers_49  (w : Wd) (v1 : Int32) (v3 : Int32) : Option (Int32 × Wd) :=
  (F_X5_bar w).bind fun x2 =>
  if v1 = 2 then
  some (x2.1, x2.2)
  else
  if x2.1 = (-6) then
  if v3 = 0 then
  if v1 = 0 then
  (F_X5_strangersComings x2.2).bind fun x4 =>
  F_X5_strangers_101 x4.2 x4.1
  else
  (F_X5_mostStrangers x2.2).bind fun x3 =>
  F_X5_strangers_101 x3.2 x3.1
  else
  (F_X5_strangersAt x2.2 (v1 - 10)).bind fun x5 =>
  some (x5.1, x5.2)
  else
  some ((-6), x2.2)
def F_X5_strangers_33  (w : Wd) (v1 : Int32) (s0 : Int32) : Option (Int32 × Wd) :=
  if s0 = 0 then
  (F_X5_isWithin w v1 2).bind fun x6 =>
  if x6.1 = 0 then
  some ((-2), x6.2)
  else
  F_X5_strangers_49 x6.2 v1 s0
  else
  F_X5_strangers_49 w v1 s0
def F_X5_strangers_32  (w : Wd) (v1 : Int32) : Option (Int32 × Wd) :=
  F_X5_strangers_33 w v1 0
def F_X5_strangers (w : Wd) (p1 : Int32) : Option (Int32 × Wd) :=
  (F_X5_refusalOfLines w).bind fun x1 =>
  if x1.1 = 0 then
  if p1 < 10 then
  F_X5_strangers_32 x1.2 p1
  else
  (F_X5_isLine x1.2 (p1 - 10)).bind fun x7 =>
  if (if x7.1 = 0 then (0 : Int32) else 1) = 0 then
  (F_X5_isWithin x7.2 p1 2).bind fun x8 =>
  if x8.1 = 0 then
  some ((-2), x8.2)
  else
  F_X5_strangers_49 x8.2 p1 (if x7.1 = 0 then (0 : Int32) else 1)
  else
  F_X5_strangers_49 x7.2 p1 (if x7.1 = 0 then (0 : Int32) else 1)
  else
  some (x1.1, x1.2)
-- java/util/Arrays.fill([II)V
def F_J7_fill_stage_staying_5 (k5 : Wd × Int32 × Int32 × Int32 → Option (Wd)) (w : Wd) (v1 : Int32) (v2 : Int32) (v3 : Int32) : Option (Wd) :=
  if v3 ≤ v2 then
  some w
  else
  gu (gd v2 9) <|
  k5 ((wA w 3 v2 v1), v1, (v2 + 1), v3)
def L_J7_fill_stage_staying_5  (n : Nat) (a : Wd × Int32 × Int32 × Int32) : Option (Wd) := it (fun k a => F_J7_fill_stage_staying_5  k a.1 a.2.1 a.2.2.1 a.2.2.2) n a
def F_J7_fill_stage_staying (w : Wd) (p1 : Int32) : Option (Wd) :=
  L_J7_fill_stage_staying_5  fu (w, p1, 0, 9)
-- StageCount.longestRising()I
def F_X5_longestRising_104 (k12 : Wd × Int32 × Int32 → Option (Int32 × Wd)) (w : Wd) (v1 : Int32) (v2 : Int32) : Option (Int32 × Wd) :=
  k12 (w, v1, (v2 + 1))
def F_X5_longestRising_59 (k12 : Wd × Int32 × Int32 → Option (Int32 × Wd)) (k59 : Wd × Int32 × Int32 × Int32 × Int32 × Int32 → Option (Int32 × Wd)) (w : Wd) (v1 : Int32) (v2 : Int32) (v3 : Int32) (v4 : Int32) (v5 : Int32) : Option (Int32 × Wd) :=
  if v3 < v5 then
  gu (gd v3 9) <|
  F_X5_longestRising_104 k12 (wA w 3 v3 (v4 + 1)) (if v1 < (v4 + 1) then (v4 + 1) else v1) v2
  else
  gu (gd v5 9) <|
  Let ((if v4 < w.2.1 3 v5.toNatClampNeg then w.2.1 3 v5.toNatClampNeg else v4) : Int32) fun y2 =>
  k59 (w, v1, v2, v3, y2, (v5 + 1))
def L_X5_longestRising_59 (k12 : Wd × Int32 × Int32 → Option (Int32 × Wd)) (n : Nat) (a : Wd × Int32 × Int32 × Int32 × Int32 × Int32) : Option (Int32 × Wd) := it (fun k a => F_X5_longestRising_59 k12 k a.1 a.2.1 a.2.2.1 a.2.2.2.1 a.2.2.2.2.1 a.2.2.2.2.2) n a
def F_X5_longestRising_12 (k12 : Wd × Int32 × Int32 → Option (Int32 × Wd)) (w : Wd) (v1 : Int32) (v2 : Int32) : Option (Int32 × Wd) :=
  if (w.1 4) ≤ v2 then
  some (v1, w)
  else
  gu (gd v2 40) <|
  if (w.2.1 6 v2.toNatClampNeg) < (w.1 9) then
  F_X5_longestRising_104 k12 w v1 v2
  else
  if (w.2.1 6 v2.toNatClampNeg) ≤ 8 then
  L_X5_longestRising_59 k12 fu (w, v1, v2, w.2.1 6 v2.toNatClampNeg, 0, 0)
  else
  F_X5_longestRising_104 k12 w v1 v2
def L_X5_longestRising_12  (n : Nat) (a : Wd × Int32 × Int32) : Option (Int32 × Wd) := it (fun k a => F_X5_longestRising_12  k a.1 a.2.1 a.2.2) n a
def F_X5_longestRising (w : Wd)  : Option (Int32 × Wd) :=
  (F_J7_fill_stage_staying w 0).bind fun x1 =>
  L_X5_longestRising_12  fu (x1, 0, 0)
-- StageCount.linesInLaw()I
def F_X5_linesInLaw_4 (k4 : Wd × Int32 × Int32 → Option (Int32 × Wd)) (w : Wd) (v1 : Int32) (v2 : Int32) : Option (Int32 × Wd) :=
  if (w.1 4) ≤ v2 then
  some (v1, w)
  else
  gu (gd v2 40) <|
  (F_X3_holds w (w.2.1 6 v2.toNatClampNeg) 0).bind fun x1 =>
  k4 (x1.2, (if x1.1 = 0 then v1 else (v1 + 1)), (v2 + 1))
def L_X5_linesInLaw_4  (n : Nat) (a : Wd × Int32 × Int32) : Option (Int32 × Wd) := it (fun k a => F_X5_linesInLaw_4  k a.1 a.2.1 a.2.2) n a
def F_X5_linesInLaw (w : Wd)  : Option (Int32 × Wd) :=
  L_X5_linesInLaw_4  fu (w, 0, 0)
-- StageCount.cuts()I
def F_X5_cuts_60  (w : Wd) (s0 : Int32) (s1 : Int32) : Option (Int32 × Wd) :=
  some ((s1 - s0), w)
def F_X5_cuts (w : Wd)  : Option (Int32 × Wd) :=
  (F_X5_refusalOfLines w).bind fun x1 =>
  if x1.1 = 0 then
  Let ((if (x1.2.1 8) = 0 then 1 else (if (x1.2.1 8) = 1 then (1 : Int32) else 0)) : Int32) fun y2 =>
  if y2 = 0 then
  (F_X5_longestRising x1.2).bind fun x3 =>
  F_X5_cuts_60 x3.2 x3.1 (x1.2.1 4)
  else
  (F_X5_linesInLaw x1.2).bind fun x4 =>
  F_X5_cuts_60 x4.2 x4.1 (x1.2.1 4)
  else
  some (x1.1, x1.2)
-- StageCount$Cast.partsOf(I)I
def F_X0_partsOf_4 (k4 : Wd × Int32 × Int32 × Int32 → Option (Int32 × Wd)) (w : Wd) (v1 : Int32) (v2 : Int32) (v3 : Int32) : Option (Int32 × Wd) :=
  if 8 ≤ v3 then
  some (v2, w)
  else
  gu (gd v3 8) <|
  k4 (w, v1, (if (w.2.1 27 v3.toNatClampNeg) = v1 then (v2 ||| (1 <<< (v3 &&& 31))) else v2), (v3 + 1))
def L_X0_partsOf_4  (n : Nat) (a : Wd × Int32 × Int32 × Int32) : Option (Int32 × Wd) := it (fun k a => F_X0_partsOf_4  k a.1 a.2.1 a.2.2.1 a.2.2.2) n a
def F_X0_partsOf (w : Wd) (p1 : Int32) : Option (Int32 × Wd) :=
  L_X0_partsOf_4  fu (w, p1, 0, 0)
-- StageCount$Cast.isCast(LStageCount$Cast;II)Z
def F_X0_isCast_98 (rec : Wd → Int32 → Int32 → Option (Int32 × Wd)) (w : Wd) : Option (Int32 × Wd) :=
  some (0, w)
def F_X0_isCast_92 (rec : Wd → Int32 → Int32 → Option (Int32 × Wd)) (k30 : Wd × Int32 × Int32 × Int32 → Option (Int32 × Wd)) (w : Wd) (v1 : Int32) (v2 : Int32) (v3 : Int32) : Option (Int32 × Wd) :=
  k30 (w, v1, v2, (v3 + 1))
def F_X0_isCast_30 (rec : Wd → Int32 → Int32 → Option (Int32 × Wd)) (k30 : Wd × Int32 × Int32 × Int32 → Option (Int32 × Wd)) (w : Wd) (v1 : Int32) (v2 : Int32) (v3 : Int32) : Option (Int32 × Wd) :=
  if v2 < v3 then
  F_X0_isCast_98 rec w
  else
  if (w.1 23) ≤ v3 then
  F_X0_isCast_98 rec w
  else
  gu (gd v1 8) <|
  (F_X0_partsOf w v3).bind fun x1 =>
  if (w.2.1 29 v1.toNatClampNeg &&& x1.1) = 0 then
  gu (gd v1 8) <|
  (rec (wA x1.2 27 v1 v3) (v1 + 1) (if v2 < (v3 + 1) then (v3 + 1) else v2)).bind fun x2 =>
  if x2.1 = 0 then
  gu (gd v1 8) <|
  F_X0_isCast_92 rec k30 (wA x2.2 27 v1 (-6)) v1 v2 v3
  else
  some (1, x2.2)
  else
  F_X0_isCast_92 rec k30 x1.2 v1 v2 v3
def L_X0_isCast_30 (rec : Wd → Int32 → Int32 → Option (Int32 × Wd)) (n : Nat) (a : Wd × Int32 × Int32 × Int32) : Option (Int32 × Wd) := it (fun k a => F_X0_isCast_30 rec k a.1 a.2.1 a.2.2.1 a.2.2.2) n a
def F_X0_isCast_b (rec : Wd → Int32 → Int32 → Option (Int32 × Wd)) (w : Wd) (p1 : Int32) (p2 : Int32) : Option (Int32 × Wd) :=
  if p1 < 8 then
  gu (gd p1 8) <|
  if (lg_cmp (w.2.2 28 p1.toNatClampNeg) 0) = 0 then
  (rec w (p1 + 1) p2).bind fun x3 =>
  gu (isB x3.1) (some (x3.1, x3.2))
  else
  L_X0_isCast_30 rec fu (w, p1, p2, 0)
  else
  some (1, w)
def F_X0_isCast : Nat → Wd → Int32 → Int32 → Option (Int32 × Wd)
  | 0 => fun _ _ _ => none
  | d + 1 => F_X0_isCast_b (F_X0_isCast d)
-- StageCount$Cast.clashesOf(J)I
def F_X0_clashesOf_38 (k38 : Wd × Int64 × Int32 × Int32 → Option (Int32 × Wd)) (w : Wd) (v3 : Int64) (v5 : Int32) (v6 : Int32) : Option (Int32 × Wd) :=
  if 8 ≤ v6 then
  some (v5, w)
  else
  gu (gd v6 8) <|
  k38 (w, v3, (if (lg_cmp (v3 &&& w.2.2 28 v6.toNatClampNeg) 0) = 0 then v5 else (v5 ||| (1 <<< (v6 &&& 31)))), (v6 + 1))
def L_X0_clashesOf_38  (n : Nat) (a : Wd × Int64 × Int32 × Int32) : Option (Int32 × Wd) := it (fun k a => F_X0_clashesOf_38  k a.1 a.2.1 a.2.2.1 a.2.2.2) n a
def F_X0_clashesOf_5 (k5 : Wd × Int64 × Int64 × Int32 → Option (Int32 × Wd)) (w : Wd) (v1 : Int64) (v3 : Int64) (v5 : Int32) : Option (Int32 × Wd) :=
  if (w.1 24) < v5 then
  L_X0_clashesOf_38  fu (w, v3, 0, 0)
  else
  Let ((v3 ||| ((lshl v1 v5) ||| (lushr v1 v5))) : Int64) fun y1 =>
  k5 (w, v1, y1, (v5 + 1))
def L_X0_clashesOf_5  (n : Nat) (a : Wd × Int64 × Int64 × Int32) : Option (Int32 × Wd) := it (fun k a => F_X0_clashesOf_5  k a.1 a.2.1 a.2.2.1 a.2.2.2) n a
def F_X0_clashesOf (w : Wd) (p1 : Int64) : Option (Int32 × Wd) :=
  L_X0_clashesOf_5  fu (w, p1, p1, 1)
-- StageCount$Cast.choose(LStageCount$Play;I)V
def F_X0_choose_103  (w : Wd) : Option (Wd) :=
  some w
def F_X0_choose_73 (k73 : Wd × Int32 × Int32 → Option (Wd)) (w : Wd) (v3 : Int32) (v4 : Int32) : Option (Wd) :=
  if 8 < v4 then
  F_X0_choose_103 w
  else
  if v3 = 0 then
  (F_X0_isCast 10 (wI w 23 v4) 0 0).bind fun x1 =>
  k73 (x1.2, x1.1, (v4 + 1))
  else
  F_X0_choose_103 w
def L_X0_choose_73  (n : Nat) (a : Wd × Int32 × Int32) : Option (Wd) := it (fun k a => F_X0_choose_73  k a.1 a.2.1 a.2.2) n a
def F_X0_choose_40 (k40 : Wd × Int32 → Option (Wd)) (w : Wd) (v3 : Int32) : Option (Wd) :=
  if 8 ≤ v3 then
  L_X0_choose_73  fu (w, 0, 0)
  else
  gu (gd v3 8) <|
  (F_X0_clashesOf w (w.2.2 28 v3.toNatClampNeg)).bind fun x2 =>
  gu (gd v3 8) <|
  k40 ((wA x2.2 29 v3 x2.1), (v3 + 1))
def L_X0_choose_40  (n : Nat) (a : Wd × Int32) : Option (Wd) := it (fun k a => F_X0_choose_40  k a.1 a.2) n a
def F_X0_choose_7 (k7 : Wd × Int32 → Option (Wd)) (w : Wd) (v3 : Int32) : Option (Wd) :=
  if 8 ≤ v3 then
  L_X0_choose_40  fu (w, 0)
  else
  (F_X2_linesOf w v3).bind fun x3 =>
  gu (gd v3 8) <|
  gu (gd v3 8) <|
  k7 ((wA (wL x3.2 28 v3 x3.1) 27 v3 (-6)), (v3 + 1))
def L_X0_choose_7  (n : Nat) (a : Wd × Int32) : Option (Wd) := it (fun k a => F_X0_choose_7  k a.1 a.2) n a
def F_X0_choose (w : Wd) (p2 : Int32) : Option (Wd) :=
  L_X0_choose_7  fu ((wI w 24 p2), 0)
-- StageCount.cast(I)I
def F_X5_cast_67  (w : Wd) (s0 : Int32) : Option (Int32 × Wd) :=
  some (s0, w)
def F_X5_cast_14  (w : Wd) (v1 : Int32) : Option (Int32 × Wd) :=
  (F_X5_refusalOfLines w).bind fun x1 =>
  if x1.1 = 0 then
  (F_X0_choose x1.2 (x1.2.1 10)).bind fun x2 =>
  if v1 = (-1) then
  F_X5_cast_67 x2 (x2.1 23)
  else
  gu (gd v1 8) <|
  F_X5_cast_67 x2 (x2.2.1 27 v1.toNatClampNeg)
  else
  some (x1.1, x1.2)
def F_X5_cast (w : Wd) (p1 : Int32) : Option (Int32 × Wd) :=
  if p1 = (-1) then
  F_X5_cast_14 w p1
  else
  (F_X5_isPart w p1).bind fun x3 =>
  if x3.1 = 0 then
  some ((-1), x3.2)
  else
  F_X5_cast_14 x3.2 p1
-- StageCount$Cast.canTakeOver(JI)Z
def F_X0_canTakeOver_39 (k10 : Wd × Int32 × Int32 × Int32 → Option (Int32 × Wd)) (w : Wd) (v3 : Int32) (v4 : Int32) (v5 : Int32) : Option (Int32 × Wd) :=
  k10 (w, v3, v4, (v5 + 1))
def F_X0_canTakeOver_10 (k10 : Wd × Int32 × Int32 × Int32 → Option (Int32 × Wd)) (w : Wd) (v3 : Int32) (v4 : Int32) (v5 : Int32) : Option (Int32 × Wd) :=
  if (w.1 23) ≤ v5 then
  some (0, w)
  else
  if v5 = v3 then
  F_X0_canTakeOver_39 k10 w v3 v4 v5
  else
  (F_X0_partsOf w v5).bind fun x2 =>
  if (v4 &&& x2.1) = 0 then
  some (1, x2.2)
  else
  F_X0_canTakeOver_39 k10 x2.2 v3 v4 v5
def L_X0_canTakeOver_10  (n : Nat) (a : Wd × Int32 × Int32 × Int32) : Option (Int32 × Wd) := it (fun k a => F_X0_canTakeOver_10  k a.1 a.2.1 a.2.2.1 a.2.2.2) n a
def F_X0_canTakeOver (w : Wd) (p1 : Int64) (p3 : Int32) : Option (Int32 × Wd) :=
  (F_X0_clashesOf w p1).bind fun x1 =>
  L_X0_canTakeOver_10  fu (x1.2, p3, x1.1, 0)
-- StageCount$Cast.notTakenOver(II)I
def F_X0_notTakenOver_64 (k13 : Wd × Int32 × Int32 × Int32 × Int32 → Option (Int32 × Wd)) (w : Wd) (v1 : Int32) (v2 : Int32) (v3 : Int32) (v4 : Int32) : Option (Int32 × Wd) :=
  k13 (w, v1, v2, v3, (v4 + 1))
def F_X0_notTakenOver_13 (k13 : Wd × Int32 × Int32 × Int32 × Int32 → Option (Int32 × Wd)) (w : Wd) (v1 : Int32) (v2 : Int32) (v3 : Int32) (v4 : Int32) : Option (Int32 × Wd) :=
  if 8 ≤ v4 then
  some (v3, w)
  else
  gu (gd v4 8) <|
  Let ((lshl (lushr (w.2.2 28 v4.toNatClampNeg) v2) v2) : Int64) fun y1 =>
  gu (gd v4 8) <|
  if (w.2.1 27 v4.toNatClampNeg) = v1 then
  if (lg_cmp y1 0) = 0 then
  F_X0_notTakenOver_64 k13 w v1 v2 v3 v4
  else
  (F_X0_canTakeOver w y1 v1).bind fun x2 =>
  F_X0_notTakenOver_64 k13 x2.2 v1 v2 (if x2.1 = 0 then (v3 + 1) else v3) v4
  else
  F_X0_notTakenOver_64 k13 w v1 v2 v3 v4
def L_X0_notTakenOver_13  (n : Nat) (a : Wd × Int32 × Int32 × Int32 × Int32) : Option (Int32 × Wd) := it (fun k a => F_X0_notTakenOver_13  k a.1 a.2.1 a.2.2.1 a.2.2.2.1 a.2.2.2.2) n a
def F_X0_notTakenOver (w : Wd) (p1 : Int32) (p2 : Int32) : Option (Int32 × Wd) :=
  if p1 = (-6) then
  some (0, w)
  else
  L_X0_notTakenOver_13  fu (w, p1, p2, 0, 0)
-- StageCount.ill(II)I
def F_X5_ill (w : Wd) (p1 : Int32) (p2 : Int32) : Option (Int32 × Wd) :=
  (F_X5_isPart w p1).bind fun x1 =>
  if x1.1 = 0 then
  some ((-1), x1.2)
  else
  (F_X5_refusalOfLines x1.2).bind fun x2 =>
  if x2.1 = 0 then
  (F_X5_isLine x2.2 p2).bind fun x3 =>
  if x3.1 = 0 then
  some ((-2), x3.2)
  else
  (F_X0_choose x3.2 (x3.2.1 10)).bind fun x4 =>
  gu (gd p1 8) <|
  (F_X0_notTakenOver x4 (x4.2.1 27 p1.toNatClampNeg) p2).bind fun x5 =>
  some (x5.1, x5.2)
  else
  some (x2.1, x2.2)
-- StageCount$Rules.addScene(I)I
def F_X3_addScene (w : Wd) (p1 : Int32) : Option (Int32 × Wd) :=
  if (w.1 11) < 6 then
  gu (gd (w.1 11) 6) <|
  some ((w.1 11 + 1), (wI (wA w 11 (w.1 11) p1) 11 (w.1 11 + 1)))
  else
  some ((-4), w)
-- StageCount.scene(I)I
def F_X5_scene (w : Wd) (p1 : Int32) : Option (Int32 × Wd) :=
  (F_X5_isWithin w p1 255).bind fun x1 =>
  if x1.1 = 0 then
  some ((-2), x1.2)
  else
  (F_X3_addScene x1.2 p1).bind fun x2 =>
  some (x2.1, x2.2)
-- StageCount.strike()I
def F_X5_strike (w : Wd)  : Option (Int32 × Wd) :=
  some (w.1 11, (wI w 11 0))
-- java/lang/Integer.bitCount(I)I
def F_J6_bitCount (w : Wd) (p0 : Int32) : Option (Int32 × Wd) :=
  Let ((((p0 - ((ushr p0 1) &&& 1431655765)) &&& 858993459) + ((ushr (p0 - ((ushr p0 1) &&& 1431655765)) 2) &&& 858993459)) : Int32) fun y1 =>
  Let ((((y1 + (ushr y1 4)) &&& 252645135) + (ushr ((y1 + (ushr y1 4)) &&& 252645135) 8)) : Int32) fun y2 =>
  some (((y2 + (ushr y2 16)) &&& 63), w)
-- StageCount$SceneOrder.fewestBy(III)I
def F_X4_fewestBy (w : Wd) (p1 : Int32) (p2 : Int32) (p3 : Int32) : Option (Int32 × Wd) :=
  gu (gd p1 6) <|
  (F_J6_bitCount w (p3 ^^^ w.2.1 32 p1.toNatClampNeg)).bind fun x1 =>
  gu (gd (((p2 ||| (1 <<< (p1 &&& 31))) * 6) + p1) 384) <|
  some ((x1.1 + x1.2.2.1 33 (((p2 ||| (1 <<< (p1 &&& 31))) * 6) + p1).toNatClampNeg), x1.2)
-- StageCount$SceneOrder.fewestFrom(II)I
def F_X4_fewestFrom_54 (k23 : Wd × Int32 × Int32 × Int32 × Int32 → Option (Int32 × Wd)) (w : Wd) (v1 : Int32) (v2 : Int32) (v3 : Int32) (v4 : Int32) : Option (Int32 × Wd) :=
  k23 (w, v1, v2, v3, (v4 + 1))
def F_X4_fewestFrom_23 (k23 : Wd × Int32 × Int32 × Int32 × Int32 → Option (Int32 × Wd)) (w : Wd) (v1 : Int32) (v2 : Int32) (v3 : Int32) (v4 : Int32) : Option (Int32 × Wd) :=
  if (w.1 26) ≤ v4 then
  some (v3, w)
  else
  if ((v1 >>> (v4 &&& 31)) &&& 1) = 0 then
  (F_X4_fewestBy w v4 v1 v2).bind fun x1 =>
  F_X4_fewestFrom_54 k23 x1.2 v1 v2 (if x1.1 < v3 then x1.1 else v3) v4
  else
  F_X4_fewestFrom_54 k23 w v1 v2 v3 v4
def L_X4_fewestFrom_23  (n : Nat) (a : Wd × Int32 × Int32 × Int32 × Int32) : Option (Int32 × Wd) := it (fun k a => F_X4_fewestFrom_23  k a.1 a.2.1 a.2.2.1 a.2.2.2.1 a.2.2.2.2) n a
def F_X4_fewestFrom (w : Wd) (p1 : Int32) (p2 : Int32) : Option (Int32 × Wd) :=
  if p1 = ((1 <<< (w.1 26 &&& 31)) - 1) then
  (F_J6_bitCount w p2).bind fun x2 =>
  some (x2.1, x2.2)
  else
  L_X4_fewestFrom_23  fu (w, p1, p2, 57, 0)
-- StageCount$SceneOrder.firstBest(II)I
def F_X4_firstBest_43 (k10 : Wd × Int32 × Int32 × Int32 × Int32 → Option (Int32 × Wd)) (w : Wd) (v1 : Int32) (v2 : Int32) (v3 : Int32) (v4 : Int32) : Option (Int32 × Wd) :=
  k10 (w, v1, v2, v3, (v4 + 1))
def F_X4_firstBest_10 (k10 : Wd × Int32 × Int32 × Int32 × Int32 → Option (Int32 × Wd)) (w : Wd) (v1 : Int32) (v2 : Int32) (v3 : Int32) (v4 : Int32) : Option (Int32 × Wd) :=
  if (w.1 26) ≤ v4 then
  some (0, w)
  else
  if ((v1 >>> (v4 &&& 31)) &&& 1) = 0 then
  (F_X4_fewestBy w v4 v1 v2).bind fun x2 =>
  if x2.1 = v3 then
  some (v4, x2.2)
  else
  F_X4_firstBest_43 k10 x2.2 v1 v2 v3 v4
  else
  F_X4_firstBest_43 k10 w v1 v2 v3 v4
def L_X4_firstBest_10  (n : Nat) (a : Wd × Int32 × Int32 × Int32 × Int32) : Option (Int32 × Wd) := it (fun k a => F_X4_firstBest_10  k a.1 a.2.1 a.2.2.1 a.2.2.2.1 a.2.2.2.2) n a
def F_X4_firstBest (w : Wd) (p1 : Int32) (p2 : Int32) : Option (Int32 × Wd) :=
  (F_X4_fewestFrom w p1 p2).bind fun x1 =>
  L_X4_firstBest_10  fu (x1.2, p1, p2, x1.1, 0)
-- StageCount$SceneOrder.fillRow()V
def F_X4_fillRow_6 (k6 : Wd × Int32 × Int32 × Int32 → Option (Wd)) (w : Wd) (v1 : Int32) (v2 : Int32) (v3 : Int32) : Option (Wd) :=
  if (w.1 26) ≤ v3 then
  some w
  else
  (F_X4_firstBest w v1 v2).bind fun x1 =>
  gu (gd v3 6) <|
  gu (gd x1.1 6) <|
  k6 ((wA x1.2 31 v3 x1.1), (v1 ||| (1 <<< (x1.1 &&& 31))), x1.2.2.1 32 x1.1.toNatClampNeg, (v3 + 1))
def L_X4_fillRow_6  (n : Nat) (a : Wd × Int32 × Int32 × Int32) : Option (Wd) := it (fun k a => F_X4_fillRow_6  k a.1 a.2.1 a.2.2.1 a.2.2.2) n a
def F_X4_fillRow (w : Wd)  : Option (Wd) :=
  L_X4_fillRow_6  fu (w, 0, 0, 0)
-- StageCount$SceneOrder.choose(LStageCount$Rules;)V
def F_X4_choose_77 (k32 : Wd × Int32 → Option (Wd)) (k38 : Wd × Int32 × Int32 → Option (Wd)) (w : Wd) (v2 : Int32) (v3 : Int32) : Option (Wd) :=
  k38 (w, v2, (v3 + 1))
def F_X4_choose_38 (k32 : Wd × Int32 → Option (Wd)) (k38 : Wd × Int32 × Int32 → Option (Wd)) (w : Wd) (v2 : Int32) (v3 : Int32) : Option (Wd) :=
  if (w.1 26) ≤ v3 then
  k32 (w, (v2 + (-1)))
  else
  if ((v2 >>> (v3 &&& 31)) &&& 1) = 1 then
  gu (gd v3 6) <|
  (F_X4_fewestFrom w v2 (w.2.1 32 v3.toNatClampNeg)).bind fun x3 =>
  gu (gd ((v2 * 6) + v3) 384) <|
  F_X4_choose_77 k32 k38 (wA x3.2 33 ((v2 * 6) + v3) x3.1) v2 v3
  else
  F_X4_choose_77 k32 k38 w v2 v3
def L_X4_choose_38 (k32 : Wd × Int32 → Option (Wd)) (n : Nat) (a : Wd × Int32 × Int32) : Option (Wd) := it (fun k a => F_X4_choose_38 k32 k a.1 a.2.1 a.2.2) n a
def F_X4_choose_32 (k32 : Wd × Int32 → Option (Wd)) (w : Wd) (v2 : Int32) : Option (Wd) :=
  if v2 ≤ 0 then
  (F_X4_fewestFrom w 0 0).bind fun x1 =>
  (F_X4_fillRow (wI x1.2 25 x1.1)).bind fun x2 =>
  some x2
  else
  L_X4_choose_38 k32 fu (w, v2, 0)
def L_X4_choose_32  (n : Nat) (a : Wd × Int32) : Option (Wd) := it (fun k a => F_X4_choose_32  k a.1 a.2) n a
def F_X4_choose (w : Wd)  : Option (Wd) :=
  L_X4_choose_32  fu ((wR (wI w 26 (w.1 11)) 32 (va_cpy (w.2.1 11) (w.2.1 32) 0 0 6)), ((1 <<< (w.1 11 &&& 31)) - 1))
-- StageCount.order(I)I
def F_X5_order_16  (w : Wd) : Option (Int32 × Wd) :=
  some ((-6), w)
def F_X5_order_54  (w : Wd) (s0 : Int32) : Option (Int32 × Wd) :=
  some (s0, w)
def F_X5_order (w : Wd) (p1 : Int32) : Option (Int32 × Wd) :=
  if p1 < (-1) then
  F_X5_order_16 w
  else
  if p1 < (w.1 11) then
  (F_X4_choose w).bind fun x1 =>
  if p1 = (-1) then
  F_X5_order_54 x1 (x1.1 25)
  else
  gu (gd p1 6) <|
  F_X5_order_54 x1 (x1.2.1 31 p1.toNatClampNeg)
  else
  F_X5_order_16 w
-- StageCount$Rules.addSight(II)I
def F_X3_addSight (w : Wd) (p1 : Int32) (p2 : Int32) : Option (Int32 × Wd) :=
  if (w.1 12) < 6 then
  gu (gd (w.1 12) 6) <|
  gu (gd (w.1 12) 6) <|
  some ((w.1 12 + 1), (wI (wA (wA w 12 (w.1 12) p1) 13 (w.1 12) p2) 12 (w.1 12 + 1)))
  else
  some ((-4), w)
-- StageCount.seen(II)I
def F_X5_seen_18  (w : Wd) : Option (Int32 × Wd) :=
  some ((-2), w)
def F_X5_seen (w : Wd) (p1 : Int32) (p2 : Int32) : Option (Int32 × Wd) :=
  (F_X5_isWithin w p1 39).bind fun x1 =>
  if x1.1 = 0 then
  F_X5_seen_18 x1.2
  else
  (F_X5_isWithin x1.2 p2 8).bind fun x2 =>
  if x2.1 = 0 then
  F_X5_seen_18 x2.2
  else
  (F_X3_addSight x2.2 p1 p2).bind fun x3 =>
  some (x3.1, x3.2)
-- StageCount.forget()I
def F_X5_forget (w : Wd)  : Option (Int32 × Wd) :=
  some (w.1 12, (wI w 12 0))
-- java/util/Arrays.fill([II)V
def F_J7_fill_guess_who_5 (k5 : Wd × Int32 × Int32 × Int32 → Option (Wd)) (w : Wd) (v1 : Int32) (v2 : Int32) (v3 : Int32) : Option (Wd) :=
  if v3 ≤ v2 then
  some w
  else
  gu (gd v2 3) <|
  k5 ((wA w 35 v2 v1), v1, (v2 + 1), v3)
def L_J7_fill_guess_who_5  (n : Nat) (a : Wd × Int32 × Int32 × Int32) : Option (Wd) := it (fun k a => F_J7_fill_guess_who_5  k a.1 a.2.1 a.2.2.1 a.2.2.2) n a
def F_J7_fill_guess_who (w : Wd) (p1 : Int32) : Option (Wd) :=
  L_J7_fill_guess_who_5  fu (w, p1, 0, 3)
-- StageCount$Rules.sightsHold(LStageCount$Play;)Z
def F_X3_sightsHold_40  (w : Wd) : Option (Int32 × Wd) :=
  some (0, w)
def F_X3_sightsHold_2 (k2 : Wd × Int32 → Option (Int32 × Wd)) (w : Wd) (v2 : Int32) : Option (Int32 × Wd) :=
  if (w.1 12) ≤ v2 then
  some (1, w)
  else
  gu (gd v2 6) <|
  if (w.1 4) ≤ (w.2.1 12 v2.toNatClampNeg) then
  F_X3_sightsHold_40 w
  else
  gu (gd (w.2.1 12 v2.toNatClampNeg) 40) <|
  gu (gd v2 6) <|
  if (w.2.1 6 (w.2.1 12 v2.toNatClampNeg).toNatClampNeg) = (w.2.1 13 v2.toNatClampNeg) then
  k2 (w, (v2 + 1))
  else
  F_X3_sightsHold_40 w
def L_X3_sightsHold_2  (n : Nat) (a : Wd × Int32) : Option (Int32 × Wd) := it (fun k a => F_X3_sightsHold_2  k a.1 a.2) n a
def F_X3_sightsHold (w : Wd)  : Option (Int32 × Wd) :=
  L_X3_sightsHold_2  fu (w, 0)
-- StageCount$Guess.keep(LStageCount$Play;I)V
def F_X1_keep_24 (k24 : Wd × Int32 × Int32 → Option (Wd)) (w : Wd) (v2 : Int32) (v3 : Int32) : Option (Wd) :=
  if (w.1 2) ≤ v3 then
  some w
  else
  gu (gd v3 3) <|
  (F_X2_guessed w v2 v3).bind fun x1 =>
  gu (gd v3 3) <|
  k24 ((wA x1.2 35 v3 (w.2.1 35 v3.toNatClampNeg ||| (1 <<< (x1.1 &&& 31)))), v2, (v3 + 1))
def L_X1_keep_24  (n : Nat) (a : Wd × Int32 × Int32) : Option (Wd) := it (fun k a => F_X1_keep_24  k a.1 a.2.1 a.2.2) n a
def F_X1_keep_12  (w : Wd) (v2 : Int32) : Option (Wd) :=
  L_X1_keep_24  fu ((wI w 27 (w.1 27 + 1)), v2, 0)
def F_X1_keep (w : Wd) (p2 : Int32) : Option (Wd) :=
  if (w.1 27) = 0 then
  F_X1_keep_12 (wI w 28 p2) p2
  else
  F_X1_keep_12 w p2
-- StageCount$Guess.tryAll(LStageCount$Play;LStageCount$Rules;)V
def F_X1_tryAll_96 (k43 : Wd × Int32 × Int32 × Int32 → Option (Wd)) (w : Wd) (v3 : Int32) (v4 : Int32) (v5 : Int32) : Option (Wd) :=
  k43 (w, v3, v4, (v5 + 1))
def F_X1_tryAll_78 (k43 : Wd × Int32 × Int32 × Int32 → Option (Wd)) (w : Wd) (v3 : Int32) (v5 : Int32) : Option (Wd) :=
  Let ((v5 + (1 <<< ((3 * (w.1 2 - w.1 7)) &&& 31))) : Int32) fun y4 =>
  F_X1_tryAll_96 k43 w v3 y4 v5
def F_X1_tryAll_43 (k43 : Wd × Int32 × Int32 × Int32 → Option (Wd)) (w : Wd) (v3 : Int32) (v4 : Int32) (v5 : Int32) : Option (Wd) :=
  if v3 ≤ v5 then
  some w
  else
  if v5 < v4 then
  F_X1_tryAll_96 k43 w v3 v4 v5
  else
  (F_X2_perform w v5).bind fun x3 =>
  if (x3.1 5) = (-6) then
  (F_X1_keep x3 v5).bind fun x5 =>
  F_X1_tryAll_78 k43 x5 v3 v5
  else
  F_X1_tryAll_78 k43 x3 v3 v5
def L_X1_tryAll_43  (n : Nat) (a : Wd × Int32 × Int32 × Int32) : Option (Wd) := it (fun k a => F_X1_tryAll_43  k a.1 a.2.1 a.2.2.1 a.2.2.2) n a
def F_X1_tryAll (w : Wd)  : Option (Wd) :=
  (F_J7_fill_guess_who (wI (wI w 27 0) 28 (-6)) 0).bind fun x1 =>
  (F_X3_sightsHold x1).bind fun x2 =>
  if x2.1 = 0 then
  some x2.2
  else
  L_X1_tryAll_43  fu (x2.2, (1 <<< ((3 * x2.2.1 2) &&& 31)), 0, 0)
-- StageCount.fits(I)I
def F_X5_fits_38  (w : Wd) : Option (Int32 × Wd) :=
  some ((-6), w)
def F_X5_fits_99  (w : Wd) (s0 : Int32) : Option (Int32 × Wd) :=
  some (s0, w)
def F_X5_fits (w : Wd) (p1 : Int32) : Option (Int32 × Wd) :=
  (F_X2_survey w).bind fun x1 =>
  if (x1.1 1) = (-6) then
  if p1 < (-1) then
  F_X5_fits_38 x1
  else
  if p1 < (x1.1 2) then
  (F_X1_tryAll x1).bind fun x2 =>
  if p1 = (-1) then
  some (x2.1 27, x2)
  else
  if (x2.1 27) = 0 then
  F_X5_fits_99 x2 (-6)
  else
  (F_X2_guessed x2 (x2.1 28) p1).bind fun x3 =>
  F_X5_fits_99 x3.2 x3.1
  else
  F_X5_fits_38 x1
  else
  some ((-5), x1)
-- StageCount.could(I)I
def F_X5_could_37  (w : Wd) : Option (Int32 × Wd) :=
  some ((-6), w)
def F_X5_could (w : Wd) (p1 : Int32) : Option (Int32 × Wd) :=
  (F_X2_survey w).bind fun x1 =>
  if (x1.1 1) = (-6) then
  if p1 < 0 then
  F_X5_could_37 x1
  else
  if p1 < (x1.1 2) then
  (F_X1_tryAll x1).bind fun x2 =>
  gu (gd p1 3) <|
  some (x2.2.1 35 p1.toNatClampNeg, x2)
  else
  F_X5_could_37 x1
  else
  some ((-5), x1)
-- StageCount.evening(III)I
def F_X5_evening_29  (w : Wd) : Option (Int32 × Wd) :=
  some ((-2), w)
def F_X5_evening_59 (k59 : Wd × Int32 × Int32 × Int32 × Int32 × Int32 × Int32 × Int32 × Int32 × Int32 → Option (Int32 × Wd)) (w : Wd) (v2 : Int32) (v3 : Int32) (v4 : Int32) (v5 : Int32) (v6 : Int32) (v7 : Int32) (v8 : Int32) (v9 : Int32) (v10 : Int32) : Option (Int32 × Wd) :=
  if v2 ≤ v10 then
  if v3 = 0 then
  some (v8, w)
  else
  some ((if v3 = 1 then v6 else v7), w)
  else
  Let ((((75 * v4) + 74) - ((75 * v4) + 74) / 65537 * 65537) : Int32) fun y3 =>
  Let ((v5 ^^^ (1 <<< ((y3 - y3 / 8 * 8) &&& 31))) : Int32) fun y4 =>
  (F_J6_bitCount w y4).bind fun x5 =>
  (F_X3_holds x5.2 x5.1 v9).bind fun x6 =>
  k59 (x6.2, v2, v3, y3, y4, x5.1, (if v7 < x5.1 then x5.1 else v7), (if x6.1 = 0 then v8 else (v8 + 1)), x5.1, (v10 + 1))
def L_X5_evening_59  (n : Nat) (a : Wd × Int32 × Int32 × Int32 × Int32 × Int32 × Int32 × Int32 × Int32 × Int32) : Option (Int32 × Wd) := it (fun k a => F_X5_evening_59  k a.1 a.2.1 a.2.2.1 a.2.2.2.1 a.2.2.2.2.1 a.2.2.2.2.2.1 a.2.2.2.2.2.2.1 a.2.2.2.2.2.2.2.1 a.2.2.2.2.2.2.2.2.1 a.2.2.2.2.2.2.2.2.2) n a
def F_X5_evening (w : Wd) (p1 : Int32) (p2 : Int32) (p3 : Int32) : Option (Int32 × Wd) :=
  (F_X5_isWithin w p1 9999).bind fun x1 =>
  if x1.1 = 0 then
  F_X5_evening_29 x1.2
  else
  if p2 < 1 then
  F_X5_evening_29 x1.2
  else
  if 99 < p2 then
  F_X5_evening_29 x1.2
  else
  (F_X5_isWithin x1.2 p3 2).bind fun x2 =>
  if x2.1 = 0 then
  F_X5_evening_29 x2.2
  else
  L_X5_evening_59  fu (x2.2, p2, p3, p1, 0, 0, 0, 0, x2.2.1 9, 0)
-- StageCount$Rules.become(LStageCount$Rules;)V
def F_X3_become_img0_rules (w : Wd)  : Option (Wd) :=
  some (wR (wR (wR (wR (wR (wI (wI (wI (wI (wI w 13 (w.1 8)) 14 (w.1 9)) 15 (w.1 10)) 16 (w.1 11)) 17 (w.1 12)) 15 (va_cpy (w.2.1 9) (w.2.1 15) 0 0 8)) 16 (va_cpy (w.2.1 10) (w.2.1 16) 0 0 8)) 17 (va_cpy (w.2.1 11) (w.2.1 17) 0 0 6)) 18 (va_cpy (w.2.1 12) (w.2.1 18) 0 0 6)) 19 (va_cpy (w.2.1 13) (w.2.1 19) 0 0 6))
-- StageCount$Rules.become(LStageCount$Rules;)V
def F_X3_become_img1_rules (w : Wd)  : Option (Wd) :=
  some (wR (wR (wR (wR (wR (wI (wI (wI (wI (wI w 18 (w.1 8)) 19 (w.1 9)) 20 (w.1 10)) 21 (w.1 11)) 22 (w.1 12)) 21 (va_cpy (w.2.1 9) (w.2.1 21) 0 0 8)) 22 (va_cpy (w.2.1 10) (w.2.1 22) 0 0 8)) 23 (va_cpy (w.2.1 11) (w.2.1 23) 0 0 6)) 24 (va_cpy (w.2.1 12) (w.2.1 24) 0 0 6)) 25 (va_cpy (w.2.1 13) (w.2.1 25) 0 0 6))
-- StageCount.image(I)I
def F_X5_image (w : Wd) (p1 : Int32) : Option (Int32 × Wd) :=
  (F_X5_isWithin w p1 1).bind fun x1 =>
  if x1.1 = 0 then
  some ((-2), x1.2)
  else
  if p1 = 0 then
  (F_X3_become_img0_rules x1.2).bind fun x2 =>
  gu (gd p1 2) <|
  some (1, (wA x2 2 p1 1))
  else
  gu (decide (p1 = 1)) <|
  (F_X3_become_img1_rules x1.2).bind fun x3 =>
  gu (gd p1 2) <|
  some (1, (wA x3 2 p1 1))
-- StageCount$Rules.become(LStageCount$Rules;)V
def F_X3_become_rules_img0 (w : Wd)  : Option (Wd) :=
  some (wR (wR (wR (wR (wR (wI (wI (wI (wI (wI w 8 (w.1 13)) 9 (w.1 14)) 10 (w.1 15)) 11 (w.1 16)) 12 (w.1 17)) 9 (va_cpy (w.2.1 15) (w.2.1 9) 0 0 8)) 10 (va_cpy (w.2.1 16) (w.2.1 10) 0 0 8)) 11 (va_cpy (w.2.1 17) (w.2.1 11) 0 0 6)) 12 (va_cpy (w.2.1 18) (w.2.1 12) 0 0 6)) 13 (va_cpy (w.2.1 19) (w.2.1 13) 0 0 6))
-- StageCount$Rules.become(LStageCount$Rules;)V
def F_X3_become_rules_img1 (w : Wd)  : Option (Wd) :=
  some (wR (wR (wR (wR (wR (wI (wI (wI (wI (wI w 8 (w.1 18)) 9 (w.1 19)) 10 (w.1 20)) 11 (w.1 21)) 12 (w.1 22)) 9 (va_cpy (w.2.1 21) (w.2.1 9) 0 0 8)) 10 (va_cpy (w.2.1 22) (w.2.1 10) 0 0 8)) 11 (va_cpy (w.2.1 23) (w.2.1 11) 0 0 6)) 12 (va_cpy (w.2.1 24) (w.2.1 12) 0 0 6)) 13 (va_cpy (w.2.1 25) (w.2.1 13) 0 0 6))
-- StageCount.restore(I)I
def F_X5_restore (w : Wd) (p1 : Int32) : Option (Int32 × Wd) :=
  (F_X5_isWithin w p1 1).bind fun x1 =>
  if x1.1 = 0 then
  some ((-2), x1.2)
  else
  gu (gd p1 2) <|
  if (x1.2.2.1 2 p1.toNatClampNeg) = 0 then
  some ((-3), x1.2)
  else
  if p1 = 0 then
  (F_X3_become_rules_img0 x1.2).bind fun x2 =>
  some (1, x2)
  else
  gu (decide (p1 = 1)) <|
  (F_X3_become_rules_img1 x1.2).bind fun x3 =>
  some (1, x3)
-- StageCount.told(I)I
def F_X5_told_33  (w : Wd) (v1 : Int32) : Option (Int32 × Wd) :=
  if v1 = 0 then
  some (w.1 0, w)
  else
  if v1 = 1 then
  some (w.1 8, w)
  else
  if v1 = 2 then
  some (w.1 9, w)
  else
  if v1 = 3 then
  some (w.1 10, w)
  else
  if v1 = 4 then
  some (w.1 11, w)
  else
  if v1 = 5 then
  some (w.1 12, w)
  else
  some ((-2), w)
def F_X5_told (w : Wd) (p1 : Int32) : Option (Int32 × Wd) :=
  if p1 < 10 then
  F_X5_told_33 w p1
  else
  if (w.1 11) ≤ (p1 - 10) then
  F_X5_told_33 w p1
  else
  gu (gd (p1 - 10) 6) <|
  some (w.2.1 11 (p1 - 10).toNatClampNeg, w)
-- StageCountModel.in(JJJ)Z
def F_X6_in (w : Wd) (p0 : Int64) (p2 : Int64) (p4 : Int64) : Option (Int32 × Wd) :=
  gu (isB (if (lg_cmp p0 p2) < 0 then 0 else (if 0 < (lg_cmp p0 p4) then (0 : Int32) else 1))) (some ((if (lg_cmp p0 p2) < 0 then 0 else (if 0 < (lg_cmp p0 p4) then (0 : Int32) else 1)), w))
-- StageCountModel.set(II)I
def F_X6_set_45  (w : Wd) : Option (Int32 × Wd) :=
  some ((-2), w)
def F_X6_set (w : Wd) (p1 : Int32) (p2 : Int32) : Option (Int32 × Wd) :=
  (F_X6_in w p1.toInt64 0 2).bind fun x1 =>
  if x1.1 = 0 then
  F_X6_set_45 x1.2
  else
  (F_X6_in x1.2 p2.toInt64 0 (if p1 = 0 then 2 else (if p1 = 1 then (8 : Int64) else 9))).bind fun x2 =>
  if x2.1 = 0 then
  F_X6_set_45 x2.2
  else
  Let ((if p1 = 0 then x2.2.1 29 else (if p1 = 1 then x2.2.1 30 else x2.2.1 31)) : Int32) fun y3 =>
  some (y3, (wI (wI (wI x2.2 29 (if p1 = 0 then p2 else x2.2.1 29)) 30 (if p1 = 1 then p2 else x2.2.1 30)) 31 (if p1 = 2 then p2 else x2.2.1 31)))
-- StageCountModel.say(I)I
def F_X6_say (w : Wd) (p1 : Int32) : Option (Int32 × Wd) :=
  (F_X6_in w p1.toInt64 33 126).bind fun x1 =>
  if x1.1 = 0 then
  some ((-2), x1.2)
  else
  if (x1.2.1 34) = 40 then
  some ((-4), x1.2)
  else
  gu (gd (x1.2.1 34) 40) <|
  some ((x1.2.1 34 + 1), (wI (wA x1.2 41 (x1.2.1 34) p1) 34 (x1.2.1 34 + 1)))
-- StageCountModel.wipe()I
def F_X6_wipe (w : Wd)  : Option (Int32 × Wd) :=
  some (w.1 34, (wI w 34 0))
-- StageCountModel.fault()I
def F_X6_fault_83 (k4 : Wd × Int32 × Int32 → Option (Int32 × Wd)) (w : Wd) (v1 : Int32) (v2 : Int32) (s0 : Int32) : Option (Int32 × Wd) :=
  if s0 = 0 then
  some (v2, w)
  else
  k4 (w, v1, (v2 + 1))
def F_X6_fault_78 (k4 : Wd × Int32 × Int32 → Option (Int32 × Wd)) (w : Wd) (v1 : Int32) (v2 : Int32) : Option (Int32 × Wd) :=
  F_X6_fault_83 k4 w v1 v2 1
def F_X6_fault_50 (k4 : Wd × Int32 × Int32 → Option (Int32 × Wd)) (w : Wd) (v1 : Int32) (v2 : Int32) (v3 : Int32) : Option (Int32 × Wd) :=
  (F_X6_in w v3.toInt64 65 72).bind fun x2 =>
  if x2.1 = 0 then
  (F_X6_in x2.2 v3.toInt64 97 104).bind fun x3 =>
  if (if x3.1 = 0 then (0 : Int32) else 1) = 0 then
  some (v2, x3.2)
  else
  k4 (x3.2, v1, (v2 + 1))
  else
  F_X6_fault_78 k4 x2.2 v1 v2
def F_X6_fault_4 (k4 : Wd × Int32 × Int32 → Option (Int32 × Wd)) (w : Wd) (v1 : Int32) (v2 : Int32) : Option (Int32 × Wd) :=
  if (w.1 34) ≤ v2 then
  some ((-6), w)
  else
  gu (gd v2 40) <|
  Let ((v1 + (if (w.2.1 41 v2.toNatClampNeg) = 63 then (1 : Int32) else 0)) : Int32) fun y1 =>
  if (w.2.1 41 v2.toNatClampNeg) = 46 then
  F_X6_fault_78 k4 w y1 v2
  else
  if (w.2.1 41 v2.toNatClampNeg) = 63 then
  if y1 ≤ 3 then
  F_X6_fault_78 k4 w y1 v2
  else
  F_X6_fault_50 k4 w y1 v2 (w.2.1 41 v2.toNatClampNeg)
  else
  F_X6_fault_50 k4 w y1 v2 (w.2.1 41 v2.toNatClampNeg)
def L_X6_fault_4  (n : Nat) (a : Wd × Int32 × Int32) : Option (Int32 × Wd) := it (fun k a => F_X6_fault_4  k a.1 a.2.1 a.2.2) n a
def F_X6_fault (w : Wd)  : Option (Int32 × Wd) :=
  L_X6_fault_4  fu (w, 0, 0)
-- StageCountModel.marks()I
def F_X6_marks_4 (k4 : Wd × Int32 × Int32 → Option (Int32 × Wd)) (w : Wd) (v1 : Int32) (v2 : Int32) : Option (Int32 × Wd) :=
  if (w.1 34) ≤ v2 then
  some (v1, w)
  else
  gu (gd v2 40) <|
  Let ((v1 + (if (w.2.1 41 v2.toNatClampNeg) = 63 then (1 : Int32) else 0)) : Int32) fun y1 =>
  k4 (w, y1, (v2 + 1))
def L_X6_marks_4  (n : Nat) (a : Wd × Int32 × Int32) : Option (Int32 × Wd) := it (fun k a => F_X6_marks_4  k a.1 a.2.1 a.2.2) n a
def F_X6_marks (w : Wd)  : Option (Int32 × Wd) :=
  L_X6_marks_4  fu (w, 0, 0)
-- StageCountModel.layEvents()V
def F_X6_layEvents_2 (k2 : Wd × Int32 → Option (Wd)) (w : Wd) (v1 : Int32) : Option (Wd) :=
  if (w.1 34) ≤ v1 then
  some w
  else
  gu (gd v1 40) <|
  gu (gd v1 40) <|
  k2 ((wA w 42 v1 (if (w.2.1 41 v1.toNatClampNeg) = 46 then 32 else (if (w.2.1 41 v1.toNatClampNeg) < 97 then (w.2.1 41 v1.toNatClampNeg - 65) else ((16 + w.2.1 41 v1.toNatClampNeg) - 97)))), (v1 + 1))
def L_X6_layEvents_2  (n : Nat) (a : Wd × Int32) : Option (Wd) := it (fun k a => F_X6_layEvents_2  k a.1 a.2) n a
def F_X6_layEvents (w : Wd)  : Option (Wd) :=
  L_X6_layEvents_2  fu (w, 0)
-- StageCountModel.go()Z
def F_X6_go_207  (w : Wd) : Option (Int32 × Wd) :=
  gu (isB (if 0 ≤ (w.1 37) then (0 : Int32) else 1)) (some ((if 0 ≤ (w.1 37) then (0 : Int32) else 1), w))
def F_X6_go_201 (k26 : Wd × Int32 × Int32 → Option (Int32 × Wd)) (w : Wd) (v1 : Int32) (v2 : Int32) : Option (Int32 × Wd) :=
  k26 (w, v1, (v2 + 1))
def F_X6_go_26 (k26 : Wd × Int32 × Int32 → Option (Int32 × Wd)) (w : Wd) (v1 : Int32) (v2 : Int32) : Option (Int32 × Wd) :=
  if (w.1 34) ≤ v2 then
  F_X6_go_207 w
  else
  if 0 ≤ (w.1 37) then
  F_X6_go_207 w
  else
  gu (gd v2 40) <|
  if (w.2.1 42 v2.toNatClampNeg) = 32 then
  gu (gd (w.1 35) 40) <|
  F_X6_go_201 k26 (wI (wA w 43 (w.1 35) v1) 35 (w.1 35 + 1)) v1 v2
  else
  Let ((1 <<< ((w.2.1 42 v2.toNatClampNeg - w.2.1 42 v2.toNatClampNeg / 16 * 16) &&& 31)) : Int32) fun y1 =>
  Let ((if (v1 &&& y1) = 0 then (0 : Int32) else 1) : Int32) fun y2 =>
  Let ((if 16 ≤ (w.2.1 42 v2.toNatClampNeg) then y2 else (if y2 = 0 then (1 : Int32) else 0)) : Int32) fun y3 =>
  F_X6_go_201 k26 (wI (wI (wI w 37 (if y3 = 0 then v2 else (-6))) 38 (if y3 = 0 then (if 16 ≤ (w.2.1 42 v2.toNatClampNeg) then (2 : Int32) else 1) else (-6))) 36 (w.1 36 + (if y3 = 0 then 0 else (if 16 ≤ (w.2.1 42 v2.toNatClampNeg) then (0 : Int32) else 1)))) (if y3 = 0 then v1 else (v1 ^^^ y1)) v2
def L_X6_go_26  (n : Nat) (a : Wd × Int32 × Int32) : Option (Int32 × Wd) := it (fun k a => F_X6_go_26  k a.1 a.2.1 a.2.2) n a
def F_X6_go (w : Wd)  : Option (Int32 × Wd) :=
  L_X6_go_26  fu ((wI (wI (wI (wI w 35 0) 36 0) 37 (-6)) 38 (-6)), 0, 0)
-- StageCountModel.ones(I)I
def F_X6_ones_4 (k4 : Wd × Int32 × Int32 → Option (Int32 × Wd)) (w : Wd) (v1 : Int32) (v2 : Int32) : Option (Int32 × Wd) :=
  if v2 = 0 then
  some (v1, w)
  else
  k4 (w, (v1 + 1), (v2 &&& (v2 - 1)))
def L_X6_ones_4  (n : Nat) (a : Wd × Int32 × Int32) : Option (Int32 × Wd) := it (fun k a => F_X6_ones_4  k a.1 a.2.1 a.2.2) n a
def F_X6_ones (w : Wd) (p0 : Int32) : Option (Int32 × Wd) :=
  L_X6_ones_4  fu (w, 0, p0)
-- StageCountModel.holds(II)Z
def F_X6_holds (w : Wd) (p1 : Int32) (p2 : Int32) : Option (Int32 × Wd) :=
  gu (isB (if (w.1 29) = 0 then (if p1 = (w.1 30) then (1 : Int32) else 0) else (if (w.1 29) = 1 then (if (p1 - p1 / 2 * 2) = 1 then (1 : Int32) else 0) else (if p1 < (if 0 ≤ p2 then p2 else w.1 30) then (0 : Int32) else 1)))) (some ((if (w.1 29) = 0 then (if p1 = (w.1 30) then (1 : Int32) else 0) else (if (w.1 29) = 1 then (if (p1 - p1 / 2 * 2) = 1 then (1 : Int32) else 0) else (if p1 < (if 0 ≤ p2 then p2 else w.1 30) then (0 : Int32) else 1))), w))
-- StageCountModel.breaking()I
def F_X6_breaking_40 (k2 : Wd × Int32 → Option (Int32 × Wd)) (w : Wd) (v1 : Int32) (s0 : Int32) (s1 : Int32) : Option (Int32 × Wd) :=
  (F_X6_holds w s1 s0).bind fun x3 =>
  if x3.1 = 0 then
  some (v1, x3.2)
  else
  k2 (x3.2, (v1 + 1))
def F_X6_breaking_2 (k2 : Wd × Int32 → Option (Int32 × Wd)) (w : Wd) (v1 : Int32) : Option (Int32 × Wd) :=
  if (w.1 35) ≤ v1 then
  some ((-6), w)
  else
  gu (gd v1 40) <|
  (F_X6_ones w (w.2.1 43 v1.toNatClampNeg)).bind fun x1 =>
  if v1 = 0 then
  F_X6_breaking_40 k2 x1.2 v1 (-6) x1.1
  else
  gu (gd (v1 - 1) 40) <|
  (F_X6_ones x1.2 (x1.2.2.1 43 (v1 - 1).toNatClampNeg)).bind fun x2 =>
  F_X6_breaking_40 k2 x2.2 v1 x2.1 x1.1
def L_X6_breaking_2  (n : Nat) (a : Wd × Int32) : Option (Int32 × Wd) := it (fun k a => F_X6_breaking_2  k a.1 a.2) n a
def F_X6_breaking (w : Wd)  : Option (Int32 × Wd) :=
  L_X6_breaking_2  fu (w, 0)
-- StageCountModel.judge(I)I
def F_X6_judge_62  (w : Wd) (s0 : Int32) : Option (Int32 × Wd) :=
  some (s0, w)
def F_X6_judge (w : Wd) (p1 : Int32) : Option (Int32 × Wd) :=
  (F_X6_in w p1.toInt64 0 2).bind fun x1 =>
  if x1.1 = 0 then
  some ((-2), x1.2)
  else
  (F_X6_fault x1.2).bind fun x2 =>
  if x2.1 < 0 then
  (F_X6_marks x2.2).bind fun x3 =>
  if x3.1 ≤ 0 then
  (F_X6_layEvents x3.2).bind fun x4 =>
  (F_X6_go x4).bind fun x5 =>
  if p1 = 2 then
  if x5.1 = 0 then
  F_X6_judge_62 x5.2 (-5)
  else
  (F_X6_breaking x5.2).bind fun x6 =>
  F_X6_judge_62 x6.2 x6.1
  else
  some ((if p1 = 0 then x5.2.1 37 else x5.2.1 38), x5.2)
  else
  some ((-3), x3.2)
  else
  some ((-5), x2.2)
-- StageCountModel.refusal()I
def F_X6_refusal (w : Wd)  : Option (Int32 × Wd) :=
  (F_X6_fault w).bind fun x1 =>
  if x1.1 < 0 then
  (F_X6_marks x1.2).bind fun x2 =>
  if x2.1 ≤ 0 then
  (F_X6_layEvents x2.2).bind fun x3 =>
  (F_X6_go x3).bind fun x4 =>
  some ((if x4.1 = 0 then ((-5) : Int32) else (-6)), x4.2)
  else
  some ((-3), x2.2)
  else
  some ((-5), x1.2)
-- StageCountModel.on(I)I
def F_X6_on_40  (w : Wd) (s0 : Int32) : Option (Int32 × Wd) :=
  some (s0, w)
def F_X6_on (w : Wd) (p1 : Int32) : Option (Int32 × Wd) :=
  (F_X6_refusal w).bind fun x1 =>
  if x1.1 = (-6) then
  (F_X6_in x1.2 p1.toInt64 0 ((x1.2.1 35 - 1).toInt64)).bind fun x2 =>
  if x2.1 = 0 then
  F_X6_on_40 x2.2 (-2)
  else
  gu (gd p1 40) <|
  F_X6_on_40 x2.2 (x2.2.2.1 43 p1.toNatClampNeg)
  else
  some (x1.1, x1.2)
-- StageCountModel.linesOf(I)I
def F_X6_linesOf_4 (k4 : Wd × Int32 × Int32 × Int32 → Option (Int32 × Wd)) (w : Wd) (v1 : Int32) (v2 : Int32) (v3 : Int32) : Option (Int32 × Wd) :=
  if (w.1 35) ≤ v3 then
  some (v2, w)
  else
  gu (gd v3 40) <|
  Let ((v2 + ((w.2.1 43 v3.toNatClampNeg >>> (v1 &&& 31)) &&& 1)) : Int32) fun y1 =>
  k4 (w, v1, y1, (v3 + 1))
def L_X6_linesOf_4  (n : Nat) (a : Wd × Int32 × Int32 × Int32) : Option (Int32 × Wd) := it (fun k a => F_X6_linesOf_4  k a.1 a.2.1 a.2.2.1 a.2.2.2) n a
def F_X6_linesOf (w : Wd) (p1 : Int32) : Option (Int32 × Wd) :=
  L_X6_linesOf_4  fu (w, p1, 0, 0)
-- StageCountModel.lines(I)I
def F_X6_lines_59  (w : Wd) (s0 : Int32) : Option (Int32 × Wd) :=
  some (s0, w)
def F_X6_lines (w : Wd) (p1 : Int32) : Option (Int32 × Wd) :=
  (F_X6_in w p1.toInt64 (-2) 7).bind fun x1 =>
  if x1.1 = 0 then
  some ((-1), x1.2)
  else
  (F_X6_refusal x1.2).bind fun x2 =>
  if x2.1 = (-6) then
  if p1 = (-2) then
  F_X6_lines_59 x2.2 (x2.2.1 36)
  else
  if p1 = (-1) then
  F_X6_lines_59 x2.2 (x2.2.1 35)
  else
  (F_X6_linesOf x2.2 p1).bind fun x3 =>
  F_X6_lines_59 x3.2 x3.1
  else
  some (x2.1, x2.2)
-- StageCountModel.isPart(I)Z
def F_X6_isPart (w : Wd) (p0 : Int32) : Option (Int32 × Wd) :=
  (F_X6_in w p0.toInt64 0 7).bind fun x1 =>
  gu (isB x1.1) (some (x1.1, x1.2))
-- StageCountModel.may(III)I
def F_X6_may_19  (w : Wd) : Option (Int32 × Wd) :=
  some ((-1), w)
def F_X6_may (w : Wd) (p1 : Int32) (p2 : Int32) (p3 : Int32) : Option (Int32 × Wd) :=
  (F_X6_isPart w p1).bind fun x1 =>
  if x1.1 = 0 then
  F_X6_may_19 x1.2
  else
  (F_X6_isPart x1.2 p2).bind fun x2 =>
  if x2.1 = 0 then
  F_X6_may_19 x2.2
  else
  if p1 = p2 then
  F_X6_may_19 x2.2
  else
  (F_X6_in x2.2 p3.toInt64 0 2).bind fun x3 =>
  if x3.1 = 0 then
  some ((-2), x3.2)
  else
  gu (gd ((8 * p1) + p2) 64) <|
  Let (x3.2.2.1 37 ((8 * p1) + p2).toNatClampNeg : Int32) fun y4 =>
  gu (gd ((8 * p1) + p2) 64) <|
  gu (gd ((8 * p2) + p1) 64) <|
  some (y4, (wA (wA x3.2 37 ((8 * p1) + p2) p3) 37 ((8 * p2) + p1) p3))
-- StageCountModel.mayBe(I)Z
def F_X6_mayBe_13 (k4 : Wd × Int32 × Int32 × Int32 → Option (Int32 × Wd)) (k13 : Wd × Int32 × Int32 × Int32 × Int32 → Option (Int32 × Wd)) (w : Wd) (v1 : Int32) (v2 : Int32) (v3 : Int32) (v4 : Int32) : Option (Int32 × Wd) :=
  if v3 ≤ v4 then
  k4 (w, v1, v2, (v3 + 1))
  else
  gu (gd ((8 * v3) + v4) 64) <|
  Let ((((v1 >>> (v3 &&& 31)) &&& 1) + ((v1 >>> (v4 &&& 31)) &&& 1)) : Int32) fun y1 =>
  Let ((if v2 = 0 then 0 else (if (w.2.1 37 ((8 * v3) + v4).toNatClampNeg) = 1 then (if 2 ≤ y1 then 0 else (if (w.2.1 37 ((8 * v3) + v4).toNatClampNeg) = 2 then (if y1 = 1 then (0 : Int32) else 1) else 1)) else (if (w.2.1 37 ((8 * v3) + v4).toNatClampNeg) = 2 then (if y1 = 1 then (0 : Int32) else 1) else 1))) : Int32) fun y2 =>
  k13 (w, v1, y2, v3, (v4 + 1))
def L_X6_mayBe_13 (k4 : Wd × Int32 × Int32 × Int32 → Option (Int32 × Wd)) (n : Nat) (a : Wd × Int32 × Int32 × Int32 × Int32) : Option (Int32 × Wd) := it (fun k a => F_X6_mayBe_13 k4 k a.1 a.2.1 a.2.2.1 a.2.2.2.1 a.2.2.2.2) n a
def F_X6_mayBe_4 (k4 : Wd × Int32 × Int32 × Int32 → Option (Int32 × Wd)) (w : Wd) (v1 : Int32) (v2 : Int32) (v3 : Int32) : Option (Int32 × Wd) :=
  if 8 ≤ v3 then
  gu (isB v2) (some (v2, w))
  else
  L_X6_mayBe_13 k4 fu (w, v1, v2, v3, 0)
def L_X6_mayBe_4  (n : Nat) (a : Wd × Int32 × Int32 × Int32) : Option (Int32 × Wd) := it (fun k a => F_X6_mayBe_4  k a.1 a.2.1 a.2.2.1 a.2.2.2) n a
def F_X6_mayBe (w : Wd) (p1 : Int32) : Option (Int32 × Wd) :=
  L_X6_mayBe_4  fu (w, p1, 1, 0)
-- StageCountModel.broken()I
def F_X6_broken_15 (k15 : Wd × Int32 → Option (Int32 × Wd)) (w : Wd) (v2 : Int32) : Option (Int32 × Wd) :=
  if (w.1 35) ≤ v2 then
  some ((-6), w)
  else
  gu (gd v2 40) <|
  (F_X6_mayBe w (w.2.1 43 v2.toNatClampNeg)).bind fun x2 =>
  if x2.1 = 0 then
  some (v2, x2.2)
  else
  k15 (x2.2, (v2 + 1))
def L_X6_broken_15  (n : Nat) (a : Wd × Int32) : Option (Int32 × Wd) := it (fun k a => F_X6_broken_15  k a.1 a.2) n a
def F_X6_broken (w : Wd)  : Option (Int32 × Wd) :=
  (F_X6_refusal w).bind fun x1 =>
  if x1.1 = (-6) then
  L_X6_broken_15  fu (x1.2, 0)
  else
  some (x1.1, x1.2)
-- StageCountModel.bar()I
def F_X6_bar_2 (k2 : Wd × Int32 → Option (Int32 × Wd)) (w : Wd) (v1 : Int32) : Option (Int32 × Wd) :=
  if (w.1 35) ≤ v1 then
  some ((-6), w)
  else
  gu (gd v1 40) <|
  (F_X6_ones w (w.2.1 43 v1.toNatClampNeg)).bind fun x1 =>
  if x1.1 ≤ (x1.2.1 30) then
  k2 (x1.2, (v1 + 1))
  else
  some (v1, x1.2)
def L_X6_bar_2  (n : Nat) (a : Wd × Int32) : Option (Int32 × Wd) := it (fun k a => F_X6_bar_2  k a.1 a.2) n a
def F_X6_bar (w : Wd)  : Option (Int32 × Wd) :=
  L_X6_bar_2  fu (w, 0)
-- StageCountModel.strangers(I)I
def F_X6_strangers_61  (w : Wd) (v1 : Int32) (v3 : Int32) : Option (Int32 × Wd) :=
  some ((if v1 = 2 then v3 else (-6)), w)
def F_X6_strangers_194  (w : Wd) (s0 : Int32) : Option (Int32 × Wd) :=
  some (s0, w)
def F_X6_strangers_85 (k85 : Wd × Int32 × Int32 × Int32 × Int32 × Int32 → Option (Int32 × Wd)) (w : Wd) (v1 : Int32) (v4 : Int32) (v5 : Int32) (v6 : Int32) (v7 : Int32) : Option (Int32 × Wd) :=
  if (w.1 35) ≤ v7 then
  if v1 = 0 then
  F_X6_strangers_194 w v4
  else
  if v1 = 1 then
  F_X6_strangers_194 w v5
  else
  gu (gd (v1 - 10) 40) <|
  (F_X6_ones w (w.2.1 43 (v1 - 10).toNatClampNeg)).bind fun x4 =>
  F_X6_strangers_194 x4.2 (w.1 30 - x4.1)
  else
  gu (gd v7 40) <|
  (F_X6_ones w (w.2.1 43 v7.toNatClampNeg)).bind fun x5 =>
  Let ((v4 + (if (w.1 30 - x5.1) ≤ v6 then 0 else ((w.1 30 - x5.1) - v6))) : Int32) fun y6 =>
  Let ((if (w.1 30 - x5.1) ≤ v5 then v5 else (w.1 30 - x5.1)) : Int32) fun y7 =>
  k85 (x5.2, v1, y6, y7, (w.1 30 - x5.1), (v7 + 1))
def L_X6_strangers_85  (n : Nat) (a : Wd × Int32 × Int32 × Int32 × Int32 × Int32) : Option (Int32 × Wd) := it (fun k a => F_X6_strangers_85  k a.1 a.2.1 a.2.2.1 a.2.2.2.1 a.2.2.2.2.1 a.2.2.2.2.2) n a
def F_X6_strangers_47  (w : Wd) (v1 : Int32) : Option (Int32 × Wd) :=
  (F_X6_bar w).bind fun x3 =>
  if v1 = 2 then
  F_X6_strangers_61 x3.2 v1 x3.1
  else
  if x3.1 < 0 then
  L_X6_strangers_85  fu (x3.2, v1, 0, 0, 0, 0)
  else
  F_X6_strangers_61 x3.2 v1 x3.1
def F_X6_strangers (w : Wd) (p1 : Int32) : Option (Int32 × Wd) :=
  (F_X6_refusal w).bind fun x1 =>
  if x1.1 = (-6) then
  (F_X6_in x1.2 p1.toInt64 0 2).bind fun x2 =>
  if x2.1 = 0 then
  (F_X6_in x2.2 p1.toInt64 10 ((9 + x2.2.1 35).toInt64)).bind fun x8 =>
  if x8.1 = 0 then
  some ((-2), x8.2)
  else
  F_X6_strangers_47 x8.2 p1
  else
  F_X6_strangers_47 x2.2 p1
  else
  some (x1.1, x1.2)
-- StageCountModel.mostStay()I
def F_X6_mostStay_154 (k4 : Wd × Int32 × Int32 → Option (Int32 × Wd)) (w : Wd) (v2 : Int32) (s0 : Int32) : Option (Int32 × Wd) :=
  k4 (w, s0, (v2 + 1))
def F_X6_mostStay_127 (k4 : Wd × Int32 × Int32 → Option (Int32 × Wd)) (k44 : Wd × Int32 × Int32 × Int32 × Int32 → Option (Int32 × Wd)) (w : Wd) (v1 : Int32) (v2 : Int32) (v3 : Int32) (v4 : Int32) (s0 : Int32) (s1 : Int32) : Option (Int32 × Wd) :=
  gu (gd s1 40) <|
  k44 ((wA w 44 s1 s0), v1, v2, v3, (v4 + 1))
def F_X6_mostStay_121 (k4 : Wd × Int32 × Int32 → Option (Int32 × Wd)) (k44 : Wd × Int32 × Int32 × Int32 × Int32 → Option (Int32 × Wd)) (w : Wd) (v1 : Int32) (v2 : Int32) (v3 : Int32) (v4 : Int32) (s0 : Int32) : Option (Int32 × Wd) :=
  gu (gd v2 40) <|
  F_X6_mostStay_127 k4 k44 w v1 v2 v3 v4 (w.2.1 44 v2.toNatClampNeg) s0
def F_X6_mostStay_79 (k4 : Wd × Int32 × Int32 → Option (Int32 × Wd)) (k44 : Wd × Int32 × Int32 × Int32 × Int32 → Option (Int32 × Wd)) (w : Wd) (v1 : Int32) (v2 : Int32) (v3 : Int32) (v4 : Int32) (s0 : Int32) : Option (Int32 × Wd) :=
  if s0 = 0 then
  F_X6_mostStay_121 k4 k44 w v1 v2 v3 v4 v2
  else
  gu (gd v4 40) <|
  gu (gd v2 40) <|
  if (w.2.1 44 v4.toNatClampNeg + 1) ≤ (w.2.1 44 v2.toNatClampNeg) then
  F_X6_mostStay_121 k4 k44 w v1 v2 v3 v4 v2
  else
  gu (gd v4 40) <|
  F_X6_mostStay_127 k4 k44 w v1 v2 v3 v4 (w.2.1 44 v4.toNatClampNeg + 1) v2
def F_X6_mostStay_78 (k4 : Wd × Int32 × Int32 → Option (Int32 × Wd)) (k44 : Wd × Int32 × Int32 × Int32 × Int32 → Option (Int32 × Wd)) (w : Wd) (v1 : Int32) (v2 : Int32) (v3 : Int32) (v4 : Int32) : Option (Int32 × Wd) :=
  F_X6_mostStay_79 k4 k44 w v1 v2 v3 v4 0
def F_X6_mostStay_44 (k4 : Wd × Int32 × Int32 → Option (Int32 × Wd)) (k44 : Wd × Int32 × Int32 × Int32 × Int32 → Option (Int32 × Wd)) (w : Wd) (v1 : Int32) (v2 : Int32) (v3 : Int32) (v4 : Int32) : Option (Int32 × Wd) :=
  if v2 ≤ v4 then
  gu (gd v2 40) <|
  if (w.2.1 44 v2.toNatClampNeg) ≤ v1 then
  F_X6_mostStay_154 k4 w v2 v1
  else
  gu (gd v2 40) <|
  F_X6_mostStay_154 k4 w v2 (w.2.1 44 v2.toNatClampNeg)
  else
  gu (gd v4 40) <|
  if (w.2.1 44 v4.toNatClampNeg) ≤ 0 then
  F_X6_mostStay_78 k4 k44 w v1 v2 v3 v4
  else
  gu (gd v4 40) <|
  (F_X6_ones w (w.2.1 43 v4.toNatClampNeg)).bind fun x2 =>
  if (if v3 < x2.1 then (0 : Int32) else 1) = 0 then
  F_X6_mostStay_121 k4 k44 x2.2 v1 v2 v3 v4 v2
  else
  gu (gd v4 40) <|
  gu (gd v2 40) <|
  if (x2.2.2.1 44 v4.toNatClampNeg + 1) ≤ (x2.2.2.1 44 v2.toNatClampNeg) then
  F_X6_mostStay_121 k4 k44 x2.2 v1 v2 v3 v4 v2
  else
  gu (gd v4 40) <|
  F_X6_mostStay_127 k4 k44 x2.2 v1 v2 v3 v4 (x2.2.2.1 44 v4.toNatClampNeg + 1) v2
def L_X6_mostStay_44 (k4 : Wd × Int32 × Int32 → Option (Int32 × Wd)) (n : Nat) (a : Wd × Int32 × Int32 × Int32 × Int32) : Option (Int32 × Wd) := it (fun k a => F_X6_mostStay_44 k4 k a.1 a.2.1 a.2.2.1 a.2.2.2.1 a.2.2.2.2) n a
def F_X6_mostStay_4 (k4 : Wd × Int32 × Int32 → Option (Int32 × Wd)) (w : Wd) (v1 : Int32) (v2 : Int32) : Option (Int32 × Wd) :=
  if (w.1 35) ≤ v2 then
  some (v1, w)
  else
  gu (gd v2 40) <|
  (F_X6_ones w (w.2.1 43 v2.toNatClampNeg)).bind fun x1 =>
  gu (gd v2 40) <|
  L_X6_mostStay_44 k4 fu ((wA x1.2 44 v2 (if x1.1 < (x1.2.1 30) then (0 : Int32) else 1)), v1, v2, x1.1, 0)
def L_X6_mostStay_4  (n : Nat) (a : Wd × Int32 × Int32) : Option (Int32 × Wd) := it (fun k a => F_X6_mostStay_4  k a.1 a.2.1 a.2.2) n a
def F_X6_mostStay (w : Wd)  : Option (Int32 × Wd) :=
  L_X6_mostStay_4  fu (w, 0, 0)
-- StageCountModel.cuts()I
def F_X6_cuts_35 (k35 : Wd × Int32 × Int32 → Option (Int32 × Wd)) (w : Wd) (v2 : Int32) (v3 : Int32) : Option (Int32 × Wd) :=
  if (w.1 35) ≤ v3 then
  some (v2, w)
  else
  gu (gd v3 40) <|
  (F_X6_ones w (w.2.1 43 v3.toNatClampNeg)).bind fun x2 =>
  (F_X6_holds x2.2 x2.1 (-6)).bind fun x3 =>
  Let ((v2 + (if x3.1 = 0 then (1 : Int32) else 0)) : Int32) fun y4 =>
  k35 (x3.2, y4, (v3 + 1))
def L_X6_cuts_35  (n : Nat) (a : Wd × Int32 × Int32) : Option (Int32 × Wd) := it (fun k a => F_X6_cuts_35  k a.1 a.2.1 a.2.2) n a
def F_X6_cuts (w : Wd)  : Option (Int32 × Wd) :=
  (F_X6_refusal w).bind fun x1 =>
  if x1.1 = (-6) then
  if (x1.2.1 29) = 2 then
  (F_X6_mostStay x1.2).bind fun x5 =>
  some ((x1.2.1 35 - x5.1), x5.2)
  else
  L_X6_cuts_35  fu (x1.2, 0, 0)
  else
  some (x1.1, x1.2)
-- StageCountModel.highest(I)I
def F_X6_highest_37 (k4 : Wd × Int32 × Int32 × Int32 → Option (Int32 × Wd)) (w : Wd) (v1 : Int32) (v3 : Int32) (s0 : Int32) : Option (Int32 × Wd) :=
  k4 (w, v1, s0, (v3 + 1))
def F_X6_highest_36 (k4 : Wd × Int32 × Int32 × Int32 → Option (Int32 × Wd)) (w : Wd) (v1 : Int32) (v2 : Int32) (v3 : Int32) : Option (Int32 × Wd) :=
  F_X6_highest_37 k4 w v1 v3 v2
def F_X6_highest_4 (k4 : Wd × Int32 × Int32 × Int32 → Option (Int32 × Wd)) (w : Wd) (v1 : Int32) (v2 : Int32) (v3 : Int32) : Option (Int32 × Wd) :=
  if v1 ≤ v3 then
  some (v2, w)
  else
  (F_X6_linesOf w v3).bind fun x1 =>
  if x1.1 ≤ 0 then
  F_X6_highest_36 k4 x1.2 v1 v2 v3
  else
  gu (gd v3 8) <|
  if (x1.2.2.1 45 v3.toNatClampNeg) ≤ v2 then
  F_X6_highest_36 k4 x1.2 v1 v2 v3
  else
  gu (gd v3 8) <|
  F_X6_highest_37 k4 x1.2 v1 v3 (x1.2.2.1 45 v3.toNatClampNeg)
def L_X6_highest_4  (n : Nat) (a : Wd × Int32 × Int32 × Int32) : Option (Int32 × Wd) := it (fun k a => F_X6_highest_4  k a.1 a.2.1 a.2.2.1 a.2.2.2) n a
def F_X6_highest (w : Wd) (p1 : Int32) : Option (Int32 × Wd) :=
  L_X6_highest_4  fu (w, p1, (-1), 0)
-- StageCountModel.canBoth(III)Z
def F_X6_canBoth_84 (k6 : Wd × Int32 × Int32 × Int32 × Int32 × Int32 → Option (Int32 × Wd)) (k18 : Wd × Int32 × Int32 × Int32 × Int32 × Int32 × Int32 → Option (Int32 × Wd)) (w : Wd) (v1 : Int32) (v2 : Int32) (v3 : Int32) (v4 : Int32) (v5 : Int32) (v6 : Int32) (v7 : Int32) (s0 : Int32) : Option (Int32 × Wd) :=
  Let ((if v4 = 0 then 0 else (if s0 = 0 then 1 else (if v7 ≤ (w.1 31) then (0 : Int32) else 1))) : Int32) fun y2 =>
  k18 (w, v1, v2, v3, y2, v5, (v6 + 1))
def F_X6_canBoth_83 (k6 : Wd × Int32 × Int32 × Int32 × Int32 × Int32 → Option (Int32 × Wd)) (k18 : Wd × Int32 × Int32 × Int32 × Int32 × Int32 × Int32 → Option (Int32 × Wd)) (w : Wd) (v1 : Int32) (v2 : Int32) (v3 : Int32) (v4 : Int32) (v5 : Int32) (v6 : Int32) (v7 : Int32) : Option (Int32 × Wd) :=
  F_X6_canBoth_84 k6 k18 w v1 v2 v3 v4 v5 v6 v7 0
def F_X6_canBoth_18 (k6 : Wd × Int32 × Int32 × Int32 × Int32 × Int32 → Option (Int32 × Wd)) (k18 : Wd × Int32 × Int32 × Int32 × Int32 × Int32 × Int32 → Option (Int32 × Wd)) (w : Wd) (v1 : Int32) (v2 : Int32) (v3 : Int32) (v4 : Int32) (v5 : Int32) (v6 : Int32) : Option (Int32 × Wd) :=
  if (w.1 35) ≤ v6 then
  k6 (w, v1, v2, v3, v4, (v5 + 1))
  else
  Let ((if v6 ≤ v5 then (v5 - v6) else (v6 - v5)) : Int32) fun y1 =>
  gu (gd v5 40) <|
  if ((w.2.1 43 v5.toNatClampNeg >>> (v1 &&& 31)) &&& 1) = 1 then
  gu (gd v6 40) <|
  Let ((if ((w.2.1 43 v6.toNatClampNeg >>> (v2 &&& 31)) &&& 1) = 1 then (1 : Int32) else 0) : Int32) fun y3 =>
  Let ((if v4 = 0 then 0 else (if y3 = 0 then 1 else (if y1 ≤ (w.1 31) then (0 : Int32) else 1))) : Int32) fun y4 =>
  k18 (w, v1, v2, v3, y4, v5, (v6 + 1))
  else
  F_X6_canBoth_83 k6 k18 w v1 v2 v3 v4 v5 v6 y1
def L_X6_canBoth_18 (k6 : Wd × Int32 × Int32 × Int32 × Int32 × Int32 → Option (Int32 × Wd)) (n : Nat) (a : Wd × Int32 × Int32 × Int32 × Int32 × Int32 × Int32) : Option (Int32 × Wd) := it (fun k a => F_X6_canBoth_18 k6 k a.1 a.2.1 a.2.2.1 a.2.2.2.1 a.2.2.2.2.1 a.2.2.2.2.2.1 a.2.2.2.2.2.2) n a
def F_X6_canBoth_6 (k6 : Wd × Int32 × Int32 × Int32 × Int32 × Int32 → Option (Int32 × Wd)) (w : Wd) (v1 : Int32) (v2 : Int32) (v3 : Int32) (v4 : Int32) (v5 : Int32) : Option (Int32 × Wd) :=
  if (w.1 35) ≤ v5 then
  gu (isB v4) (some (v4, w))
  else
  L_X6_canBoth_18 k6 fu (w, v1, v2, v3, v4, v5, v3)
def L_X6_canBoth_6  (n : Nat) (a : Wd × Int32 × Int32 × Int32 × Int32 × Int32) : Option (Int32 × Wd) := it (fun k a => F_X6_canBoth_6  k a.1 a.2.1 a.2.2.1 a.2.2.2.1 a.2.2.2.2.1 a.2.2.2.2.2) n a
def F_X6_canBoth (w : Wd) (p1 : Int32) (p2 : Int32) (p3 : Int32) : Option (Int32 × Wd) :=
  L_X6_canBoth_6  fu (w, p1, p2, p3, 1, 0)
-- StageCountModel.canBe(I)Z
def F_X6_canBe_51 (k4 : Wd × Int32 × Int32 × Int32 → Option (Int32 × Wd)) (w : Wd) (v1 : Int32) (v3 : Int32) (s0 : Int32) : Option (Int32 × Wd) :=
  k4 (w, v1, s0, (v3 + 1))
def F_X6_canBe_50 (k4 : Wd × Int32 × Int32 × Int32 → Option (Int32 × Wd)) (w : Wd) (v1 : Int32) (v3 : Int32) : Option (Int32 × Wd) :=
  F_X6_canBe_51 k4 w v1 v3 0
def F_X6_canBe_46 (k4 : Wd × Int32 × Int32 × Int32 → Option (Int32 × Wd)) (w : Wd) (v1 : Int32) (v3 : Int32) : Option (Int32 × Wd) :=
  F_X6_canBe_51 k4 w v1 v3 1
def F_X6_canBe_4 (k4 : Wd × Int32 × Int32 × Int32 → Option (Int32 × Wd)) (w : Wd) (v1 : Int32) (v2 : Int32) (v3 : Int32) : Option (Int32 × Wd) :=
  if v1 ≤ v3 then
  gu (isB v2) (some (v2, w))
  else
  if v2 = 0 then
  F_X6_canBe_50 k4 w v1 v3
  else
  gu (gd v3 8) <|
  gu (gd v1 8) <|
  if (w.2.1 45 v3.toNatClampNeg) = (w.2.1 45 v1.toNatClampNeg) then
  (F_X6_linesOf w v3).bind fun x1 =>
  if x1.1 = 0 then
  F_X6_canBe_46 k4 x1.2 v1 v3
  else
  (F_X6_canBoth x1.2 v3 v1 0).bind fun x2 =>
  k4 (x2.2, v1, (if x2.1 = 0 then (0 : Int32) else 1), (v3 + 1))
  else
  F_X6_canBe_46 k4 w v1 v3
def L_X6_canBe_4  (n : Nat) (a : Wd × Int32 × Int32 × Int32) : Option (Int32 × Wd) := it (fun k a => F_X6_canBe_4  k a.1 a.2.1 a.2.2.1 a.2.2.2) n a
def F_X6_canBe (w : Wd) (p1 : Int32) : Option (Int32 × Wd) :=
  L_X6_canBe_4  fu (w, p1, 1, 0)
-- StageCountModel.castWith(I)Z
def F_X6_castWith_138  (w : Wd) (v2 : Int32) : Option (Int32 × Wd) :=
  gu (isB (if v2 = 8 then (1 : Int32) else 0)) (some ((if v2 = 8 then (1 : Int32) else 0), w))
def F_X6_castWith_135 (k9 : Wd × Int32 × Int32 → Option (Int32 × Wd)) (w : Wd) (v1 : Int32) (v2 : Int32) : Option (Int32 × Wd) :=
  k9 (w, v1, v2)
def F_X6_castWith_119 (k9 : Wd × Int32 × Int32 → Option (Int32 × Wd)) (w : Wd) (v1 : Int32) (v2 : Int32) : Option (Int32 × Wd) :=
  if 8 ≤ (v2 + 1) then
  F_X6_castWith_135 k9 w v1 (v2 + 1)
  else
  gu (gd (v2 + 1) 8) <|
  F_X6_castWith_135 k9 (wA w 45 (v2 + 1) (-1)) v1 (v2 + 1)
def F_X6_castWith_9 (k9 : Wd × Int32 × Int32 → Option (Int32 × Wd)) (w : Wd) (v1 : Int32) (v2 : Int32) : Option (Int32 × Wd) :=
  if v2 < 0 then
  F_X6_castWith_138 w v2
  else
  if 8 ≤ v2 then
  F_X6_castWith_138 w v2
  else
  gu (gd v2 8) <|
  gu (gd v2 8) <|
  (F_X6_linesOf (wA w 45 v2 (w.2.1 45 v2.toNatClampNeg + 1)) v2).bind fun x1 =>
  (F_X6_highest x1.2 v2).bind fun x2 =>
  Let ((if (v1 - 1) ≤ (x2.1 + 1) then (v1 - 1) else (x2.1 + 1)) : Int32) fun y3 =>
  gu (gd v2 8) <|
  Let ((if (x2.2.2.1 45 v2.toNatClampNeg) ≤ (if (if x1.1 ≤ 0 then (0 : Int32) else 1) = 0 then 0 else y3) then (0 : Int32) else 1) : Int32) fun y4 =>
  if y4 = 0 then
  if (if x1.1 ≤ 0 then (0 : Int32) else 1) = 0 then
  F_X6_castWith_119 k9 x2.2 v1 v2
  else
  (F_X6_canBe x2.2 v2).bind fun x5 =>
  if x5.1 = 0 then
  F_X6_castWith_135 k9 x5.2 v1 v2
  else
  F_X6_castWith_119 k9 x5.2 v1 v2
  else
  F_X6_castWith_135 k9 x2.2 v1 (v2 + (-1))
def L_X6_castWith_9  (n : Nat) (a : Wd × Int32 × Int32) : Option (Int32 × Wd) := it (fun k a => F_X6_castWith_9  k a.1 a.2.1 a.2.2) n a
def F_X6_castWith (w : Wd) (p1 : Int32) : Option (Int32 × Wd) :=
  gu (gd 0 8) <|
  L_X6_castWith_9  fu ((wA w 45 0 (-1)), p1, 0)
-- StageCountModel.castAll()I
def F_X6_castAll_99 (k65 : Wd × Int32 × Int32 → Option (Int32 × Wd)) (w : Wd) (v1 : Int32) (v4 : Int32) (s0 : Int32) (s1 : Int32) : Option (Int32 × Wd) :=
  gu (gd s1 8) <|
  k65 ((wA w 46 s1 s0), v1, (v4 + 1))
def F_X6_castAll_65 (k65 : Wd × Int32 × Int32 → Option (Int32 × Wd)) (w : Wd) (v1 : Int32) (v4 : Int32) : Option (Int32 × Wd) :=
  if 8 ≤ v4 then
  some (v1, w)
  else
  (F_X6_linesOf w v4).bind fun x1 =>
  if x1.1 ≤ 0 then
  F_X6_castAll_99 k65 x1.2 v1 v4 (-6) v4
  else
  gu (gd v4 8) <|
  F_X6_castAll_99 k65 x1.2 v1 v4 (x1.2.2.1 45 v4.toNatClampNeg) v4
def L_X6_castAll_65  (n : Nat) (a : Wd × Int32 × Int32) : Option (Int32 × Wd) := it (fun k a => F_X6_castAll_65  k a.1 a.2.1 a.2.2) n a
def F_X6_castAll_46 (k46 : Wd × Int32 × Int32 → Option (Int32 × Wd)) (w : Wd) (v1 : Int32) (v3 : Int32) : Option (Int32 × Wd) :=
  if v3 = 0 then
  (F_X6_castWith w (v1 + 1)).bind fun x2 =>
  k46 (x2.2, (v1 + 1), x2.1)
  else
  L_X6_castAll_65  fu (w, v1, 0)
def L_X6_castAll_46  (n : Nat) (a : Wd × Int32 × Int32) : Option (Int32 × Wd) := it (fun k a => F_X6_castAll_46  k a.1 a.2.1 a.2.2) n a
def F_X6_castAll_29 (k6 : Wd × Int32 × Int32 × Int32 → Option (Int32 × Wd)) (w : Wd) (v1 : Int32) (v3 : Int32) (s0 : Int32) : Option (Int32 × Wd) :=
  k6 (w, v1, s0, (v3 + 1))
def F_X6_castAll_24 (k6 : Wd × Int32 × Int32 × Int32 → Option (Int32 × Wd)) (w : Wd) (v1 : Int32) (v3 : Int32) : Option (Int32 × Wd) :=
  F_X6_castAll_29 k6 w v1 v3 1
def F_X6_castAll_6 (k6 : Wd × Int32 × Int32 × Int32 → Option (Int32 × Wd)) (w : Wd) (v1 : Int32) (v2 : Int32) (v3 : Int32) : Option (Int32 × Wd) :=
  if 8 ≤ v3 then
  L_X6_castAll_46  fu (w, v1, (if v2 = 0 then (1 : Int32) else 0))
  else
  if v2 = 0 then
  (F_X6_linesOf w v3).bind fun x3 =>
  k6 (x3.2, v1, (if x3.1 ≤ 0 then (0 : Int32) else 1), (v3 + 1))
  else
  F_X6_castAll_24 k6 w v1 v3
def L_X6_castAll_6  (n : Nat) (a : Wd × Int32 × Int32 × Int32) : Option (Int32 × Wd) := it (fun k a => F_X6_castAll_6  k a.1 a.2.1 a.2.2.1 a.2.2.2) n a
def F_X6_castAll (w : Wd)  : Option (Int32 × Wd) :=
  L_X6_castAll_6  fu (w, 0, 0, 0)
-- StageCountModel.cast(I)I
def F_X6_cast_49  (w : Wd) (s0 : Int32) : Option (Int32 × Wd) :=
  some (s0, w)
def F_X6_cast (w : Wd) (p1 : Int32) : Option (Int32 × Wd) :=
  (F_X6_in w p1.toInt64 (-1) 7).bind fun x1 =>
  if x1.1 = 0 then
  some ((-1), x1.2)
  else
  (F_X6_refusal x1.2).bind fun x2 =>
  if x2.1 = (-6) then
  (F_X6_castAll x2.2).bind fun x3 =>
  if p1 = (-1) then
  F_X6_cast_49 x3.2 x3.1
  else
  gu (gd p1 8) <|
  F_X6_cast_49 x3.2 (x3.2.2.1 46 p1.toNatClampNeg)
  else
  some (x2.1, x2.2)
-- StageCountModel.isTaken(III)Z
def F_X6_isTaken_70 (k3 : Wd × Int32 × Int32 × Int32 × Int32 → Option (Int32 × Wd)) (k30 : Wd × Int32 × Int32 × Int32 × Int32 × Int32 × Int32 → Option (Int32 × Wd)) (w : Wd) (v1 : Int32) (v2 : Int32) (v3 : Int32) (v4 : Int32) (v6 : Int32) (s0 : Int32) : Option (Int32 × Wd) :=
  k30 (w, v1, v2, v3, v4, s0, (v6 + 1))
def F_X6_isTaken_69 (k3 : Wd × Int32 × Int32 × Int32 × Int32 → Option (Int32 × Wd)) (k30 : Wd × Int32 × Int32 × Int32 × Int32 × Int32 × Int32 → Option (Int32 × Wd)) (w : Wd) (v1 : Int32) (v2 : Int32) (v3 : Int32) (v4 : Int32) (v6 : Int32) : Option (Int32 × Wd) :=
  F_X6_isTaken_70 k3 k30 w v1 v2 v3 v4 v6 0
def F_X6_isTaken_65 (k3 : Wd × Int32 × Int32 × Int32 × Int32 → Option (Int32 × Wd)) (k30 : Wd × Int32 × Int32 × Int32 × Int32 × Int32 × Int32 → Option (Int32 × Wd)) (w : Wd) (v1 : Int32) (v2 : Int32) (v3 : Int32) (v4 : Int32) (v6 : Int32) : Option (Int32 × Wd) :=
  F_X6_isTaken_70 k3 k30 w v1 v2 v3 v4 v6 1
def F_X6_isTaken_30 (k3 : Wd × Int32 × Int32 × Int32 × Int32 → Option (Int32 × Wd)) (k30 : Wd × Int32 × Int32 × Int32 × Int32 × Int32 × Int32 → Option (Int32 × Wd)) (w : Wd) (v1 : Int32) (v2 : Int32) (v3 : Int32) (v4 : Int32) (v5 : Int32) (v6 : Int32) : Option (Int32 × Wd) :=
  if 8 ≤ v6 then
  if v5 = 0 then
  k3 (w, v1, v2, v3, (v4 + 1))
  else
  some (1, w)
  else
  if v5 = 0 then
  F_X6_isTaken_69 k3 k30 w v1 v2 v3 v4 v6
  else
  gu (gd v6 8) <|
  if (w.2.1 46 v6.toNatClampNeg) = v4 then
  (F_X6_canBoth w v6 v1 v2).bind fun x2 =>
  k30 (x2.2, v1, v2, v3, v4, (if x2.1 = 0 then (0 : Int32) else 1), (v6 + 1))
  else
  F_X6_isTaken_65 k3 k30 w v1 v2 v3 v4 v6
def L_X6_isTaken_30 (k3 : Wd × Int32 × Int32 × Int32 × Int32 → Option (Int32 × Wd)) (n : Nat) (a : Wd × Int32 × Int32 × Int32 × Int32 × Int32 × Int32) : Option (Int32 × Wd) := it (fun k a => F_X6_isTaken_30 k3 k a.1 a.2.1 a.2.2.1 a.2.2.2.1 a.2.2.2.2.1 a.2.2.2.2.2.1 a.2.2.2.2.2.2) n a
def F_X6_isTaken_3 (k3 : Wd × Int32 × Int32 × Int32 × Int32 → Option (Int32 × Wd)) (w : Wd) (v1 : Int32) (v2 : Int32) (v3 : Int32) (v4 : Int32) : Option (Int32 × Wd) :=
  if v3 ≤ v4 then
  some (0, w)
  else
  gu (gd v1 8) <|
  Let ((if v4 = (w.2.1 46 v1.toNatClampNeg) then (0 : Int32) else 1) : Int32) fun y1 =>
  L_X6_isTaken_30 k3 fu (w, v1, v2, v3, v4, y1, 0)
def L_X6_isTaken_3  (n : Nat) (a : Wd × Int32 × Int32 × Int32 × Int32) : Option (Int32 × Wd) := it (fun k a => F_X6_isTaken_3  k a.1 a.2.1 a.2.2.1 a.2.2.2.1 a.2.2.2.2) n a
def F_X6_isTaken (w : Wd) (p1 : Int32) (p2 : Int32) (p3 : Int32) : Option (Int32 × Wd) :=
  L_X6_isTaken_3  fu (w, p1, p2, p3, 0)
-- StageCountModel.hasFrom(II)Z
def F_X6_hasFrom_38 (k5 : Wd × Int32 × Int32 × Int32 → Option (Int32 × Wd)) (w : Wd) (v1 : Int32) (v4 : Int32) (s0 : Int32) : Option (Int32 × Wd) :=
  k5 (w, v1, s0, (v4 + 1))
def F_X6_hasFrom_33 (k5 : Wd × Int32 × Int32 × Int32 → Option (Int32 × Wd)) (w : Wd) (v1 : Int32) (v4 : Int32) : Option (Int32 × Wd) :=
  F_X6_hasFrom_38 k5 w v1 v4 1
def F_X6_hasFrom_5 (k5 : Wd × Int32 × Int32 × Int32 → Option (Int32 × Wd)) (w : Wd) (v1 : Int32) (v3 : Int32) (v4 : Int32) : Option (Int32 × Wd) :=
  if (w.1 35) ≤ v4 then
  gu (isB v3) (some (v3, w))
  else
  if v3 = 0 then
  gu (gd v4 40) <|
  Let ((if ((w.2.1 43 v4.toNatClampNeg >>> (v1 &&& 31)) &&& 1) = 1 then (1 : Int32) else 0) : Int32) fun y1 =>
  k5 (w, v1, y1, (v4 + 1))
  else
  F_X6_hasFrom_33 k5 w v1 v4
def L_X6_hasFrom_5  (n : Nat) (a : Wd × Int32 × Int32 × Int32) : Option (Int32 × Wd) := it (fun k a => F_X6_hasFrom_5  k a.1 a.2.1 a.2.2.1 a.2.2.2) n a
def F_X6_hasFrom (w : Wd) (p1 : Int32) (p2 : Int32) : Option (Int32 × Wd) :=
  L_X6_hasFrom_5  fu (w, p1, 0, p2)
-- StageCountModel.ill(II)I
def F_X6_ill_126 (k61 : Wd × Int32 × Int32 × Int32 × Int32 × Int32 → Option (Int32 × Wd)) (w : Wd) (v2 : Int32) (v4 : Int32) (v5 : Int32) (v7 : Int32) (s0 : Int32) (s1 : Int32) : Option (Int32 × Wd) :=
  k61 (w, v2, v4, v5, (s1 + s0), (v7 + 1))
def F_X6_ill_125 (k61 : Wd × Int32 × Int32 × Int32 × Int32 × Int32 → Option (Int32 × Wd)) (w : Wd) (v2 : Int32) (v4 : Int32) (v5 : Int32) (v7 : Int32) (s0 : Int32) : Option (Int32 × Wd) :=
  F_X6_ill_126 k61 w v2 v4 v5 v7 0 s0
def F_X6_ill_100 (k61 : Wd × Int32 × Int32 × Int32 × Int32 × Int32 → Option (Int32 × Wd)) (w : Wd) (v2 : Int32) (v4 : Int32) (v5 : Int32) (v6 : Int32) (v7 : Int32) (s0 : Int32) : Option (Int32 × Wd) :=
  if s0 = 0 then
  F_X6_ill_125 k61 w v2 v4 v5 v7 v6
  else
  (F_X6_isTaken w v7 v2 v4).bind fun x5 =>
  Let ((v6 + (if x5.1 = 0 then (1 : Int32) else 0)) : Int32) fun y6 =>
  k61 (x5.2, v2, v4, v5, y6, (v7 + 1))
def F_X6_ill_99 (k61 : Wd × Int32 × Int32 × Int32 × Int32 × Int32 → Option (Int32 × Wd)) (w : Wd) (v2 : Int32) (v4 : Int32) (v5 : Int32) (v6 : Int32) (v7 : Int32) : Option (Int32 × Wd) :=
  F_X6_ill_100 k61 w v2 v4 v5 v6 v7 0
def F_X6_ill_61 (k61 : Wd × Int32 × Int32 × Int32 × Int32 × Int32 → Option (Int32 × Wd)) (w : Wd) (v2 : Int32) (v4 : Int32) (v5 : Int32) (v6 : Int32) (v7 : Int32) : Option (Int32 × Wd) :=
  if 8 ≤ v7 then
  some (v6, w)
  else
  if v5 < 0 then
  F_X6_ill_99 k61 w v2 v4 v5 v6 v7
  else
  gu (gd v7 8) <|
  if (w.2.1 46 v7.toNatClampNeg) = v5 then
  (F_X6_hasFrom w v7 v2).bind fun x7 =>
  if (if x7.1 = 0 then (0 : Int32) else 1) = 0 then
  F_X6_ill_125 k61 x7.2 v2 v4 v5 v7 v6
  else
  (F_X6_isTaken x7.2 v7 v2 v4).bind fun x8 =>
  Let ((v6 + (if x8.1 = 0 then (1 : Int32) else 0)) : Int32) fun y9 =>
  k61 (x8.2, v2, v4, v5, y9, (v7 + 1))
  else
  F_X6_ill_99 k61 w v2 v4 v5 v6 v7
def L_X6_ill_61  (n : Nat) (a : Wd × Int32 × Int32 × Int32 × Int32 × Int32) : Option (Int32 × Wd) := it (fun k a => F_X6_ill_61  k a.1 a.2.1 a.2.2.1 a.2.2.2.1 a.2.2.2.2.1 a.2.2.2.2.2) n a
def F_X6_ill (w : Wd) (p1 : Int32) (p2 : Int32) : Option (Int32 × Wd) :=
  (F_X6_isPart w p1).bind fun x1 =>
  if x1.1 = 0 then
  some ((-1), x1.2)
  else
  (F_X6_refusal x1.2).bind fun x2 =>
  if x2.1 = (-6) then
  (F_X6_in x2.2 p2.toInt64 0 ((x2.2.1 35 - 1).toInt64)).bind fun x3 =>
  if x3.1 = 0 then
  some ((-2), x3.2)
  else
  (F_X6_castAll x3.2).bind fun x4 =>
  gu (gd p1 8) <|
  L_X6_ill_61  fu (x4.2, p2, x4.1, x4.2.2.1 46 p1.toNatClampNeg, 0, 0)
  else
  some (x2.1, x2.2)
-- StageCountModel.scene(I)I
def F_X6_scene (w : Wd) (p1 : Int32) : Option (Int32 × Wd) :=
  (F_X6_in w p1.toInt64 0 255).bind fun x1 =>
  if x1.1 = 0 then
  some ((-2), x1.2)
  else
  if (x1.2.1 32) = 6 then
  some ((-4), x1.2)
  else
  gu (gd (x1.2.1 32) 6) <|
  some ((x1.2.1 32 + 1), (wI (wA x1.2 38 (x1.2.1 32) p1) 32 (x1.2.1 32 + 1)))
-- StageCountModel.strike()I
def F_X6_strike (w : Wd)  : Option (Int32 × Wd) :=
  some (w.1 32, (wI w 32 0))
-- StageCountModel.layRow(I)Z
def F_X6_layRow_12 (k12 : Wd × Int32 × Int32 × Int32 → Option (Int32 × Wd)) (w : Wd) (v2 : Int32) (v3 : Int32) (v4 : Int32) : Option (Int32 × Wd) :=
  if v4 < 0 then
  gu (isB (if v3 = ((1 <<< (w.1 32 &&& 31)) - 1) then (1 : Int32) else 0)) (some ((if v3 = ((1 <<< (w.1 32 &&& 31)) - 1) then (1 : Int32) else 0), w))
  else
  gu (decide (¬ (w.1 32) = 0)) <|
  gu (gd v4 6) <|
  gu (gd v4 6) <|
  Let ((v3 ||| (1 <<< ((wA w 47 v4 (v2 - v2 / w.1 32 * w.1 32)).2.1 47 v4.toNatClampNeg &&& 31))) : Int32) fun y1 =>
  gu (decide (¬ (w.1 32) = 0)) <|
  k12 ((wA w 47 v4 (v2 - v2 / w.1 32 * w.1 32)), (v2 / w.1 32), y1, (v4 + (-1)))
def L_X6_layRow_12  (n : Nat) (a : Wd × Int32 × Int32 × Int32) : Option (Int32 × Wd) := it (fun k a => F_X6_layRow_12  k a.1 a.2.1 a.2.2.1 a.2.2.2) n a
def F_X6_layRow (w : Wd) (p1 : Int32) : Option (Int32 × Wd) :=
  L_X6_layRow_12  fu (w, p1, 0, (w.1 32 - 1))
-- StageCountModel.movesOfRow()I
def F_X6_movesOfRow_6 (k6 : Wd × Int32 × Int32 × Int32 → Option (Int32 × Wd)) (w : Wd) (v1 : Int32) (v2 : Int32) (v3 : Int32) : Option (Int32 × Wd) :=
  if (w.1 32) ≤ v3 then
  (F_X6_ones w v2).bind fun x1 =>
  some ((v1 + x1.1), x1.2)
  else
  gu (gd v3 6) <|
  gu (gd (w.2.1 47 v3.toNatClampNeg) 6) <|
  (F_X6_ones w (v2 ^^^ w.2.1 38 (w.2.1 47 v3.toNatClampNeg).toNatClampNeg)).bind fun x2 =>
  gu (gd v3 6) <|
  gu (gd (x2.2.2.1 47 v3.toNatClampNeg) 6) <|
  Let (x2.2.2.1 38 (x2.2.2.1 47 v3.toNatClampNeg).toNatClampNeg : Int32) fun y3 =>
  k6 (x2.2, (v1 + x2.1), y3, (v3 + 1))
def L_X6_movesOfRow_6  (n : Nat) (a : Wd × Int32 × Int32 × Int32) : Option (Int32 × Wd) := it (fun k a => F_X6_movesOfRow_6  k a.1 a.2.1 a.2.2.1 a.2.2.2) n a
def F_X6_movesOfRow (w : Wd)  : Option (Int32 × Wd) :=
  L_X6_movesOfRow_6  fu (w, 0, 0, 0)
-- StageCountModel.order(I)I
def F_X6_order_136  (w : Wd) (s0 : Int32) : Option (Int32 × Wd) :=
  some (s0, w)
def F_X6_order_94 (k32 : Wd × Int32 × Int32 × Int32 × Int32 → Option (Int32 × Wd)) (w : Wd) (v1 : Int32) (v2 : Int32) (v3 : Int32) (v4 : Int32) : Option (Int32 × Wd) :=
  k32 (w, v1, v2, v3, (v4 + 1))
def F_X6_order_65 (k32 : Wd × Int32 × Int32 × Int32 × Int32 → Option (Int32 × Wd)) (k65 : Wd × Int32 × Int32 × Int32 × Int32 × Int32 → Option (Int32 × Wd)) (w : Wd) (v1 : Int32) (v2 : Int32) (v3 : Int32) (v4 : Int32) (v6 : Int32) : Option (Int32 × Wd) :=
  if (w.1 32) ≤ v6 then
  F_X6_order_94 k32 w v1 v2 v3 v4
  else
  gu (gd v6 6) <|
  gu (gd v6 6) <|
  k65 ((wA w 48 v6 (w.2.1 47 v6.toNatClampNeg)), v1, v2, v3, v4, (v6 + 1))
def L_X6_order_65 (k32 : Wd × Int32 × Int32 × Int32 × Int32 → Option (Int32 × Wd)) (n : Nat) (a : Wd × Int32 × Int32 × Int32 × Int32 × Int32) : Option (Int32 × Wd) := it (fun k a => F_X6_order_65 k32 k a.1 a.2.1 a.2.2.1 a.2.2.2.1 a.2.2.2.2.1 a.2.2.2.2.2) n a
def F_X6_order_32 (k32 : Wd × Int32 × Int32 × Int32 × Int32 → Option (Int32 × Wd)) (w : Wd) (v1 : Int32) (v2 : Int32) (v3 : Int32) (v4 : Int32) : Option (Int32 × Wd) :=
  if v2 ≤ v4 then
  if v1 = (-1) then
  F_X6_order_136 w v3
  else
  (F_X6_in w v1.toInt64 0 ((w.1 32 - 1).toInt64)).bind fun x1 =>
  if x1.1 = 0 then
  F_X6_order_136 x1.2 (-6)
  else
  gu (gd v1 6) <|
  F_X6_order_136 x1.2 (x1.2.2.1 48 v1.toNatClampNeg)
  else
  (F_X6_layRow w v4).bind fun x2 =>
  if x2.1 = 0 then
  F_X6_order_94 k32 x2.2 v1 v2 v3 v4
  else
  (F_X6_movesOfRow x2.2).bind fun x3 =>
  if v3 ≤ x3.1 then
  F_X6_order_94 k32 x3.2 v1 v2 v3 v4
  else
  L_X6_order_65 k32 fu (x3.2, v1, v2, x3.1, v4, 0)
def L_X6_order_32  (n : Nat) (a : Wd × Int32 × Int32 × Int32 × Int32) : Option (Int32 × Wd) := it (fun k a => F_X6_order_32  k a.1 a.2.1 a.2.2.1 a.2.2.2.1 a.2.2.2.2) n a
def F_X6_order_4 (k4 : Wd × Int32 × Int32 × Int32 → Option (Int32 × Wd)) (w : Wd) (v1 : Int32) (v2 : Int32) (v3 : Int32) : Option (Int32 × Wd) :=
  if (w.1 32) ≤ v3 then
  L_X6_order_32  fu (w, v1, v2, 1000, 0)
  else
  k4 (w, v1, (v2 * w.1 32), (v3 + 1))
def L_X6_order_4  (n : Nat) (a : Wd × Int32 × Int32 × Int32) : Option (Int32 × Wd) := it (fun k a => F_X6_order_4  k a.1 a.2.1 a.2.2.1 a.2.2.2) n a
def F_X6_order (w : Wd) (p1 : Int32) : Option (Int32 × Wd) :=
  L_X6_order_4  fu (w, p1, 1, 0)
-- StageCountModel.seen(II)I
def F_X6_seen_24  (w : Wd) : Option (Int32 × Wd) :=
  some ((-2), w)
def F_X6_seen (w : Wd) (p1 : Int32) (p2 : Int32) : Option (Int32 × Wd) :=
  (F_X6_in w p1.toInt64 0 39).bind fun x1 =>
  if x1.1 = 0 then
  F_X6_seen_24 x1.2
  else
  (F_X6_in x1.2 p2.toInt64 0 8).bind fun x2 =>
  if x2.1 = 0 then
  F_X6_seen_24 x2.2
  else
  if (x2.2.1 33) = 6 then
  some ((-4), x2.2)
  else
  gu (gd (x2.2.1 33) 6) <|
  gu (gd (x2.2.1 33) 6) <|
  some ((x2.2.1 33 + 1), (wI (wA (wA x2.2 39 (x2.2.1 33) p1) 40 (x2.2.1 33) p2) 33 (x2.2.1 33 + 1)))
-- StageCountModel.forget()I
def F_X6_forget (w : Wd)  : Option (Int32 × Wd) :=
  some (w.1 33, (wI w 33 0))
-- StageCountModel.ways()I
def F_X6_ways (w : Wd)  : Option (Int32 × Wd) :=
  (F_X6_marks w).bind fun x1 =>
  some ((1 <<< ((3 * x1.1) &&& 31)), x1.2)
-- StageCountModel.fills(I)Z
def F_X6_fills_149  (w : Wd) (v4 : Int32) : Option (Int32 × Wd) :=
  gu (isB v4) (some (v4, w))
def F_X6_fills_141 (k83 : Wd × Int32 × Int32 → Option (Int32 × Wd)) (w : Wd) (v5 : Int32) (s0 : Int32) : Option (Int32 × Wd) :=
  k83 (w, s0, (v5 + 1))
def F_X6_fills_140 (k83 : Wd × Int32 × Int32 → Option (Int32 × Wd)) (w : Wd) (v5 : Int32) : Option (Int32 × Wd) :=
  F_X6_fills_141 k83 w v5 0
def F_X6_fills_83 (k83 : Wd × Int32 × Int32 → Option (Int32 × Wd)) (w : Wd) (v4 : Int32) (v5 : Int32) : Option (Int32 × Wd) :=
  if (w.1 33) ≤ v5 then
  F_X6_fills_149 w v4
  else
  if v4 = 0 then
  F_X6_fills_149 w v4
  else
  gu (gd v5 6) <|
  if (w.1 35) ≤ (w.2.1 39 v5.toNatClampNeg) then
  F_X6_fills_140 k83 w v5
  else
  gu (gd v5 6) <|
  gu (gd (w.2.1 39 v5.toNatClampNeg) 40) <|
  (F_X6_ones w (w.2.1 43 (w.2.1 39 v5.toNatClampNeg).toNatClampNeg)).bind fun x4 =>
  gu (gd v5 6) <|
  Let ((if x4.1 = (x4.2.2.1 40 v5.toNatClampNeg) then (1 : Int32) else 0) : Int32) fun y5 =>
  k83 (x4.2, y5, (v5 + 1))
def L_X6_fills_83  (n : Nat) (a : Wd × Int32 × Int32) : Option (Int32 × Wd) := it (fun k a => F_X6_fills_83  k a.1 a.2.1 a.2.2) n a
def F_X6_fills_68 (k19 : Wd × Int32 × Int32 × Int32 → Option (Int32 × Wd)) (w : Wd) (v2 : Int32) (v3 : Int32) (v4 : Int32) : Option (Int32 × Wd) :=
  k19 (w, v2, v3, (v4 + (-1)))
def F_X6_fills_19 (k19 : Wd × Int32 × Int32 × Int32 → Option (Int32 × Wd)) (w : Wd) (v2 : Int32) (v3 : Int32) (v4 : Int32) : Option (Int32 × Wd) :=
  if v4 < 0 then
  (F_X6_go w).bind fun x3 =>
  L_X6_fills_83  fu (x3.2, x3.1, 0)
  else
  gu (gd v4 40) <|
  if (w.2.1 41 v4.toNatClampNeg) = 63 then
  gu (gd v4 40) <|
  gu (gd v4 40) <|
  gu (gd (v3 + (-1)) 3) <|
  F_X6_fills_68 k19 (wA (wA w 42 v4 (v2 - v2 / 8 * 8)) 49 (v3 + (-1)) ((wA w 42 v4 (v2 - v2 / 8 * 8)).2.1 42 v4.toNatClampNeg)) (v2 / 8) (v3 + (-1)) v4
  else
  F_X6_fills_68 k19 w v2 v3 v4
def L_X6_fills_19  (n : Nat) (a : Wd × Int32 × Int32 × Int32) : Option (Int32 × Wd) := it (fun k a => F_X6_fills_19  k a.1 a.2.1 a.2.2.1 a.2.2.2) n a
def F_X6_fills (w : Wd) (p1 : Int32) : Option (Int32 × Wd) :=
  (F_X6_layEvents w).bind fun x1 =>
  (F_X6_marks x1).bind fun x2 =>
  L_X6_fills_19  fu (x2.2, p1, x2.1, (x2.2.1 34 - 1))
-- StageCountModel.fits(I)I
def F_X6_fits_71 (k20 : Wd × Int32 × Int32 × Int32 × Int32 → Option (Int32 × Wd)) (w : Wd) (v1 : Int32) (v2 : Int32) (v3 : Int32) (v4 : Int32) : Option (Int32 × Wd) :=
  k20 (w, v1, v2, v3, (v4 + 1))
def F_X6_fits_67  (w : Wd) (s0 : Int32) : Option (Int32 × Wd) :=
  some (s0, w)
def F_X6_fits_20 (k20 : Wd × Int32 × Int32 × Int32 × Int32 → Option (Int32 × Wd)) (w : Wd) (v1 : Int32) (v2 : Int32) (v3 : Int32) (v4 : Int32) : Option (Int32 × Wd) :=
  if v3 ≤ v4 then
  some ((if v1 = (-1) then v2 else (-6)), w)
  else
  (F_X6_fills w v4).bind fun x3 =>
  if x3.1 = 0 then
  F_X6_fits_71 k20 x3.2 v1 v2 v3 v4
  else
  if v1 = (-1) then
  F_X6_fits_71 k20 x3.2 v1 (v2 + 1) v3 v4
  else
  (F_X6_marks x3.2).bind fun x4 =>
  (F_X6_in x4.2 v1.toInt64 0 ((x4.1 - 1).toInt64)).bind fun x5 =>
  if x5.1 = 0 then
  F_X6_fits_67 x5.2 (-6)
  else
  gu (gd v1 3) <|
  F_X6_fits_67 x5.2 (x5.2.2.1 49 v1.toNatClampNeg)
def L_X6_fits_20  (n : Nat) (a : Wd × Int32 × Int32 × Int32 × Int32) : Option (Int32 × Wd) := it (fun k a => F_X6_fits_20  k a.1 a.2.1 a.2.2.1 a.2.2.2.1 a.2.2.2.2) n a
def F_X6_fits (w : Wd) (p1 : Int32) : Option (Int32 × Wd) :=
  (F_X6_fault w).bind fun x1 =>
  if x1.1 < 0 then
  (F_X6_ways x1.2).bind fun x2 =>
  L_X6_fits_20  fu (x2.2, p1, 0, x2.1, 0)
  else
  some ((-5), x1.2)
-- StageCountModel.could(I)I
def F_X6_could_67 (k39 : Wd × Int32 × Int32 × Int32 × Int32 → Option (Int32 × Wd)) (w : Wd) (v1 : Int32) (v3 : Int32) (v4 : Int32) (s0 : Int32) (s1 : Int32) : Option (Int32 × Wd) :=
  k39 (w, v1, (s1 ||| s0), v3, (v4 + 1))
def F_X6_could_39 (k39 : Wd × Int32 × Int32 × Int32 × Int32 → Option (Int32 × Wd)) (w : Wd) (v1 : Int32) (v2 : Int32) (v3 : Int32) (v4 : Int32) : Option (Int32 × Wd) :=
  if v3 ≤ v4 then
  some (v2, w)
  else
  (F_X6_fills w v4).bind fun x5 =>
  if x5.1 = 0 then
  F_X6_could_67 k39 x5.2 v1 v3 v4 0 v2
  else
  gu (gd v1 3) <|
  F_X6_could_67 k39 x5.2 v1 v3 v4 (1 <<< (x5.2.2.1 49 v1.toNatClampNeg &&& 31)) v2
def L_X6_could_39  (n : Nat) (a : Wd × Int32 × Int32 × Int32 × Int32) : Option (Int32 × Wd) := it (fun k a => F_X6_could_39  k a.1 a.2.1 a.2.2.1 a.2.2.2.1 a.2.2.2.2) n a
def F_X6_could (w : Wd) (p1 : Int32) : Option (Int32 × Wd) :=
  (F_X6_fault w).bind fun x1 =>
  if x1.1 < 0 then
  (F_X6_marks x1.2).bind fun x2 =>
  (F_X6_in x2.2 p1.toInt64 0 ((x2.1 - 1).toInt64)).bind fun x3 =>
  if x3.1 = 0 then
  some ((-6), x3.2)
  else
  (F_X6_ways x3.2).bind fun x4 =>
  L_X6_could_39  fu (x4.2, p1, 0, x4.1, 0)
  else
  some ((-5), x1.2)
-- StageCountModel.evening(III)I
def F_X6_evening_36  (w : Wd) : Option (Int32 × Wd) :=
  some ((-2), w)
def F_X6_evening_172  (w : Wd) (s0 : Int32) : Option (Int32 × Wd) :=
  some (s0, w)
def F_X6_evening_58 (k58 : Wd × Int32 × Int32 × Int32 × Int32 × Int32 × Int32 × Int32 × Int32 → Option (Int32 × Wd)) (w : Wd) (v2 : Int32) (v3 : Int32) (v4 : Int32) (v5 : Int32) (v6 : Int32) (v7 : Int32) (v8 : Int32) (v9 : Int32) : Option (Int32 × Wd) :=
  if v2 ≤ v9 then
  if v3 = 0 then
  F_X6_evening_172 w v6
  else
  if v3 = 1 then
  (F_X6_ones w v5).bind fun x4 =>
  F_X6_evening_172 x4.2 x4.1
  else
  F_X6_evening_172 w v7
  else
  Let ((((75 * v4.toInt64) + 74) - ((75 * v4.toInt64) + 74) / 65537 * 65537).toInt32 : Int32) fun y5 =>
  Let ((v5 ^^^ (1 <<< ((y5 - y5 / 8 * 8) &&& 31))) : Int32) fun y6 =>
  (F_X6_ones w y6).bind fun x7 =>
  (F_X6_holds x7.2 x7.1 v8).bind fun x8 =>
  Let ((v6 + (if x8.1 = 0 then (0 : Int32) else 1)) : Int32) fun y9 =>
  k58 (x8.2, v2, v3, y5, y6, y9, (if x7.1 ≤ v7 then v7 else x7.1), x7.1, (v9 + 1))
def L_X6_evening_58  (n : Nat) (a : Wd × Int32 × Int32 × Int32 × Int32 × Int32 × Int32 × Int32 × Int32) : Option (Int32 × Wd) := it (fun k a => F_X6_evening_58  k a.1 a.2.1 a.2.2.1 a.2.2.2.1 a.2.2.2.2.1 a.2.2.2.2.2.1 a.2.2.2.2.2.2.1 a.2.2.2.2.2.2.2.1 a.2.2.2.2.2.2.2.2) n a
def F_X6_evening (w : Wd) (p1 : Int32) (p2 : Int32) (p3 : Int32) : Option (Int32 × Wd) :=
  (F_X6_in w p1.toInt64 0 9999).bind fun x1 =>
  if x1.1 = 0 then
  F_X6_evening_36 x1.2
  else
  (F_X6_in x1.2 p2.toInt64 1 99).bind fun x2 =>
  if x2.1 = 0 then
  F_X6_evening_36 x2.2
  else
  (F_X6_in x2.2 p3.toInt64 0 2).bind fun x3 =>
  if x3.1 = 0 then
  F_X6_evening_36 x3.2
  else
  L_X6_evening_58  fu (x3.2, p2, p3, p1, 0, 0, 0, (-6), 0)
-- StageCountModel.pass(I)I
def F_X6_pass_20  (w : Wd) (s0 : Int32) : Option (Int32 × Wd) :=
  gu (gd (w.1 39) 200) <|
  some (s0, (wI (wA w 50 (w.1 39) s0) 39 (w.1 39 + 1)))
def F_X6_pass (w : Wd) (p1 : Int32) : Option (Int32 × Wd) :=
  if (w.1 40) = 0 then
  gu (gd (w.1 39) 200) <|
  F_X6_pass_20 w (w.2.1 50 (w.1 39).toNatClampNeg)
  else
  F_X6_pass_20 w p1
-- StageCountModel.passAll()V
def F_X6_passAll_92 (k92 : Wd × Int32 → Option (Wd)) (w : Wd) (v1 : Int32) : Option (Wd) :=
  if 6 ≤ v1 then
  some w
  else
  gu (gd v1 6) <|
  (F_X6_pass w (w.2.1 38 v1.toNatClampNeg)).bind fun x6 =>
  gu (gd v1 6) <|
  gu (gd v1 6) <|
  (F_X6_pass (wA x6.2 38 v1 x6.1) (x6.2.2.1 39 v1.toNatClampNeg)).bind fun x7 =>
  gu (gd v1 6) <|
  gu (gd v1 6) <|
  (F_X6_pass (wA x7.2 39 v1 x7.1) (x7.2.2.1 40 v1.toNatClampNeg)).bind fun x8 =>
  gu (gd v1 6) <|
  k92 ((wA x8.2 40 v1 x8.1), (v1 + 1))
def L_X6_passAll_92  (n : Nat) (a : Wd × Int32) : Option (Wd) := it (fun k a => F_X6_passAll_92  k a.1 a.2) n a
def F_X6_passAll_62 (k62 : Wd × Int32 → Option (Wd)) (w : Wd) (v1 : Int32) : Option (Wd) :=
  if 64 ≤ v1 then
  L_X6_passAll_92  fu (w, 0)
  else
  gu (gd v1 64) <|
  (F_X6_pass w (w.2.1 37 v1.toNatClampNeg)).bind fun x9 =>
  gu (gd v1 64) <|
  k62 ((wA x9.2 37 v1 x9.1), (v1 + 1))
def L_X6_passAll_62  (n : Nat) (a : Wd × Int32) : Option (Wd) := it (fun k a => F_X6_passAll_62  k a.1 a.2) n a
def F_X6_passAll (w : Wd)  : Option (Wd) :=
  (F_X6_pass w (w.1 29)).bind fun x1 =>
  (F_X6_pass (wI x1.2 29 x1.1) (x1.2.1 30)).bind fun x2 =>
  (F_X6_pass (wI x2.2 30 x2.1) (x2.2.1 31)).bind fun x3 =>
  (F_X6_pass (wI x3.2 31 x3.1) (x3.2.1 32)).bind fun x4 =>
  (F_X6_pass (wI x4.2 32 x4.1) (x4.2.1 33)).bind fun x5 =>
  L_X6_passAll_62  fu ((wI x5.2 33 x5.1), 0)
-- StageCountModel.image(I)I
def F_X6_image (w : Wd) (p1 : Int32) : Option (Int32 × Wd) :=
  (F_X6_in w p1.toInt64 0 1).bind fun x1 =>
  if x1.1 = 0 then
  some ((-2), x1.2)
  else
  (F_X6_passAll (wI (wI x1.2 39 (100 * p1)) 40 1)).bind fun x2 =>
  gu (gd p1 2) <|
  some (1, (wA x2 51 p1 1))
-- StageCountModel.restore(I)I
def F_X6_restore (w : Wd) (p1 : Int32) : Option (Int32 × Wd) :=
  (F_X6_in w p1.toInt64 0 1).bind fun x1 =>
  if x1.1 = 0 then
  some ((-2), x1.2)
  else
  gu (gd p1 2) <|
  if (x1.2.2.1 51 p1.toNatClampNeg) = 0 then
  some ((-3), x1.2)
  else
  (F_X6_passAll (wI (wI x1.2 39 (100 * p1)) 40 0)).bind fun x2 =>
  some (1, x2)
-- StageCountModel.told(I)I
def F_X6_told (w : Wd) (p1 : Int32) : Option (Int32 × Wd) :=
  (F_X6_in w p1.toInt64 10 ((9 + w.1 32).toInt64)).bind fun x1 =>
  if x1.1 = 0 then
  if p1 = 0 then
  some (x1.2.1 34, x1.2)
  else
  if p1 = 1 then
  some (x1.2.1 29, x1.2)
  else
  if p1 = 2 then
  some (x1.2.1 30, x1.2)
  else
  if p1 = 3 then
  some (x1.2.1 31, x1.2)
  else
  if p1 = 4 then
  some (x1.2.1 32, x1.2)
  else
  if p1 = 5 then
  some (x1.2.1 33, x1.2)
  else
  some ((-2), x1.2)
  else
  gu (gd (p1 - 10) 6) <|
  some (x1.2.2.1 38 (p1 - 10).toNatClampNeg, x1.2)
