theorem kb_31 : (Int8.ofInt (31)).toInt32 = 31 := by decide
def F_L_law_706 (xs : Nat → Int32) (L : Nat) (k18 : Wd × Int32 → Option (Unit)) (w : Wd) (v3 : Int32) : Option (Unit) :=
  k18 (w, (v3 + 4))
def F_L_law_18 (xs : Nat → Int32) (L : Nat) (k18 : Wd × Int32 → Option (Unit)) (w : Wd) (v3 : Int32) : Option (Unit) :=
  if ((Int32.ofNat L) - 4) < v3 then
  some ()
  else
  gu (gd v3 L) <|
  Let ((xs v3.toNatClampNeg &&& 31) : Int32) fun y1 =>
  if y1 = 0 then
  gu (gd (v3 + 1) L) <|
  gu (gd (v3 + 2) L) <|
  (F_X5_set w (xs (v3 + 1).toNatClampNeg) (xs (v3 + 2).toNatClampNeg)).bind fun x2 =>
  gu (gd (v3 + 1) L) <|
  gu (gd (v3 + 2) L) <|
  (F_X6_set x2.2 (xs (v3 + 1).toNatClampNeg) (xs (v3 + 2).toNatClampNeg)).bind fun x3 =>
  if x2.1 = x3.1 then
  F_L_law_706 xs L k18 x3.2 v3
  else
  none
  else
  if y1 = 1 then
  gu (gd (v3 + 1) L) <|
  (F_X5_say w (xs (v3 + 1).toNatClampNeg)).bind fun x4 =>
  gu (gd (v3 + 1) L) <|
  (F_X6_say x4.2 (xs (v3 + 1).toNatClampNeg)).bind fun x5 =>
  if x4.1 = x5.1 then
  F_L_law_706 xs L k18 x5.2 v3
  else
  none
  else
  if y1 = 2 then
  (F_X5_wipe w).bind fun x6 =>
  (F_X6_wipe x6.2).bind fun x7 =>
  if x6.1 = x7.1 then
  F_L_law_706 xs L k18 x7.2 v3
  else
  none
  else
  if y1 = 3 then
  (F_X5_fault w).bind fun x8 =>
  (F_X6_fault x8.2).bind fun x9 =>
  if x8.1 = x9.1 then
  F_L_law_706 xs L k18 x9.2 v3
  else
  none
  else
  if y1 = 4 then
  gu (gd (v3 + 1) L) <|
  (F_X5_judge w (xs (v3 + 1).toNatClampNeg)).bind fun x10 =>
  gu (gd (v3 + 1) L) <|
  (F_X6_judge x10.2 (xs (v3 + 1).toNatClampNeg)).bind fun x11 =>
  if x10.1 = x11.1 then
  F_L_law_706 xs L k18 x11.2 v3
  else
  none
  else
  if y1 = 5 then
  gu (gd (v3 + 1) L) <|
  (F_X5_on w (xs (v3 + 1).toNatClampNeg)).bind fun x12 =>
  gu (gd (v3 + 1) L) <|
  (F_X6_on x12.2 (xs (v3 + 1).toNatClampNeg)).bind fun x13 =>
  if x12.1 = x13.1 then
  F_L_law_706 xs L k18 x13.2 v3
  else
  none
  else
  if y1 = 6 then
  gu (gd (v3 + 1) L) <|
  (F_X5_lines w (xs (v3 + 1).toNatClampNeg)).bind fun x14 =>
  gu (gd (v3 + 1) L) <|
  (F_X6_lines x14.2 (xs (v3 + 1).toNatClampNeg)).bind fun x15 =>
  if x14.1 = x15.1 then
  F_L_law_706 xs L k18 x15.2 v3
  else
  none
  else
  if y1 = 7 then
  gu (gd (v3 + 1) L) <|
  gu (gd (v3 + 2) L) <|
  gu (gd (v3 + 3) L) <|
  (F_X5_may w (xs (v3 + 1).toNatClampNeg) (xs (v3 + 2).toNatClampNeg) (xs (v3 + 3).toNatClampNeg)).bind fun x16 =>
  gu (gd (v3 + 1) L) <|
  gu (gd (v3 + 2) L) <|
  gu (gd (v3 + 3) L) <|
  (F_X6_may x16.2 (xs (v3 + 1).toNatClampNeg) (xs (v3 + 2).toNatClampNeg) (xs (v3 + 3).toNatClampNeg)).bind fun x17 =>
  if x16.1 = x17.1 then
  F_L_law_706 xs L k18 x17.2 v3
  else
  none
  else
  if y1 = 8 then
  (F_X5_broken w).bind fun x18 =>
  (F_X6_broken x18.2).bind fun x19 =>
  if x18.1 = x19.1 then
  F_L_law_706 xs L k18 x19.2 v3
  else
  none
  else
  if y1 = 9 then
  gu (gd (v3 + 1) L) <|
  (F_X5_strangers w (xs (v3 + 1).toNatClampNeg)).bind fun x20 =>
  gu (gd (v3 + 1) L) <|
  (F_X6_strangers x20.2 (xs (v3 + 1).toNatClampNeg)).bind fun x21 =>
  if x20.1 = x21.1 then
  F_L_law_706 xs L k18 x21.2 v3
  else
  none
  else
  if y1 = 10 then
  (F_X5_cuts w).bind fun x22 =>
  (F_X6_cuts x22.2).bind fun x23 =>
  if x22.1 = x23.1 then
  F_L_law_706 xs L k18 x23.2 v3
  else
  none
  else
  if y1 = 11 then
  gu (gd (v3 + 1) L) <|
  (F_X5_cast w (xs (v3 + 1).toNatClampNeg)).bind fun x24 =>
  gu (gd (v3 + 1) L) <|
  (F_X6_cast x24.2 (xs (v3 + 1).toNatClampNeg)).bind fun x25 =>
  if x24.1 = x25.1 then
  F_L_law_706 xs L k18 x25.2 v3
  else
  none
  else
  if y1 = 12 then
  gu (gd (v3 + 1) L) <|
  gu (gd (v3 + 2) L) <|
  (F_X5_ill w (xs (v3 + 1).toNatClampNeg) (xs (v3 + 2).toNatClampNeg)).bind fun x26 =>
  gu (gd (v3 + 1) L) <|
  gu (gd (v3 + 2) L) <|
  (F_X6_ill x26.2 (xs (v3 + 1).toNatClampNeg) (xs (v3 + 2).toNatClampNeg)).bind fun x27 =>
  if x26.1 = x27.1 then
  F_L_law_706 xs L k18 x27.2 v3
  else
  none
  else
  if y1 = 13 then
  gu (gd (v3 + 1) L) <|
  (F_X5_scene w (xs (v3 + 1).toNatClampNeg)).bind fun x28 =>
  gu (gd (v3 + 1) L) <|
  (F_X6_scene x28.2 (xs (v3 + 1).toNatClampNeg)).bind fun x29 =>
  if x28.1 = x29.1 then
  F_L_law_706 xs L k18 x29.2 v3
  else
  none
  else
  if y1 = 14 then
  (F_X5_strike w).bind fun x30 =>
  (F_X6_strike x30.2).bind fun x31 =>
  if x30.1 = x31.1 then
  F_L_law_706 xs L k18 x31.2 v3
  else
  none
  else
  if y1 = 15 then
  gu (gd (v3 + 1) L) <|
  (F_X5_order w (xs (v3 + 1).toNatClampNeg)).bind fun x32 =>
  gu (gd (v3 + 1) L) <|
  (F_X6_order x32.2 (xs (v3 + 1).toNatClampNeg)).bind fun x33 =>
  if x32.1 = x33.1 then
  F_L_law_706 xs L k18 x33.2 v3
  else
  none
  else
  if y1 = 16 then
  gu (gd (v3 + 1) L) <|
  gu (gd (v3 + 2) L) <|
  (F_X5_seen w (xs (v3 + 1).toNatClampNeg) (xs (v3 + 2).toNatClampNeg)).bind fun x34 =>
  gu (gd (v3 + 1) L) <|
  gu (gd (v3 + 2) L) <|
  (F_X6_seen x34.2 (xs (v3 + 1).toNatClampNeg) (xs (v3 + 2).toNatClampNeg)).bind fun x35 =>
  if x34.1 = x35.1 then
  F_L_law_706 xs L k18 x35.2 v3
  else
  none
  else
  if y1 = 17 then
  (F_X5_forget w).bind fun x36 =>
  (F_X6_forget x36.2).bind fun x37 =>
  if x36.1 = x37.1 then
  F_L_law_706 xs L k18 x37.2 v3
  else
  none
  else
  if y1 = 18 then
  gu (gd (v3 + 1) L) <|
  (F_X5_fits w (xs (v3 + 1).toNatClampNeg)).bind fun x38 =>
  gu (gd (v3 + 1) L) <|
  (F_X6_fits x38.2 (xs (v3 + 1).toNatClampNeg)).bind fun x39 =>
  if x38.1 = x39.1 then
  F_L_law_706 xs L k18 x39.2 v3
  else
  none
  else
  if y1 = 19 then
  gu (gd (v3 + 1) L) <|
  (F_X5_could w (xs (v3 + 1).toNatClampNeg)).bind fun x40 =>
  gu (gd (v3 + 1) L) <|
  (F_X6_could x40.2 (xs (v3 + 1).toNatClampNeg)).bind fun x41 =>
  if x40.1 = x41.1 then
  F_L_law_706 xs L k18 x41.2 v3
  else
  none
  else
  if y1 = 20 then
  gu (gd (v3 + 1) L) <|
  gu (gd (v3 + 2) L) <|
  gu (gd (v3 + 3) L) <|
  (F_X5_evening w (xs (v3 + 1).toNatClampNeg) (xs (v3 + 2).toNatClampNeg) (xs (v3 + 3).toNatClampNeg)).bind fun x42 =>
  gu (gd (v3 + 1) L) <|
  gu (gd (v3 + 2) L) <|
  gu (gd (v3 + 3) L) <|
  (F_X6_evening x42.2 (xs (v3 + 1).toNatClampNeg) (xs (v3 + 2).toNatClampNeg) (xs (v3 + 3).toNatClampNeg)).bind fun x43 =>
  if x42.1 = x43.1 then
  F_L_law_706 xs L k18 x43.2 v3
  else
  none
  else
  if y1 = 21 then
  gu (gd (v3 + 1) L) <|
  (F_X5_image w (xs (v3 + 1).toNatClampNeg)).bind fun x44 =>
  gu (gd (v3 + 1) L) <|
  (F_X6_image x44.2 (xs (v3 + 1).toNatClampNeg)).bind fun x45 =>
  if x44.1 = x45.1 then
  F_L_law_706 xs L k18 x45.2 v3
  else
  none
  else
  if y1 = 22 then
  gu (gd (v3 + 1) L) <|
  (F_X5_restore w (xs (v3 + 1).toNatClampNeg)).bind fun x46 =>
  gu (gd (v3 + 1) L) <|
  (F_X6_restore x46.2 (xs (v3 + 1).toNatClampNeg)).bind fun x47 =>
  if x46.1 = x47.1 then
  F_L_law_706 xs L k18 x47.2 v3
  else
  none
  else
  if y1 = 23 then
  gu (gd (v3 + 1) L) <|
  (F_X5_told w (xs (v3 + 1).toNatClampNeg)).bind fun x48 =>
  gu (gd (v3 + 1) L) <|
  (F_X6_told x48.2 (xs (v3 + 1).toNatClampNeg)).bind fun x49 =>
  if x48.1 = x49.1 then
  F_L_law_706 xs L k18 x49.2 v3
  else
  none
  else
  F_L_law_706 xs L k18 w v3
def L_L_law_18 (xs : Nat → Int32) (L : Nat) (n : Nat) (a : Wd × Int32) : Option (Unit) := it (fun k a => F_L_law_18 xs L k a.1 a.2) n a
set_option maxRecDepth 100000 in
set_option maxHeartbeats 4000000 in
theorem t_L_law_706 {X : Fx} (hX : Cx X cL_law RL 4 15 630) (hE : ∀ w lv, Wa X w 713 lv [.int 1]) {b L : Nat} {xs : Nat → Int32} (hs : Sx X b L xs) {k18 : Wd × Int32 → Option (Unit)} (hk18 : ∀ a, k18 a = some () → Wa X a.1 18 [(0, .ref b), (1, .ref (Ad X 0)), (2, .ref (Ad X 36)), (3, .int a.2)] []) {w : Wd} {v3 : Int32} (h : F_L_law_706 xs L k18 w v3 = some ()) : Wa X w 706 [(0, .ref b), (1, .ref (Ad X 0)), (2, .ref (Ad X 36)), (3, .int v3)] [] := by
  unfold F_L_law_706 at h
  refine wa_iinc hX (v := (v3 + 4)) (lv2 := [(3, .int (v3 + 4)), (0, .ref b), (1, .ref (Ad X 0)), (2, .ref (Ad X 36))]) 3 rfl rfl (by decide) rfl dL_law_706 ?_
  refine wa_goto hX 18 (by decide) dL_law_709 ?_
  refine wa_sub (lv2 := [(0, .ref b), (1, .ref (Ad X 0)), (2, .ref (Ad X 36)), (3, .int (v3 + 4))]) [1, 2, 3, 0] rfl ?_
  exact hk18 _ h
set_option maxRecDepth 100000 in
set_option maxHeartbeats 4000000 in
theorem t_L_law_18 {X : Fx} (hX : Cx X cL_law RL 4 15 630) (hE : ∀ w lv, Wa X w 713 lv [.int 1]) {b L : Nat} {xs : Nat → Int32} (hs : Sx X b L xs) : ∀ (n : Nat) (a : Wd × Int32), L_L_law_18 xs L n a = some () → Wa X a.1 18 [(0, .ref b), (1, .ref (Ad X 0)), (2, .ref (Ad X 36)), (3, .int a.2)] [] := by
  refine it_mach (P := fun (a : Wd × Int32) => Wa X a.1 18 [(0, .ref b), (1, .ref (Ad X 0)), (2, .ref (Ad X 36)), (3, .int a.2)] []) ?_
  intro k18 hk18 a h
  obtain ⟨w, v3⟩ := a
  have h : F_L_law_18 xs L k18 w v3 = some () := h
  show Wa X w 18 [(0, .ref b), (1, .ref (Ad X 0)), (2, .ref (Ad X 36)), (3, .int v3)] []
  unfold F_L_law_18 at h
  refine wa_iload_n hX 3 rfl rfl dL_law_18 ?_
  refine wa_aload_n hX 0 rfl rfl dL_law_19 ?_
  refine wa_slen hX hs dL_law_20 ?_
  refine wa_iconst hX 4 ki_4 dL_law_21 ?_
  refine wa_isub hX dL_law_22 ?_
  refine wa_icmp_gt hX 712 (by decide) dL_law_23 (fun c => ?_) (fun c => ?_)
  · replace h := itp c h
    refine wa_iconst hX 1 ki_1 dL_law_712 ?_
    exact hE _ _
  · replace h := itn c h
    refine wa_aload_n hX 0 rfl rfl dL_law_26 ?_
    refine wa_iload_n hX 3 rfl rfl dL_law_27 ?_
    obtain ⟨hg, h⟩ := gu_some h
    refine wa_sld hX hs hg dL_law_28 ?_
    refine wa_bipush hX 31 kb_31 dL_law_29 ?_
    refine wa_iand hX dL_law_31 ?_
    refine wa_let h (fun y1 h => ?_)
    by_cases c0 : y1 = 0
    · replace h := itp c0 h
      have e : (y1 : Int32).toInt = 0 := by rw [c0]; rfl
      refine wa_tin hX 144 (by rw [e]; decide) (by rw [e]; decide) (by rw [e]; rfl) (by decide) dL_law_32 ?_
      refine wa_aload_n hX 1 rfl rfl dL_law_144 ?_
      refine wa_aload_n hX 0 rfl rfl dL_law_145 ?_
      refine wa_iload_n hX 3 rfl rfl dL_law_146 ?_
      refine wa_iconst hX 1 ki_1 dL_law_147 ?_
      refine wa_iadd hX dL_law_148 ?_
      obtain ⟨hg, h⟩ := gu_some h
      refine wa_sld hX hs hg dL_law_149 ?_
      refine wa_aload_n hX 0 rfl rfl dL_law_150 ?_
      refine wa_iload_n hX 3 rfl rfl dL_law_151 ?_
      refine wa_iconst hX 2 ki_2 dL_law_152 ?_
      refine wa_iadd hX dL_law_153 ?_
      obtain ⟨hg, h⟩ := gu_some h
      refine wa_sld hX hs hg dL_law_154 ?_
      obtain ⟨x2, h2, h⟩ := obind h
      refine wa_callVi hX (m_X5_set h2) cx_X5_set ml_L_13 (As := [.int (xs (v3 + 1).toNatClampNeg), .int (xs (v3 + 2).toNatClampNeg)]) (rest := []) 0 (ce_stage _ _) rfl rfl rfl rfl ⟨Nat.le_of_ble_eq_true rfl, Nat.le_of_ble_eq_true rfl⟩ (Nat.le_of_ble_eq_true rfl) dL_law_155 ?_
      refine wa_aload_n hX 2 rfl rfl dL_law_158 ?_
      refine wa_aload_n hX 0 rfl rfl dL_law_159 ?_
      refine wa_iload_n hX 3 rfl rfl dL_law_160 ?_
      refine wa_iconst hX 1 ki_1 dL_law_161 ?_
      refine wa_iadd hX dL_law_162 ?_
      obtain ⟨hg, h⟩ := gu_some h
      refine wa_sld hX hs hg dL_law_163 ?_
      refine wa_aload_n hX 0 rfl rfl dL_law_164 ?_
      refine wa_iload_n hX 3 rfl rfl dL_law_165 ?_
      refine wa_iconst hX 2 ki_2 dL_law_166 ?_
      refine wa_iadd hX dL_law_167 ?_
      obtain ⟨hg, h⟩ := gu_some h
      refine wa_sld hX hs hg dL_law_168 ?_
      obtain ⟨x3, h2, h⟩ := obind h
      refine wa_callVi hX (m_X6_set h2) cx_X6_set ml_L_17 (As := [.int (xs (v3 + 1).toNatClampNeg), .int (xs (v3 + 2).toNatClampNeg)]) (rest := [.int x2.1]) 36 (ce_model _ _) rfl rfl rfl rfl ⟨Nat.le_of_ble_eq_true rfl, Nat.le_of_ble_eq_true rfl⟩ (Nat.le_of_ble_eq_true rfl) dL_law_169 ?_
      refine wa_icmp_eq hX 706 (by decide) dL_law_172 (fun c => ?_) (fun c => ?_)
      · replace h := itp c h
        exact t_L_law_706 hX hE hs hk18 h
      · replace h := itn c h
        refine wa_iconst hX 0 ki_0 dL_law_175 ?_
        cases h
    · replace h := itn c0 h
      by_cases c1 : y1 = 1
      · replace h := itp c1 h
        have e : (y1 : Int32).toInt = 1 := by rw [c1]; rfl
        refine wa_tin hX 177 (by rw [e]; decide) (by rw [e]; decide) (by rw [e]; rfl) (by decide) dL_law_32 ?_
        refine wa_aload_n hX 1 rfl rfl dL_law_177 ?_
        refine wa_aload_n hX 0 rfl rfl dL_law_178 ?_
        refine wa_iload_n hX 3 rfl rfl dL_law_179 ?_
        refine wa_iconst hX 1 ki_1 dL_law_180 ?_
        refine wa_iadd hX dL_law_181 ?_
        obtain ⟨hg, h⟩ := gu_some h
        refine wa_sld hX hs hg dL_law_182 ?_
        obtain ⟨x4, h2, h⟩ := obind h
        refine wa_callVi hX (m_X5_say h2) cx_X5_say ml_L_18 (As := [.int (xs (v3 + 1).toNatClampNeg)]) (rest := []) 0 (ce_stage _ _) rfl rfl rfl rfl ⟨Nat.le_of_ble_eq_true rfl, Nat.le_of_ble_eq_true rfl⟩ (Nat.le_of_ble_eq_true rfl) dL_law_183 ?_
        refine wa_aload_n hX 2 rfl rfl dL_law_186 ?_
        refine wa_aload_n hX 0 rfl rfl dL_law_187 ?_
        refine wa_iload_n hX 3 rfl rfl dL_law_188 ?_
        refine wa_iconst hX 1 ki_1 dL_law_189 ?_
        refine wa_iadd hX dL_law_190 ?_
        obtain ⟨hg, h⟩ := gu_some h
        refine wa_sld hX hs hg dL_law_191 ?_
        obtain ⟨x5, h2, h⟩ := obind h
        refine wa_callVi hX (m_X6_say h2) cx_X6_say ml_L_22 (As := [.int (xs (v3 + 1).toNatClampNeg)]) (rest := [.int x4.1]) 36 (ce_model _ _) rfl rfl rfl rfl ⟨Nat.le_of_ble_eq_true rfl, Nat.le_of_ble_eq_true rfl⟩ (Nat.le_of_ble_eq_true rfl) dL_law_192 ?_
        refine wa_icmp_eq hX 706 (by decide) dL_law_195 (fun c => ?_) (fun c => ?_)
        · replace h := itp c h
          exact t_L_law_706 hX hE hs hk18 h
        · replace h := itn c h
          refine wa_iconst hX 0 ki_0 dL_law_198 ?_
          cases h
      · replace h := itn c1 h
        by_cases c2 : y1 = 2
        · replace h := itp c2 h
          have e : (y1 : Int32).toInt = 2 := by rw [c2]; rfl
          refine wa_tin hX 200 (by rw [e]; decide) (by rw [e]; decide) (by rw [e]; rfl) (by decide) dL_law_32 ?_
          refine wa_aload_n hX 1 rfl rfl dL_law_200 ?_
          obtain ⟨x6, h2, h⟩ := obind h
          refine wa_callVi hX (m_X5_wipe h2) cx_X5_wipe ml_L_23 (As := []) (rest := []) 0 (ce_stage _ _) rfl rfl rfl rfl ⟨Nat.le_of_ble_eq_true rfl, Nat.le_of_ble_eq_true rfl⟩ (Nat.le_of_ble_eq_true rfl) dL_law_201 ?_
          refine wa_aload_n hX 2 rfl rfl dL_law_204 ?_
          obtain ⟨x7, h2, h⟩ := obind h
          refine wa_callVi hX (m_X6_wipe h2) cx_X6_wipe ml_L_27 (As := []) (rest := [.int x6.1]) 36 (ce_model _ _) rfl rfl rfl rfl ⟨Nat.le_of_ble_eq_true rfl, Nat.le_of_ble_eq_true rfl⟩ (Nat.le_of_ble_eq_true rfl) dL_law_205 ?_
          refine wa_icmp_eq hX 706 (by decide) dL_law_208 (fun c => ?_) (fun c => ?_)
          · replace h := itp c h
            exact t_L_law_706 hX hE hs hk18 h
          · replace h := itn c h
            refine wa_iconst hX 0 ki_0 dL_law_211 ?_
            cases h
        · replace h := itn c2 h
          by_cases c3 : y1 = 3
          · replace h := itp c3 h
            have e : (y1 : Int32).toInt = 3 := by rw [c3]; rfl
            refine wa_tin hX 213 (by rw [e]; decide) (by rw [e]; decide) (by rw [e]; rfl) (by decide) dL_law_32 ?_
            refine wa_aload_n hX 1 rfl rfl dL_law_213 ?_
            obtain ⟨x8, h2, h⟩ := obind h
            refine wa_callVi hX (m_X5_fault h2) cx_X5_fault ml_L_28 (As := []) (rest := []) 0 (ce_stage _ _) rfl rfl rfl rfl ⟨Nat.le_of_ble_eq_true rfl, Nat.le_of_ble_eq_true rfl⟩ (Nat.le_of_ble_eq_true rfl) dL_law_214 ?_
            refine wa_aload_n hX 2 rfl rfl dL_law_217 ?_
            obtain ⟨x9, h2, h⟩ := obind h
            refine wa_callVi hX (m_X6_fault h2) cx_X6_fault ml_L_31 (As := []) (rest := [.int x8.1]) 36 (ce_model _ _) rfl rfl rfl rfl ⟨Nat.le_of_ble_eq_true rfl, Nat.le_of_ble_eq_true rfl⟩ (Nat.le_of_ble_eq_true rfl) dL_law_218 ?_
            refine wa_icmp_eq hX 706 (by decide) dL_law_221 (fun c => ?_) (fun c => ?_)
            · replace h := itp c h
              exact t_L_law_706 hX hE hs hk18 h
            · replace h := itn c h
              refine wa_iconst hX 0 ki_0 dL_law_224 ?_
              cases h
          · replace h := itn c3 h
            by_cases c4 : y1 = 4
            · replace h := itp c4 h
              have e : (y1 : Int32).toInt = 4 := by rw [c4]; rfl
              refine wa_tin hX 226 (by rw [e]; decide) (by rw [e]; decide) (by rw [e]; rfl) (by decide) dL_law_32 ?_
              refine wa_aload_n hX 1 rfl rfl dL_law_226 ?_
              refine wa_aload_n hX 0 rfl rfl dL_law_227 ?_
              refine wa_iload_n hX 3 rfl rfl dL_law_228 ?_
              refine wa_iconst hX 1 ki_1 dL_law_229 ?_
              refine wa_iadd hX dL_law_230 ?_
              obtain ⟨hg, h⟩ := gu_some h
              refine wa_sld hX hs hg dL_law_231 ?_
              obtain ⟨x10, h2, h⟩ := obind h
              refine wa_callVi hX (m_X5_judge h2) cx_X5_judge ml_L_32 (As := [.int (xs (v3 + 1).toNatClampNeg)]) (rest := []) 0 (ce_stage _ _) rfl rfl rfl rfl ⟨Nat.le_of_ble_eq_true rfl, Nat.le_of_ble_eq_true rfl⟩ (Nat.le_of_ble_eq_true rfl) dL_law_232 ?_
              refine wa_aload_n hX 2 rfl rfl dL_law_235 ?_
              refine wa_aload_n hX 0 rfl rfl dL_law_236 ?_
              refine wa_iload_n hX 3 rfl rfl dL_law_237 ?_
              refine wa_iconst hX 1 ki_1 dL_law_238 ?_
              refine wa_iadd hX dL_law_239 ?_
              obtain ⟨hg, h⟩ := gu_some h
              refine wa_sld hX hs hg dL_law_240 ?_
              obtain ⟨x11, h2, h⟩ := obind h
              refine wa_callVi hX (m_X6_judge h2) cx_X6_judge ml_L_35 (As := [.int (xs (v3 + 1).toNatClampNeg)]) (rest := [.int x10.1]) 36 (ce_model _ _) rfl rfl rfl rfl ⟨Nat.le_of_ble_eq_true rfl, Nat.le_of_ble_eq_true rfl⟩ (Nat.le_of_ble_eq_true rfl) dL_law_241 ?_
              refine wa_icmp_eq hX 706 (by decide) dL_law_244 (fun c => ?_) (fun c => ?_)
              · replace h := itp c h
                exact t_L_law_706 hX hE hs hk18 h
              · replace h := itn c h
                refine wa_iconst hX 0 ki_0 dL_law_247 ?_
                cases h
            · replace h := itn c4 h
              by_cases c5 : y1 = 5
              · replace h := itp c5 h
                have e : (y1 : Int32).toInt = 5 := by rw [c5]; rfl
                refine wa_tin hX 249 (by rw [e]; decide) (by rw [e]; decide) (by rw [e]; rfl) (by decide) dL_law_32 ?_
                refine wa_aload_n hX 1 rfl rfl dL_law_249 ?_
                refine wa_aload_n hX 0 rfl rfl dL_law_250 ?_
                refine wa_iload_n hX 3 rfl rfl dL_law_251 ?_
                refine wa_iconst hX 1 ki_1 dL_law_252 ?_
                refine wa_iadd hX dL_law_253 ?_
                obtain ⟨hg, h⟩ := gu_some h
                refine wa_sld hX hs hg dL_law_254 ?_
                obtain ⟨x12, h2, h⟩ := obind h
                refine wa_callVi hX (m_X5_on h2) cx_X5_on ml_L_36 (As := [.int (xs (v3 + 1).toNatClampNeg)]) (rest := []) 0 (ce_stage _ _) rfl rfl rfl rfl ⟨Nat.le_of_ble_eq_true rfl, Nat.le_of_ble_eq_true rfl⟩ (Nat.le_of_ble_eq_true rfl) dL_law_255 ?_
                refine wa_aload_n hX 2 rfl rfl dL_law_258 ?_
                refine wa_aload_n hX 0 rfl rfl dL_law_259 ?_
                refine wa_iload_n hX 3 rfl rfl dL_law_260 ?_
                refine wa_iconst hX 1 ki_1 dL_law_261 ?_
                refine wa_iadd hX dL_law_262 ?_
                obtain ⟨hg, h⟩ := gu_some h
                refine wa_sld hX hs hg dL_law_263 ?_
                obtain ⟨x13, h2, h⟩ := obind h
                refine wa_callVi hX (m_X6_on h2) cx_X6_on ml_L_39 (As := [.int (xs (v3 + 1).toNatClampNeg)]) (rest := [.int x12.1]) 36 (ce_model _ _) rfl rfl rfl rfl ⟨Nat.le_of_ble_eq_true rfl, Nat.le_of_ble_eq_true rfl⟩ (Nat.le_of_ble_eq_true rfl) dL_law_264 ?_
                refine wa_icmp_eq hX 706 (by decide) dL_law_267 (fun c => ?_) (fun c => ?_)
                · replace h := itp c h
                  exact t_L_law_706 hX hE hs hk18 h
                · replace h := itn c h
                  refine wa_iconst hX 0 ki_0 dL_law_270 ?_
                  cases h
              · replace h := itn c5 h
                by_cases c6 : y1 = 6
                · replace h := itp c6 h
                  have e : (y1 : Int32).toInt = 6 := by rw [c6]; rfl
                  refine wa_tin hX 272 (by rw [e]; decide) (by rw [e]; decide) (by rw [e]; rfl) (by decide) dL_law_32 ?_
                  refine wa_aload_n hX 1 rfl rfl dL_law_272 ?_
                  refine wa_aload_n hX 0 rfl rfl dL_law_273 ?_
                  refine wa_iload_n hX 3 rfl rfl dL_law_274 ?_
                  refine wa_iconst hX 1 ki_1 dL_law_275 ?_
                  refine wa_iadd hX dL_law_276 ?_
                  obtain ⟨hg, h⟩ := gu_some h
                  refine wa_sld hX hs hg dL_law_277 ?_
                  obtain ⟨x14, h2, h⟩ := obind h
                  refine wa_callVi hX (m_X5_lines h2) cx_X5_lines ml_L_40 (As := [.int (xs (v3 + 1).toNatClampNeg)]) (rest := []) 0 (ce_stage _ _) rfl rfl rfl rfl ⟨Nat.le_of_ble_eq_true rfl, Nat.le_of_ble_eq_true rfl⟩ (Nat.le_of_ble_eq_true rfl) dL_law_278 ?_
                  refine wa_aload_n hX 2 rfl rfl dL_law_281 ?_
                  refine wa_aload_n hX 0 rfl rfl dL_law_282 ?_
                  refine wa_iload_n hX 3 rfl rfl dL_law_283 ?_
                  refine wa_iconst hX 1 ki_1 dL_law_284 ?_
                  refine wa_iadd hX dL_law_285 ?_
                  obtain ⟨hg, h⟩ := gu_some h
                  refine wa_sld hX hs hg dL_law_286 ?_
                  obtain ⟨x15, h2, h⟩ := obind h
                  refine wa_callVi hX (m_X6_lines h2) cx_X6_lines ml_L_43 (As := [.int (xs (v3 + 1).toNatClampNeg)]) (rest := [.int x14.1]) 36 (ce_model _ _) rfl rfl rfl rfl ⟨Nat.le_of_ble_eq_true rfl, Nat.le_of_ble_eq_true rfl⟩ (Nat.le_of_ble_eq_true rfl) dL_law_287 ?_
                  refine wa_icmp_eq hX 706 (by decide) dL_law_290 (fun c => ?_) (fun c => ?_)
                  · replace h := itp c h
                    exact t_L_law_706 hX hE hs hk18 h
                  · replace h := itn c h
                    refine wa_iconst hX 0 ki_0 dL_law_293 ?_
                    cases h
                · replace h := itn c6 h
                  by_cases c7 : y1 = 7
                  · replace h := itp c7 h
                    have e : (y1 : Int32).toInt = 7 := by rw [c7]; rfl
                    refine wa_tin hX 295 (by rw [e]; decide) (by rw [e]; decide) (by rw [e]; rfl) (by decide) dL_law_32 ?_
                    refine wa_aload_n hX 1 rfl rfl dL_law_295 ?_
                    refine wa_aload_n hX 0 rfl rfl dL_law_296 ?_
                    refine wa_iload_n hX 3 rfl rfl dL_law_297 ?_
                    refine wa_iconst hX 1 ki_1 dL_law_298 ?_
                    refine wa_iadd hX dL_law_299 ?_
                    obtain ⟨hg, h⟩ := gu_some h
                    refine wa_sld hX hs hg dL_law_300 ?_
                    refine wa_aload_n hX 0 rfl rfl dL_law_301 ?_
                    refine wa_iload_n hX 3 rfl rfl dL_law_302 ?_
                    refine wa_iconst hX 2 ki_2 dL_law_303 ?_
                    refine wa_iadd hX dL_law_304 ?_
                    obtain ⟨hg, h⟩ := gu_some h
                    refine wa_sld hX hs hg dL_law_305 ?_
                    refine wa_aload_n hX 0 rfl rfl dL_law_306 ?_
                    refine wa_iload_n hX 3 rfl rfl dL_law_307 ?_
                    refine wa_iconst hX 3 ki_3 dL_law_308 ?_
                    refine wa_iadd hX dL_law_309 ?_
                    obtain ⟨hg, h⟩ := gu_some h
                    refine wa_sld hX hs hg dL_law_310 ?_
                    obtain ⟨x16, h2, h⟩ := obind h
                    refine wa_callVi hX (m_X5_may h2) cx_X5_may ml_L_44 (As := [.int (xs (v3 + 1).toNatClampNeg), .int (xs (v3 + 2).toNatClampNeg), .int (xs (v3 + 3).toNatClampNeg)]) (rest := []) 0 (ce_stage _ _) rfl rfl rfl rfl ⟨Nat.le_of_ble_eq_true rfl, Nat.le_of_ble_eq_true rfl⟩ (Nat.le_of_ble_eq_true rfl) dL_law_311 ?_
                    refine wa_aload_n hX 2 rfl rfl dL_law_314 ?_
                    refine wa_aload_n hX 0 rfl rfl dL_law_315 ?_
                    refine wa_iload_n hX 3 rfl rfl dL_law_316 ?_
                    refine wa_iconst hX 1 ki_1 dL_law_317 ?_
                    refine wa_iadd hX dL_law_318 ?_
                    obtain ⟨hg, h⟩ := gu_some h
                    refine wa_sld hX hs hg dL_law_319 ?_
                    refine wa_aload_n hX 0 rfl rfl dL_law_320 ?_
                    refine wa_iload_n hX 3 rfl rfl dL_law_321 ?_
                    refine wa_iconst hX 2 ki_2 dL_law_322 ?_
                    refine wa_iadd hX dL_law_323 ?_
                    obtain ⟨hg, h⟩ := gu_some h
                    refine wa_sld hX hs hg dL_law_324 ?_
                    refine wa_aload_n hX 0 rfl rfl dL_law_325 ?_
                    refine wa_iload_n hX 3 rfl rfl dL_law_326 ?_
                    refine wa_iconst hX 3 ki_3 dL_law_327 ?_
                    refine wa_iadd hX dL_law_328 ?_
                    obtain ⟨hg, h⟩ := gu_some h
                    refine wa_sld hX hs hg dL_law_329 ?_
                    obtain ⟨x17, h2, h⟩ := obind h
                    refine wa_callVi hX (m_X6_may h2) cx_X6_may ml_L_48 (As := [.int (xs (v3 + 1).toNatClampNeg), .int (xs (v3 + 2).toNatClampNeg), .int (xs (v3 + 3).toNatClampNeg)]) (rest := [.int x16.1]) 36 (ce_model _ _) rfl rfl rfl rfl ⟨Nat.le_of_ble_eq_true rfl, Nat.le_of_ble_eq_true rfl⟩ (Nat.le_of_ble_eq_true rfl) dL_law_330 ?_
                    refine wa_icmp_eq hX 706 (by decide) dL_law_333 (fun c => ?_) (fun c => ?_)
                    · replace h := itp c h
                      exact t_L_law_706 hX hE hs hk18 h
                    · replace h := itn c h
                      refine wa_iconst hX 0 ki_0 dL_law_336 ?_
                      cases h
                  · replace h := itn c7 h
                    by_cases c8 : y1 = 8
                    · replace h := itp c8 h
                      have e : (y1 : Int32).toInt = 8 := by rw [c8]; rfl
                      refine wa_tin hX 338 (by rw [e]; decide) (by rw [e]; decide) (by rw [e]; rfl) (by decide) dL_law_32 ?_
                      refine wa_aload_n hX 1 rfl rfl dL_law_338 ?_
                      obtain ⟨x18, h2, h⟩ := obind h
                      refine wa_callVi hX (m_X5_broken h2) cx_X5_broken ml_L_49 (As := []) (rest := []) 0 (ce_stage _ _) rfl rfl rfl rfl ⟨Nat.le_of_ble_eq_true rfl, Nat.le_of_ble_eq_true rfl⟩ (Nat.le_of_ble_eq_true rfl) dL_law_339 ?_
                      refine wa_aload_n hX 2 rfl rfl dL_law_342 ?_
                      obtain ⟨x19, h2, h⟩ := obind h
                      refine wa_callVi hX (m_X6_broken h2) cx_X6_broken ml_L_52 (As := []) (rest := [.int x18.1]) 36 (ce_model _ _) rfl rfl rfl rfl ⟨Nat.le_of_ble_eq_true rfl, Nat.le_of_ble_eq_true rfl⟩ (Nat.le_of_ble_eq_true rfl) dL_law_343 ?_
                      refine wa_icmp_eq hX 706 (by decide) dL_law_346 (fun c => ?_) (fun c => ?_)
                      · replace h := itp c h
                        exact t_L_law_706 hX hE hs hk18 h
                      · replace h := itn c h
                        refine wa_iconst hX 0 ki_0 dL_law_349 ?_
                        cases h
                    · replace h := itn c8 h
                      by_cases c9 : y1 = 9
                      · replace h := itp c9 h
                        have e : (y1 : Int32).toInt = 9 := by rw [c9]; rfl
                        refine wa_tin hX 351 (by rw [e]; decide) (by rw [e]; decide) (by rw [e]; rfl) (by decide) dL_law_32 ?_
                        refine wa_aload_n hX 1 rfl rfl dL_law_351 ?_
                        refine wa_aload_n hX 0 rfl rfl dL_law_352 ?_
                        refine wa_iload_n hX 3 rfl rfl dL_law_353 ?_
                        refine wa_iconst hX 1 ki_1 dL_law_354 ?_
                        refine wa_iadd hX dL_law_355 ?_
                        obtain ⟨hg, h⟩ := gu_some h
                        refine wa_sld hX hs hg dL_law_356 ?_
                        obtain ⟨x20, h2, h⟩ := obind h
                        refine wa_callVi hX (m_X5_strangers h2) cx_X5_strangers ml_L_53 (As := [.int (xs (v3 + 1).toNatClampNeg)]) (rest := []) 0 (ce_stage _ _) rfl rfl rfl rfl ⟨Nat.le_of_ble_eq_true rfl, Nat.le_of_ble_eq_true rfl⟩ (Nat.le_of_ble_eq_true rfl) dL_law_357 ?_
                        refine wa_aload_n hX 2 rfl rfl dL_law_360 ?_
                        refine wa_aload_n hX 0 rfl rfl dL_law_361 ?_
                        refine wa_iload_n hX 3 rfl rfl dL_law_362 ?_
                        refine wa_iconst hX 1 ki_1 dL_law_363 ?_
                        refine wa_iadd hX dL_law_364 ?_
                        obtain ⟨hg, h⟩ := gu_some h
                        refine wa_sld hX hs hg dL_law_365 ?_
                        obtain ⟨x21, h2, h⟩ := obind h
                        refine wa_callVi hX (m_X6_strangers h2) cx_X6_strangers ml_L_56 (As := [.int (xs (v3 + 1).toNatClampNeg)]) (rest := [.int x20.1]) 36 (ce_model _ _) rfl rfl rfl rfl ⟨Nat.le_of_ble_eq_true rfl, Nat.le_of_ble_eq_true rfl⟩ (Nat.le_of_ble_eq_true rfl) dL_law_366 ?_
                        refine wa_icmp_eq hX 706 (by decide) dL_law_369 (fun c => ?_) (fun c => ?_)
                        · replace h := itp c h
                          exact t_L_law_706 hX hE hs hk18 h
                        · replace h := itn c h
                          refine wa_iconst hX 0 ki_0 dL_law_372 ?_
                          cases h
                      · replace h := itn c9 h
                        by_cases c10 : y1 = 10
                        · replace h := itp c10 h
                          have e : (y1 : Int32).toInt = 10 := by rw [c10]; rfl
                          refine wa_tin hX 374 (by rw [e]; decide) (by rw [e]; decide) (by rw [e]; rfl) (by decide) dL_law_32 ?_
                          refine wa_aload_n hX 1 rfl rfl dL_law_374 ?_
                          obtain ⟨x22, h2, h⟩ := obind h
                          refine wa_callVi hX (m_X5_cuts h2) cx_X5_cuts ml_L_57 (As := []) (rest := []) 0 (ce_stage _ _) rfl rfl rfl rfl ⟨Nat.le_of_ble_eq_true rfl, Nat.le_of_ble_eq_true rfl⟩ (Nat.le_of_ble_eq_true rfl) dL_law_375 ?_
                          refine wa_aload_n hX 2 rfl rfl dL_law_378 ?_
                          obtain ⟨x23, h2, h⟩ := obind h
                          refine wa_callVi hX (m_X6_cuts h2) cx_X6_cuts ml_L_60 (As := []) (rest := [.int x22.1]) 36 (ce_model _ _) rfl rfl rfl rfl ⟨Nat.le_of_ble_eq_true rfl, Nat.le_of_ble_eq_true rfl⟩ (Nat.le_of_ble_eq_true rfl) dL_law_379 ?_
                          refine wa_icmp_eq hX 706 (by decide) dL_law_382 (fun c => ?_) (fun c => ?_)
                          · replace h := itp c h
                            exact t_L_law_706 hX hE hs hk18 h
                          · replace h := itn c h
                            refine wa_iconst hX 0 ki_0 dL_law_385 ?_
                            cases h
                        · replace h := itn c10 h
                          by_cases c11 : y1 = 11
                          · replace h := itp c11 h
                            have e : (y1 : Int32).toInt = 11 := by rw [c11]; rfl
                            refine wa_tin hX 387 (by rw [e]; decide) (by rw [e]; decide) (by rw [e]; rfl) (by decide) dL_law_32 ?_
                            refine wa_aload_n hX 1 rfl rfl dL_law_387 ?_
                            refine wa_aload_n hX 0 rfl rfl dL_law_388 ?_
                            refine wa_iload_n hX 3 rfl rfl dL_law_389 ?_
                            refine wa_iconst hX 1 ki_1 dL_law_390 ?_
                            refine wa_iadd hX dL_law_391 ?_
                            obtain ⟨hg, h⟩ := gu_some h
                            refine wa_sld hX hs hg dL_law_392 ?_
                            obtain ⟨x24, h2, h⟩ := obind h
                            refine wa_callVi hX (m_X5_cast h2) cx_X5_cast ml_L_61 (As := [.int (xs (v3 + 1).toNatClampNeg)]) (rest := []) 0 (ce_stage _ _) rfl rfl rfl rfl ⟨Nat.le_of_ble_eq_true rfl, Nat.le_of_ble_eq_true rfl⟩ (Nat.le_of_ble_eq_true rfl) dL_law_393 ?_
                            refine wa_aload_n hX 2 rfl rfl dL_law_396 ?_
                            refine wa_aload_n hX 0 rfl rfl dL_law_397 ?_
                            refine wa_iload_n hX 3 rfl rfl dL_law_398 ?_
                            refine wa_iconst hX 1 ki_1 dL_law_399 ?_
                            refine wa_iadd hX dL_law_400 ?_
                            obtain ⟨hg, h⟩ := gu_some h
                            refine wa_sld hX hs hg dL_law_401 ?_
                            obtain ⟨x25, h2, h⟩ := obind h
                            refine wa_callVi hX (m_X6_cast h2) cx_X6_cast ml_L_64 (As := [.int (xs (v3 + 1).toNatClampNeg)]) (rest := [.int x24.1]) 36 (ce_model _ _) rfl rfl rfl rfl ⟨Nat.le_of_ble_eq_true rfl, Nat.le_of_ble_eq_true rfl⟩ (Nat.le_of_ble_eq_true rfl) dL_law_402 ?_
                            refine wa_icmp_eq hX 706 (by decide) dL_law_405 (fun c => ?_) (fun c => ?_)
                            · replace h := itp c h
                              exact t_L_law_706 hX hE hs hk18 h
                            · replace h := itn c h
                              refine wa_iconst hX 0 ki_0 dL_law_408 ?_
                              cases h
                          · replace h := itn c11 h
                            by_cases c12 : y1 = 12
                            · replace h := itp c12 h
                              have e : (y1 : Int32).toInt = 12 := by rw [c12]; rfl
                              refine wa_tin hX 410 (by rw [e]; decide) (by rw [e]; decide) (by rw [e]; rfl) (by decide) dL_law_32 ?_
                              refine wa_aload_n hX 1 rfl rfl dL_law_410 ?_
                              refine wa_aload_n hX 0 rfl rfl dL_law_411 ?_
                              refine wa_iload_n hX 3 rfl rfl dL_law_412 ?_
                              refine wa_iconst hX 1 ki_1 dL_law_413 ?_
                              refine wa_iadd hX dL_law_414 ?_
                              obtain ⟨hg, h⟩ := gu_some h
                              refine wa_sld hX hs hg dL_law_415 ?_
                              refine wa_aload_n hX 0 rfl rfl dL_law_416 ?_
                              refine wa_iload_n hX 3 rfl rfl dL_law_417 ?_
                              refine wa_iconst hX 2 ki_2 dL_law_418 ?_
                              refine wa_iadd hX dL_law_419 ?_
                              obtain ⟨hg, h⟩ := gu_some h
                              refine wa_sld hX hs hg dL_law_420 ?_
                              obtain ⟨x26, h2, h⟩ := obind h
                              refine wa_callVi hX (m_X5_ill h2) cx_X5_ill ml_L_65 (As := [.int (xs (v3 + 1).toNatClampNeg), .int (xs (v3 + 2).toNatClampNeg)]) (rest := []) 0 (ce_stage _ _) rfl rfl rfl rfl ⟨Nat.le_of_ble_eq_true rfl, Nat.le_of_ble_eq_true rfl⟩ (Nat.le_of_ble_eq_true rfl) dL_law_421 ?_
                              refine wa_aload_n hX 2 rfl rfl dL_law_424 ?_
                              refine wa_aload_n hX 0 rfl rfl dL_law_425 ?_
                              refine wa_iload_n hX 3 rfl rfl dL_law_426 ?_
                              refine wa_iconst hX 1 ki_1 dL_law_427 ?_
                              refine wa_iadd hX dL_law_428 ?_
                              obtain ⟨hg, h⟩ := gu_some h
                              refine wa_sld hX hs hg dL_law_429 ?_
                              refine wa_aload_n hX 0 rfl rfl dL_law_430 ?_
                              refine wa_iload_n hX 3 rfl rfl dL_law_431 ?_
                              refine wa_iconst hX 2 ki_2 dL_law_432 ?_
                              refine wa_iadd hX dL_law_433 ?_
                              obtain ⟨hg, h⟩ := gu_some h
                              refine wa_sld hX hs hg dL_law_434 ?_
                              obtain ⟨x27, h2, h⟩ := obind h
                              refine wa_callVi hX (m_X6_ill h2) cx_X6_ill ml_L_68 (As := [.int (xs (v3 + 1).toNatClampNeg), .int (xs (v3 + 2).toNatClampNeg)]) (rest := [.int x26.1]) 36 (ce_model _ _) rfl rfl rfl rfl ⟨Nat.le_of_ble_eq_true rfl, Nat.le_of_ble_eq_true rfl⟩ (Nat.le_of_ble_eq_true rfl) dL_law_435 ?_
                              refine wa_icmp_eq hX 706 (by decide) dL_law_438 (fun c => ?_) (fun c => ?_)
                              · replace h := itp c h
                                exact t_L_law_706 hX hE hs hk18 h
                              · replace h := itn c h
                                refine wa_iconst hX 0 ki_0 dL_law_441 ?_
                                cases h
                            · replace h := itn c12 h
                              by_cases c13 : y1 = 13
                              · replace h := itp c13 h
                                have e : (y1 : Int32).toInt = 13 := by rw [c13]; rfl
                                refine wa_tin hX 443 (by rw [e]; decide) (by rw [e]; decide) (by rw [e]; rfl) (by decide) dL_law_32 ?_
                                refine wa_aload_n hX 1 rfl rfl dL_law_443 ?_
                                refine wa_aload_n hX 0 rfl rfl dL_law_444 ?_
                                refine wa_iload_n hX 3 rfl rfl dL_law_445 ?_
                                refine wa_iconst hX 1 ki_1 dL_law_446 ?_
                                refine wa_iadd hX dL_law_447 ?_
                                obtain ⟨hg, h⟩ := gu_some h
                                refine wa_sld hX hs hg dL_law_448 ?_
                                obtain ⟨x28, h2, h⟩ := obind h
                                refine wa_callVi hX (m_X5_scene h2) cx_X5_scene ml_L_69 (As := [.int (xs (v3 + 1).toNatClampNeg)]) (rest := []) 0 (ce_stage _ _) rfl rfl rfl rfl ⟨Nat.le_of_ble_eq_true rfl, Nat.le_of_ble_eq_true rfl⟩ (Nat.le_of_ble_eq_true rfl) dL_law_449 ?_
                                refine wa_aload_n hX 2 rfl rfl dL_law_452 ?_
                                refine wa_aload_n hX 0 rfl rfl dL_law_453 ?_
                                refine wa_iload_n hX 3 rfl rfl dL_law_454 ?_
                                refine wa_iconst hX 1 ki_1 dL_law_455 ?_
                                refine wa_iadd hX dL_law_456 ?_
                                obtain ⟨hg, h⟩ := gu_some h
                                refine wa_sld hX hs hg dL_law_457 ?_
                                obtain ⟨x29, h2, h⟩ := obind h
                                refine wa_callVi hX (m_X6_scene h2) cx_X6_scene ml_L_72 (As := [.int (xs (v3 + 1).toNatClampNeg)]) (rest := [.int x28.1]) 36 (ce_model _ _) rfl rfl rfl rfl ⟨Nat.le_of_ble_eq_true rfl, Nat.le_of_ble_eq_true rfl⟩ (Nat.le_of_ble_eq_true rfl) dL_law_458 ?_
                                refine wa_icmp_eq hX 706 (by decide) dL_law_461 (fun c => ?_) (fun c => ?_)
                                · replace h := itp c h
                                  exact t_L_law_706 hX hE hs hk18 h
                                · replace h := itn c h
                                  refine wa_iconst hX 0 ki_0 dL_law_464 ?_
                                  cases h
                              · replace h := itn c13 h
                                by_cases c14 : y1 = 14
                                · replace h := itp c14 h
                                  have e : (y1 : Int32).toInt = 14 := by rw [c14]; rfl
                                  refine wa_tin hX 466 (by rw [e]; decide) (by rw [e]; decide) (by rw [e]; rfl) (by decide) dL_law_32 ?_
                                  refine wa_aload_n hX 1 rfl rfl dL_law_466 ?_
                                  obtain ⟨x30, h2, h⟩ := obind h
                                  refine wa_callVi hX (m_X5_strike h2) cx_X5_strike ml_L_73 (As := []) (rest := []) 0 (ce_stage _ _) rfl rfl rfl rfl ⟨Nat.le_of_ble_eq_true rfl, Nat.le_of_ble_eq_true rfl⟩ (Nat.le_of_ble_eq_true rfl) dL_law_467 ?_
                                  refine wa_aload_n hX 2 rfl rfl dL_law_470 ?_
                                  obtain ⟨x31, h2, h⟩ := obind h
                                  refine wa_callVi hX (m_X6_strike h2) cx_X6_strike ml_L_76 (As := []) (rest := [.int x30.1]) 36 (ce_model _ _) rfl rfl rfl rfl ⟨Nat.le_of_ble_eq_true rfl, Nat.le_of_ble_eq_true rfl⟩ (Nat.le_of_ble_eq_true rfl) dL_law_471 ?_
                                  refine wa_icmp_eq hX 706 (by decide) dL_law_474 (fun c => ?_) (fun c => ?_)
                                  · replace h := itp c h
                                    exact t_L_law_706 hX hE hs hk18 h
                                  · replace h := itn c h
                                    refine wa_iconst hX 0 ki_0 dL_law_477 ?_
                                    cases h
                                · replace h := itn c14 h
                                  by_cases c15 : y1 = 15
                                  · replace h := itp c15 h
                                    have e : (y1 : Int32).toInt = 15 := by rw [c15]; rfl
                                    refine wa_tin hX 479 (by rw [e]; decide) (by rw [e]; decide) (by rw [e]; rfl) (by decide) dL_law_32 ?_
                                    refine wa_aload_n hX 1 rfl rfl dL_law_479 ?_
                                    refine wa_aload_n hX 0 rfl rfl dL_law_480 ?_
                                    refine wa_iload_n hX 3 rfl rfl dL_law_481 ?_
                                    refine wa_iconst hX 1 ki_1 dL_law_482 ?_
                                    refine wa_iadd hX dL_law_483 ?_
                                    obtain ⟨hg, h⟩ := gu_some h
                                    refine wa_sld hX hs hg dL_law_484 ?_
                                    obtain ⟨x32, h2, h⟩ := obind h
                                    refine wa_callVi hX (m_X5_order h2) cx_X5_order ml_L_77 (As := [.int (xs (v3 + 1).toNatClampNeg)]) (rest := []) 0 (ce_stage _ _) rfl rfl rfl rfl ⟨Nat.le_of_ble_eq_true rfl, Nat.le_of_ble_eq_true rfl⟩ (Nat.le_of_ble_eq_true rfl) dL_law_485 ?_
                                    refine wa_aload_n hX 2 rfl rfl dL_law_488 ?_
                                    refine wa_aload_n hX 0 rfl rfl dL_law_489 ?_
                                    refine wa_iload_n hX 3 rfl rfl dL_law_490 ?_
                                    refine wa_iconst hX 1 ki_1 dL_law_491 ?_
                                    refine wa_iadd hX dL_law_492 ?_
                                    obtain ⟨hg, h⟩ := gu_some h
                                    refine wa_sld hX hs hg dL_law_493 ?_
                                    obtain ⟨x33, h2, h⟩ := obind h
                                    refine wa_callVi hX (m_X6_order h2) cx_X6_order ml_L_80 (As := [.int (xs (v3 + 1).toNatClampNeg)]) (rest := [.int x32.1]) 36 (ce_model _ _) rfl rfl rfl rfl ⟨Nat.le_of_ble_eq_true rfl, Nat.le_of_ble_eq_true rfl⟩ (Nat.le_of_ble_eq_true rfl) dL_law_494 ?_
                                    refine wa_icmp_eq hX 706 (by decide) dL_law_497 (fun c => ?_) (fun c => ?_)
                                    · replace h := itp c h
                                      exact t_L_law_706 hX hE hs hk18 h
                                    · replace h := itn c h
                                      refine wa_iconst hX 0 ki_0 dL_law_500 ?_
                                      cases h
                                  · replace h := itn c15 h
                                    by_cases c16 : y1 = 16
                                    · replace h := itp c16 h
                                      have e : (y1 : Int32).toInt = 16 := by rw [c16]; rfl
                                      refine wa_tin hX 502 (by rw [e]; decide) (by rw [e]; decide) (by rw [e]; rfl) (by decide) dL_law_32 ?_
                                      refine wa_aload_n hX 1 rfl rfl dL_law_502 ?_
                                      refine wa_aload_n hX 0 rfl rfl dL_law_503 ?_
                                      refine wa_iload_n hX 3 rfl rfl dL_law_504 ?_
                                      refine wa_iconst hX 1 ki_1 dL_law_505 ?_
                                      refine wa_iadd hX dL_law_506 ?_
                                      obtain ⟨hg, h⟩ := gu_some h
                                      refine wa_sld hX hs hg dL_law_507 ?_
                                      refine wa_aload_n hX 0 rfl rfl dL_law_508 ?_
                                      refine wa_iload_n hX 3 rfl rfl dL_law_509 ?_
                                      refine wa_iconst hX 2 ki_2 dL_law_510 ?_
                                      refine wa_iadd hX dL_law_511 ?_
                                      obtain ⟨hg, h⟩ := gu_some h
                                      refine wa_sld hX hs hg dL_law_512 ?_
                                      obtain ⟨x34, h2, h⟩ := obind h
                                      refine wa_callVi hX (m_X5_seen h2) cx_X5_seen ml_L_81 (As := [.int (xs (v3 + 1).toNatClampNeg), .int (xs (v3 + 2).toNatClampNeg)]) (rest := []) 0 (ce_stage _ _) rfl rfl rfl rfl ⟨Nat.le_of_ble_eq_true rfl, Nat.le_of_ble_eq_true rfl⟩ (Nat.le_of_ble_eq_true rfl) dL_law_513 ?_
                                      refine wa_aload_n hX 2 rfl rfl dL_law_516 ?_
                                      refine wa_aload_n hX 0 rfl rfl dL_law_517 ?_
                                      refine wa_iload_n hX 3 rfl rfl dL_law_518 ?_
                                      refine wa_iconst hX 1 ki_1 dL_law_519 ?_
                                      refine wa_iadd hX dL_law_520 ?_
                                      obtain ⟨hg, h⟩ := gu_some h
                                      refine wa_sld hX hs hg dL_law_521 ?_
                                      refine wa_aload_n hX 0 rfl rfl dL_law_522 ?_
                                      refine wa_iload_n hX 3 rfl rfl dL_law_523 ?_
                                      refine wa_iconst hX 2 ki_2 dL_law_524 ?_
                                      refine wa_iadd hX dL_law_525 ?_
                                      obtain ⟨hg, h⟩ := gu_some h
                                      refine wa_sld hX hs hg dL_law_526 ?_
                                      obtain ⟨x35, h2, h⟩ := obind h
                                      refine wa_callVi hX (m_X6_seen h2) cx_X6_seen ml_L_84 (As := [.int (xs (v3 + 1).toNatClampNeg), .int (xs (v3 + 2).toNatClampNeg)]) (rest := [.int x34.1]) 36 (ce_model _ _) rfl rfl rfl rfl ⟨Nat.le_of_ble_eq_true rfl, Nat.le_of_ble_eq_true rfl⟩ (Nat.le_of_ble_eq_true rfl) dL_law_527 ?_
                                      refine wa_icmp_eq hX 706 (by decide) dL_law_530 (fun c => ?_) (fun c => ?_)
                                      · replace h := itp c h
                                        exact t_L_law_706 hX hE hs hk18 h
                                      · replace h := itn c h
                                        refine wa_iconst hX 0 ki_0 dL_law_533 ?_
                                        cases h
                                    · replace h := itn c16 h
                                      by_cases c17 : y1 = 17
                                      · replace h := itp c17 h
                                        have e : (y1 : Int32).toInt = 17 := by rw [c17]; rfl
                                        refine wa_tin hX 535 (by rw [e]; decide) (by rw [e]; decide) (by rw [e]; rfl) (by decide) dL_law_32 ?_
                                        refine wa_aload_n hX 1 rfl rfl dL_law_535 ?_
                                        obtain ⟨x36, h2, h⟩ := obind h
                                        refine wa_callVi hX (m_X5_forget h2) cx_X5_forget ml_L_85 (As := []) (rest := []) 0 (ce_stage _ _) rfl rfl rfl rfl ⟨Nat.le_of_ble_eq_true rfl, Nat.le_of_ble_eq_true rfl⟩ (Nat.le_of_ble_eq_true rfl) dL_law_536 ?_
                                        refine wa_aload_n hX 2 rfl rfl dL_law_539 ?_
                                        obtain ⟨x37, h2, h⟩ := obind h
                                        refine wa_callVi hX (m_X6_forget h2) cx_X6_forget ml_L_88 (As := []) (rest := [.int x36.1]) 36 (ce_model _ _) rfl rfl rfl rfl ⟨Nat.le_of_ble_eq_true rfl, Nat.le_of_ble_eq_true rfl⟩ (Nat.le_of_ble_eq_true rfl) dL_law_540 ?_
                                        refine wa_icmp_eq hX 706 (by decide) dL_law_543 (fun c => ?_) (fun c => ?_)
                                        · replace h := itp c h
                                          exact t_L_law_706 hX hE hs hk18 h
                                        · replace h := itn c h
                                          refine wa_iconst hX 0 ki_0 dL_law_546 ?_
                                          cases h
                                      · replace h := itn c17 h
                                        by_cases c18 : y1 = 18
                                        · replace h := itp c18 h
                                          have e : (y1 : Int32).toInt = 18 := by rw [c18]; rfl
                                          refine wa_tin hX 548 (by rw [e]; decide) (by rw [e]; decide) (by rw [e]; rfl) (by decide) dL_law_32 ?_
                                          refine wa_aload_n hX 1 rfl rfl dL_law_548 ?_
                                          refine wa_aload_n hX 0 rfl rfl dL_law_549 ?_
                                          refine wa_iload_n hX 3 rfl rfl dL_law_550 ?_
                                          refine wa_iconst hX 1 ki_1 dL_law_551 ?_
                                          refine wa_iadd hX dL_law_552 ?_
                                          obtain ⟨hg, h⟩ := gu_some h
                                          refine wa_sld hX hs hg dL_law_553 ?_
                                          obtain ⟨x38, h2, h⟩ := obind h
                                          refine wa_callVi hX (m_X5_fits h2) cx_X5_fits ml_L_89 (As := [.int (xs (v3 + 1).toNatClampNeg)]) (rest := []) 0 (ce_stage _ _) rfl rfl rfl rfl ⟨Nat.le_of_ble_eq_true rfl, Nat.le_of_ble_eq_true rfl⟩ (Nat.le_of_ble_eq_true rfl) dL_law_554 ?_
                                          refine wa_aload_n hX 2 rfl rfl dL_law_557 ?_
                                          refine wa_aload_n hX 0 rfl rfl dL_law_558 ?_
                                          refine wa_iload_n hX 3 rfl rfl dL_law_559 ?_
                                          refine wa_iconst hX 1 ki_1 dL_law_560 ?_
                                          refine wa_iadd hX dL_law_561 ?_
                                          obtain ⟨hg, h⟩ := gu_some h
                                          refine wa_sld hX hs hg dL_law_562 ?_
                                          obtain ⟨x39, h2, h⟩ := obind h
                                          refine wa_callVi hX (m_X6_fits h2) cx_X6_fits ml_L_92 (As := [.int (xs (v3 + 1).toNatClampNeg)]) (rest := [.int x38.1]) 36 (ce_model _ _) rfl rfl rfl rfl ⟨Nat.le_of_ble_eq_true rfl, Nat.le_of_ble_eq_true rfl⟩ (Nat.le_of_ble_eq_true rfl) dL_law_563 ?_
                                          refine wa_icmp_eq hX 706 (by decide) dL_law_566 (fun c => ?_) (fun c => ?_)
                                          · replace h := itp c h
                                            exact t_L_law_706 hX hE hs hk18 h
                                          · replace h := itn c h
                                            refine wa_iconst hX 0 ki_0 dL_law_569 ?_
                                            cases h
                                        · replace h := itn c18 h
                                          by_cases c19 : y1 = 19
                                          · replace h := itp c19 h
                                            have e : (y1 : Int32).toInt = 19 := by rw [c19]; rfl
                                            refine wa_tin hX 571 (by rw [e]; decide) (by rw [e]; decide) (by rw [e]; rfl) (by decide) dL_law_32 ?_
                                            refine wa_aload_n hX 1 rfl rfl dL_law_571 ?_
                                            refine wa_aload_n hX 0 rfl rfl dL_law_572 ?_
                                            refine wa_iload_n hX 3 rfl rfl dL_law_573 ?_
                                            refine wa_iconst hX 1 ki_1 dL_law_574 ?_
                                            refine wa_iadd hX dL_law_575 ?_
                                            obtain ⟨hg, h⟩ := gu_some h
                                            refine wa_sld hX hs hg dL_law_576 ?_
                                            obtain ⟨x40, h2, h⟩ := obind h
                                            refine wa_callVi hX (m_X5_could h2) cx_X5_could ml_L_93 (As := [.int (xs (v3 + 1).toNatClampNeg)]) (rest := []) 0 (ce_stage _ _) rfl rfl rfl rfl ⟨Nat.le_of_ble_eq_true rfl, Nat.le_of_ble_eq_true rfl⟩ (Nat.le_of_ble_eq_true rfl) dL_law_577 ?_
                                            refine wa_aload_n hX 2 rfl rfl dL_law_580 ?_
                                            refine wa_aload_n hX 0 rfl rfl dL_law_581 ?_
                                            refine wa_iload_n hX 3 rfl rfl dL_law_582 ?_
                                            refine wa_iconst hX 1 ki_1 dL_law_583 ?_
                                            refine wa_iadd hX dL_law_584 ?_
                                            obtain ⟨hg, h⟩ := gu_some h
                                            refine wa_sld hX hs hg dL_law_585 ?_
                                            obtain ⟨x41, h2, h⟩ := obind h
                                            refine wa_callVi hX (m_X6_could h2) cx_X6_could ml_L_96 (As := [.int (xs (v3 + 1).toNatClampNeg)]) (rest := [.int x40.1]) 36 (ce_model _ _) rfl rfl rfl rfl ⟨Nat.le_of_ble_eq_true rfl, Nat.le_of_ble_eq_true rfl⟩ (Nat.le_of_ble_eq_true rfl) dL_law_586 ?_
                                            refine wa_icmp_eq hX 706 (by decide) dL_law_589 (fun c => ?_) (fun c => ?_)
                                            · replace h := itp c h
                                              exact t_L_law_706 hX hE hs hk18 h
                                            · replace h := itn c h
                                              refine wa_iconst hX 0 ki_0 dL_law_592 ?_
                                              cases h
                                          · replace h := itn c19 h
                                            by_cases c20 : y1 = 20
                                            · replace h := itp c20 h
                                              have e : (y1 : Int32).toInt = 20 := by rw [c20]; rfl
                                              refine wa_tin hX 594 (by rw [e]; decide) (by rw [e]; decide) (by rw [e]; rfl) (by decide) dL_law_32 ?_
                                              refine wa_aload_n hX 1 rfl rfl dL_law_594 ?_
                                              refine wa_aload_n hX 0 rfl rfl dL_law_595 ?_
                                              refine wa_iload_n hX 3 rfl rfl dL_law_596 ?_
                                              refine wa_iconst hX 1 ki_1 dL_law_597 ?_
                                              refine wa_iadd hX dL_law_598 ?_
                                              obtain ⟨hg, h⟩ := gu_some h
                                              refine wa_sld hX hs hg dL_law_599 ?_
                                              refine wa_aload_n hX 0 rfl rfl dL_law_600 ?_
                                              refine wa_iload_n hX 3 rfl rfl dL_law_601 ?_
                                              refine wa_iconst hX 2 ki_2 dL_law_602 ?_
                                              refine wa_iadd hX dL_law_603 ?_
                                              obtain ⟨hg, h⟩ := gu_some h
                                              refine wa_sld hX hs hg dL_law_604 ?_
                                              refine wa_aload_n hX 0 rfl rfl dL_law_605 ?_
                                              refine wa_iload_n hX 3 rfl rfl dL_law_606 ?_
                                              refine wa_iconst hX 3 ki_3 dL_law_607 ?_
                                              refine wa_iadd hX dL_law_608 ?_
                                              obtain ⟨hg, h⟩ := gu_some h
                                              refine wa_sld hX hs hg dL_law_609 ?_
                                              obtain ⟨x42, h2, h⟩ := obind h
                                              refine wa_callVi hX (m_X5_evening h2) cx_X5_evening ml_L_97 (As := [.int (xs (v3 + 1).toNatClampNeg), .int (xs (v3 + 2).toNatClampNeg), .int (xs (v3 + 3).toNatClampNeg)]) (rest := []) 0 (ce_stage _ _) rfl rfl rfl rfl ⟨Nat.le_of_ble_eq_true rfl, Nat.le_of_ble_eq_true rfl⟩ (Nat.le_of_ble_eq_true rfl) dL_law_610 ?_
                                              refine wa_aload_n hX 2 rfl rfl dL_law_613 ?_
                                              refine wa_aload_n hX 0 rfl rfl dL_law_614 ?_
                                              refine wa_iload_n hX 3 rfl rfl dL_law_615 ?_
                                              refine wa_iconst hX 1 ki_1 dL_law_616 ?_
                                              refine wa_iadd hX dL_law_617 ?_
                                              obtain ⟨hg, h⟩ := gu_some h
                                              refine wa_sld hX hs hg dL_law_618 ?_
                                              refine wa_aload_n hX 0 rfl rfl dL_law_619 ?_
                                              refine wa_iload_n hX 3 rfl rfl dL_law_620 ?_
                                              refine wa_iconst hX 2 ki_2 dL_law_621 ?_
                                              refine wa_iadd hX dL_law_622 ?_
                                              obtain ⟨hg, h⟩ := gu_some h
                                              refine wa_sld hX hs hg dL_law_623 ?_
                                              refine wa_aload_n hX 0 rfl rfl dL_law_624 ?_
                                              refine wa_iload_n hX 3 rfl rfl dL_law_625 ?_
                                              refine wa_iconst hX 3 ki_3 dL_law_626 ?_
                                              refine wa_iadd hX dL_law_627 ?_
                                              obtain ⟨hg, h⟩ := gu_some h
                                              refine wa_sld hX hs hg dL_law_628 ?_
                                              obtain ⟨x43, h2, h⟩ := obind h
                                              refine wa_callVi hX (m_X6_evening h2) cx_X6_evening ml_L_100 (As := [.int (xs (v3 + 1).toNatClampNeg), .int (xs (v3 + 2).toNatClampNeg), .int (xs (v3 + 3).toNatClampNeg)]) (rest := [.int x42.1]) 36 (ce_model _ _) rfl rfl rfl rfl ⟨Nat.le_of_ble_eq_true rfl, Nat.le_of_ble_eq_true rfl⟩ (Nat.le_of_ble_eq_true rfl) dL_law_629 ?_
                                              refine wa_icmp_eq hX 706 (by decide) dL_law_632 (fun c => ?_) (fun c => ?_)
                                              · replace h := itp c h
                                                exact t_L_law_706 hX hE hs hk18 h
                                              · replace h := itn c h
                                                refine wa_iconst hX 0 ki_0 dL_law_635 ?_
                                                cases h
                                            · replace h := itn c20 h
                                              by_cases c21 : y1 = 21
                                              · replace h := itp c21 h
                                                have e : (y1 : Int32).toInt = 21 := by rw [c21]; rfl
                                                refine wa_tin hX 637 (by rw [e]; decide) (by rw [e]; decide) (by rw [e]; rfl) (by decide) dL_law_32 ?_
                                                refine wa_aload_n hX 1 rfl rfl dL_law_637 ?_
                                                refine wa_aload_n hX 0 rfl rfl dL_law_638 ?_
                                                refine wa_iload_n hX 3 rfl rfl dL_law_639 ?_
                                                refine wa_iconst hX 1 ki_1 dL_law_640 ?_
                                                refine wa_iadd hX dL_law_641 ?_
                                                obtain ⟨hg, h⟩ := gu_some h
                                                refine wa_sld hX hs hg dL_law_642 ?_
                                                obtain ⟨x44, h2, h⟩ := obind h
                                                refine wa_callVi hX (m_X5_image h2) cx_X5_image ml_L_101 (As := [.int (xs (v3 + 1).toNatClampNeg)]) (rest := []) 0 (ce_stage _ _) rfl rfl rfl rfl ⟨Nat.le_of_ble_eq_true rfl, Nat.le_of_ble_eq_true rfl⟩ (Nat.le_of_ble_eq_true rfl) dL_law_643 ?_
                                                refine wa_aload_n hX 2 rfl rfl dL_law_646 ?_
                                                refine wa_aload_n hX 0 rfl rfl dL_law_647 ?_
                                                refine wa_iload_n hX 3 rfl rfl dL_law_648 ?_
                                                refine wa_iconst hX 1 ki_1 dL_law_649 ?_
                                                refine wa_iadd hX dL_law_650 ?_
                                                obtain ⟨hg, h⟩ := gu_some h
                                                refine wa_sld hX hs hg dL_law_651 ?_
                                                obtain ⟨x45, h2, h⟩ := obind h
                                                refine wa_callVi hX (m_X6_image h2) cx_X6_image ml_L_104 (As := [.int (xs (v3 + 1).toNatClampNeg)]) (rest := [.int x44.1]) 36 (ce_model _ _) rfl rfl rfl rfl ⟨Nat.le_of_ble_eq_true rfl, Nat.le_of_ble_eq_true rfl⟩ (Nat.le_of_ble_eq_true rfl) dL_law_652 ?_
                                                refine wa_icmp_eq hX 706 (by decide) dL_law_655 (fun c => ?_) (fun c => ?_)
                                                · replace h := itp c h
                                                  exact t_L_law_706 hX hE hs hk18 h
                                                · replace h := itn c h
                                                  refine wa_iconst hX 0 ki_0 dL_law_658 ?_
                                                  cases h
                                              · replace h := itn c21 h
                                                by_cases c22 : y1 = 22
                                                · replace h := itp c22 h
                                                  have e : (y1 : Int32).toInt = 22 := by rw [c22]; rfl
                                                  refine wa_tin hX 660 (by rw [e]; decide) (by rw [e]; decide) (by rw [e]; rfl) (by decide) dL_law_32 ?_
                                                  refine wa_aload_n hX 1 rfl rfl dL_law_660 ?_
                                                  refine wa_aload_n hX 0 rfl rfl dL_law_661 ?_
                                                  refine wa_iload_n hX 3 rfl rfl dL_law_662 ?_
                                                  refine wa_iconst hX 1 ki_1 dL_law_663 ?_
                                                  refine wa_iadd hX dL_law_664 ?_
                                                  obtain ⟨hg, h⟩ := gu_some h
                                                  refine wa_sld hX hs hg dL_law_665 ?_
                                                  obtain ⟨x46, h2, h⟩ := obind h
                                                  refine wa_callVi hX (m_X5_restore h2) cx_X5_restore ml_L_105 (As := [.int (xs (v3 + 1).toNatClampNeg)]) (rest := []) 0 (ce_stage _ _) rfl rfl rfl rfl ⟨Nat.le_of_ble_eq_true rfl, Nat.le_of_ble_eq_true rfl⟩ (Nat.le_of_ble_eq_true rfl) dL_law_666 ?_
                                                  refine wa_aload_n hX 2 rfl rfl dL_law_669 ?_
                                                  refine wa_aload_n hX 0 rfl rfl dL_law_670 ?_
                                                  refine wa_iload_n hX 3 rfl rfl dL_law_671 ?_
                                                  refine wa_iconst hX 1 ki_1 dL_law_672 ?_
                                                  refine wa_iadd hX dL_law_673 ?_
                                                  obtain ⟨hg, h⟩ := gu_some h
                                                  refine wa_sld hX hs hg dL_law_674 ?_
                                                  obtain ⟨x47, h2, h⟩ := obind h
                                                  refine wa_callVi hX (m_X6_restore h2) cx_X6_restore ml_L_108 (As := [.int (xs (v3 + 1).toNatClampNeg)]) (rest := [.int x46.1]) 36 (ce_model _ _) rfl rfl rfl rfl ⟨Nat.le_of_ble_eq_true rfl, Nat.le_of_ble_eq_true rfl⟩ (Nat.le_of_ble_eq_true rfl) dL_law_675 ?_
                                                  refine wa_icmp_eq hX 706 (by decide) dL_law_678 (fun c => ?_) (fun c => ?_)
                                                  · replace h := itp c h
                                                    exact t_L_law_706 hX hE hs hk18 h
                                                  · replace h := itn c h
                                                    refine wa_iconst hX 0 ki_0 dL_law_681 ?_
                                                    cases h
                                                · replace h := itn c22 h
                                                  by_cases c23 : y1 = 23
                                                  · replace h := itp c23 h
                                                    have e : (y1 : Int32).toInt = 23 := by rw [c23]; rfl
                                                    refine wa_tin hX 683 (by rw [e]; decide) (by rw [e]; decide) (by rw [e]; rfl) (by decide) dL_law_32 ?_
                                                    refine wa_aload_n hX 1 rfl rfl dL_law_683 ?_
                                                    refine wa_aload_n hX 0 rfl rfl dL_law_684 ?_
                                                    refine wa_iload_n hX 3 rfl rfl dL_law_685 ?_
                                                    refine wa_iconst hX 1 ki_1 dL_law_686 ?_
                                                    refine wa_iadd hX dL_law_687 ?_
                                                    obtain ⟨hg, h⟩ := gu_some h
                                                    refine wa_sld hX hs hg dL_law_688 ?_
                                                    obtain ⟨x48, h2, h⟩ := obind h
                                                    refine wa_callVi hX (m_X5_told h2) cx_X5_told ml_L_109 (As := [.int (xs (v3 + 1).toNatClampNeg)]) (rest := []) 0 (ce_stage _ _) rfl rfl rfl rfl ⟨Nat.le_of_ble_eq_true rfl, Nat.le_of_ble_eq_true rfl⟩ (Nat.le_of_ble_eq_true rfl) dL_law_689 ?_
                                                    refine wa_aload_n hX 2 rfl rfl dL_law_692 ?_
                                                    refine wa_aload_n hX 0 rfl rfl dL_law_693 ?_
                                                    refine wa_iload_n hX 3 rfl rfl dL_law_694 ?_
                                                    refine wa_iconst hX 1 ki_1 dL_law_695 ?_
                                                    refine wa_iadd hX dL_law_696 ?_
                                                    obtain ⟨hg, h⟩ := gu_some h
                                                    refine wa_sld hX hs hg dL_law_697 ?_
                                                    obtain ⟨x49, h2, h⟩ := obind h
                                                    refine wa_callVi hX (m_X6_told h2) cx_X6_told ml_L_112 (As := [.int (xs (v3 + 1).toNatClampNeg)]) (rest := [.int x48.1]) 36 (ce_model _ _) rfl rfl rfl rfl ⟨Nat.le_of_ble_eq_true rfl, Nat.le_of_ble_eq_true rfl⟩ (Nat.le_of_ble_eq_true rfl) dL_law_698 ?_
                                                    refine wa_icmp_eq hX 706 (by decide) dL_law_701 (fun c => ?_) (fun c => ?_)
                                                    · replace h := itp c h
                                                      exact t_L_law_706 hX hE hs hk18 h
                                                    · replace h := itn c h
                                                      refine wa_iconst hX 0 ki_0 dL_law_704 ?_
                                                      cases h
                                                  · replace h := itn c23 h
                                                    refine wa_tout hX 706 (tsw_out (lo := 0) (hi := 23) (fun q => by
                                                      have q2 : (y1 : Int32).toInt = 0 ∨ (y1 : Int32).toInt = 1 ∨ (y1 : Int32).toInt = 2 ∨ (y1 : Int32).toInt = 3 ∨ (y1 : Int32).toInt = 4 ∨ (y1 : Int32).toInt = 5 ∨ (y1 : Int32).toInt = 6 ∨ (y1 : Int32).toInt = 7 ∨ (y1 : Int32).toInt = 8 ∨ (y1 : Int32).toInt = 9 ∨ (y1 : Int32).toInt = 10 ∨ (y1 : Int32).toInt = 11 ∨ (y1 : Int32).toInt = 12 ∨ (y1 : Int32).toInt = 13 ∨ (y1 : Int32).toInt = 14 ∨ (y1 : Int32).toInt = 15 ∨ (y1 : Int32).toInt = 16 ∨ (y1 : Int32).toInt = 17 ∨ (y1 : Int32).toInt = 18 ∨ (y1 : Int32).toInt = 19 ∨ (y1 : Int32).toInt = 20 ∨ (y1 : Int32).toInt = 21 ∨ (y1 : Int32).toInt = 22 ∨ (y1 : Int32).toInt = 23 := by omega
                                                      rcases q2 with q | q | q | q | q | q | q | q | q | q | q | q | q | q | q | q | q | q | q | q | q | q | q | q
                                                      · exact c0 (toInt_lit q rfl)
                                                      · exact c1 (toInt_lit q rfl)
                                                      · exact c2 (toInt_lit q rfl)
                                                      · exact c3 (toInt_lit q rfl)
                                                      · exact c4 (toInt_lit q rfl)
                                                      · exact c5 (toInt_lit q rfl)
                                                      · exact c6 (toInt_lit q rfl)
                                                      · exact c7 (toInt_lit q rfl)
                                                      · exact c8 (toInt_lit q rfl)
                                                      · exact c9 (toInt_lit q rfl)
                                                      · exact c10 (toInt_lit q rfl)
                                                      · exact c11 (toInt_lit q rfl)
                                                      · exact c12 (toInt_lit q rfl)
                                                      · exact c13 (toInt_lit q rfl)
                                                      · exact c14 (toInt_lit q rfl)
                                                      · exact c15 (toInt_lit q rfl)
                                                      · exact c16 (toInt_lit q rfl)
                                                      · exact c17 (toInt_lit q rfl)
                                                      · exact c18 (toInt_lit q rfl)
                                                      · exact c19 (toInt_lit q rfl)
                                                      · exact c20 (toInt_lit q rfl)
                                                      · exact c21 (toInt_lit q rfl)
                                                      · exact c22 (toInt_lit q rfl)
                                                      · exact c23 (toInt_lit q rfl))) (by decide) dL_law_32 ?_
                                                    exact t_L_law_706 hX hE hs hk18 h
