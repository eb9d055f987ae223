set_option maxRecDepth 100000 in
set_option maxHeartbeats 4000000 in
theorem m_X5_isWithin {w w1 : Wd} {p0 : Int32} {p1 : Int32} {r : Int32} (h : F_X5_isWithin w p0 p1 = some (r, w1)) : Gi yX5_isWithin cX5_isWithin 2 (some .boolean) 0 0 (fun E => [.int p0, .int p1]) w w1 r := by
  refine Gi.of (hy := by decide +kernel) (hlen := fun _ => Nat.le_of_ble_eq_true rfl) (fun X hX hE => ?_)
  · unfold F_X5_isWithin at h
    refine (show Wa X w 0 [(0, .int p0), (1, .int p1)] [] from ?_)
    refine wa_iload_n hX 0 rfl rfl dX5_isWithin_0 ?_
    have hJ : Wa X w 14 [] [.int (if p0 < 0 then 0 else (if p1 < p0 then (0 : Int32) else 1))] := by
      obtain ⟨hg, h⟩ := gu_some h
      exact ret_z hE h (isB_or hg) dX5_isWithin_14
    refine wa_if_lt hX 13 (by decide) dX5_isWithin_1 (fun c => ?_) (fun c => ?_)
    · refine wa_iconst hX 0 ki_0 dX5_isWithin_13 ?_
      refine wa_sub (lv2 := []) [] rfl ?_
      rw [show (if p0 < 0 then 0 else (if p1 < p0 then (0 : Int32) else 1)) = 0 from if_pos c] at hJ
      exact hJ
    · refine wa_iload_n hX 0 rfl rfl dX5_isWithin_4 ?_
      refine wa_iload_n hX 1 rfl rfl dX5_isWithin_5 ?_
      have hI : Wa X w 14 [] [.int (if p1 < p0 then (0 : Int32) else 1)] := by
        rw [show (if p0 < 0 then 0 else (if p1 < p0 then (0 : Int32) else 1)) = (if p1 < p0 then (0 : Int32) else 1) from if_neg c] at hJ
        exact hJ
      refine wa_icmp_gt hX 13 (by decide) dX5_isWithin_6 (fun c2 => ?_) (fun c2 => ?_)
      · refine wa_iconst hX 0 ki_0 dX5_isWithin_13 ?_
        refine wa_sub (lv2 := []) [] rfl ?_
        rw [show (if p1 < p0 then (0 : Int32) else 1) = 0 from if_pos c2] at hI
        exact hI
      · refine wa_iconst hX 1 ki_1 dX5_isWithin_9 ?_
        refine wa_goto hX 14 (by decide) dX5_isWithin_10 ?_
        refine wa_sub (lv2 := []) [] rfl ?_
        rw [show (if p1 < p0 then (0 : Int32) else 1) = 1 from if_neg c2] at hI
        exact hI
set_option maxRecDepth 100000 in
set_option maxHeartbeats 4000000 in
theorem t_X5_set_100 {X : Fx} (hX : Cx X cX5_set RX5 4 1 21) {r : Int32} {w1 : Wd} (hE : ∀ pc lv, decode cX5_set pc = .ok (.ireturn, 1) → narrow .int (.int r) = .int r → Wa X w1 pc lv [.int r])  {w : Wd} {v3 : Int32} (h : F_X5_set_100 w v3 = some (r, w1)) : Wa X w 100 [(3, .int v3)] [] := by
  unfold F_X5_set_100 at h
  refine wa_iload_n hX 0 rfl rfl dX5_set_100 ?_
  exact ret_i hE h dX5_set_101
set_option maxRecDepth 100000 in
set_option maxHeartbeats 4000000 in
theorem t_X5_set_97 {X : Fx} (hX : Cx X cX5_set RX5 4 1 21) {r : Int32} {w1 : Wd} (hE : ∀ pc lv, decode cX5_set pc = .ok (.ireturn, 1) → narrow .int (.int r) = .int r → Wa X w1 pc lv [.int r])  {w : Wd} (h : F_X5_set_97 w = some (r, w1)) : Wa X w 97 [] [] := by
  unfold F_X5_set_97 at h
  refine wa_bipush hX (-2) kb_m2 dX5_set_97 ?_
  refine wa_istore_n hX (lv2 := [(3, .int (-2))]) rfl (by decide) rfl dX5_set_99 ?_
  exact t_X5_set_100 hX hE  h
set_option maxRecDepth 100000 in
set_option maxHeartbeats 4000000 in
theorem t_X5_set_64 {X : Fx} (hX : Cx X cX5_set RX5 4 1 21) {r : Int32} {w1 : Wd} (hE : ∀ pc lv, decode cX5_set pc = .ok (.ireturn, 1) → narrow .int (.int r) = .int r → Wa X w1 pc lv [.int r])  {w : Wd} {v1 : Int32} {v2 : Int32} (h : F_X5_set_64 w v1 v2 = some (r, w1)) : Wa X w 64 [(0, .ref (Ad X 0)), (1, .int v1), (2, .int v2)] [] := by
  unfold F_X5_set_64 at h
  refine wa_iload_n hX 1 rfl rfl dX5_set_64 ?_
  refine wa_iconst hX 2 ki_2 dX5_set_65 ?_
  refine wa_icmp_ne hX 97 (by decide) dX5_set_66 (fun c => ?_) (fun c => ?_)
  · replace h := itn c h
    refine wa_sub (lv2 := []) [] rfl ?_
    exact t_X5_set_97 hX hE  h
  · replace h := itp c h
    refine wa_iload_n hX 2 rfl rfl dX5_set_69 ?_
    refine wa_bipush hX 9 kb_9 dX5_set_70 ?_
    obtain ⟨x1, h2, h⟩ := obind h
    refine wa_callSi hX (m_X5_isWithin h2) cx_X5_isWithin ml_X5_56 (As := [.int v2, .int 9]) (rest := []) rfl rfl rfl ⟨Nat.le_of_ble_eq_true rfl, Nat.le_of_ble_eq_true rfl⟩ (Nat.le_of_ble_eq_true rfl) dX5_set_72 ?_
    refine wa_if_eq hX 97 (by decide) dX5_set_75 (fun c => ?_) (fun c => ?_)
    · replace h := itp c h
      refine wa_sub (lv2 := []) [] rfl ?_
      exact t_X5_set_97 hX hE  h
    · replace h := itn c h
      refine wa_aload_n hX 0 rfl rfl dX5_set_78 ?_
      refine wg_stage_rules hX fl_X5_10 dX5_set_79 ?_
      refine wgN_rules_change hX fn_X5_67 dX5_set_82 ?_
      refine wa_istore_n hX (lv2 := [(3, .int (x1.2.1 10)), (0, .ref (Ad X 0)), (1, .int v1), (2, .int v2)]) rfl (by decide) rfl dX5_set_85 ?_
      refine wa_aload_n hX 1 rfl rfl dX5_set_86 ?_
      refine wg_stage_rules hX fl_X5_10 dX5_set_87 ?_
      refine wa_iload_n hX 3 rfl rfl dX5_set_90 ?_
      refine wpN_rules_change hX fn_X5_67 dX5_set_91 ?_
      refine wa_goto hX 100 (by decide) dX5_set_94 ?_
      refine wa_sub (lv2 := [(3, .int (x1.2.1 10))]) [0] rfl ?_
      exact t_X5_set_100 hX hE  h
set_option maxRecDepth 100000 in
set_option maxHeartbeats 4000000 in
theorem t_X5_set_31 {X : Fx} (hX : Cx X cX5_set RX5 4 1 21) {r : Int32} {w1 : Wd} (hE : ∀ pc lv, decode cX5_set pc = .ok (.ireturn, 1) → narrow .int (.int r) = .int r → Wa X w1 pc lv [.int r])  {w : Wd} {v1 : Int32} {v2 : Int32} (h : F_X5_set_31 w v1 v2 = some (r, w1)) : Wa X w 31 [(0, .ref (Ad X 0)), (1, .int v1), (2, .int v2)] [] := by
  unfold F_X5_set_31 at h
  refine wa_iload_n hX 1 rfl rfl dX5_set_31 ?_
  refine wa_iconst hX 1 ki_1 dX5_set_32 ?_
  refine wa_icmp_ne hX 64 (by decide) dX5_set_33 (fun c => ?_) (fun c => ?_)
  · replace h := itn c h
    exact t_X5_set_64 hX hE  h
  · replace h := itp c h
    refine wa_iload_n hX 2 rfl rfl dX5_set_36 ?_
    refine wa_bipush hX 8 kb_8 dX5_set_37 ?_
    obtain ⟨x2, h2, h⟩ := obind h
    refine wa_callSi hX (m_X5_isWithin h2) cx_X5_isWithin ml_X5_56 (As := [.int v2, .int 8]) (rest := []) rfl rfl rfl ⟨Nat.le_of_ble_eq_true rfl, Nat.le_of_ble_eq_true rfl⟩ (Nat.le_of_ble_eq_true rfl) dX5_set_39 ?_
    refine wa_if_eq hX 64 (by decide) dX5_set_42 (fun c => ?_) (fun c => ?_)
    · replace h := itp c h
      exact t_X5_set_64 hX hE  h
    · replace h := itn c h
      refine wa_aload_n hX 0 rfl rfl dX5_set_45 ?_
      refine wg_stage_rules hX fl_X5_10 dX5_set_46 ?_
      refine wgN_rules_k hX fn_X5_64 dX5_set_49 ?_
      refine wa_istore_n hX (lv2 := [(3, .int (x2.2.1 9)), (0, .ref (Ad X 0)), (1, .int v1), (2, .int v2)]) rfl (by decide) rfl dX5_set_52 ?_
      refine wa_aload_n hX 1 rfl rfl dX5_set_53 ?_
      refine wg_stage_rules hX fl_X5_10 dX5_set_54 ?_
      refine wa_iload_n hX 3 rfl rfl dX5_set_57 ?_
      refine wpN_rules_k hX fn_X5_64 dX5_set_58 ?_
      refine wa_goto hX 100 (by decide) dX5_set_61 ?_
      refine wa_sub (lv2 := [(3, .int (x2.2.1 9))]) [0] rfl ?_
      exact t_X5_set_100 hX hE  h
set_option maxRecDepth 100000 in
set_option maxHeartbeats 4000000 in
theorem m_X5_set {w w1 : Wd} {p1 : Int32} {p2 : Int32} {r : Int32} (h : F_X5_set w p1 p2 = some (r, w1)) : Gi yX5_set cX5_set 4 (some .int) 1 21 (fun E => [.ref (E.2.1 0), .int p1, .int p2]) w w1 r := by
  refine Gi.of (hy := by decide +kernel) (hlen := fun _ => Nat.le_of_ble_eq_true rfl) (fun X hX hE => ?_)
  · unfold F_X5_set at h
    refine (show Wa X w 0 [(0, .ref (Ad X 0)), (1, .int p1), (2, .int p2)] [] from ?_)
    refine wa_iload_n hX 1 rfl rfl dX5_set_0 ?_
    refine wa_if_ne hX 31 (by decide) dX5_set_1 (fun c => ?_) (fun c => ?_)
    · replace h := itn c h
      exact t_X5_set_31 hX hE  h
    · replace h := itp c h
      refine wa_iload_n hX 2 rfl rfl dX5_set_4 ?_
      refine wa_iconst hX 2 ki_2 dX5_set_5 ?_
      obtain ⟨x3, h2, h⟩ := obind h
      refine wa_callSi hX (m_X5_isWithin h2) cx_X5_isWithin ml_X5_56 (As := [.int p2, .int 2]) (rest := []) rfl rfl rfl ⟨Nat.le_of_ble_eq_true rfl, Nat.le_of_ble_eq_true rfl⟩ (Nat.le_of_ble_eq_true rfl) dX5_set_6 ?_
      refine wa_if_eq hX 31 (by decide) dX5_set_9 (fun c => ?_) (fun c => ?_)
      · replace h := itp c h
        exact t_X5_set_31 hX hE  h
      · replace h := itn c h
        refine wa_aload_n hX 0 rfl rfl dX5_set_12 ?_
        refine wg_stage_rules hX fl_X5_10 dX5_set_13 ?_
        refine wgN_rules_law hX fn_X5_60 dX5_set_16 ?_
        refine wa_istore_n hX (lv2 := [(3, .int (x3.2.1 8)), (0, .ref (Ad X 0)), (1, .int p1), (2, .int p2)]) rfl (by decide) rfl dX5_set_19 ?_
        refine wa_aload_n hX 1 rfl rfl dX5_set_20 ?_
        refine wg_stage_rules hX fl_X5_10 dX5_set_21 ?_
        refine wa_iload_n hX 3 rfl rfl dX5_set_24 ?_
        refine wpN_rules_law hX fn_X5_60 dX5_set_25 ?_
        refine wa_goto hX 100 (by decide) dX5_set_28 ?_
        refine wa_sub (lv2 := [(3, .int (x3.2.1 8))]) [0] rfl ?_
        exact t_X5_set_100 hX hE  h
set_option maxRecDepth 100000 in
set_option maxHeartbeats 4000000 in
theorem m_X2_add {w w1 : Wd} {p1 : Int32} {r : Int32} (h : F_X2_add w p1 = some (r, w1)) : Gi yX2_add cX2_add 2 (some .int) 0 0 (fun E => [.ref (E.2.1 4), .int p1]) w w1 r := by
  refine Gi.of (hy := by decide +kernel) (hlen := fun _ => Nat.le_of_ble_eq_true rfl) (fun X hX hE => ?_)
  · unfold F_X2_add at h
    refine (show Wa X w 0 [(0, .ref (Ad X 4)), (1, .int p1)] [] from ?_)
    refine wa_aload_n hX 0 rfl rfl dX2_add_0 ?_
    refine wg_play_count hX fl_X2_21 dX2_add_1 ?_
    refine wa_bipush hX 40 kb_40 dX2_add_4 ?_
    refine wa_icmp_lt hX 12 (by decide) dX2_add_6 (fun c => ?_) (fun c => ?_)
    · replace h := itp c h
      refine wa_aload_n hX 0 rfl rfl dX2_add_12 ?_
      refine wg_play_signs hX fl_X2_9 dX2_add_13 ?_
      refine wa_aload_n hX 0 rfl rfl dX2_add_16 ?_
      refine wg_play_count hX fl_X2_21 dX2_add_17 ?_
      refine wa_iload_n hX 1 rfl rfl dX2_add_20 ?_
      obtain ⟨hg, h⟩ := gu_some h
      refine ws_play_signs hX hg dX2_add_21 ?_
      refine wa_aload_n hX 0 rfl rfl dX2_add_22 ?_
      refine wa_dup hX rfl dX2_add_23 ?_
      refine wg_play_count hX fl_X2_21 dX2_add_24 ?_
      refine (show Wa X (wA w 5 (w.1 0) p1) 27 [(0, .ref (Ad X 4)), (1, .int p1)] [.int (w.1 0), .ref (Ad X 4)] from ?_)
      refine wa_iconst hX 1 ki_1 dX2_add_27 ?_
      refine wa_iadd hX dX2_add_28 ?_
      refine wp_play_count hX fl_X2_21 dX2_add_29 ?_
      refine wa_aload_n hX 0 rfl rfl dX2_add_32 ?_
      refine wg_play_count hX fl_X2_21 dX2_add_33 ?_
      refine (show Wa X (wI (wA w 5 (w.1 0) p1) 0 (w.1 0 + 1)) 36 [(0, .ref (Ad X 4)), (1, .int p1)] [.int (w.1 0 + 1)] from ?_)
      exact ret_i hE h dX2_add_36
    · replace h := itn c h
      refine wa_bipush hX (-4) kb_m4 dX2_add_9 ?_
      exact ret_i hE h dX2_add_11
set_option maxRecDepth 100000 in
set_option maxHeartbeats 4000000 in
theorem t_X5_say_12 {X : Fx} (hX : Cx X cX5_say RX5 2 1 21) {r : Int32} {w1 : Wd} (hE : ∀ pc lv, decode cX5_say pc = .ok (.ireturn, 1) → narrow .int (.int r) = .int r → Wa X w1 pc lv [.int r])  {w : Wd} (h : F_X5_say_12 w = some (r, w1)) : Wa X w 12 [] [] := by
  unfold F_X5_say_12 at h
  refine wa_bipush hX (-2) kb_m2 dX5_say_12 ?_
  exact ret_i hE h dX5_say_14
set_option maxRecDepth 100000 in
set_option maxHeartbeats 4000000 in
theorem m_X5_say {w w1 : Wd} {p1 : Int32} {r : Int32} (h : F_X5_say w p1 = some (r, w1)) : Gi yX5_say cX5_say 2 (some .int) 1 21 (fun E => [.ref (E.2.1 0), .int p1]) w w1 r := by
  refine Gi.of (hy := by decide +kernel) (hlen := fun _ => Nat.le_of_ble_eq_true rfl) (fun X hX hE => ?_)
  · unfold F_X5_say at h
    refine (show Wa X w 0 [(0, .ref (Ad X 0)), (1, .int p1)] [] from ?_)
    refine wa_iload_n hX 1 rfl rfl dX5_say_0 ?_
    refine wa_bipush hX 33 kb_33 dX5_say_1 ?_
    refine wa_icmp_lt hX 12 (by decide) dX5_say_3 (fun c => ?_) (fun c => ?_)
    · replace h := itp c h
      refine wa_sub (lv2 := []) [] rfl ?_
      exact t_X5_say_12 hX hE  h
    · replace h := itn c h
      refine wa_iload_n hX 1 rfl rfl dX5_say_6 ?_
      refine wa_bipush hX 126 kb_126 dX5_say_7 ?_
      refine wa_icmp_le hX 15 (by decide) dX5_say_9 (fun c => ?_) (fun c => ?_)
      · replace h := itp c h
        refine wa_aload_n hX 0 rfl rfl dX5_say_15 ?_
        refine wg_stage_play hX fl_X5_27 dX5_say_16 ?_
        refine wa_iload_n hX 1 rfl rfl dX5_say_19 ?_
        obtain ⟨x1, h2, h⟩ := obind h
        refine wa_callVi hX (m_X2_add h2) cx_X2_add ml_X5_70 (As := [.int p1]) (rest := []) 4 (ce_play _ _) rfl rfl rfl rfl ⟨Nat.le_of_ble_eq_true rfl, Nat.le_of_ble_eq_true rfl⟩ (Nat.le_of_ble_eq_true rfl) dX5_say_20 ?_
        exact ret_i hE h dX5_say_23
      · replace h := itn c h
        refine wa_sub (lv2 := []) [] rfl ?_
        exact t_X5_say_12 hX hE  h
set_option maxRecDepth 100000 in
set_option maxHeartbeats 4000000 in
theorem m_X5_wipe {w w1 : Wd} {r : Int32} (h : F_X5_wipe w  = some (r, w1)) : Gi yX5_wipe cX5_wipe 2 (some .int) 0 0 (fun E => [.ref (E.2.1 0)]) w w1 r := by
  refine Gi.of (hy := by decide +kernel) (hlen := fun _ => Nat.le_of_ble_eq_true rfl) (fun X hX hE => ?_)
  · unfold F_X5_wipe at h
    refine (show Wa X w 0 [(0, .ref (Ad X 0))] [] from ?_)
    refine wa_aload_n hX 0 rfl rfl dX5_wipe_0 ?_
    refine wg_stage_play hX fl_X5_27 dX5_wipe_1 ?_
    refine wgN_play_count hX fn_X5_74 dX5_wipe_4 ?_
    refine wa_istore_n hX (lv2 := [(1, .int (w.1 0)), (0, .ref (Ad X 0))]) rfl (by decide) rfl dX5_wipe_7 ?_
    refine wa_aload_n hX 1 rfl rfl dX5_wipe_8 ?_
    refine wg_stage_play hX fl_X5_27 dX5_wipe_9 ?_
    refine wa_iconst hX 0 ki_0 dX5_wipe_12 ?_
    refine wpN_play_count hX fn_X5_74 dX5_wipe_13 ?_
    refine wa_iload_n hX 0 rfl rfl dX5_wipe_16 ?_
    exact ret_i hE h dX5_wipe_17
set_option maxRecDepth 100000 in
set_option maxHeartbeats 4000000 in
theorem m_X2_isComing {w w1 : Wd} {p0 : Int32} {r : Int32} (h : F_X2_isComing w p0 = some (r, w1)) : Gi yX2_isComing cX2_isComing 1 (some .boolean) 0 0 (fun E => [.int p0]) w w1 r := by
  refine Gi.of (hy := by decide +kernel) (hlen := fun _ => Nat.le_of_ble_eq_true rfl) (fun X hX hE => ?_)
  · unfold F_X2_isComing at h
    refine (show Wa X w 0 [(0, .int p0)] [] from ?_)
    refine wa_iload_n hX 0 rfl rfl dX2_isComing_0 ?_
    refine wa_bipush hX 65 kb_65 dX2_isComing_1 ?_
    have hJ : Wa X w 17 [] [.int (if p0 < 65 then 0 else (if 72 < p0 then (0 : Int32) else 1))] := by
      obtain ⟨hg, h⟩ := gu_some h
      exact ret_z hE h (isB_or hg) dX2_isComing_17
    refine wa_icmp_lt hX 16 (by decide) dX2_isComing_3 (fun c => ?_) (fun c => ?_)
    · refine wa_iconst hX 0 ki_0 dX2_isComing_16 ?_
      refine wa_sub (lv2 := []) [] rfl ?_
      rw [show (if p0 < 65 then 0 else (if 72 < p0 then (0 : Int32) else 1)) = 0 from if_pos c] at hJ
      exact hJ
    · refine wa_iload_n hX 0 rfl rfl dX2_isComing_6 ?_
      refine wa_bipush hX 72 kb_72 dX2_isComing_7 ?_
      have hI : Wa X w 17 [] [.int (if 72 < p0 then (0 : Int32) else 1)] := by
        rw [show (if p0 < 65 then 0 else (if 72 < p0 then (0 : Int32) else 1)) = (if 72 < p0 then (0 : Int32) else 1) from if_neg c] at hJ
        exact hJ
      refine wa_icmp_gt hX 16 (by decide) dX2_isComing_9 (fun c2 => ?_) (fun c2 => ?_)
      · refine wa_iconst hX 0 ki_0 dX2_isComing_16 ?_
        refine wa_sub (lv2 := []) [] rfl ?_
        rw [show (if 72 < p0 then (0 : Int32) else 1) = 0 from if_pos c2] at hI
        exact hI
      · refine wa_iconst hX 1 ki_1 dX2_isComing_12 ?_
        refine wa_goto hX 17 (by decide) dX2_isComing_13 ?_
        refine wa_sub (lv2 := []) [] rfl ?_
        rw [show (if 72 < p0 then (0 : Int32) else 1) = 1 from if_neg c2] at hI
        exact hI
set_option maxRecDepth 100000 in
set_option maxHeartbeats 4000000 in
theorem m_X2_isGoing {w w1 : Wd} {p0 : Int32} {r : Int32} (h : F_X2_isGoing w p0 = some (r, w1)) : Gi yX2_isGoing cX2_isGoing 1 (some .boolean) 0 0 (fun E => [.int p0]) w w1 r := by
  refine Gi.of (hy := by decide +kernel) (hlen := fun _ => Nat.le_of_ble_eq_true rfl) (fun X hX hE => ?_)
  · unfold F_X2_isGoing at h
    refine (show Wa X w 0 [(0, .int p0)] [] from ?_)
    refine wa_iload_n hX 0 rfl rfl dX2_isGoing_0 ?_
    refine wa_bipush hX 97 kb_97 dX2_isGoing_1 ?_
    have hJ : Wa X w 17 [] [.int (if p0 < 97 then 0 else (if 104 < p0 then (0 : Int32) else 1))] := by
      obtain ⟨hg, h⟩ := gu_some h
      exact ret_z hE h (isB_or hg) dX2_isGoing_17
    refine wa_icmp_lt hX 16 (by decide) dX2_isGoing_3 (fun c => ?_) (fun c => ?_)
    · refine wa_iconst hX 0 ki_0 dX2_isGoing_16 ?_
      refine wa_sub (lv2 := []) [] rfl ?_
      rw [show (if p0 < 97 then 0 else (if 104 < p0 then (0 : Int32) else 1)) = 0 from if_pos c] at hJ
      exact hJ
    · refine wa_iload_n hX 0 rfl rfl dX2_isGoing_6 ?_
      refine wa_bipush hX 104 kb_104 dX2_isGoing_7 ?_
      have hI : Wa X w 17 [] [.int (if 104 < p0 then (0 : Int32) else 1)] := by
        rw [show (if p0 < 97 then 0 else (if 104 < p0 then (0 : Int32) else 1)) = (if 104 < p0 then (0 : Int32) else 1) from if_neg c] at hJ
        exact hJ
      refine wa_icmp_gt hX 16 (by decide) dX2_isGoing_9 (fun c2 => ?_) (fun c2 => ?_)
      · refine wa_iconst hX 0 ki_0 dX2_isGoing_16 ?_
        refine wa_sub (lv2 := []) [] rfl ?_
        rw [show (if 104 < p0 then (0 : Int32) else 1) = 0 from if_pos c2] at hI
        exact hI
      · refine wa_iconst hX 1 ki_1 dX2_isGoing_12 ?_
        refine wa_goto hX 17 (by decide) dX2_isGoing_13 ?_
        refine wa_sub (lv2 := []) [] rfl ?_
        rw [show (if 104 < p0 then (0 : Int32) else 1) = 1 from if_neg c2] at hI
        exact hI
set_option maxRecDepth 100000 in
set_option maxHeartbeats 4000000 in
theorem t_X2_survey_155 {X : Fx} (hX : Cx X cX2_survey RX2 4 1 20) {w1 : Wd} (hE : ∀ pc lv, decode cX2_survey pc = .ok (.return_, 1) → Wa X w1 pc lv [])  {w : Wd} (h : F_X2_survey_155 w = some w1) : Wa X w 155 [] [] := by
  unfold F_X2_survey_155 at h
  exact ret_v hE h dX2_survey_155
set_option maxRecDepth 100000 in
set_option maxHeartbeats 4000000 in
theorem t_X2_survey_149 {X : Fx} (hX : Cx X cX2_survey RX2 4 1 20) {w1 : Wd} (hE : ∀ pc lv, decode cX2_survey pc = .ok (.return_, 1) → Wa X w1 pc lv []) {k25 : Wd × Int32 × Int32 → Option (Wd)} (hk25 : ∀ a, k25 a = some w1 → Wa X a.1 25 [(0, .ref (Ad X 4)), (1, .int a.2.1), (2, .int a.2.2)] []) {w : Wd} {v1 : Int32} {v2 : Int32} (h : F_X2_survey_149 k25 w v1 v2 = some w1) : Wa X w 149 [(0, .ref (Ad X 4)), (1, .int v1), (2, .int v2)] [] := by
  unfold F_X2_survey_149 at h
  refine wa_iinc hX (v := (v2 + 1)) (lv2 := [(2, .int (v2 + 1)), (0, .ref (Ad X 4)), (1, .int v1)]) 2 rfl rfl (by decide) rfl dX2_survey_149 ?_
  refine wa_goto hX 25 (by decide) dX2_survey_152 ?_
  refine wa_sub (lv2 := [(0, .ref (Ad X 4)), (1, .int v1), (2, .int (v2 + 1))]) [1, 2, 0] rfl ?_
  exact hk25 _ h
set_option maxRecDepth 100000 in
set_option maxHeartbeats 4000000 in
theorem t_X2_survey_144 {X : Fx} (hX : Cx X cX2_survey RX2 4 1 20) {w1 : Wd} (hE : ∀ pc lv, decode cX2_survey pc = .ok (.return_, 1) → Wa X w1 pc lv []) {k25 : Wd × Int32 × Int32 → Option (Wd)} (hk25 : ∀ a, k25 a = some w1 → Wa X a.1 25 [(0, .ref (Ad X 4)), (1, .int a.2.1), (2, .int a.2.2)] []) {w : Wd} {v1 : Int32} {v2 : Int32} (h : F_X2_survey_144 k25 w v1 v2 = some w1) : Wa X w 144 [(0, .ref (Ad X 4)), (1, .int v1), (2, .int v2)] [] := by
  unfold F_X2_survey_144 at h
  refine wa_aload_n hX 0 rfl rfl dX2_survey_144 ?_
  refine wa_iload_n hX 2 rfl rfl dX2_survey_145 ?_
  refine wp_play_faultAt hX fl_X2_25 dX2_survey_146 ?_
  exact t_X2_survey_149 hX hE hk25 h
set_option maxRecDepth 100000 in
set_option maxHeartbeats 4000000 in
theorem t_X2_survey_25 {X : Fx} (hX : Cx X cX2_survey RX2 4 1 20) {w1 : Wd} (hE : ∀ pc lv, decode cX2_survey pc = .ok (.return_, 1) → Wa X w1 pc lv [])  : ∀ (n : Nat) (a : Wd × Int32 × Int32), L_X2_survey_25  n a = some w1 → Wa X a.1 25 [(0, .ref (Ad X 4)), (1, .int a.2.1), (2, .int a.2.2)] [] := by
  refine it_mach (P := fun (a : Wd × Int32 × Int32) => Wa X a.1 25 [(0, .ref (Ad X 4)), (1, .int a.2.1), (2, .int a.2.2)] []) ?_
  intro k25 hk25 a h
  obtain ⟨w, v1, v2⟩ := a
  have h : F_X2_survey_25 k25 w v1 v2 = some w1 := h
  show Wa X w 25 [(0, .ref (Ad X 4)), (1, .int v1), (2, .int v2)] []
  unfold F_X2_survey_25 at h
  refine wa_iload_n hX 2 rfl rfl dX2_survey_25 ?_
  refine wa_aload_n hX 0 rfl rfl dX2_survey_26 ?_
  refine wg_play_count hX fl_X2_21 dX2_survey_27 ?_
  refine wa_icmp_ge hX 155 (by decide) dX2_survey_30 (fun c => ?_) (fun c => ?_)
  · replace h := itp c h
    refine wa_sub (lv2 := []) [] rfl ?_
    exact t_X2_survey_155 hX hE  h
  · replace h := itn c h
    refine wa_aload_n hX 0 rfl rfl dX2_survey_33 ?_
    refine wg_play_faultAt hX fl_X2_25 dX2_survey_34 ?_
    refine wa_bipush hX (-6) kb_m6 dX2_survey_37 ?_
    refine wa_icmp_ne hX 155 (by decide) dX2_survey_39 (fun c => ?_) (fun c => ?_)
    · replace h := itn c h
      refine wa_sub (lv2 := []) [] rfl ?_
      exact t_X2_survey_155 hX hE  h
    · replace h := itp c h
      refine wa_aload_n hX 0 rfl rfl dX2_survey_42 ?_
      refine wg_play_signs hX fl_X2_9 dX2_survey_43 ?_
      refine wa_iload_n hX 2 rfl rfl dX2_survey_46 ?_
      obtain ⟨hg, h⟩ := gu_some h
      refine wl_play_signs hX hg dX2_survey_47 ?_
      refine wa_istore_n hX (lv2 := [(3, .int (w.2.1 5 v2.toNatClampNeg)), (0, .ref (Ad X 4)), (1, .int v1), (2, .int v2)]) rfl (by decide) rfl dX2_survey_48 ?_
      refine wa_iload_n hX 0 rfl rfl dX2_survey_49 ?_
      obtain ⟨x1, h2, h⟩ := obind h
      refine wa_callSi hX (m_X2_isComing h2) cx_X2_isComing ml_X2_37 (As := [.int (w.2.1 5 v2.toNatClampNeg)]) (rest := []) rfl rfl rfl ⟨Nat.le_of_ble_eq_true rfl, Nat.le_of_ble_eq_true rfl⟩ (Nat.le_of_ble_eq_true rfl) dX2_survey_50 ?_
      refine wa_if_eq hX 72 (by decide) dX2_survey_53 (fun c => ?_) (fun c => ?_)
      · replace h := itp c h
        refine wa_iload_n hX 0 rfl rfl dX2_survey_72 ?_
        obtain ⟨x2, h2, h⟩ := obind h
        refine wa_callSi hX (m_X2_isGoing h2) cx_X2_isGoing ml_X2_41 (As := [.int (w.2.1 5 v2.toNatClampNeg)]) (rest := []) rfl rfl rfl ⟨Nat.le_of_ble_eq_true rfl, Nat.le_of_ble_eq_true rfl⟩ (Nat.le_of_ble_eq_true rfl) dX2_survey_73 ?_
        refine wa_if_eq hX 85 (by decide) dX2_survey_76 (fun c => ?_) (fun c => ?_)
        · replace h := itp c h
          refine wa_iload_n hX 0 rfl rfl dX2_survey_85 ?_
          refine wa_bipush hX 46 kb_46 dX2_survey_86 ?_
          refine wa_icmp_ne hX 114 (by decide) dX2_survey_88 (fun c => ?_) (fun c => ?_)
          · replace h := itn c h
            refine wa_iload_n hX 0 rfl rfl dX2_survey_114 ?_
            refine wa_bipush hX 63 kb_63 dX2_survey_115 ?_
            refine wa_icmp_ne hX 144 (by decide) dX2_survey_117 (fun c => ?_) (fun c => ?_)
            · replace h := itn c h
              refine wa_sub (lv2 := [(0, .ref (Ad X 4)), (1, .int v1), (2, .int v2)]) [1, 2, 3] rfl ?_
              exact t_X2_survey_144 hX hE hk25 h
            · replace h := itp c h
              refine wa_aload_n hX 1 rfl rfl dX2_survey_120 ?_
              refine wg_play_asked hX fl_X2_28 dX2_survey_121 ?_
              refine wa_iconst hX 3 ki_3 dX2_survey_124 ?_
              refine wa_icmp_ge hX 144 (by decide) dX2_survey_125 (fun c => ?_) (fun c => ?_)
              · replace h := itp c h
                refine wa_sub (lv2 := [(0, .ref (Ad X 4)), (1, .int v1), (2, .int v2)]) [1, 2, 3] rfl ?_
                exact t_X2_survey_144 hX hE hk25 h
              · replace h := itn c h
                refine wa_aload_n hX 1 rfl rfl dX2_survey_128 ?_
                refine wa_dup hX rfl dX2_survey_129 ?_
                refine wg_play_asked hX fl_X2_28 dX2_survey_130 ?_
                refine wa_iconst hX 1 ki_1 dX2_survey_133 ?_
                refine wa_iadd hX dX2_survey_134 ?_
                refine wp_play_asked hX fl_X2_28 dX2_survey_135 ?_
                refine wa_iinc hX (v := (v1 + 1)) (lv2 := [(1, .int (v1 + 1)), (3, .int (w.2.1 5 v2.toNatClampNeg)), (0, .ref (Ad X 4)), (2, .int v2)]) 2 rfl rfl (by decide) rfl dX2_survey_138 ?_
                refine wa_goto hX 149 (by decide) dX2_survey_141 ?_
                refine wa_sub (lv2 := [(0, .ref (Ad X 4)), (1, .int (v1 + 1)), (2, .int v2)]) [2, 0, 3] rfl ?_
                exact t_X2_survey_149 hX hE hk25 h
          · replace h := itp c h
            refine wa_aload_n hX 1 rfl rfl dX2_survey_91 ?_
            refine wg_play_manyAt hX fl_X2_15 dX2_survey_92 ?_
            refine wa_aload_n hX 1 rfl rfl dX2_survey_95 ?_
            refine wg_play_lineCount hX fl_X2_34 dX2_survey_96 ?_
            refine wa_iload_n hX 2 rfl rfl dX2_survey_99 ?_
            obtain ⟨hg, h⟩ := gu_some h
            refine ws_play_manyAt hX hg dX2_survey_100 ?_
            refine wa_aload_n hX 1 rfl rfl dX2_survey_101 ?_
            refine wa_dup hX rfl dX2_survey_102 ?_
            refine wg_play_lineCount hX fl_X2_34 dX2_survey_103 ?_
            refine (show Wa X (wA x2.2 6 (x2.2.1 4) v1) 106 [(3, .int (w.2.1 5 v2.toNatClampNeg)), (0, .ref (Ad X 4)), (1, .int v1), (2, .int v2)] [.int (x2.2.1 4), .ref (Ad X 4)] from ?_)
            refine wa_iconst hX 1 ki_1 dX2_survey_106 ?_
            refine wa_iadd hX dX2_survey_107 ?_
            refine wp_play_lineCount hX fl_X2_34 dX2_survey_108 ?_
            refine wa_goto hX 149 (by decide) dX2_survey_111 ?_
            refine wa_sub (lv2 := [(0, .ref (Ad X 4)), (1, .int v1), (2, .int v2)]) [1, 2, 3] rfl ?_
            exact t_X2_survey_149 hX hE hk25 h
        · replace h := itn c h
          refine wa_iinc hX (v := (v1 + (-1))) (lv2 := [(1, .int (v1 + (-1))), (3, .int (w.2.1 5 v2.toNatClampNeg)), (0, .ref (Ad X 4)), (2, .int v2)]) 2 rfl (by rw [ki_m1]) (by decide) rfl dX2_survey_79 ?_
          refine wa_goto hX 149 (by decide) dX2_survey_82 ?_
          refine wa_sub (lv2 := [(0, .ref (Ad X 4)), (1, .int (v1 + (-1))), (2, .int v2)]) [2, 0, 3] rfl ?_
          exact t_X2_survey_149 hX hE hk25 h
      · replace h := itn c h
        refine wa_aload_n hX 1 rfl rfl dX2_survey_56 ?_
        refine wa_dup hX rfl dX2_survey_57 ?_
        refine wg_play_comings hX fl_X2_31 dX2_survey_58 ?_
        refine wa_iconst hX 1 ki_1 dX2_survey_61 ?_
        refine wa_iadd hX dX2_survey_62 ?_
        refine wp_play_comings hX fl_X2_31 dX2_survey_63 ?_
        refine wa_iinc hX (v := (v1 + 1)) (lv2 := [(1, .int (v1 + 1)), (3, .int (w.2.1 5 v2.toNatClampNeg)), (0, .ref (Ad X 4)), (2, .int v2)]) 2 rfl rfl (by decide) rfl dX2_survey_66 ?_
        refine wa_goto hX 149 (by decide) dX2_survey_69 ?_
        refine wa_sub (lv2 := [(0, .ref (Ad X 4)), (1, .int (v1 + 1)), (2, .int v2)]) [2, 0, 3] rfl ?_
        exact t_X2_survey_149 hX hE hk25 h
set_option maxRecDepth 100000 in
set_option maxHeartbeats 4000000 in
theorem m_X2_survey {w w1 : Wd} (h : F_X2_survey w  = some w1) : Gv yX2_survey cX2_survey 4 none 1 20 (fun E => [.ref (E.2.1 4)]) w w1 := by
  refine Gv.of (hy := by decide +kernel) (hlen := fun _ => Nat.le_of_ble_eq_true rfl) (fun X hX hE => ?_)
  · unfold F_X2_survey at h
    refine (show Wa X w 0 [(0, .ref (Ad X 4))] [] from ?_)
    refine wa_aload_n hX 0 rfl rfl dX2_survey_0 ?_
    refine wa_bipush hX (-6) kb_m6 dX2_survey_1 ?_
    refine wp_play_faultAt hX fl_X2_25 dX2_survey_3 ?_
    refine wa_aload_n hX 0 rfl rfl dX2_survey_6 ?_
    refine wa_iconst hX 0 ki_0 dX2_survey_7 ?_
    refine wp_play_asked hX fl_X2_28 dX2_survey_8 ?_
    refine wa_aload_n hX 0 rfl rfl dX2_survey_11 ?_
    refine wa_iconst hX 0 ki_0 dX2_survey_12 ?_
    refine wp_play_comings hX fl_X2_31 dX2_survey_13 ?_
    refine wa_aload_n hX 0 rfl rfl dX2_survey_16 ?_
    refine wa_iconst hX 0 ki_0 dX2_survey_17 ?_
    refine wp_play_lineCount hX fl_X2_34 dX2_survey_18 ?_
    refine wa_iconst hX 0 ki_0 dX2_survey_21 ?_
    refine wa_istore_n hX (lv2 := [(1, .int 0), (0, .ref (Ad X 4))]) rfl (by decide) rfl dX2_survey_22 ?_
    refine wa_iconst hX 0 ki_0 dX2_survey_23 ?_
    refine wa_istore_n hX (lv2 := [(2, .int 0), (1, .int 0), (0, .ref (Ad X 4))]) rfl (by decide) rfl dX2_survey_24 ?_
    refine wa_sub (lv2 := [(0, .ref (Ad X 4)), (1, .int 0), (2, .int 0)]) [2, 1, 0] rfl ?_
    exact t_X2_survey_25 hX hE  _ _ h
set_option maxRecDepth 100000 in
set_option maxHeartbeats 4000000 in
theorem m_X5_fault {w w1 : Wd} {r : Int32} (h : F_X5_fault w  = some (r, w1)) : Gi yX5_fault cX5_fault 1 (some .int) 2 43 (fun E => [.ref (E.2.1 0)]) w w1 r := by
  refine Gi.of (hy := by decide +kernel) (hlen := fun _ => Nat.le_of_ble_eq_true rfl) (fun X hX hE => ?_)
  · unfold F_X5_fault at h
    refine (show Wa X w 0 [(0, .ref (Ad X 0))] [] from ?_)
    refine wa_aload_n hX 0 rfl rfl dX5_fault_0 ?_
    refine wg_stage_play hX fl_X5_27 dX5_fault_1 ?_
    obtain ⟨x1, h2, h⟩ := obind h
    refine wa_callVv hX (m_X2_survey h2) cx_X2_survey ml_X5_77 (As := []) (rest := []) 4 (ce_play _ _) rfl rfl rfl rfl ⟨Nat.le_of_ble_eq_true rfl, Nat.le_of_ble_eq_true rfl⟩ (Nat.le_of_ble_eq_true rfl) dX5_fault_4 ?_
    refine wa_aload_n hX 0 rfl rfl dX5_fault_7 ?_
    refine wg_stage_play hX fl_X5_27 dX5_fault_8 ?_
    refine wgN_play_faultAt hX fn_X5_80 dX5_fault_11 ?_
    exact ret_i hE h dX5_fault_14
set_option maxRecDepth 100000 in
set_option maxHeartbeats 4000000 in
theorem m_X2_guessed {w w1 : Wd} {p1 : Int32} {p2 : Int32} {r : Int32} (h : F_X2_guessed w p1 p2 = some (r, w1)) : Gi yX2_guessed cX2_guessed 3 (some .int) 0 0 (fun E => [.ref (E.2.1 4), .int p1, .int p2]) w w1 r := by
  refine Gi.of (hy := by decide +kernel) (hlen := fun _ => Nat.le_of_ble_eq_true rfl) (fun X hX hE => ?_)
  · unfold F_X2_guessed at h
    refine (show Wa X w 0 [(0, .ref (Ad X 4)), (1, .int p1), (2, .int p2)] [] from ?_)
    refine wa_iload_n hX 1 rfl rfl dX2_guessed_0 ?_
    refine wa_iconst hX 3 ki_3 dX2_guessed_1 ?_
    refine wa_aload_n hX 0 rfl rfl dX2_guessed_2 ?_
    refine wg_play_asked hX fl_X2_28 dX2_guessed_3 ?_
    refine wa_iconst hX 1 ki_1 dX2_guessed_6 ?_
    refine wa_isub hX dX2_guessed_7 ?_
    refine wa_iload_n hX 2 rfl rfl dX2_guessed_8 ?_
    refine wa_isub hX dX2_guessed_9 ?_
    refine wa_imul hX dX2_guessed_10 ?_
    refine wa_ishr hX dX2_guessed_11 ?_
    refine wa_bipush hX 7 kb_7 dX2_guessed_12 ?_
    refine wa_iand hX dX2_guessed_14 ?_
    exact ret_i hE h dX2_guessed_15
set_option maxRecDepth 100000 in
set_option maxHeartbeats 4000000 in
theorem m_X2_comer {w w1 : Wd} {p1 : Int32} {p2 : Int32} {r : Int32} (h : F_X2_comer w p1 p2 = some (r, w1)) : Gi yX2_comer cX2_comer 3 (some .int) 1 22 (fun E => [.ref (E.2.1 4), .int p1, .int p2]) w w1 r := by
  refine Gi.of (hy := by decide +kernel) (hlen := fun _ => Nat.le_of_ble_eq_true rfl) (fun X hX hE => ?_)
  · unfold F_X2_comer at h
    refine (show Wa X w 0 [(0, .ref (Ad X 4)), (1, .int p1), (2, .int p2)] [] from ?_)
    refine wa_iload_n hX 1 rfl rfl dX2_comer_0 ?_
    refine wa_bipush hX 63 kb_63 dX2_comer_1 ?_
    refine wa_icmp_eq hX 11 (by decide) dX2_comer_3 (fun c => ?_) (fun c => ?_)
    · replace h := itp c h
      refine wa_aload_n hX 0 rfl rfl dX2_comer_11 ?_
      refine wa_dup hX rfl dX2_comer_12 ?_
      refine wg_play_met hX fl_X2_50 dX2_comer_13 ?_
      refine wa_iconst hX 1 ki_1 dX2_comer_16 ?_
      refine wa_iadd hX dX2_comer_17 ?_
      refine wp_play_met hX fl_X2_50 dX2_comer_18 ?_
      refine wa_aload_n hX 0 rfl rfl dX2_comer_21 ?_
      refine wa_iload_n hX 2 rfl rfl dX2_comer_22 ?_
      refine wa_aload_n hX 0 rfl rfl dX2_comer_23 ?_
      refine wg_play_met hX fl_X2_50 dX2_comer_24 ?_
      refine (show Wa X (wI w 7 (w.1 7 + 1)) 27 [(0, .ref (Ad X 4)), (1, .int p1), (2, .int p2)] [.int (w.1 7 + 1), .int p2, .ref (Ad X 4)] from ?_)
      refine wa_iconst hX 1 ki_1 dX2_comer_27 ?_
      refine wa_isub hX dX2_comer_28 ?_
      obtain ⟨x1, h2, h⟩ := obind h
      refine wa_callVi hX (m_X2_guessed h2) cx_X2_guessed ml_X2_61 (As := [.int p2, .int ((w.1 7 + 1) - 1)]) (rest := []) 4 (ce_play _ _) rfl rfl rfl rfl ⟨Nat.le_of_ble_eq_true rfl, Nat.le_of_ble_eq_true rfl⟩ (Nat.le_of_ble_eq_true rfl) dX2_comer_29 ?_
      exact ret_i hE h dX2_comer_32
    · replace h := itn c h
      refine wa_iload_n hX 1 rfl rfl dX2_comer_6 ?_
      refine wa_bipush hX 65 kb_65 dX2_comer_7 ?_
      refine wa_isub hX dX2_comer_9 ?_
      exact ret_i hE h dX2_comer_10
set_option maxRecDepth 100000 in
set_option maxHeartbeats 4000000 in
theorem t_X2_refuseUnless_14 {X : Fx} (hX : Cx X cX2_refuseUnless RX2 4 0 0) {w1 : Wd} (hE : ∀ pc lv, decode cX2_refuseUnless pc = .ok (.return_, 1) → Wa X w1 pc lv [])  {w : Wd} (h : F_X2_refuseUnless_14 w = some w1) : Wa X w 14 [] [] := by
  unfold F_X2_refuseUnless_14 at h
  exact ret_v hE h dX2_refuseUnless_14
set_option maxRecDepth 100000 in
set_option maxHeartbeats 4000000 in
theorem m_X2_refuseUnless {w w1 : Wd} {p1 : Int32} {p2 : Int32} {p3 : Int32} (h : F_X2_refuseUnless w p1 p2 p3 = some w1) : Gv yX2_refuseUnless cX2_refuseUnless 4 none 0 0 (fun E => [.ref (E.2.1 4), .int p1, .int p2, .int p3]) w w1 := by
  refine Gv.of (hy := by decide +kernel) (hlen := fun _ => Nat.le_of_ble_eq_true rfl) (fun X hX hE => ?_)
  · unfold F_X2_refuseUnless at h
    refine (show Wa X w 0 [(0, .ref (Ad X 4)), (1, .int p1), (2, .int p2), (3, .int p3)] [] from ?_)
    refine wa_iload_n hX 1 rfl rfl dX2_refuseUnless_0 ?_
    refine wa_if_ne hX 14 (by decide) dX2_refuseUnless_1 (fun c => ?_) (fun c => ?_)
    · replace h := itn c h
      refine wa_sub (lv2 := []) [] rfl ?_
      exact t_X2_refuseUnless_14 hX hE  h
    · replace h := itp c h
      refine wa_aload_n hX 0 rfl rfl dX2_refuseUnless_4 ?_
      refine wa_iload_n hX 2 rfl rfl dX2_refuseUnless_5 ?_
      refine wp_play_impossibleAt hX fl_X2_44 dX2_refuseUnless_6 ?_
      refine wa_aload_n hX 0 rfl rfl dX2_refuseUnless_9 ?_
      refine wa_iload_n hX 3 rfl rfl dX2_refuseUnless_10 ?_
      refine wp_play_why hX fl_X2_47 dX2_refuseUnless_11 ?_
      refine wa_sub (lv2 := []) [] rfl ?_
      exact t_X2_refuseUnless_14 hX hE  h
set_option maxRecDepth 100000 in
set_option maxHeartbeats 4000000 in
theorem t_X2_perform_158 {X : Fx} (hX : Cx X cX2_perform RX2 7 2 44) {w1 : Wd} (hE : ∀ pc lv, decode cX2_perform pc = .ok (.return_, 1) → Wa X w1 pc lv [])  {w : Wd} (h : F_X2_perform_158 w = some w1) : Wa X w 158 [] [] := by
  unfold F_X2_perform_158 at h
  exact ret_v hE h dX2_perform_158
set_option maxRecDepth 100000 in
set_option maxHeartbeats 4000000 in
theorem t_X2_perform_152 {X : Fx} (hX : Cx X cX2_perform RX2 7 2 44) {w1 : Wd} (hE : ∀ pc lv, decode cX2_perform pc = .ok (.return_, 1) → Wa X w1 pc lv []) {k24 : Wd × Int32 × Int32 × Int32 × Int32 → Option (Wd)} (hk24 : ∀ a, k24 a = some w1 → Wa X a.1 24 [(0, .ref (Ad X 4)), (1, .int a.2.1), (2, .int a.2.2.1), (3, .int a.2.2.2.1), (4, .int a.2.2.2.2)] []) {w : Wd} {v1 : Int32} {v2 : Int32} {v3 : Int32} {v4 : Int32} (h : F_X2_perform_152 k24 w v1 v2 v3 v4 = some w1) : Wa X w 152 [(0, .ref (Ad X 4)), (1, .int v1), (2, .int v2), (3, .int v3), (4, .int v4)] [] := by
  unfold F_X2_perform_152 at h
  refine wa_iinc hX (v := (v4 + 1)) (lv2 := [(4, .int (v4 + 1)), (0, .ref (Ad X 4)), (1, .int v1), (2, .int v2), (3, .int v3)]) 4 rfl rfl (by decide) rfl dX2_perform_152 ?_
  refine wa_goto hX 24 (by decide) dX2_perform_155 ?_
  refine wa_sub (lv2 := [(0, .ref (Ad X 4)), (1, .int v1), (2, .int v2), (3, .int v3), (4, .int (v4 + 1))]) [1, 2, 3, 4, 0] rfl ?_
  exact hk24 _ h
set_option maxRecDepth 100000 in
set_option maxHeartbeats 4000000 in
theorem t_X2_perform_24 {X : Fx} (hX : Cx X cX2_perform RX2 7 2 44) {w1 : Wd} (hE : ∀ pc lv, decode cX2_perform pc = .ok (.return_, 1) → Wa X w1 pc lv [])  : ∀ (n : Nat) (a : Wd × Int32 × Int32 × Int32 × Int32), L_X2_perform_24  n a = some w1 → Wa X a.1 24 [(0, .ref (Ad X 4)), (1, .int a.2.1), (2, .int a.2.2.1), (3, .int a.2.2.2.1), (4, .int a.2.2.2.2)] [] := by
  refine it_mach (P := fun (a : Wd × Int32 × Int32 × Int32 × Int32) => Wa X a.1 24 [(0, .ref (Ad X 4)), (1, .int a.2.1), (2, .int a.2.2.1), (3, .int a.2.2.2.1), (4, .int a.2.2.2.2)] []) ?_
  intro k24 hk24 a h
  obtain ⟨w, v1, v2, v3, v4⟩ := a
  have h : F_X2_perform_24 k24 w v1 v2 v3 v4 = some w1 := h
  show Wa X w 24 [(0, .ref (Ad X 4)), (1, .int v1), (2, .int v2), (3, .int v3), (4, .int v4)] []
  unfold F_X2_perform_24 at h
  refine wa_iload hX 4 rfl dX2_perform_24 ?_
  refine wa_aload_n hX 0 rfl rfl dX2_perform_26 ?_
  refine wg_play_count hX fl_X2_21 dX2_perform_27 ?_
  refine wa_icmp_ge hX 158 (by decide) dX2_perform_30 (fun c => ?_) (fun c => ?_)
  · replace h := itp c h
    refine wa_sub (lv2 := []) [] rfl ?_
    exact t_X2_perform_158 hX hE  h
  · replace h := itn c h
    refine wa_aload_n hX 0 rfl rfl dX2_perform_33 ?_
    refine wg_play_impossibleAt hX fl_X2_44 dX2_perform_34 ?_
    refine wa_bipush hX (-6) kb_m6 dX2_perform_37 ?_
    refine wa_icmp_ne hX 158 (by decide) dX2_perform_39 (fun c => ?_) (fun c => ?_)
    · replace h := itn c h
      refine wa_sub (lv2 := []) [] rfl ?_
      exact t_X2_perform_158 hX hE  h
    · replace h := itp c h
      refine wa_aload_n hX 0 rfl rfl dX2_perform_42 ?_
      refine wg_play_signs hX fl_X2_9 dX2_perform_43 ?_
      refine wa_iload hX 4 rfl dX2_perform_46 ?_
      obtain ⟨hg, h⟩ := gu_some h
      refine wl_play_signs hX hg dX2_perform_48 ?_
      refine wa_istore hX (lv2 := [(5, .int (w.2.1 5 v4.toNatClampNeg)), (0, .ref (Ad X 4)), (1, .int v1), (2, .int v2), (3, .int v3), (4, .int v4)]) (by decide) rfl dX2_perform_49 ?_
      refine wa_iload hX 0 rfl dX2_perform_51 ?_
      refine wa_bipush hX 46 kb_46 dX2_perform_53 ?_
      refine wa_icmp_ne hX 71 (by decide) dX2_perform_55 (fun c => ?_) (fun c => ?_)
      · replace h := itn c h
        refine wa_iload hX 0 rfl dX2_perform_71 ?_
        obtain ⟨x1, h2, h⟩ := obind h
        refine wa_callSi hX (m_X2_isGoing h2) cx_X2_isGoing ml_X2_41 (As := [.int (w.2.1 5 v4.toNatClampNeg)]) (rest := []) rfl rfl rfl ⟨Nat.le_of_ble_eq_true rfl, Nat.le_of_ble_eq_true rfl⟩ (Nat.le_of_ble_eq_true rfl) dX2_perform_73 ?_
        refine wa_if_eq hX 117 (by decide) dX2_perform_76 (fun c => ?_) (fun c => ?_)
        · replace h := itp c h
          refine wa_iconst hX 1 ki_1 dX2_perform_117 ?_
          refine wa_aload_n hX 1 rfl rfl dX2_perform_118 ?_
          refine wa_iload hX 0 rfl dX2_perform_119 ?_
          refine wa_iload_n hX 2 rfl rfl dX2_perform_121 ?_
          obtain ⟨x2, h2, h⟩ := obind h
          refine wa_callVi hX (m_X2_comer h2) cx_X2_comer ml_X2_57 (As := [.int (w.2.1 5 v4.toNatClampNeg), .int v1]) (rest := [.int 1]) 4 (ce_play _ _) rfl rfl rfl rfl ⟨Nat.le_of_ble_eq_true rfl, Nat.le_of_ble_eq_true rfl⟩ (Nat.le_of_ble_eq_true rfl) dX2_perform_122 ?_
          refine wa_ishl hX dX2_perform_125 ?_
          refine wa_istore hX (lv2 := [(6, .int (1 <<< (x2.1 &&& 31))), (5, .int (w.2.1 5 v4.toNatClampNeg)), (0, .ref (Ad X 4)), (1, .int v1), (2, .int v2), (3, .int v3), (4, .int v4)]) (by decide) rfl dX2_perform_126 ?_
          refine wa_aload_n hX 2 rfl rfl dX2_perform_128 ?_
          refine wa_iload_n hX 4 rfl rfl dX2_perform_129 ?_
          refine wa_iload hX 0 rfl dX2_perform_130 ?_
          refine wa_iand hX dX2_perform_132 ?_
          have hJ : Wa X x2.2 141 [(0, .ref (Ad X 4)), (1, .int v1), (2, .int v2), (3, .int v3), (4, .int v4), (6, .int (1 <<< (x2.1 &&& 31)))] [.int (if (v2 &&& (1 <<< (x2.1 &&& 31))) = 0 then (1 : Int32) else 0), .ref (Ad X 4)] := by
            refine wa_iload hX 4 rfl dX2_perform_141 ?_
            refine wa_iconst hX 1 ki_1 dX2_perform_143 ?_
            obtain ⟨x3, h2, h⟩ := obind h
            refine wa_callVv hX (m_X2_refuseUnless h2) cx_X2_refuseUnless ml_X2_53 (As := [.int (if (v2 &&& (1 <<< (x2.1 &&& 31))) = 0 then (1 : Int32) else 0), .int v4, .int 1]) (rest := []) 4 (ce_play _ _) rfl rfl rfl rfl ⟨Nat.le_of_ble_eq_true rfl, Nat.le_of_ble_eq_true rfl⟩ (Nat.le_of_ble_eq_true rfl) dX2_perform_144 ?_
            refine wa_iload_n hX 2 rfl rfl dX2_perform_147 ?_
            refine wa_iload hX 5 rfl dX2_perform_148 ?_
            refine wa_ior hX dX2_perform_150 ?_
            refine wa_istore_n hX (lv2 := [(2, .int (v2 ||| (1 <<< (x2.1 &&& 31)))), (0, .ref (Ad X 4)), (1, .int v1), (3, .int v3), (4, .int v4), (6, .int (1 <<< (x2.1 &&& 31)))]) rfl (by decide) rfl dX2_perform_151 ?_
            refine wa_sub (lv2 := [(0, .ref (Ad X 4)), (1, .int v1), (2, .int (v2 ||| (1 <<< (x2.1 &&& 31)))), (3, .int v3), (4, .int v4)]) [1, 2, 0, 3, 4] rfl ?_
            exact t_X2_perform_152 hX hE hk24 h
          refine wa_if_ne hX 140 (by decide) dX2_perform_133 (fun c => ?_) (fun c => ?_)
          · refine wa_iconst hX 0 ki_0 dX2_perform_140 ?_
            refine wa_sub (lv2 := [(0, .ref (Ad X 4)), (1, .int v1), (2, .int v2), (3, .int v3), (4, .int v4), (6, .int (1 <<< (x2.1 &&& 31)))]) [2, 3, 4, 5, 6, 0] rfl ?_
            rw [show (if (v2 &&& (1 <<< (x2.1 &&& 31))) = 0 then (1 : Int32) else 0) = 0 from if_neg c] at hJ
            exact hJ
          · refine wa_iconst hX 1 ki_1 dX2_perform_136 ?_
            refine wa_goto hX 141 (by decide) dX2_perform_137 ?_
            refine wa_sub (lv2 := [(0, .ref (Ad X 4)), (1, .int v1), (2, .int v2), (3, .int v3), (4, .int v4), (6, .int (1 <<< (x2.1 &&& 31)))]) [2, 3, 4, 5, 6, 0] rfl ?_
            rw [show (if (v2 &&& (1 <<< (x2.1 &&& 31))) = 0 then (1 : Int32) else 0) = 1 from if_pos c] at hJ
            exact hJ
        · replace h := itn c h
          refine wa_iconst hX 1 ki_1 dX2_perform_79 ?_
          refine wa_iload hX 0 rfl dX2_perform_80 ?_
          refine wa_bipush hX 97 kb_97 dX2_perform_82 ?_
          refine wa_isub hX dX2_perform_84 ?_
          refine wa_ishl hX dX2_perform_85 ?_
          refine wa_let h (fun y4 h => ?_)
          refine wa_istore hX (lv2 := [(6, .int y4), (5, .int (w.2.1 5 v4.toNatClampNeg)), (0, .ref (Ad X 4)), (1, .int v1), (2, .int v2), (3, .int v3), (4, .int v4)]) (by decide) rfl dX2_perform_86 ?_
          refine wa_aload_n hX 2 rfl rfl dX2_perform_88 ?_
          refine wa_iload_n hX 4 rfl rfl dX2_perform_89 ?_
          refine wa_iload hX 0 rfl dX2_perform_90 ?_
          refine wa_iand hX dX2_perform_92 ?_
          have hJ : Wa X x1.2 101 [(0, .ref (Ad X 4)), (1, .int v1), (2, .int v2), (3, .int v3), (4, .int v4), (6, .int y4)] [.int (if (v2 &&& y4) = 0 then (0 : Int32) else 1), .ref (Ad X 4)] := by
            refine wa_iload hX 4 rfl dX2_perform_101 ?_
            refine wa_iconst hX 2 ki_2 dX2_perform_103 ?_
            obtain ⟨x5, h2, h⟩ := obind h
            refine wa_callVv hX (m_X2_refuseUnless h2) cx_X2_refuseUnless ml_X2_53 (As := [.int (if (v2 &&& y4) = 0 then (0 : Int32) else 1), .int v4, .int 2]) (rest := []) 4 (ce_play _ _) rfl rfl rfl rfl ⟨Nat.le_of_ble_eq_true rfl, Nat.le_of_ble_eq_true rfl⟩ (Nat.le_of_ble_eq_true rfl) dX2_perform_104 ?_
            refine wa_iload_n hX 2 rfl rfl dX2_perform_107 ?_
            refine wa_iload hX 5 rfl dX2_perform_108 ?_
            refine wa_iconst hX (-1) ki_m1 dX2_perform_110 ?_
            refine wa_ixor hX dX2_perform_111 ?_
            refine wa_iand hX dX2_perform_112 ?_
            refine wa_istore_n hX (lv2 := [(2, .int (v2 &&& (y4 ^^^ (-1)))), (0, .ref (Ad X 4)), (1, .int v1), (3, .int v3), (4, .int v4), (6, .int y4)]) rfl (by decide) rfl dX2_perform_113 ?_
            refine wa_goto hX 152 (by decide) dX2_perform_114 ?_
            refine wa_sub (lv2 := [(0, .ref (Ad X 4)), (1, .int v1), (2, .int (v2 &&& (y4 ^^^ (-1)))), (3, .int v3), (4, .int v4)]) [1, 2, 0, 3, 4] rfl ?_
            exact t_X2_perform_152 hX hE hk24 h
          refine wa_if_eq hX 100 (by decide) dX2_perform_93 (fun c => ?_) (fun c => ?_)
          · refine wa_iconst hX 0 ki_0 dX2_perform_100 ?_
            refine wa_sub (lv2 := [(0, .ref (Ad X 4)), (1, .int v1), (2, .int v2), (3, .int v3), (4, .int v4), (6, .int y4)]) [2, 3, 4, 5, 6, 0] rfl ?_
            rw [show (if (v2 &&& y4) = 0 then (0 : Int32) else 1) = 0 from if_pos c] at hJ
            exact hJ
          · refine wa_iconst hX 1 ki_1 dX2_perform_96 ?_
            refine wa_goto hX 101 (by decide) dX2_perform_97 ?_
            refine wa_sub (lv2 := [(0, .ref (Ad X 4)), (1, .int v1), (2, .int v2), (3, .int v3), (4, .int v4), (6, .int y4)]) [2, 3, 4, 5, 6, 0] rfl ?_
            rw [show (if (v2 &&& y4) = 0 then (0 : Int32) else 1) = 1 from if_neg c] at hJ
            exact hJ
      · replace h := itp c h
        refine wa_aload_n hX 1 rfl rfl dX2_perform_58 ?_
        refine wg_play_onAt hX fl_X2_18 dX2_perform_59 ?_
        refine wa_iload_n hX 4 rfl rfl dX2_perform_62 ?_
        refine wa_iload_n hX 3 rfl rfl dX2_perform_63 ?_
        obtain ⟨hg, h⟩ := gu_some h
        refine ws_play_onAt hX hg dX2_perform_64 ?_
        refine wa_iinc hX (v := (v3 + 1)) (lv2 := [(3, .int (v3 + 1)), (5, .int (w.2.1 5 v4.toNatClampNeg)), (0, .ref (Ad X 4)), (1, .int v1), (2, .int v2), (4, .int v4)]) 4 rfl rfl (by decide) rfl dX2_perform_65 ?_
        refine wa_goto hX 152 (by decide) dX2_perform_68 ?_
        refine wa_sub (lv2 := [(0, .ref (Ad X 4)), (1, .int v1), (2, .int v2), (3, .int (v3 + 1)), (4, .int v4)]) [2, 3, 4, 0, 5] rfl ?_
        exact t_X2_perform_152 hX hE hk24 h
set_option maxRecDepth 100000 in
set_option maxHeartbeats 4000000 in
theorem m_X2_perform {w w1 : Wd} {p1 : Int32} (h : F_X2_perform w p1 = some w1) : Gv yX2_perform cX2_perform 7 none 2 44 (fun E => [.ref (E.2.1 4), .int p1]) w w1 := by
  refine Gv.of (hy := by decide +kernel) (hlen := fun _ => Nat.le_of_ble_eq_true rfl) (fun X hX hE => ?_)
  · unfold F_X2_perform at h
    refine (show Wa X w 0 [(0, .ref (Ad X 4)), (1, .int p1)] [] from ?_)
    refine wa_aload_n hX 0 rfl rfl dX2_perform_0 ?_
    refine wa_bipush hX (-6) kb_m6 dX2_perform_1 ?_
    refine wp_play_impossibleAt hX fl_X2_44 dX2_perform_3 ?_
    refine wa_aload_n hX 0 rfl rfl dX2_perform_6 ?_
    refine wa_bipush hX (-6) kb_m6 dX2_perform_7 ?_
    refine wp_play_why hX fl_X2_47 dX2_perform_9 ?_
    refine wa_aload_n hX 0 rfl rfl dX2_perform_12 ?_
    refine wa_iconst hX 0 ki_0 dX2_perform_13 ?_
    refine wp_play_met hX fl_X2_50 dX2_perform_14 ?_
    refine wa_iconst hX 0 ki_0 dX2_perform_17 ?_
    refine wa_istore_n hX (lv2 := [(2, .int 0), (0, .ref (Ad X 4)), (1, .int p1)]) rfl (by decide) rfl dX2_perform_18 ?_
    refine wa_iconst hX 0 ki_0 dX2_perform_19 ?_
    refine wa_istore_n hX (lv2 := [(3, .int 0), (2, .int 0), (0, .ref (Ad X 4)), (1, .int p1)]) rfl (by decide) rfl dX2_perform_20 ?_
    refine wa_iconst hX 0 ki_0 dX2_perform_21 ?_
    refine wa_istore hX (lv2 := [(4, .int 0), (3, .int 0), (2, .int 0), (0, .ref (Ad X 4)), (1, .int p1)]) (by decide) rfl dX2_perform_22 ?_
    refine wa_sub (lv2 := [(0, .ref (Ad X 4)), (1, .int p1), (2, .int 0), (3, .int 0), (4, .int 0)]) [3, 4, 2, 1, 0] rfl ?_
    exact t_X2_perform_24 hX hE  _ _ h
set_option maxRecDepth 100000 in
set_option maxHeartbeats 4000000 in
theorem m_X5_refusalOfEvents {w w1 : Wd} {r : Int32} (h : F_X5_refusalOfEvents w  = some (r, w1)) : Gi yX5_refusalOfEvents cX5_refusalOfEvents 1 (some .int) 3 70 (fun E => [.ref (E.2.1 0)]) w w1 r := by
  refine Gi.of (hy := by decide +kernel) (hlen := fun _ => Nat.le_of_ble_eq_true rfl) (fun X hX hE => ?_)
  · unfold F_X5_refusalOfEvents at h
    refine (show Wa X w 0 [(0, .ref (Ad X 0))] [] from ?_)
    refine wa_aload_n hX 0 rfl rfl dX5_refusalOfEvents_0 ?_
    refine wg_stage_play hX fl_X5_27 dX5_refusalOfEvents_1 ?_
    obtain ⟨x1, h2, h⟩ := obind h
    refine wa_callVv hX (m_X2_survey h2) cx_X2_survey ml_X5_77 (As := []) (rest := []) 4 (ce_play _ _) rfl rfl rfl rfl ⟨Nat.le_of_ble_eq_true rfl, Nat.le_of_ble_eq_true rfl⟩ (Nat.le_of_ble_eq_true rfl) dX5_refusalOfEvents_4 ?_
    refine wa_aload_n hX 0 rfl rfl dX5_refusalOfEvents_7 ?_
    refine wg_stage_play hX fl_X5_27 dX5_refusalOfEvents_8 ?_
    refine wgN_play_faultAt hX fn_X5_80 dX5_refusalOfEvents_11 ?_
    refine wa_bipush hX (-6) kb_m6 dX5_refusalOfEvents_14 ?_
    refine wa_icmp_eq hX 22 (by decide) dX5_refusalOfEvents_16 (fun c => ?_) (fun c => ?_)
    · replace h := itp c h
      refine wa_aload_n hX 0 rfl rfl dX5_refusalOfEvents_22 ?_
      refine wg_stage_play hX fl_X5_27 dX5_refusalOfEvents_23 ?_
      refine wgN_play_asked hX fn_X5_186 dX5_refusalOfEvents_26 ?_
      refine wa_if_le hX 35 (by decide) dX5_refusalOfEvents_29 (fun c => ?_) (fun c => ?_)
      · replace h := itp c h
        refine wa_aload_n hX 0 rfl rfl dX5_refusalOfEvents_35 ?_
        refine wg_stage_play hX fl_X5_27 dX5_refusalOfEvents_36 ?_
        refine wa_iconst hX 0 ki_0 dX5_refusalOfEvents_39 ?_
        obtain ⟨x2, h2, h⟩ := obind h
        refine wa_callVv hX (m_X2_perform h2) cx_X2_perform ml_X5_224 (As := [.int 0]) (rest := []) 4 (ce_play _ _) rfl rfl rfl rfl ⟨Nat.le_of_ble_eq_true rfl, Nat.le_of_ble_eq_true rfl⟩ (Nat.le_of_ble_eq_true rfl) dX5_refusalOfEvents_40 ?_
        refine wa_iconst hX 0 ki_0 dX5_refusalOfEvents_43 ?_
        exact ret_i hE h dX5_refusalOfEvents_44
      · replace h := itn c h
        refine wa_bipush hX (-3) kb_m3 dX5_refusalOfEvents_32 ?_
        exact ret_i hE h dX5_refusalOfEvents_34
    · replace h := itn c h
      refine wa_bipush hX (-5) kb_m5 dX5_refusalOfEvents_19 ?_
      exact ret_i hE h dX5_refusalOfEvents_21
set_option maxRecDepth 100000 in
set_option maxHeartbeats 4000000 in
theorem m_X3_holds {w w1 : Wd} {p1 : Int32} {p2 : Int32} {r : Int32} (h : F_X3_holds w p1 p2 = some (r, w1)) : Gi yX3_holds cX3_holds 3 (some .boolean) 0 0 (fun E => [.ref (E.2.1 8), .int p1, .int p2]) w w1 r := by
  refine Gi.of (hy := by decide +kernel) (hlen := fun _ => Nat.le_of_ble_eq_true rfl) (fun X hX hE => ?_)
  · unfold F_X3_holds at h
    refine (show Wa X w 0 [(0, .ref (Ad X 8)), (1, .int p1), (2, .int p2)] [] from ?_)
    refine wa_aload_n hX 0 rfl rfl dX3_holds_0 ?_
    refine wg_rules_law hX fl_X3_9 dX3_holds_1 ?_
    refine wa_if_ne hX 21 (by decide) dX3_holds_4 (fun c => ?_) (fun c => ?_)
    · replace h := itn c h
      refine wa_aload_n hX 0 rfl rfl dX3_holds_21 ?_
      refine wg_rules_law hX fl_X3_9 dX3_holds_22 ?_
      refine wa_iconst hX 1 ki_1 dX3_holds_25 ?_
      have hJ : Wa X w 54 [] [.int (if (w.1 8) = 1 then (if (p1 &&& 1) = 1 then (1 : Int32) else 0) else (if p1 < p2 then (0 : Int32) else 1))] := by
        obtain ⟨hg, h⟩ := gu_some h
        exact ret_z hE h (isB_or hg) dX3_holds_54
      refine wa_icmp_ne hX 44 (by decide) dX3_holds_26 (fun c => ?_) (fun c => ?_)
      · refine wa_iload_n hX 1 rfl rfl dX3_holds_44 ?_
        refine wa_iload_n hX 2 rfl rfl dX3_holds_45 ?_
        have hI : Wa X w 54 [] [.int (if p1 < p2 then (0 : Int32) else 1)] := by
          rw [show (if (w.1 8) = 1 then (if (p1 &&& 1) = 1 then (1 : Int32) else 0) else (if p1 < p2 then (0 : Int32) else 1)) = (if p1 < p2 then (0 : Int32) else 1) from if_neg c] at hJ
          exact hJ
        refine wa_icmp_lt hX 53 (by decide) dX3_holds_46 (fun c2 => ?_) (fun c2 => ?_)
        · refine wa_iconst hX 0 ki_0 dX3_holds_53 ?_
          refine wa_sub (lv2 := []) [] rfl ?_
          rw [show (if p1 < p2 then (0 : Int32) else 1) = 0 from if_pos c2] at hI
          exact hI
        · refine wa_iconst hX 1 ki_1 dX3_holds_49 ?_
          refine wa_goto hX 54 (by decide) dX3_holds_50 ?_
          refine wa_sub (lv2 := []) [] rfl ?_
          rw [show (if p1 < p2 then (0 : Int32) else 1) = 1 from if_neg c2] at hI
          exact hI
      · refine wa_iload_n hX 1 rfl rfl dX3_holds_29 ?_
        refine wa_iconst hX 1 ki_1 dX3_holds_30 ?_
        refine wa_iand hX dX3_holds_31 ?_
        refine wa_iconst hX 1 ki_1 dX3_holds_32 ?_
        have hI : Wa X w 54 [] [.int (if (p1 &&& 1) = 1 then (1 : Int32) else 0)] := by
          rw [show (if (w.1 8) = 1 then (if (p1 &&& 1) = 1 then (1 : Int32) else 0) else (if p1 < p2 then (0 : Int32) else 1)) = (if (p1 &&& 1) = 1 then (1 : Int32) else 0) from if_pos c] at hJ
          exact hJ
        refine wa_icmp_ne hX 40 (by decide) dX3_holds_33 (fun c2 => ?_) (fun c2 => ?_)
        · refine wa_iconst hX 0 ki_0 dX3_holds_40 ?_
          refine wa_goto hX 54 (by decide) dX3_holds_41 ?_
          refine wa_sub (lv2 := []) [] rfl ?_
          rw [show (if (p1 &&& 1) = 1 then (1 : Int32) else 0) = 0 from if_neg c2] at hI
          exact hI
        · refine wa_iconst hX 1 ki_1 dX3_holds_36 ?_
          refine wa_goto hX 54 (by decide) dX3_holds_37 ?_
          refine wa_sub (lv2 := []) [] rfl ?_
          rw [show (if (p1 &&& 1) = 1 then (1 : Int32) else 0) = 1 from if_pos c2] at hI
          exact hI
    · replace h := itp c h
      refine wa_iload_n hX 1 rfl rfl dX3_holds_7 ?_
      refine wa_aload_n hX 0 rfl rfl dX3_holds_8 ?_
      refine wg_rules_k hX fl_X3_15 dX3_holds_9 ?_
      have hJ : Wa X w 20 [] [.int (if p1 = (w.1 9) then (1 : Int32) else 0)] := by
        obtain ⟨hg, h⟩ := gu_some h
        exact ret_z hE h (isB_or hg) dX3_holds_20
      refine wa_icmp_ne hX 19 (by decide) dX3_holds_12 (fun c => ?_) (fun c => ?_)
      · refine wa_iconst hX 0 ki_0 dX3_holds_19 ?_
        refine wa_sub (lv2 := []) [] rfl ?_
        rw [show (if p1 = (w.1 9) then (1 : Int32) else 0) = 0 from if_neg c] at hJ
        exact hJ
      · refine wa_iconst hX 1 ki_1 dX3_holds_15 ?_
        refine wa_goto hX 20 (by decide) dX3_holds_16 ?_
        refine wa_sub (lv2 := []) [] rfl ?_
        rw [show (if p1 = (w.1 9) then (1 : Int32) else 0) = 1 from if_pos c] at hJ
        exact hJ
set_option maxRecDepth 100000 in
set_option maxHeartbeats 4000000 in
theorem t_X3_firstAgainstLaw_7 {X : Fx} (hX : Cx X cX3_firstAgainstLaw RX3 5 1 22) {r : Int32} {w1 : Wd} (hE : ∀ pc lv, decode cX3_firstAgainstLaw pc = .ok (.ireturn, 1) → narrow .int (.int r) = .int r → Wa X w1 pc lv [.int r])  : ∀ (n : Nat) (a : Wd × Int32 × Int32), L_X3_firstAgainstLaw_7  n a = some (r, w1) → Wa X a.1 7 [(0, .ref (Ad X 8)), (1, .ref (Ad X 4)), (2, .int a.2.1), (3, .int a.2.2)] [] := by
  refine it_mach (P := fun (a : Wd × Int32 × Int32) => Wa X a.1 7 [(0, .ref (Ad X 8)), (1, .ref (Ad X 4)), (2, .int a.2.1), (3, .int a.2.2)] []) ?_
  intro k7 hk7 a h
  obtain ⟨w, v2, v3⟩ := a
  have h : F_X3_firstAgainstLaw_7 k7 w v2 v3 = some (r, w1) := h
  show Wa X w 7 [(0, .ref (Ad X 8)), (1, .ref (Ad X 4)), (2, .int v2), (3, .int v3)] []
  unfold F_X3_firstAgainstLaw_7 at h
  refine wa_iload_n hX 3 rfl rfl dX3_firstAgainstLaw_7 ?_
  refine wa_aload_n hX 1 rfl rfl dX3_firstAgainstLaw_8 ?_
  refine wgN_play_lineCount hX fn_X3_49 dX3_firstAgainstLaw_9 ?_
  refine wa_icmp_ge hX 44 (by decide) dX3_firstAgainstLaw_12 (fun c => ?_) (fun c => ?_)
  · replace h := itp c h
    refine wa_bipush hX (-6) kb_m6 dX3_firstAgainstLaw_44 ?_
    exact ret_i hE h dX3_firstAgainstLaw_46
  · replace h := itn c h
    refine wa_aload_n hX 1 rfl rfl dX3_firstAgainstLaw_15 ?_
    refine wgN_play_manyAt hX fn_X3_54 dX3_firstAgainstLaw_16 ?_
    refine wa_iload_n hX 3 rfl rfl dX3_firstAgainstLaw_19 ?_
    obtain ⟨hg, h⟩ := gu_some h
    refine wl_play_manyAt hX hg dX3_firstAgainstLaw_20 ?_
    refine wa_istore hX (lv2 := [(4, .int (w.2.1 6 v3.toNatClampNeg)), (0, .ref (Ad X 8)), (1, .ref (Ad X 4)), (2, .int v2), (3, .int v3)]) (by decide) rfl dX3_firstAgainstLaw_21 ?_
    refine wa_aload_n hX 1 rfl rfl dX3_firstAgainstLaw_23 ?_
    refine wa_iload hX 0 rfl dX3_firstAgainstLaw_24 ?_
    refine wa_iload_n hX 3 rfl rfl dX3_firstAgainstLaw_26 ?_
    obtain ⟨x1, h2, h⟩ := obind h
    refine wa_callVi hX (m_X3_holds h2) cx_X3_holds ml_X3_57 (As := [.int (w.2.1 6 v3.toNatClampNeg), .int v2]) (rest := []) 8 (ce_rules _ _) rfl rfl rfl rfl ⟨Nat.le_of_ble_eq_true rfl, Nat.le_of_ble_eq_true rfl⟩ (Nat.le_of_ble_eq_true rfl) dX3_firstAgainstLaw_27 ?_
    refine wa_if_ne hX 35 (by decide) dX3_firstAgainstLaw_30 (fun c => ?_) (fun c => ?_)
    · replace h := itn c h
      refine wa_iload hX 0 rfl dX3_firstAgainstLaw_35 ?_
      refine wa_istore_n hX (lv2 := [(2, .int (w.2.1 6 v3.toNatClampNeg)), (4, .int (w.2.1 6 v3.toNatClampNeg)), (0, .ref (Ad X 8)), (1, .ref (Ad X 4)), (3, .int v3)]) rfl (by decide) rfl dX3_firstAgainstLaw_37 ?_
      refine wa_iinc hX (v := (v3 + 1)) (lv2 := [(3, .int (v3 + 1)), (2, .int (w.2.1 6 v3.toNatClampNeg)), (4, .int (w.2.1 6 v3.toNatClampNeg)), (0, .ref (Ad X 8)), (1, .ref (Ad X 4))]) 4 rfl rfl (by decide) rfl dX3_firstAgainstLaw_38 ?_
      refine wa_goto hX 7 (by decide) dX3_firstAgainstLaw_41 ?_
      refine wa_sub (lv2 := [(0, .ref (Ad X 8)), (1, .ref (Ad X 4)), (2, .int (w.2.1 6 v3.toNatClampNeg)), (3, .int (v3 + 1))]) [3, 4, 1, 0] rfl ?_
      exact hk7 _ h
    · replace h := itp c h
      refine wa_iload_n hX 4 rfl rfl dX3_firstAgainstLaw_33 ?_
      exact ret_i hE h dX3_firstAgainstLaw_34
set_option maxRecDepth 100000 in
set_option maxHeartbeats 4000000 in
theorem m_X3_firstAgainstLaw {w w1 : Wd} {r : Int32} (h : F_X3_firstAgainstLaw w  = some (r, w1)) : Gi yX3_firstAgainstLaw cX3_firstAgainstLaw 5 (some .int) 1 22 (fun E => [.ref (E.2.1 8), .ref (E.2.1 4)]) w w1 r := by
  refine Gi.of (hy := by decide +kernel) (hlen := fun _ => Nat.le_of_ble_eq_true rfl) (fun X hX hE => ?_)
  · unfold F_X3_firstAgainstLaw at h
    refine (show Wa X w 0 [(0, .ref (Ad X 8)), (1, .ref (Ad X 4))] [] from ?_)
    refine wa_aload_n hX 0 rfl rfl dX3_firstAgainstLaw_0 ?_
    refine wg_rules_k hX fl_X3_15 dX3_firstAgainstLaw_1 ?_
    refine wa_istore_n hX (lv2 := [(2, .int (w.1 9)), (0, .ref (Ad X 8)), (1, .ref (Ad X 4))]) rfl (by decide) rfl dX3_firstAgainstLaw_4 ?_
    refine wa_iconst hX 0 ki_0 dX3_firstAgainstLaw_5 ?_
    refine wa_istore_n hX (lv2 := [(3, .int 0), (2, .int (w.1 9)), (0, .ref (Ad X 8)), (1, .ref (Ad X 4))]) rfl (by decide) rfl dX3_firstAgainstLaw_6 ?_
    refine wa_sub (lv2 := [(0, .ref (Ad X 8)), (1, .ref (Ad X 4)), (2, .int (w.1 9)), (3, .int 0)]) [2, 3, 1, 0] rfl ?_
    exact t_X3_firstAgainstLaw_7 hX hE  _ _ h
set_option maxRecDepth 100000 in
set_option maxHeartbeats 4000000 in
theorem m_X5_refusalOfLines {w w1 : Wd} {r : Int32} (h : F_X5_refusalOfLines w  = some (r, w1)) : Gi yX5_refusalOfLines cX5_refusalOfLines 2 (some .int) 4 90 (fun E => [.ref (E.2.1 0)]) w w1 r := by
  refine Gi.of (hy := by decide +kernel) (hlen := fun _ => Nat.le_of_ble_eq_true rfl) (fun X hX hE => ?_)
  · unfold F_X5_refusalOfLines at h
    refine (show Wa X w 0 [(0, .ref (Ad X 0))] [] from ?_)
    refine wa_aload_n hX 0 rfl rfl dX5_refusalOfLines_0 ?_
    obtain ⟨x1, h2, h⟩ := obind h
    refine wa_callVi hX (m_X5_refusalOfEvents h2) cx_X5_refusalOfEvents ml_X5_87 (As := []) (rest := []) 0 (ce_stage _ _) rfl rfl rfl rfl ⟨Nat.le_of_ble_eq_true rfl, Nat.le_of_ble_eq_true rfl⟩ (Nat.le_of_ble_eq_true rfl) dX5_refusalOfLines_1 ?_
    refine wa_istore_n hX (lv2 := [(1, .int x1.1), (0, .ref (Ad X 0))]) rfl (by decide) rfl dX5_refusalOfLines_4 ?_
    refine wa_iload_n hX 0 rfl rfl dX5_refusalOfLines_5 ?_
    have hJ : Wa X x1.2 24 [(1, .int (if x1.1 = 0 then (if (x1.2.1 5) = (-6) then x1.1 else (-5)) else x1.1))] [] := by
      refine wa_iload_n hX 0 rfl rfl dX5_refusalOfLines_24 ?_
      exact ret_i hE h dX5_refusalOfLines_25
    refine wa_if_ne hX 24 (by decide) dX5_refusalOfLines_6 (fun c => ?_) (fun c => ?_)
    · refine wa_sub (lv2 := [(1, .int x1.1)]) [0] rfl ?_
      rw [show (if x1.1 = 0 then (if (x1.2.1 5) = (-6) then x1.1 else (-5)) else x1.1) = x1.1 from if_neg c] at hJ
      exact hJ
    · refine wa_aload_n hX 1 rfl rfl dX5_refusalOfLines_9 ?_
      refine wg_stage_play hX fl_X5_27 dX5_refusalOfLines_10 ?_
      refine wgN_play_impossibleAt hX fn_X5_90 dX5_refusalOfLines_13 ?_
      refine wa_bipush hX (-6) kb_m6 dX5_refusalOfLines_16 ?_
      have hI : Wa X x1.2 24 [(1, .int (if (x1.2.1 5) = (-6) then x1.1 else (-5)))] [] := by
        rw [show (if x1.1 = 0 then (if (x1.2.1 5) = (-6) then x1.1 else (-5)) else x1.1) = (if (x1.2.1 5) = (-6) then x1.1 else (-5)) from if_pos c] at hJ
        exact hJ
      refine wa_icmp_eq hX 24 (by decide) dX5_refusalOfLines_18 (fun c2 => ?_) (fun c2 => ?_)
      · refine wa_sub (lv2 := [(1, .int x1.1)]) [0] rfl ?_
        rw [show (if (x1.2.1 5) = (-6) then x1.1 else (-5)) = x1.1 from if_pos c2] at hI
        exact hI
      · refine wa_bipush hX (-5) kb_m5 dX5_refusalOfLines_21 ?_
        refine wa_istore_n hX (lv2 := [(1, .int (-5)), (0, .ref (Ad X 0))]) rfl (by decide) rfl dX5_refusalOfLines_23 ?_
        refine wa_sub (lv2 := [(1, .int (-5))]) [0] rfl ?_
        rw [show (if (x1.2.1 5) = (-6) then x1.1 else (-5)) = (-5) from if_neg c2] at hI
        exact hI
set_option maxRecDepth 100000 in
set_option maxHeartbeats 4000000 in
theorem t_X5_judge_72 {X : Fx} (hX : Cx X cX5_judge RX5 3 5 111) {r : Int32} {w1 : Wd} (hE : ∀ pc lv, decode cX5_judge pc = .ok (.ireturn, 1) → narrow .int (.int r) = .int r → Wa X w1 pc lv [.int r])  {w : Wd} {s0 : Int32} (h : F_X5_judge_72 w s0 = some (r, w1)) : Wa X w 72 [] [.int s0] := by
  unfold F_X5_judge_72 at h
  exact ret_i hE h dX5_judge_72
set_option maxRecDepth 100000 in
set_option maxHeartbeats 4000000 in
theorem t_X5_judge_27 {X : Fx} (hX : Cx X cX5_judge RX5 3 5 111) {r : Int32} {w1 : Wd} (hE : ∀ pc lv, decode cX5_judge pc = .ok (.ireturn, 1) → narrow .int (.int r) = .int r → Wa X w1 pc lv [.int r])  {w : Wd} {v1 : Int32} {s0 : Int32} (h : F_X5_judge_27 w v1 s0 = some (r, w1)) : Wa X w 27 [(0, .ref (Ad X 0)), (1, .int v1)] [.int s0] := by
  unfold F_X5_judge_27 at h
  refine wa_istore_n hX (lv2 := [(2, .int s0), (0, .ref (Ad X 0)), (1, .int v1)]) rfl (by decide) rfl dX5_judge_27 ?_
  refine wa_iload_n hX 0 rfl rfl dX5_judge_28 ?_
  refine wa_if_eq hX 34 (by decide) dX5_judge_29 (fun c => ?_) (fun c => ?_)
  · replace h := itp c h
    refine wa_iload_n hX 2 rfl rfl dX5_judge_34 ?_
    refine wa_if_ne hX 46 (by decide) dX5_judge_35 (fun c => ?_) (fun c => ?_)
    · replace h := itn c h
      refine wa_iload_n hX 2 rfl rfl dX5_judge_46 ?_
      refine wa_iconst hX 1 ki_1 dX5_judge_47 ?_
      refine wa_icmp_ne hX 61 (by decide) dX5_judge_48 (fun c => ?_) (fun c => ?_)
      · replace h := itn c h
        refine wa_aload_n hX 1 rfl rfl dX5_judge_61 ?_
        refine wg_stage_rules hX fl_X5_10 dX5_judge_62 ?_
        refine wa_aload_n hX 1 rfl rfl dX5_judge_65 ?_
        refine wg_stage_play hX fl_X5_27 dX5_judge_66 ?_
        obtain ⟨x3, h2, h⟩ := obind h
        refine wa_callVi hX (m_X3_firstAgainstLaw h2) cx_X3_firstAgainstLaw ml_X5_96 (As := [.ref (Ad X 4)]) (rest := []) 8 (ce_rules _ _) rfl rfl rfl rfl ⟨Nat.le_of_ble_eq_true rfl, Nat.le_of_ble_eq_true rfl⟩ (Nat.le_of_ble_eq_true rfl) dX5_judge_69 ?_
        refine wa_sub (lv2 := []) [] rfl ?_
        exact t_X5_judge_72 hX hE  h
      · replace h := itp c h
        refine wa_aload_n hX 1 rfl rfl dX5_judge_51 ?_
        refine wg_stage_play hX fl_X5_27 dX5_judge_52 ?_
        refine wgN_play_why hX fn_X5_93 dX5_judge_55 ?_
        refine wa_goto hX 72 (by decide) dX5_judge_58 ?_
        refine wa_sub (lv2 := []) [] rfl ?_
        exact t_X5_judge_72 hX hE  h
    · replace h := itp c h
      refine wa_aload_n hX 1 rfl rfl dX5_judge_38 ?_
      refine wg_stage_play hX fl_X5_27 dX5_judge_39 ?_
      refine wgN_play_impossibleAt hX fn_X5_90 dX5_judge_42 ?_
      exact ret_i hE h dX5_judge_45
  · replace h := itn c h
    refine wa_iload_n hX 0 rfl rfl dX5_judge_32 ?_
    exact ret_i hE h dX5_judge_33
set_option maxRecDepth 100000 in
set_option maxHeartbeats 4000000 in
theorem m_X5_judge {w w1 : Wd} {p1 : Int32} {r : Int32} (h : F_X5_judge w p1 = some (r, w1)) : Gi yX5_judge cX5_judge 3 (some .int) 5 111 (fun E => [.ref (E.2.1 0), .int p1]) w w1 r := by
  refine Gi.of (hy := by decide +kernel) (hlen := fun _ => Nat.le_of_ble_eq_true rfl) (fun X hX hE => ?_)
  · unfold F_X5_judge at h
    refine (show Wa X w 0 [(0, .ref (Ad X 0)), (1, .int p1)] [] from ?_)
    refine wa_iload_n hX 1 rfl rfl dX5_judge_0 ?_
    refine wa_iconst hX 2 ki_2 dX5_judge_1 ?_
    obtain ⟨x1, h2, h⟩ := obind h
    refine wa_callSi hX (m_X5_isWithin h2) cx_X5_isWithin ml_X5_56 (As := [.int p1, .int 2]) (rest := []) rfl rfl rfl ⟨Nat.le_of_ble_eq_true rfl, Nat.le_of_ble_eq_true rfl⟩ (Nat.le_of_ble_eq_true rfl) dX5_judge_2 ?_
    refine wa_if_ne hX 11 (by decide) dX5_judge_5 (fun c => ?_) (fun c => ?_)
    · replace h := itn c h
      refine wa_iload_n hX 1 rfl rfl dX5_judge_11 ?_
      refine wa_iconst hX 2 ki_2 dX5_judge_12 ?_
      refine wa_icmp_ne hX 23 (by decide) dX5_judge_13 (fun c => ?_) (fun c => ?_)
      · replace h := itn c h
        refine wa_aload_n hX 0 rfl rfl dX5_judge_23 ?_
        obtain ⟨x2, h2, h⟩ := obind h
        refine wa_callVi hX (m_X5_refusalOfEvents h2) cx_X5_refusalOfEvents ml_X5_87 (As := []) (rest := []) 0 (ce_stage _ _) rfl rfl rfl rfl ⟨Nat.le_of_ble_eq_true rfl, Nat.le_of_ble_eq_true rfl⟩ (Nat.le_of_ble_eq_true rfl) dX5_judge_24 ?_
        exact t_X5_judge_27 hX hE  h
      · replace h := itp c h
        refine wa_aload_n hX 0 rfl rfl dX5_judge_16 ?_
        obtain ⟨x4, h2, h⟩ := obind h
        refine wa_callVi hX (m_X5_refusalOfLines h2) cx_X5_refusalOfLines ml_X5_83 (As := []) (rest := []) 0 (ce_stage _ _) rfl rfl rfl rfl ⟨Nat.le_of_ble_eq_true rfl, Nat.le_of_ble_eq_true rfl⟩ (Nat.le_of_ble_eq_true rfl) dX5_judge_17 ?_
        refine wa_goto hX 27 (by decide) dX5_judge_20 ?_
        exact t_X5_judge_27 hX hE  h
    · replace h := itp c h
      refine wa_bipush hX (-2) kb_m2 dX5_judge_8 ?_
      exact ret_i hE h dX5_judge_10
set_option maxRecDepth 100000 in
set_option maxHeartbeats 4000000 in
theorem m_X5_isLine {w w1 : Wd} {p1 : Int32} {r : Int32} (h : F_X5_isLine w p1 = some (r, w1)) : Gi yX5_isLine cX5_isLine 2 (some .boolean) 0 0 (fun E => [.ref (E.2.1 0), .int p1]) w w1 r := by
  refine Gi.of (hy := by decide +kernel) (hlen := fun _ => Nat.le_of_ble_eq_true rfl) (fun X hX hE => ?_)
  · unfold F_X5_isLine at h
    refine (show Wa X w 0 [(0, .ref (Ad X 0)), (1, .int p1)] [] from ?_)
    refine wa_iload_n hX 1 rfl rfl dX5_isLine_0 ?_
    have hJ : Wa X w 20 [] [.int (if p1 < 0 then 0 else (if (w.1 4) ≤ p1 then (0 : Int32) else 1))] := by
      obtain ⟨hg, h⟩ := gu_some h
      exact ret_z hE h (isB_or hg) dX5_isLine_20
    refine wa_if_lt hX 19 (by decide) dX5_isLine_1 (fun c => ?_) (fun c => ?_)
    · refine wa_iconst hX 0 ki_0 dX5_isLine_19 ?_
      refine wa_sub (lv2 := []) [] rfl ?_
      rw [show (if p1 < 0 then 0 else (if (w.1 4) ≤ p1 then (0 : Int32) else 1)) = 0 from if_pos c] at hJ
      exact hJ
    · refine wa_iload_n hX 1 rfl rfl dX5_isLine_4 ?_
      refine wa_aload_n hX 0 rfl rfl dX5_isLine_5 ?_
      refine wg_stage_play hX fl_X5_27 dX5_isLine_6 ?_
      refine wgN_play_lineCount hX fn_X5_110 dX5_isLine_9 ?_
      have hI : Wa X w 20 [] [.int (if (w.1 4) ≤ p1 then (0 : Int32) else 1)] := by
        rw [show (if p1 < 0 then 0 else (if (w.1 4) ≤ p1 then (0 : Int32) else 1)) = (if (w.1 4) ≤ p1 then (0 : Int32) else 1) from if_neg c] at hJ
        exact hJ
      refine wa_icmp_ge hX 19 (by decide) dX5_isLine_12 (fun c2 => ?_) (fun c2 => ?_)
      · refine wa_iconst hX 0 ki_0 dX5_isLine_19 ?_
        refine wa_sub (lv2 := []) [] rfl ?_
        rw [show (if (w.1 4) ≤ p1 then (0 : Int32) else 1) = 0 from if_pos c2] at hI
        exact hI
      · refine wa_iconst hX 1 ki_1 dX5_isLine_15 ?_
        refine wa_goto hX 20 (by decide) dX5_isLine_16 ?_
        refine wa_sub (lv2 := []) [] rfl ?_
        rw [show (if (w.1 4) ≤ p1 then (0 : Int32) else 1) = 1 from if_neg c2] at hI
        exact hI
set_option maxRecDepth 100000 in
set_option maxHeartbeats 4000000 in
theorem t_X5_on_33 {X : Fx} (hX : Cx X cX5_on RX5 3 5 111) {r : Int32} {w1 : Wd} (hE : ∀ pc lv, decode cX5_on pc = .ok (.ireturn, 1) → narrow .int (.int r) = .int r → Wa X w1 pc lv [.int r])  {w : Wd} {s0 : Int32} (h : F_X5_on_33 w s0 = some (r, w1)) : Wa X w 33 [] [.int s0] := by
  unfold F_X5_on_33 at h
  exact ret_i hE h dX5_on_33
set_option maxRecDepth 100000 in
set_option maxHeartbeats 4000000 in
theorem m_X5_on {w w1 : Wd} {p1 : Int32} {r : Int32} (h : F_X5_on w p1 = some (r, w1)) : Gi yX5_on cX5_on 3 (some .int) 5 111 (fun E => [.ref (E.2.1 0), .int p1]) w w1 r := by
  refine Gi.of (hy := by decide +kernel) (hlen := fun _ => Nat.le_of_ble_eq_true rfl) (fun X hX hE => ?_)
  · unfold F_X5_on at h
    refine (show Wa X w 0 [(0, .ref (Ad X 0)), (1, .int p1)] [] from ?_)
    refine wa_aload_n hX 0 rfl rfl dX5_on_0 ?_
    obtain ⟨x1, h2, h⟩ := obind h
    refine wa_callVi hX (m_X5_refusalOfLines h2) cx_X5_refusalOfLines ml_X5_83 (As := []) (rest := []) 0 (ce_stage _ _) rfl rfl rfl rfl ⟨Nat.le_of_ble_eq_true rfl, Nat.le_of_ble_eq_true rfl⟩ (Nat.le_of_ble_eq_true rfl) dX5_on_1 ?_
    refine wa_istore_n hX (lv2 := [(2, .int x1.1), (0, .ref (Ad X 0)), (1, .int p1)]) rfl (by decide) rfl dX5_on_4 ?_
    refine wa_iload_n hX 0 rfl rfl dX5_on_5 ?_
    refine wa_if_eq hX 11 (by decide) dX5_on_6 (fun c => ?_) (fun c => ?_)
    · replace h := itp c h
      refine wa_aload_n hX 1 rfl rfl dX5_on_11 ?_
      refine wa_iload_n hX 2 rfl rfl dX5_on_12 ?_
      obtain ⟨x2, h2, h⟩ := obind h
      refine wa_callVi hX (m_X5_isLine h2) cx_X5_isLine ml_X5_100 (As := [.int p1]) (rest := []) 0 (ce_stage _ _) rfl rfl rfl rfl ⟨Nat.le_of_ble_eq_true rfl, Nat.le_of_ble_eq_true rfl⟩ (Nat.le_of_ble_eq_true rfl) dX5_on_13 ?_
      refine wa_if_eq hX 31 (by decide) dX5_on_16 (fun c => ?_) (fun c => ?_)
      · replace h := itp c h
        refine wa_bipush hX (-2) kb_m2 dX5_on_31 ?_
        refine wa_sub (lv2 := []) [] rfl ?_
        exact t_X5_on_33 hX hE  h
      · replace h := itn c h
        refine wa_aload_n hX 1 rfl rfl dX5_on_19 ?_
        refine wg_stage_play hX fl_X5_27 dX5_on_20 ?_
        refine wgN_play_onAt hX fn_X5_104 dX5_on_23 ?_
        refine wa_iload_n hX 2 rfl rfl dX5_on_26 ?_
        obtain ⟨hg, h⟩ := gu_some h
        refine wl_play_onAt hX hg dX5_on_27 ?_
        refine wa_goto hX 33 (by decide) dX5_on_28 ?_
        refine wa_sub (lv2 := []) [] rfl ?_
        exact t_X5_on_33 hX hE  h
    · replace h := itn c h
      refine wa_iload_n hX 0 rfl rfl dX5_on_9 ?_
      exact ret_i hE h dX5_on_10
set_option maxRecDepth 100000 in
set_option maxHeartbeats 4000000 in
theorem t_X2_linesOf_5 {X : Fx} (hX : Cx X cX2_linesOf RX2 5 0 0) {r : Int64} {w1 : Wd} (hE : ∀ pc lv, decode cX2_linesOf pc = .ok (.lreturn, 1) → Wa X w1 pc lv [.long r])  : ∀ (n : Nat) (a : Wd × Int32 × Int64 × Int32), L_X2_linesOf_5  n a = some (r, w1) → Wa X a.1 5 [(0, .ref (Ad X 4)), (1, .int a.2.1), (2, .long a.2.2.1), (4, .int a.2.2.2)] [] := by
  refine it_mach (P := fun (a : Wd × Int32 × Int64 × Int32) => Wa X a.1 5 [(0, .ref (Ad X 4)), (1, .int a.2.1), (2, .long a.2.2.1), (4, .int a.2.2.2)] []) ?_
  intro k5 hk5 a h
  obtain ⟨w, v1, v2, v4⟩ := a
  have h : F_X2_linesOf_5 k5 w v1 v2 v4 = some (r, w1) := h
  show Wa X w 5 [(0, .ref (Ad X 4)), (1, .int v1), (2, .long v2), (4, .int v4)] []
  unfold F_X2_linesOf_5 at h
  refine wa_iload hX 3 rfl dX2_linesOf_5 ?_
  refine wa_aload_n hX 0 rfl rfl dX2_linesOf_7 ?_
  refine wg_play_lineCount hX fl_X2_34 dX2_linesOf_8 ?_
  refine wa_icmp_ge hX 38 (by decide) dX2_linesOf_11 (fun c => ?_) (fun c => ?_)
  · replace h := itp c h
    refine wa_lload_n hX 2 rfl rfl dX2_linesOf_38 ?_
    exact ret_l hE h dX2_linesOf_39
  · replace h := itn c h
    refine wa_lload_n hX 2 rfl rfl dX2_linesOf_14 ?_
    refine wa_aload_n hX 0 rfl rfl dX2_linesOf_15 ?_
    refine wg_play_onAt hX fl_X2_18 dX2_linesOf_16 ?_
    refine wa_iload hX 3 rfl dX2_linesOf_19 ?_
    obtain ⟨hg, h⟩ := gu_some h
    refine wl_play_onAt hX hg dX2_linesOf_21 ?_
    refine wa_iload_n hX 1 rfl rfl dX2_linesOf_22 ?_
    refine wa_ishr hX dX2_linesOf_23 ?_
    refine wa_iconst hX 1 ki_1 dX2_linesOf_24 ?_
    refine wa_iand hX dX2_linesOf_25 ?_
    refine wa_i2l hX dX2_linesOf_26 ?_
    refine wa_iload hX 3 rfl dX2_linesOf_27 ?_
    refine wa_lshl hX dX2_linesOf_29 ?_
    refine wa_lor hX dX2_linesOf_30 ?_
    refine wa_letl h (fun y1 h => ?_)
    refine wa_lstore_n hX (lv2 := [(2, .long y1), (0, .ref (Ad X 4)), (1, .int v1), (4, .int v4)]) rfl (by decide) rfl dX2_linesOf_31 ?_
    refine wa_iinc hX (v := (v4 + 1)) (lv2 := [(4, .int (v4 + 1)), (2, .long y1), (0, .ref (Ad X 4)), (1, .int v1)]) 3 rfl rfl (by decide) rfl dX2_linesOf_32 ?_
    refine wa_goto hX 5 (by decide) dX2_linesOf_35 ?_
    refine wa_sub (lv2 := [(0, .ref (Ad X 4)), (1, .int v1), (2, .long y1), (4, .int (v4 + 1))]) [2, 3, 1, 0] rfl ?_
    exact hk5 _ h
set_option maxRecDepth 100000 in
set_option maxHeartbeats 4000000 in
theorem m_X2_linesOf {w w1 : Wd} {p1 : Int32} {r : Int64} (h : F_X2_linesOf w p1 = some (r, w1)) : Gl yX2_linesOf cX2_linesOf 5 (some .long) 0 0 (fun E => [.ref (E.2.1 4), .int p1]) w w1 r := by
  refine Gl.of (hy := by decide +kernel) (hlen := fun _ => Nat.le_of_ble_eq_true rfl) (fun X hX hE => ?_)
  · unfold F_X2_linesOf at h
    refine (show Wa X w 0 [(0, .ref (Ad X 4)), (1, .int p1)] [] from ?_)
    refine wa_lconst hX 0 rfl dX2_linesOf_0 ?_
    refine wa_lstore_n hX (lv2 := [(2, .long 0), (0, .ref (Ad X 4)), (1, .int p1)]) rfl (by decide) rfl dX2_linesOf_1 ?_
    refine wa_iconst hX 0 ki_0 dX2_linesOf_2 ?_
    refine wa_istore hX (lv2 := [(4, .int 0), (2, .long 0), (0, .ref (Ad X 4)), (1, .int p1)]) (by decide) rfl dX2_linesOf_3 ?_
    refine wa_sub (lv2 := [(0, .ref (Ad X 4)), (1, .int p1), (2, .long 0), (4, .int 0)]) [2, 3, 1, 0] rfl ?_
    exact t_X2_linesOf_5 hX hE  _ _ h
set_option maxRecDepth 100000 in
set_option maxHeartbeats 4000000 in
theorem m_J13_bitCount {w w1 : Wd} {p0 : Int64} {r : Int32} (h : F_J13_bitCount w p0 = some (r, w1)) : Gi yJ13_bitCount_95d88 cJ13_bitCount_95d88 2 (some .int) 0 0 (fun E => [.long p0]) w w1 r := by
  refine Gi.of (hy := by decide +kernel) (hlen := fun _ => Nat.le_of_ble_eq_true rfl) (fun X hX hE => ?_)
  · unfold F_J13_bitCount at h
    refine (show Wa X w 0 [(0, .long p0)] [] from ?_)
    refine wa_lload_n hX 0 rfl rfl dJ13_bitCount_95d88_0 ?_
    refine wa_lload_n hX 0 rfl rfl dJ13_bitCount_95d88_1 ?_
    refine wa_iconst hX 1 ki_1 dJ13_bitCount_95d88_2 ?_
    refine wa_lushr hX dJ13_bitCount_95d88_3 ?_
    refine wa_ldc2 hX kc_J13_314 dJ13_bitCount_95d88_4 ?_
    refine wa_land hX dJ13_bitCount_95d88_7 ?_
    refine wa_lsub hX dJ13_bitCount_95d88_8 ?_
    refine wa_letl h (fun y1 h => ?_)
    refine wa_lstore_n hX (lv2 := [(0, .long y1)]) rfl (by decide) rfl dJ13_bitCount_95d88_9 ?_
    refine wa_lload_n hX 0 rfl rfl dJ13_bitCount_95d88_10 ?_
    refine wa_ldc2 hX kc_J13_316 dJ13_bitCount_95d88_11 ?_
    refine wa_land hX dJ13_bitCount_95d88_14 ?_
    refine wa_lload_n hX 0 rfl rfl dJ13_bitCount_95d88_15 ?_
    refine wa_iconst hX 2 ki_2 dJ13_bitCount_95d88_16 ?_
    refine wa_lushr hX dJ13_bitCount_95d88_17 ?_
    refine wa_ldc2 hX kc_J13_316 dJ13_bitCount_95d88_18 ?_
    refine wa_land hX dJ13_bitCount_95d88_21 ?_
    refine wa_ladd hX dJ13_bitCount_95d88_22 ?_
    refine wa_letl h (fun y2 h => ?_)
    refine wa_lstore_n hX (lv2 := [(0, .long y2)]) rfl (by decide) rfl dJ13_bitCount_95d88_23 ?_
    refine wa_lload_n hX 0 rfl rfl dJ13_bitCount_95d88_24 ?_
    refine wa_lload_n hX 0 rfl rfl dJ13_bitCount_95d88_25 ?_
    refine wa_iconst hX 4 ki_4 dJ13_bitCount_95d88_26 ?_
    refine wa_lushr hX dJ13_bitCount_95d88_27 ?_
    refine wa_ladd hX dJ13_bitCount_95d88_28 ?_
    refine wa_ldc2 hX kc_J13_318 dJ13_bitCount_95d88_29 ?_
    refine wa_land hX dJ13_bitCount_95d88_32 ?_
    refine wa_letl h (fun y3 h => ?_)
    refine wa_lstore_n hX (lv2 := [(0, .long y3)]) rfl (by decide) rfl dJ13_bitCount_95d88_33 ?_
    refine wa_lload_n hX 0 rfl rfl dJ13_bitCount_95d88_34 ?_
    refine wa_lload_n hX 0 rfl rfl dJ13_bitCount_95d88_35 ?_
    refine wa_bipush hX 8 kb_8 dJ13_bitCount_95d88_36 ?_
    refine wa_lushr hX dJ13_bitCount_95d88_38 ?_
    refine wa_ladd hX dJ13_bitCount_95d88_39 ?_
    refine wa_lstore_n hX (lv2 := [(0, .long (y3 + (lushr y3 8)))]) rfl (by decide) rfl dJ13_bitCount_95d88_40 ?_
    refine wa_lload_n hX 0 rfl rfl dJ13_bitCount_95d88_41 ?_
    refine wa_lload_n hX 0 rfl rfl dJ13_bitCount_95d88_42 ?_
    refine wa_bipush hX 16 kb_16 dJ13_bitCount_95d88_43 ?_
    refine wa_lushr hX dJ13_bitCount_95d88_45 ?_
    refine wa_ladd hX dJ13_bitCount_95d88_46 ?_
    refine wa_letl h (fun y4 h => ?_)
    refine wa_lstore_n hX (lv2 := [(0, .long y4)]) rfl (by decide) rfl dJ13_bitCount_95d88_47 ?_
    refine wa_lload_n hX 0 rfl rfl dJ13_bitCount_95d88_48 ?_
    refine wa_lload_n hX 0 rfl rfl dJ13_bitCount_95d88_49 ?_
    refine wa_bipush hX 32 kb_32 dJ13_bitCount_95d88_50 ?_
    refine wa_lushr hX dJ13_bitCount_95d88_52 ?_
    refine wa_ladd hX dJ13_bitCount_95d88_53 ?_
    refine wa_lstore_n hX (lv2 := [(0, .long (y4 + (lushr y4 32)))]) rfl (by decide) rfl dJ13_bitCount_95d88_54 ?_
    refine wa_lload_n hX 0 rfl rfl dJ13_bitCount_95d88_55 ?_
    refine wa_l2i hX dJ13_bitCount_95d88_56 ?_
    refine wa_bipush hX 127 kb_127 dJ13_bitCount_95d88_57 ?_
    refine wa_iand hX dJ13_bitCount_95d88_59 ?_
    exact ret_i hE h dJ13_bitCount_95d88_60
set_option maxRecDepth 100000 in
set_option maxHeartbeats 4000000 in
theorem t_X5_lines_12 {X : Fx} (hX : Cx X cX5_lines RX5 3 5 111) {r : Int32} {w1 : Wd} (hE : ∀ pc lv, decode cX5_lines pc = .ok (.ireturn, 1) → narrow .int (.int r) = .int r → Wa X w1 pc lv [.int r])  {w : Wd} (h : F_X5_lines_12 w = some (r, w1)) : Wa X w 12 [] [] := by
  unfold F_X5_lines_12 at h
  refine wa_iconst hX (-1) ki_m1 dX5_lines_12 ?_
  exact ret_i hE h dX5_lines_13
set_option maxRecDepth 100000 in
set_option maxHeartbeats 4000000 in
theorem t_X5_lines_65 {X : Fx} (hX : Cx X cX5_lines RX5 3 5 111) {r : Int32} {w1 : Wd} (hE : ∀ pc lv, decode cX5_lines pc = .ok (.ireturn, 1) → narrow .int (.int r) = .int r → Wa X w1 pc lv [.int r])  {w : Wd} {s0 : Int32} (h : F_X5_lines_65 w s0 = some (r, w1)) : Wa X w 65 [] [.int s0] := by
  unfold F_X5_lines_65 at h
  exact ret_i hE h dX5_lines_65
set_option maxRecDepth 100000 in
set_option maxHeartbeats 4000000 in
theorem m_X5_lines {w w1 : Wd} {p1 : Int32} {r : Int32} (h : F_X5_lines w p1 = some (r, w1)) : Gi yX5_lines cX5_lines 3 (some .int) 5 111 (fun E => [.ref (E.2.1 0), .int p1]) w w1 r := by
  refine Gi.of (hy := by decide +kernel) (hlen := fun _ => Nat.le_of_ble_eq_true rfl) (fun X hX hE => ?_)
  · unfold F_X5_lines at h
    refine (show Wa X w 0 [(0, .ref (Ad X 0)), (1, .int p1)] [] from ?_)
    refine wa_iload_n hX 1 rfl rfl dX5_lines_0 ?_
    refine wa_bipush hX (-2) kb_m2 dX5_lines_1 ?_
    refine wa_icmp_lt hX 12 (by decide) dX5_lines_3 (fun c => ?_) (fun c => ?_)
    · replace h := itp c h
      refine wa_sub (lv2 := []) [] rfl ?_
      exact t_X5_lines_12 hX hE  h
    · replace h := itn c h
      refine wa_iload_n hX 1 rfl rfl dX5_lines_6 ?_
      refine wa_bipush hX 8 kb_8 dX5_lines_7 ?_
      refine wa_icmp_lt hX 14 (by decide) dX5_lines_9 (fun c => ?_) (fun c => ?_)
      · replace h := itp c h
        refine wa_aload_n hX 0 rfl rfl dX5_lines_14 ?_
        obtain ⟨x1, h2, h⟩ := obind h
        refine wa_callVi hX (m_X5_refusalOfLines h2) cx_X5_refusalOfLines ml_X5_83 (As := []) (rest := []) 0 (ce_stage _ _) rfl rfl rfl rfl ⟨Nat.le_of_ble_eq_true rfl, Nat.le_of_ble_eq_true rfl⟩ (Nat.le_of_ble_eq_true rfl) dX5_lines_15 ?_
        refine wa_istore_n hX (lv2 := [(2, .int x1.1), (0, .ref (Ad X 0)), (1, .int p1)]) rfl (by decide) rfl dX5_lines_18 ?_
        refine wa_iload_n hX 0 rfl rfl dX5_lines_19 ?_
        refine wa_if_eq hX 25 (by decide) dX5_lines_20 (fun c => ?_) (fun c => ?_)
        · replace h := itp c h
          refine wa_iload_n hX 2 rfl rfl dX5_lines_25 ?_
          refine wa_bipush hX (-2) kb_m2 dX5_lines_26 ?_
          refine wa_icmp_ne hX 39 (by decide) dX5_lines_28 (fun c => ?_) (fun c => ?_)
          · replace h := itn c h
            refine wa_iload_n hX 2 rfl rfl dX5_lines_39 ?_
            refine wa_iconst hX (-1) ki_m1 dX5_lines_40 ?_
            refine wa_icmp_ne hX 54 (by decide) dX5_lines_41 (fun c => ?_) (fun c => ?_)
            · replace h := itn c h
              refine wa_aload_n hX 1 rfl rfl dX5_lines_54 ?_
              refine wg_stage_play hX fl_X5_27 dX5_lines_55 ?_
              refine wa_iload_n hX 2 rfl rfl dX5_lines_58 ?_
              obtain ⟨x2, h2, h⟩ := obind h
              refine wa_callVl hX (m_X2_linesOf h2) cx_X2_linesOf ml_X5_113 (As := [.int p1]) (rest := []) 4 (ce_play _ _) rfl rfl rfl rfl ⟨Nat.le_of_ble_eq_true rfl, Nat.le_of_ble_eq_true rfl⟩ (Nat.le_of_ble_eq_true rfl) dX5_lines_59 ?_
              obtain ⟨x3, h2, h⟩ := obind h
              refine wa_callSi hX (m_J13_bitCount h2) cx_J13_bitCount_95d88 ml_X5_117 (As := [.long x2.1]) (rest := []) rfl rfl rfl ⟨Nat.le_of_ble_eq_true rfl, Nat.le_of_ble_eq_true rfl⟩ (Nat.le_of_ble_eq_true rfl) dX5_lines_62 ?_
              refine wa_sub (lv2 := []) [] rfl ?_
              exact t_X5_lines_65 hX hE  h
            · replace h := itp c h
              refine wa_aload_n hX 1 rfl rfl dX5_lines_44 ?_
              refine wg_stage_play hX fl_X5_27 dX5_lines_45 ?_
              refine wgN_play_lineCount hX fn_X5_110 dX5_lines_48 ?_
              refine wa_goto hX 65 (by decide) dX5_lines_51 ?_
              refine wa_sub (lv2 := []) [] rfl ?_
              exact t_X5_lines_65 hX hE  h
          · replace h := itp c h
            refine wa_aload_n hX 1 rfl rfl dX5_lines_31 ?_
            refine wg_stage_play hX fl_X5_27 dX5_lines_32 ?_
            refine wgN_play_comings hX fn_X5_107 dX5_lines_35 ?_
            exact ret_i hE h dX5_lines_38
        · replace h := itn c h
          refine wa_iload_n hX 0 rfl rfl dX5_lines_23 ?_
          exact ret_i hE h dX5_lines_24
      · replace h := itn c h
        refine wa_sub (lv2 := []) [] rfl ?_
        exact t_X5_lines_12 hX hE  h
set_option maxRecDepth 100000 in
set_option maxHeartbeats 4000000 in
theorem m_X5_isPart {w w1 : Wd} {p0 : Int32} {r : Int32} (h : F_X5_isPart w p0 = some (r, w1)) : Gi yX5_isPart cX5_isPart 1 (some .boolean) 0 0 (fun E => [.int p0]) w w1 r := by
  refine Gi.of (hy := by decide +kernel) (hlen := fun _ => Nat.le_of_ble_eq_true rfl) (fun X hX hE => ?_)
  · unfold F_X5_isPart at h
    refine (show Wa X w 0 [(0, .int p0)] [] from ?_)
    refine wa_iload_n hX 0 rfl rfl dX5_isPart_0 ?_
    have hJ : Wa X w 15 [] [.int (if p0 < 0 then 0 else (if 8 ≤ p0 then (0 : Int32) else 1))] := by
      obtain ⟨hg, h⟩ := gu_some h
      exact ret_z hE h (isB_or hg) dX5_isPart_15
    refine wa_if_lt hX 14 (by decide) dX5_isPart_1 (fun c => ?_) (fun c => ?_)
    · refine wa_iconst hX 0 ki_0 dX5_isPart_14 ?_
      refine wa_sub (lv2 := []) [] rfl ?_
      rw [show (if p0 < 0 then 0 else (if 8 ≤ p0 then (0 : Int32) else 1)) = 0 from if_pos c] at hJ
      exact hJ
    · refine wa_iload_n hX 0 rfl rfl dX5_isPart_4 ?_
      refine wa_bipush hX 8 kb_8 dX5_isPart_5 ?_
      have hI : Wa X w 15 [] [.int (if 8 ≤ p0 then (0 : Int32) else 1)] := by
        rw [show (if p0 < 0 then 0 else (if 8 ≤ p0 then (0 : Int32) else 1)) = (if 8 ≤ p0 then (0 : Int32) else 1) from if_neg c] at hJ
        exact hJ
      refine wa_icmp_ge hX 14 (by decide) dX5_isPart_7 (fun c2 => ?_) (fun c2 => ?_)
      · refine wa_iconst hX 0 ki_0 dX5_isPart_14 ?_
        refine wa_sub (lv2 := []) [] rfl ?_
        rw [show (if 8 ≤ p0 then (0 : Int32) else 1) = 0 from if_pos c2] at hI
        exact hI
      · refine wa_iconst hX 1 ki_1 dX5_isPart_10 ?_
        refine wa_goto hX 15 (by decide) dX5_isPart_11 ?_
        refine wa_sub (lv2 := []) [] rfl ?_
        rw [show (if 8 ≤ p0 then (0 : Int32) else 1) = 1 from if_neg c2] at hI
        exact hI
set_option maxRecDepth 100000 in
set_option maxHeartbeats 4000000 in
theorem t_X3_setPair_rules_apart_57 {X : Fx} (hX : Cx X cX3_setPair RX3 6 0 0) {w1 : Wd} (hE : ∀ pc lv, decode cX3_setPair pc = .ok (.return_, 1) → Wa X w1 pc lv [])  {w : Wd} {s0 : Int32} {s1 : Int32} (h : F_X3_setPair_rules_apart_57 w s0 s1 = some w1) : Wa X w 57 [] [.int s0, .int s1, .ref (Ad X 9)] := by
  unfold F_X3_setPair_rules_apart_57 at h
  obtain ⟨hg, h⟩ := gu_some h
  refine ws_rules_apart hX hg dX3_setPair_57 ?_
  exact ret_v hE h dX3_setPair_58
set_option maxRecDepth 100000 in
set_option maxHeartbeats 4000000 in
theorem t_X3_setPair_rules_apart_33 {X : Fx} (hX : Cx X cX3_setPair RX3 6 0 0) {w1 : Wd} (hE : ∀ pc lv, decode cX3_setPair pc = .ok (.return_, 1) → Wa X w1 pc lv [])  {w : Wd} {v2 : Int32} {v3 : Int32} {v4 : Int32} {s0 : Int32} {s1 : Int32} (h : F_X3_setPair_rules_apart_33 w v2 v3 v4 s0 s1 = some w1) : Wa X w 33 [(0, .ref (Ad X 9)), (2, .int v2), (3, .int v3), (4, .int v4)] [.int s0, .int s1, .ref (Ad X 9)] := by
  unfold F_X3_setPair_rules_apart_33 at h
  obtain ⟨hg, h⟩ := gu_some h
  refine ws_rules_apart hX hg dX3_setPair_33 ?_
  refine wa_aload_n hX 0 rfl rfl dX3_setPair_34 ?_
  refine wa_iload_n hX 1 rfl rfl dX3_setPair_35 ?_
  refine wa_iload_n hX 2 rfl rfl dX3_setPair_36 ?_
  refine wa_if_eq hX 49 (by decide) dX3_setPair_37 (fun c => ?_) (fun c => ?_)
  · replace h := itp c h
    refine wa_aload_n hX 0 rfl rfl dX3_setPair_49 ?_
    refine wa_iload_n hX 1 rfl rfl dX3_setPair_50 ?_
    obtain ⟨hg, h⟩ := gu_some h
    refine wl_rules_apart hX hg dX3_setPair_51 ?_
    refine wa_iload hX 3 rfl dX3_setPair_52 ?_
    refine wa_iconst hX (-1) ki_m1 dX3_setPair_54 ?_
    refine wa_ixor hX dX3_setPair_55 ?_
    refine wa_iand hX dX3_setPair_56 ?_
    refine wa_sub (lv2 := []) [] rfl ?_
    exact t_X3_setPair_rules_apart_57 hX hE  h
  · replace h := itn c h
    refine wa_aload_n hX 0 rfl rfl dX3_setPair_40 ?_
    refine wa_iload_n hX 1 rfl rfl dX3_setPair_41 ?_
    obtain ⟨hg, h⟩ := gu_some h
    refine wl_rules_apart hX hg dX3_setPair_42 ?_
    refine wa_iload hX 3 rfl dX3_setPair_43 ?_
    refine wa_ior hX dX3_setPair_45 ?_
    refine wa_goto hX 57 (by decide) dX3_setPair_46 ?_
    refine wa_sub (lv2 := []) [] rfl ?_
    exact t_X3_setPair_rules_apart_57 hX hE  h
set_option maxRecDepth 100000 in
set_option maxHeartbeats 4000000 in
theorem m_X3_setPair_rules_apart {w w1 : Wd} {p1 : Int32} {p2 : Int32} {p3 : Int32} (h : F_X3_setPair_rules_apart w p1 p2 p3 = some w1) : Gv yX3_setPair cX3_setPair 6 none 0 0 (fun E => [.ref (E.2.1 9), .int p1, .int p2, .int p3]) w w1 := by
  refine Gv.of (hy := by decide +kernel) (hlen := fun _ => Nat.le_of_ble_eq_true rfl) (fun X hX hE => ?_)
  · unfold F_X3_setPair_rules_apart at h
    refine (show Wa X w 0 [(0, .ref (Ad X 9)), (1, .int p1), (2, .int p2), (3, .int p3)] [] from ?_)
    refine wa_iconst hX 1 ki_1 dX3_setPair_0 ?_
    refine wa_iload_n hX 1 rfl rfl dX3_setPair_1 ?_
    refine wa_ishl hX dX3_setPair_2 ?_
    refine wa_istore hX (lv2 := [(4, .int (1 <<< (p1 &&& 31))), (0, .ref (Ad X 9)), (1, .int p1), (2, .int p2), (3, .int p3)]) (by decide) rfl dX3_setPair_3 ?_
    refine wa_iconst hX 1 ki_1 dX3_setPair_5 ?_
    refine wa_iload_n hX 3 rfl rfl dX3_setPair_6 ?_
    refine wa_ishl hX dX3_setPair_7 ?_
    refine wa_istore hX (lv2 := [(5, .int (1 <<< (p2 &&& 31))), (4, .int (1 <<< (p1 &&& 31))), (0, .ref (Ad X 9)), (1, .int p1), (2, .int p2), (3, .int p3)]) (by decide) rfl dX3_setPair_8 ?_
    refine wa_aload_n hX 2 rfl rfl dX3_setPair_10 ?_
    refine wa_iload_n hX 3 rfl rfl dX3_setPair_11 ?_
    refine wa_iload_n hX 5 rfl rfl dX3_setPair_12 ?_
    refine wa_if_eq hX 25 (by decide) dX3_setPair_13 (fun c => ?_) (fun c => ?_)
    · replace h := itp c h
      refine wa_aload_n hX 2 rfl rfl dX3_setPair_25 ?_
      refine wa_iload_n hX 3 rfl rfl dX3_setPair_26 ?_
      obtain ⟨hg, h⟩ := gu_some h
      refine wl_rules_apart hX hg dX3_setPair_27 ?_
      refine wa_iload hX 0 rfl dX3_setPair_28 ?_
      refine wa_iconst hX (-1) ki_m1 dX3_setPair_30 ?_
      refine wa_ixor hX dX3_setPair_31 ?_
      refine wa_iand hX dX3_setPair_32 ?_
      refine wa_sub (lv2 := [(0, .ref (Ad X 9)), (2, .int p2), (3, .int p3), (4, .int (1 <<< (p1 &&& 31)))]) [2, 4, 5, 1] rfl ?_
      exact t_X3_setPair_rules_apart_33 hX hE  h
    · replace h := itn c h
      refine wa_aload_n hX 2 rfl rfl dX3_setPair_16 ?_
      refine wa_iload_n hX 3 rfl rfl dX3_setPair_17 ?_
      obtain ⟨hg, h⟩ := gu_some h
      refine wl_rules_apart hX hg dX3_setPair_18 ?_
      refine wa_iload hX 0 rfl dX3_setPair_19 ?_
      refine wa_ior hX dX3_setPair_21 ?_
      refine wa_goto hX 33 (by decide) dX3_setPair_22 ?_
      refine wa_sub (lv2 := [(0, .ref (Ad X 9)), (2, .int p2), (3, .int p3), (4, .int (1 <<< (p1 &&& 31)))]) [2, 4, 5, 1] rfl ?_
      exact t_X3_setPair_rules_apart_33 hX hE  h
set_option maxRecDepth 100000 in
set_option maxHeartbeats 4000000 in
theorem t_X3_setPair_rules_together_57 {X : Fx} (hX : Cx X cX3_setPair RX3 6 0 0) {w1 : Wd} (hE : ∀ pc lv, decode cX3_setPair pc = .ok (.return_, 1) → Wa X w1 pc lv [])  {w : Wd} {s0 : Int32} {s1 : Int32} (h : F_X3_setPair_rules_together_57 w s0 s1 = some w1) : Wa X w 57 [] [.int s0, .int s1, .ref (Ad X 10)] := by
  unfold F_X3_setPair_rules_together_57 at h
  obtain ⟨hg, h⟩ := gu_some h
  refine ws_rules_together hX hg dX3_setPair_57 ?_
  exact ret_v hE h dX3_setPair_58
set_option maxRecDepth 100000 in
set_option maxHeartbeats 4000000 in
theorem t_X3_setPair_rules_together_33 {X : Fx} (hX : Cx X cX3_setPair RX3 6 0 0) {w1 : Wd} (hE : ∀ pc lv, decode cX3_setPair pc = .ok (.return_, 1) → Wa X w1 pc lv [])  {w : Wd} {v2 : Int32} {v3 : Int32} {v4 : Int32} {s0 : Int32} {s1 : Int32} (h : F_X3_setPair_rules_together_33 w v2 v3 v4 s0 s1 = some w1) : Wa X w 33 [(0, .ref (Ad X 10)), (2, .int v2), (3, .int v3), (4, .int v4)] [.int s0, .int s1, .ref (Ad X 10)] := by
  unfold F_X3_setPair_rules_together_33 at h
  obtain ⟨hg, h⟩ := gu_some h
  refine ws_rules_together hX hg dX3_setPair_33 ?_
  refine wa_aload_n hX 0 rfl rfl dX3_setPair_34 ?_
  refine wa_iload_n hX 1 rfl rfl dX3_setPair_35 ?_
  refine wa_iload_n hX 2 rfl rfl dX3_setPair_36 ?_
  refine wa_if_eq hX 49 (by decide) dX3_setPair_37 (fun c => ?_) (fun c => ?_)
  · replace h := itp c h
    refine wa_aload_n hX 0 rfl rfl dX3_setPair_49 ?_
    refine wa_iload_n hX 1 rfl rfl dX3_setPair_50 ?_
    obtain ⟨hg, h⟩ := gu_some h
    refine wl_rules_together hX hg dX3_setPair_51 ?_
    refine wa_iload hX 3 rfl dX3_setPair_52 ?_
    refine wa_iconst hX (-1) ki_m1 dX3_setPair_54 ?_
    refine wa_ixor hX dX3_setPair_55 ?_
    refine wa_iand hX dX3_setPair_56 ?_
    refine wa_sub (lv2 := []) [] rfl ?_
    exact t_X3_setPair_rules_together_57 hX hE  h
  · replace h := itn c h
    refine wa_aload_n hX 0 rfl rfl dX3_setPair_40 ?_
    refine wa_iload_n hX 1 rfl rfl dX3_setPair_41 ?_
    obtain ⟨hg, h⟩ := gu_some h
    refine wl_rules_together hX hg dX3_setPair_42 ?_
    refine wa_iload hX 3 rfl dX3_setPair_43 ?_
    refine wa_ior hX dX3_setPair_45 ?_
    refine wa_goto hX 57 (by decide) dX3_setPair_46 ?_
    refine wa_sub (lv2 := []) [] rfl ?_
    exact t_X3_setPair_rules_together_57 hX hE  h
set_option maxRecDepth 100000 in
set_option maxHeartbeats 4000000 in
theorem m_X3_setPair_rules_together {w w1 : Wd} {p1 : Int32} {p2 : Int32} {p3 : Int32} (h : F_X3_setPair_rules_together w p1 p2 p3 = some w1) : Gv yX3_setPair cX3_setPair 6 none 0 0 (fun E => [.ref (E.2.1 10), .int p1, .int p2, .int p3]) w w1 := by
  refine Gv.of (hy := by decide +kernel) (hlen := fun _ => Nat.le_of_ble_eq_true rfl) (fun X hX hE => ?_)
  · unfold F_X3_setPair_rules_together at h
    refine (show Wa X w 0 [(0, .ref (Ad X 10)), (1, .int p1), (2, .int p2), (3, .int p3)] [] from ?_)
    refine wa_iconst hX 1 ki_1 dX3_setPair_0 ?_
    refine wa_iload_n hX 1 rfl rfl dX3_setPair_1 ?_
    refine wa_ishl hX dX3_setPair_2 ?_
    refine wa_istore hX (lv2 := [(4, .int (1 <<< (p1 &&& 31))), (0, .ref (Ad X 10)), (1, .int p1), (2, .int p2), (3, .int p3)]) (by decide) rfl dX3_setPair_3 ?_
    refine wa_iconst hX 1 ki_1 dX3_setPair_5 ?_
    refine wa_iload_n hX 3 rfl rfl dX3_setPair_6 ?_
    refine wa_ishl hX dX3_setPair_7 ?_
    refine wa_istore hX (lv2 := [(5, .int (1 <<< (p2 &&& 31))), (4, .int (1 <<< (p1 &&& 31))), (0, .ref (Ad X 10)), (1, .int p1), (2, .int p2), (3, .int p3)]) (by decide) rfl dX3_setPair_8 ?_
    refine wa_aload_n hX 2 rfl rfl dX3_setPair_10 ?_
    refine wa_iload_n hX 3 rfl rfl dX3_setPair_11 ?_
    refine wa_iload_n hX 5 rfl rfl dX3_setPair_12 ?_
    refine wa_if_eq hX 25 (by decide) dX3_setPair_13 (fun c => ?_) (fun c => ?_)
    · replace h := itp c h
      refine wa_aload_n hX 2 rfl rfl dX3_setPair_25 ?_
      refine wa_iload_n hX 3 rfl rfl dX3_setPair_26 ?_
      obtain ⟨hg, h⟩ := gu_some h
      refine wl_rules_together hX hg dX3_setPair_27 ?_
      refine wa_iload hX 0 rfl dX3_setPair_28 ?_
      refine wa_iconst hX (-1) ki_m1 dX3_setPair_30 ?_
      refine wa_ixor hX dX3_setPair_31 ?_
      refine wa_iand hX dX3_setPair_32 ?_
      refine wa_sub (lv2 := [(0, .ref (Ad X 10)), (2, .int p2), (3, .int p3), (4, .int (1 <<< (p1 &&& 31)))]) [2, 4, 5, 1] rfl ?_
      exact t_X3_setPair_rules_together_33 hX hE  h
    · replace h := itn c h
      refine wa_aload_n hX 2 rfl rfl dX3_setPair_16 ?_
      refine wa_iload_n hX 3 rfl rfl dX3_setPair_17 ?_
      obtain ⟨hg, h⟩ := gu_some h
      refine wl_rules_together hX hg dX3_setPair_18 ?_
      refine wa_iload hX 0 rfl dX3_setPair_19 ?_
      refine wa_ior hX dX3_setPair_21 ?_
      refine wa_goto hX 33 (by decide) dX3_setPair_22 ?_
      refine wa_sub (lv2 := [(0, .ref (Ad X 10)), (2, .int p2), (3, .int p3), (4, .int (1 <<< (p1 &&& 31)))]) [2, 4, 5, 1] rfl ?_
      exact t_X3_setPair_rules_together_33 hX hE  h
set_option maxRecDepth 100000 in
set_option maxHeartbeats 4000000 in
theorem t_X3_setTogether_40 {X : Fx} (hX : Cx X cX3_setTogether RX3 5 1 25) {r : Int32} {w1 : Wd} (hE : ∀ pc lv, decode cX3_setTogether pc = .ok (.ireturn, 1) → narrow .int (.int r) = .int r → Wa X w1 pc lv [.int r])  {w : Wd} {v1 : Int32} {v2 : Int32} {v3 : Int32} {v4 : Int32} (h : F_X3_setTogether_40 w v1 v2 v3 v4 = some (r, w1)) : Wa X w 40 [(0, .ref (Ad X 8)), (1, .int v1), (2, .int v2), (3, .int v3), (4, .int v4)] [] := by
  unfold F_X3_setTogether_40 at h
  refine wa_aload_n hX 0 rfl rfl dX3_setTogether_40 ?_
  refine wg_rules_apart hX fl_X3_18 dX3_setTogether_41 ?_
  refine wa_iload_n hX 1 rfl rfl dX3_setTogether_44 ?_
  refine wa_iload_n hX 2 rfl rfl dX3_setTogether_45 ?_
  refine wa_iload_n hX 3 rfl rfl dX3_setTogether_46 ?_
  refine wa_iconst hX 1 ki_1 dX3_setTogether_47 ?_
  have hJ : Wa X w 56 [(0, .ref (Ad X 8)), (1, .int v1), (2, .int v2), (3, .int v3), (4, .int v4)] [.int (if v3 = 1 then (1 : Int32) else 0), .int v2, .int v1, .ref (Ad X 9)] := by
    obtain ⟨x1, h2, h⟩ := obind h
    refine wa_callSv hX (m_X3_setPair_rules_apart h2) cx_X3_setPair ml_X3_61 (As := [.ref (Ad X 9), .int v1, .int v2, .int (if v3 = 1 then (1 : Int32) else 0)]) (rest := []) rfl rfl rfl ⟨Nat.le_of_ble_eq_true rfl, Nat.le_of_ble_eq_true rfl⟩ (Nat.le_of_ble_eq_true rfl) dX3_setTogether_56 ?_
    refine wa_aload_n hX 0 rfl rfl dX3_setTogether_59 ?_
    refine wg_rules_together hX fl_X3_22 dX3_setTogether_60 ?_
    refine wa_iload_n hX 1 rfl rfl dX3_setTogether_63 ?_
    refine wa_iload_n hX 2 rfl rfl dX3_setTogether_64 ?_
    refine wa_iload_n hX 3 rfl rfl dX3_setTogether_65 ?_
    refine wa_iconst hX 2 ki_2 dX3_setTogether_66 ?_
    have hJ : Wa X x1 75 [(4, .int v4)] [.int (if v3 = 2 then (1 : Int32) else 0), .int v2, .int v1, .ref (Ad X 10)] := by
      obtain ⟨x2, h2, h⟩ := obind h
      refine wa_callSv hX (m_X3_setPair_rules_together h2) cx_X3_setPair ml_X3_61 (As := [.ref (Ad X 10), .int v1, .int v2, .int (if v3 = 2 then (1 : Int32) else 0)]) (rest := []) rfl rfl rfl ⟨Nat.le_of_ble_eq_true rfl, Nat.le_of_ble_eq_true rfl⟩ (Nat.le_of_ble_eq_true rfl) dX3_setTogether_75 ?_
      refine wa_iload hX 0 rfl dX3_setTogether_78 ?_
      exact ret_i hE h dX3_setTogether_80
    refine wa_icmp_ne hX 74 (by decide) dX3_setTogether_67 (fun c => ?_) (fun c => ?_)
    · refine wa_iconst hX 0 ki_0 dX3_setTogether_74 ?_
      refine wa_sub (lv2 := [(4, .int v4)]) [4] rfl ?_
      rw [show (if v3 = 2 then (1 : Int32) else 0) = 0 from if_neg c] at hJ
      exact hJ
    · refine wa_iconst hX 1 ki_1 dX3_setTogether_70 ?_
      refine wa_goto hX 75 (by decide) dX3_setTogether_71 ?_
      refine wa_sub (lv2 := [(4, .int v4)]) [4] rfl ?_
      rw [show (if v3 = 2 then (1 : Int32) else 0) = 1 from if_pos c] at hJ
      exact hJ
  refine wa_icmp_ne hX 55 (by decide) dX3_setTogether_48 (fun c => ?_) (fun c => ?_)
  · refine wa_iconst hX 0 ki_0 dX3_setTogether_55 ?_
    rw [show (if v3 = 1 then (1 : Int32) else 0) = 0 from if_neg c] at hJ
    exact hJ
  · refine wa_iconst hX 1 ki_1 dX3_setTogether_51 ?_
    refine wa_goto hX 56 (by decide) dX3_setTogether_52 ?_
    rw [show (if v3 = 1 then (1 : Int32) else 0) = 1 from if_pos c] at hJ
    exact hJ
set_option maxRecDepth 100000 in
set_option maxHeartbeats 4000000 in
theorem m_X3_setTogether {w w1 : Wd} {p1 : Int32} {p2 : Int32} {p3 : Int32} {r : Int32} (h : F_X3_setTogether w p1 p2 p3 = some (r, w1)) : Gi yX3_setTogether cX3_setTogether 5 (some .int) 1 25 (fun E => [.ref (E.2.1 8), .int p1, .int p2, .int p3]) w w1 r := by
  refine Gi.of (hy := by decide +kernel) (hlen := fun _ => Nat.le_of_ble_eq_true rfl) (fun X hX hE => ?_)
  · unfold F_X3_setTogether at h
    refine (show Wa X w 0 [(0, .ref (Ad X 8)), (1, .int p1), (2, .int p2), (3, .int p3)] [] from ?_)
    refine wa_iconst hX 0 ki_0 dX3_setTogether_0 ?_
    refine wa_istore hX (lv2 := [(4, .int 0), (0, .ref (Ad X 8)), (1, .int p1), (2, .int p2), (3, .int p3)]) (by decide) rfl dX3_setTogether_1 ?_
    refine wa_aload_n hX 1 rfl rfl dX3_setTogether_3 ?_
    refine wg_rules_apart hX fl_X3_18 dX3_setTogether_4 ?_
    refine wa_iload_n hX 2 rfl rfl dX3_setTogether_7 ?_
    obtain ⟨hg, h⟩ := gu_some h
    refine wl_rules_apart hX hg dX3_setTogether_8 ?_
    refine wa_iload_n hX 3 rfl rfl dX3_setTogether_9 ?_
    refine wa_ishr hX dX3_setTogether_10 ?_
    refine wa_iconst hX 1 ki_1 dX3_setTogether_11 ?_
    refine wa_iand hX dX3_setTogether_12 ?_
    refine wa_iconst hX 1 ki_1 dX3_setTogether_13 ?_
    refine wa_icmp_ne hX 23 (by decide) dX3_setTogether_14 (fun c => ?_) (fun c => ?_)
    · replace h := itn c h
      refine wa_aload_n hX 1 rfl rfl dX3_setTogether_23 ?_
      refine wg_rules_together hX fl_X3_22 dX3_setTogether_24 ?_
      refine wa_iload_n hX 2 rfl rfl dX3_setTogether_27 ?_
      obtain ⟨hg, h⟩ := gu_some h
      refine wl_rules_together hX hg dX3_setTogether_28 ?_
      refine wa_iload_n hX 3 rfl rfl dX3_setTogether_29 ?_
      refine wa_ishr hX dX3_setTogether_30 ?_
      refine wa_iconst hX 1 ki_1 dX3_setTogether_31 ?_
      refine wa_iand hX dX3_setTogether_32 ?_
      refine wa_iconst hX 1 ki_1 dX3_setTogether_33 ?_
      have hJ : Wa X w 40 [(0, .ref (Ad X 8)), (1, .int p1), (2, .int p2), (3, .int p3), (4, .int (if ((w.2.1 10 p1.toNatClampNeg >>> (p2 &&& 31)) &&& 1) = 1 then (2 : Int32) else 0))] [] := by
        exact t_X3_setTogether_40 hX hE  h
      refine wa_icmp_ne hX 40 (by decide) dX3_setTogether_34 (fun c => ?_) (fun c => ?_)
      · refine wa_sub (lv2 := [(0, .ref (Ad X 8)), (1, .int p1), (2, .int p2), (3, .int p3), (4, .int 0)]) [1, 2, 3, 4, 0] rfl ?_
        rw [show (if ((w.2.1 10 p1.toNatClampNeg >>> (p2 &&& 31)) &&& 1) = 1 then (2 : Int32) else 0) = 0 from if_neg c] at hJ
        exact hJ
      · refine wa_iconst hX 2 ki_2 dX3_setTogether_37 ?_
        refine wa_istore hX (lv2 := [(4, .int 2), (0, .ref (Ad X 8)), (1, .int p1), (2, .int p2), (3, .int p3)]) (by decide) rfl dX3_setTogether_38 ?_
        refine wa_sub (lv2 := [(0, .ref (Ad X 8)), (1, .int p1), (2, .int p2), (3, .int p3), (4, .int 2)]) [1, 2, 3, 4, 0] rfl ?_
        rw [show (if ((w.2.1 10 p1.toNatClampNeg >>> (p2 &&& 31)) &&& 1) = 1 then (2 : Int32) else 0) = 2 from if_pos c] at hJ
        exact hJ
    · replace h := itp c h
      refine wa_iconst hX 1 ki_1 dX3_setTogether_17 ?_
      refine wa_istore hX (lv2 := [(4, .int 1), (0, .ref (Ad X 8)), (1, .int p1), (2, .int p2), (3, .int p3)]) (by decide) rfl dX3_setTogether_18 ?_
      refine wa_goto hX 40 (by decide) dX3_setTogether_20 ?_
      refine wa_sub (lv2 := [(0, .ref (Ad X 8)), (1, .int p1), (2, .int p2), (3, .int p3), (4, .int 1)]) [1, 2, 3, 4, 0] rfl ?_
      exact t_X3_setTogether_40 hX hE  h
set_option maxRecDepth 100000 in
set_option maxHeartbeats 4000000 in
theorem t_X5_may_19 {X : Fx} (hX : Cx X cX5_may RX5 4 2 49) {r : Int32} {w1 : Wd} (hE : ∀ pc lv, decode cX5_may pc = .ok (.ireturn, 1) → narrow .int (.int r) = .int r → Wa X w1 pc lv [.int r])  {w : Wd} (h : F_X5_may_19 w = some (r, w1)) : Wa X w 19 [] [] := by
  unfold F_X5_may_19 at h
  refine wa_iconst hX (-1) ki_m1 dX5_may_19 ?_
  exact ret_i hE h dX5_may_20
set_option maxRecDepth 100000 in
set_option maxHeartbeats 4000000 in
theorem m_X5_may {w w1 : Wd} {p1 : Int32} {p2 : Int32} {p3 : Int32} {r : Int32} (h : F_X5_may w p1 p2 p3 = some (r, w1)) : Gi yX5_may cX5_may 4 (some .int) 2 49 (fun E => [.ref (E.2.1 0), .int p1, .int p2, .int p3]) w w1 r := by
  refine Gi.of (hy := by decide +kernel) (hlen := fun _ => Nat.le_of_ble_eq_true rfl) (fun X hX hE => ?_)
  · unfold F_X5_may at h
    refine (show Wa X w 0 [(0, .ref (Ad X 0)), (1, .int p1), (2, .int p2), (3, .int p3)] [] from ?_)
    refine wa_iload_n hX 1 rfl rfl dX5_may_0 ?_
    obtain ⟨x1, h2, h⟩ := obind h
    refine wa_callSi hX (m_X5_isPart h2) cx_X5_isPart ml_X5_123 (As := [.int p1]) (rest := []) rfl rfl rfl ⟨Nat.le_of_ble_eq_true rfl, Nat.le_of_ble_eq_true rfl⟩ (Nat.le_of_ble_eq_true rfl) dX5_may_1 ?_
    refine wa_if_eq hX 19 (by decide) dX5_may_4 (fun c => ?_) (fun c => ?_)
    · replace h := itp c h
      refine wa_sub (lv2 := []) [] rfl ?_
      exact t_X5_may_19 hX hE  h
    · replace h := itn c h
      refine wa_iload_n hX 2 rfl rfl dX5_may_7 ?_
      obtain ⟨x2, h2, h⟩ := obind h
      refine wa_callSi hX (m_X5_isPart h2) cx_X5_isPart ml_X5_123 (As := [.int p2]) (rest := []) rfl rfl rfl ⟨Nat.le_of_ble_eq_true rfl, Nat.le_of_ble_eq_true rfl⟩ (Nat.le_of_ble_eq_true rfl) dX5_may_8 ?_
      refine wa_if_eq hX 19 (by decide) dX5_may_11 (fun c => ?_) (fun c => ?_)
      · replace h := itp c h
        refine wa_sub (lv2 := []) [] rfl ?_
        exact t_X5_may_19 hX hE  h
      · replace h := itn c h
        refine wa_iload_n hX 1 rfl rfl dX5_may_14 ?_
        refine wa_iload_n hX 2 rfl rfl dX5_may_15 ?_
        refine wa_icmp_ne hX 21 (by decide) dX5_may_16 (fun c => ?_) (fun c => ?_)
        · replace h := itn c h
          refine wa_iload_n hX 3 rfl rfl dX5_may_21 ?_
          refine wa_iconst hX 2 ki_2 dX5_may_22 ?_
          obtain ⟨x3, h2, h⟩ := obind h
          refine wa_callSi hX (m_X5_isWithin h2) cx_X5_isWithin ml_X5_56 (As := [.int p3, .int 2]) (rest := []) rfl rfl rfl ⟨Nat.le_of_ble_eq_true rfl, Nat.le_of_ble_eq_true rfl⟩ (Nat.le_of_ble_eq_true rfl) dX5_may_23 ?_
          refine wa_if_ne hX 32 (by decide) dX5_may_26 (fun c => ?_) (fun c => ?_)
          · replace h := itn c h
            refine wa_aload_n hX 0 rfl rfl dX5_may_32 ?_
            refine wg_stage_rules hX fl_X5_10 dX5_may_33 ?_
            refine wa_iload_n hX 1 rfl rfl dX5_may_36 ?_
            refine wa_iload_n hX 2 rfl rfl dX5_may_37 ?_
            refine wa_iload_n hX 3 rfl rfl dX5_may_38 ?_
            obtain ⟨x4, h2, h⟩ := obind h
            refine wa_callVi hX (m_X3_setTogether h2) cx_X3_setTogether ml_X5_126 (As := [.int p1, .int p2, .int p3]) (rest := []) 8 (ce_rules _ _) rfl rfl rfl rfl ⟨Nat.le_of_ble_eq_true rfl, Nat.le_of_ble_eq_true rfl⟩ (Nat.le_of_ble_eq_true rfl) dX5_may_39 ?_
            exact ret_i hE h dX5_may_42
          · replace h := itp c h
            refine wa_bipush hX (-2) kb_m2 dX5_may_29 ?_
            exact ret_i hE h dX5_may_31
        · replace h := itp c h
          refine wa_sub (lv2 := []) [] rfl ?_
          exact t_X5_may_19 hX hE  h
set_option maxRecDepth 100000 in
set_option maxHeartbeats 4000000 in
theorem t_X3_breaksMay_53 {X : Fx} (hX : Cx X cX3_breaksMay RX3 4 0 0) {r : Int32} {w1 : Wd} (hE : ∀ pc lv, decode cX3_breaksMay pc = .ok (.ireturn, 1) → narrow .boolean (.int r) = .int r → Wa X w1 pc lv [.int r]) {k2 : Wd × Int32 × Int32 → Option (Int32 × Wd)} (hk2 : ∀ a, k2 a = some (r, w1) → Wa X a.1 2 [(0, .ref (Ad X 8)), (1, .int a.2.1), (2, .int a.2.2)] []) {w : Wd} {v1 : Int32} {v2 : Int32} (h : F_X3_breaksMay_53 k2 w v1 v2 = some (r, w1)) : Wa X w 53 [(0, .ref (Ad X 8)), (1, .int v1), (2, .int v2)] [] := by
  unfold F_X3_breaksMay_53 at h
  refine wa_iinc hX (v := (v2 + 1)) (lv2 := [(2, .int (v2 + 1)), (0, .ref (Ad X 8)), (1, .int v1)]) 2 rfl rfl (by decide) rfl dX3_breaksMay_53 ?_
  refine wa_goto hX 2 (by decide) dX3_breaksMay_56 ?_
  refine wa_sub (lv2 := [(0, .ref (Ad X 8)), (1, .int v1), (2, .int (v2 + 1))]) [1, 2, 0] rfl ?_
  exact hk2 _ h
set_option maxRecDepth 100000 in
set_option maxHeartbeats 4000000 in
theorem t_X3_breaksMay_51 {X : Fx} (hX : Cx X cX3_breaksMay RX3 4 0 0) {r : Int32} {w1 : Wd} (hE : ∀ pc lv, decode cX3_breaksMay pc = .ok (.ireturn, 1) → narrow .boolean (.int r) = .int r → Wa X w1 pc lv [.int r])  {w : Wd} (h : F_X3_breaksMay_51 w = some (r, w1)) : Wa X w 51 [] [] := by
  unfold F_X3_breaksMay_51 at h
  refine wa_iconst hX 1 ki_1 dX3_breaksMay_51 ?_
  exact ret_z hE h (by decide) dX3_breaksMay_52
set_option maxRecDepth 100000 in
set_option maxHeartbeats 4000000 in
theorem t_X3_breaksMay_2 {X : Fx} (hX : Cx X cX3_breaksMay RX3 4 0 0) {r : Int32} {w1 : Wd} (hE : ∀ pc lv, decode cX3_breaksMay pc = .ok (.ireturn, 1) → narrow .boolean (.int r) = .int r → Wa X w1 pc lv [.int r])  : ∀ (n : Nat) (a : Wd × Int32 × Int32), L_X3_breaksMay_2  n a = some (r, w1) → Wa X a.1 2 [(0, .ref (Ad X 8)), (1, .int a.2.1), (2, .int a.2.2)] [] := by
  refine it_mach (P := fun (a : Wd × Int32 × Int32) => Wa X a.1 2 [(0, .ref (Ad X 8)), (1, .int a.2.1), (2, .int a.2.2)] []) ?_
  intro k2 hk2 a h
  obtain ⟨w, v1, v2⟩ := a
  have h : F_X3_breaksMay_2 k2 w v1 v2 = some (r, w1) := h
  show Wa X w 2 [(0, .ref (Ad X 8)), (1, .int v1), (2, .int v2)] []
  unfold F_X3_breaksMay_2 at h
  refine wa_iload_n hX 2 rfl rfl dX3_breaksMay_2 ?_
  refine wa_bipush hX 8 kb_8 dX3_breaksMay_3 ?_
  refine wa_icmp_ge hX 59 (by decide) dX3_breaksMay_5 (fun c => ?_) (fun c => ?_)
  · replace h := itp c h
    refine wa_iconst hX 0 ki_0 dX3_breaksMay_59 ?_
    exact ret_z hE h (by decide) dX3_breaksMay_60
  · replace h := itn c h
    refine wa_iload_n hX 1 rfl rfl dX3_breaksMay_8 ?_
    refine wa_iload_n hX 2 rfl rfl dX3_breaksMay_9 ?_
    refine wa_ishr hX dX3_breaksMay_10 ?_
    refine wa_iconst hX 1 ki_1 dX3_breaksMay_11 ?_
    refine wa_iand hX dX3_breaksMay_12 ?_
    refine wa_iconst hX 1 ki_1 dX3_breaksMay_13 ?_
    have hJ : Wa X w 22 [(0, .ref (Ad X 8)), (1, .int v1), (2, .int v2)] [.int (if ((v1 >>> (v2 &&& 31)) &&& 1) = 1 then (1 : Int32) else 0)] := by
      refine wa_let h (fun y1 h => ?_)
      refine wa_istore_n hX (lv2 := [(3, .int y1), (0, .ref (Ad X 8)), (1, .int v1), (2, .int v2)]) rfl (by decide) rfl dX3_breaksMay_22 ?_
      refine wa_iload_n hX 0 rfl rfl dX3_breaksMay_23 ?_
      refine wa_if_eq hX 53 (by decide) dX3_breaksMay_24 (fun c => ?_) (fun c => ?_)
      · replace h := itp c h
        refine wa_sub (lv2 := [(0, .ref (Ad X 8)), (1, .int v1), (2, .int v2)]) [1, 2, 3] rfl ?_
        exact t_X3_breaksMay_53 hX hE hk2 h
      · replace h := itn c h
        refine wa_aload_n hX 1 rfl rfl dX3_breaksMay_27 ?_
        refine wg_rules_apart hX fl_X3_18 dX3_breaksMay_28 ?_
        refine wa_iload_n hX 3 rfl rfl dX3_breaksMay_31 ?_
        obtain ⟨hg, h⟩ := gu_some h
        refine wl_rules_apart hX hg dX3_breaksMay_32 ?_
        refine wa_iload_n hX 2 rfl rfl dX3_breaksMay_33 ?_
        refine wa_iand hX dX3_breaksMay_34 ?_
        refine wa_if_ne hX 51 (by decide) dX3_breaksMay_35 (fun c => ?_) (fun c => ?_)
        · replace h := itn c h
          refine wa_sub (lv2 := []) [] rfl ?_
          exact t_X3_breaksMay_51 hX hE  h
        · replace h := itp c h
          refine wa_aload_n hX 1 rfl rfl dX3_breaksMay_38 ?_
          refine wg_rules_together hX fl_X3_22 dX3_breaksMay_39 ?_
          refine wa_iload_n hX 3 rfl rfl dX3_breaksMay_42 ?_
          obtain ⟨hg, h⟩ := gu_some h
          refine wl_rules_together hX hg dX3_breaksMay_43 ?_
          refine wa_iload_n hX 2 rfl rfl dX3_breaksMay_44 ?_
          refine wa_iconst hX (-1) ki_m1 dX3_breaksMay_45 ?_
          refine wa_ixor hX dX3_breaksMay_46 ?_
          refine wa_iand hX dX3_breaksMay_47 ?_
          refine wa_if_eq hX 53 (by decide) dX3_breaksMay_48 (fun c => ?_) (fun c => ?_)
          · replace h := itp c h
            refine wa_sub (lv2 := [(0, .ref (Ad X 8)), (1, .int v1), (2, .int v2)]) [1, 2, 3] rfl ?_
            exact t_X3_breaksMay_53 hX hE hk2 h
          · replace h := itn c h
            refine wa_sub (lv2 := []) [] rfl ?_
            exact t_X3_breaksMay_51 hX hE  h
    refine wa_icmp_ne hX 21 (by decide) dX3_breaksMay_14 (fun c => ?_) (fun c => ?_)
    · refine wa_iconst hX 0 ki_0 dX3_breaksMay_21 ?_
      rw [show (if ((v1 >>> (v2 &&& 31)) &&& 1) = 1 then (1 : Int32) else 0) = 0 from if_neg c] at hJ
      exact hJ
    · refine wa_iconst hX 1 ki_1 dX3_breaksMay_17 ?_
      refine wa_goto hX 22 (by decide) dX3_breaksMay_18 ?_
      rw [show (if ((v1 >>> (v2 &&& 31)) &&& 1) = 1 then (1 : Int32) else 0) = 1 from if_pos c] at hJ
      exact hJ
set_option maxRecDepth 100000 in
set_option maxHeartbeats 4000000 in
theorem m_X3_breaksMay {w w1 : Wd} {p1 : Int32} {r : Int32} (h : F_X3_breaksMay w p1 = some (r, w1)) : Gi yX3_breaksMay cX3_breaksMay 4 (some .boolean) 0 0 (fun E => [.ref (E.2.1 8), .int p1]) w w1 r := by
  refine Gi.of (hy := by decide +kernel) (hlen := fun _ => Nat.le_of_ble_eq_true rfl) (fun X hX hE => ?_)
  · unfold F_X3_breaksMay at h
    refine (show Wa X w 0 [(0, .ref (Ad X 8)), (1, .int p1)] [] from ?_)
    refine wa_iconst hX 0 ki_0 dX3_breaksMay_0 ?_
    refine wa_istore_n hX (lv2 := [(2, .int 0), (0, .ref (Ad X 8)), (1, .int p1)]) rfl (by decide) rfl dX3_breaksMay_1 ?_
    refine wa_sub (lv2 := [(0, .ref (Ad X 8)), (1, .int p1), (2, .int 0)]) [1, 2, 0] rfl ?_
    exact t_X3_breaksMay_2 hX hE  _ _ h
set_option maxRecDepth 100000 in
set_option maxHeartbeats 4000000 in
theorem t_X3_firstAgainstMay_2 {X : Fx} (hX : Cx X cX3_firstAgainstMay RX3 3 1 23) {r : Int32} {w1 : Wd} (hE : ∀ pc lv, decode cX3_firstAgainstMay pc = .ok (.ireturn, 1) → narrow .int (.int r) = .int r → Wa X w1 pc lv [.int r])  : ∀ (n : Nat) (a : Wd × Int32), L_X3_firstAgainstMay_2  n a = some (r, w1) → Wa X a.1 2 [(0, .ref (Ad X 8)), (1, .ref (Ad X 4)), (2, .int a.2)] [] := by
  refine it_mach (P := fun (a : Wd × Int32) => Wa X a.1 2 [(0, .ref (Ad X 8)), (1, .ref (Ad X 4)), (2, .int a.2)] []) ?_
  intro k2 hk2 a h
  obtain ⟨w, v2⟩ := a
  have h : F_X3_firstAgainstMay_2 k2 w v2 = some (r, w1) := h
  show Wa X w 2 [(0, .ref (Ad X 8)), (1, .ref (Ad X 4)), (2, .int v2)] []
  unfold F_X3_firstAgainstMay_2 at h
  refine wa_iload_n hX 2 rfl rfl dX3_firstAgainstMay_2 ?_
  refine wa_aload_n hX 1 rfl rfl dX3_firstAgainstMay_3 ?_
  refine wgN_play_lineCount hX fn_X3_49 dX3_firstAgainstMay_4 ?_
  refine wa_icmp_ge hX 31 (by decide) dX3_firstAgainstMay_7 (fun c => ?_) (fun c => ?_)
  · replace h := itp c h
    refine wa_bipush hX (-6) kb_m6 dX3_firstAgainstMay_31 ?_
    exact ret_i hE h dX3_firstAgainstMay_33
  · replace h := itn c h
    refine wa_aload_n hX 0 rfl rfl dX3_firstAgainstMay_10 ?_
    refine wa_aload_n hX 1 rfl rfl dX3_firstAgainstMay_11 ?_
    refine wgN_play_onAt hX fn_X3_65 dX3_firstAgainstMay_12 ?_
    refine wa_iload_n hX 2 rfl rfl dX3_firstAgainstMay_15 ?_
    obtain ⟨hg, h⟩ := gu_some h
    refine wl_play_onAt hX hg dX3_firstAgainstMay_16 ?_
    obtain ⟨x1, h2, h⟩ := obind h
    refine wa_callVi hX (m_X3_breaksMay h2) cx_X3_breaksMay ml_X3_68 (As := [.int (w.2.1 7 v2.toNatClampNeg)]) (rest := []) 8 (ce_rules _ _) rfl rfl rfl rfl ⟨Nat.le_of_ble_eq_true rfl, Nat.le_of_ble_eq_true rfl⟩ (Nat.le_of_ble_eq_true rfl) dX3_firstAgainstMay_17 ?_
    refine wa_if_eq hX 25 (by decide) dX3_firstAgainstMay_20 (fun c => ?_) (fun c => ?_)
    · replace h := itp c h
      refine wa_iinc hX (v := (v2 + 1)) (lv2 := [(2, .int (v2 + 1)), (0, .ref (Ad X 8)), (1, .ref (Ad X 4))]) 2 rfl rfl (by decide) rfl dX3_firstAgainstMay_25 ?_
      refine wa_goto hX 2 (by decide) dX3_firstAgainstMay_28 ?_
      refine wa_sub (lv2 := [(0, .ref (Ad X 8)), (1, .ref (Ad X 4)), (2, .int (v2 + 1))]) [1, 2, 0] rfl ?_
      exact hk2 _ h
    · replace h := itn c h
      refine wa_iload_n hX 2 rfl rfl dX3_firstAgainstMay_23 ?_
      exact ret_i hE h dX3_firstAgainstMay_24
set_option maxRecDepth 100000 in
set_option maxHeartbeats 4000000 in
theorem m_X3_firstAgainstMay {w w1 : Wd} {r : Int32} (h : F_X3_firstAgainstMay w  = some (r, w1)) : Gi yX3_firstAgainstMay cX3_firstAgainstMay 3 (some .int) 1 23 (fun E => [.ref (E.2.1 8), .ref (E.2.1 4)]) w w1 r := by
  refine Gi.of (hy := by decide +kernel) (hlen := fun _ => Nat.le_of_ble_eq_true rfl) (fun X hX hE => ?_)
  · unfold F_X3_firstAgainstMay at h
    refine (show Wa X w 0 [(0, .ref (Ad X 8)), (1, .ref (Ad X 4))] [] from ?_)
    refine wa_iconst hX 0 ki_0 dX3_firstAgainstMay_0 ?_
    refine wa_istore_n hX (lv2 := [(2, .int 0), (0, .ref (Ad X 8)), (1, .ref (Ad X 4))]) rfl (by decide) rfl dX3_firstAgainstMay_1 ?_
    refine wa_sub (lv2 := [(0, .ref (Ad X 8)), (1, .ref (Ad X 4)), (2, .int 0)]) [1, 2, 0] rfl ?_
    exact t_X3_firstAgainstMay_2 hX hE  _ _ h
set_option maxRecDepth 100000 in
set_option maxHeartbeats 4000000 in
theorem t_X5_broken_24 {X : Fx} (hX : Cx X cX5_broken RX5 2 5 111) {r : Int32} {w1 : Wd} (hE : ∀ pc lv, decode cX5_broken pc = .ok (.ireturn, 1) → narrow .int (.int r) = .int r → Wa X w1 pc lv [.int r])  {w : Wd} {s0 : Int32} (h : F_X5_broken_24 w s0 = some (r, w1)) : Wa X w 24 [] [.int s0] := by
  unfold F_X5_broken_24 at h
  exact ret_i hE h dX5_broken_24
set_option maxRecDepth 100000 in
set_option maxHeartbeats 4000000 in
theorem m_X5_broken {w w1 : Wd} {r : Int32} (h : F_X5_broken w  = some (r, w1)) : Gi yX5_broken cX5_broken 2 (some .int) 5 111 (fun E => [.ref (E.2.1 0)]) w w1 r := by
  refine Gi.of (hy := by decide +kernel) (hlen := fun _ => Nat.le_of_ble_eq_true rfl) (fun X hX hE => ?_)
  · unfold F_X5_broken at h
    refine (show Wa X w 0 [(0, .ref (Ad X 0))] [] from ?_)
    refine wa_aload_n hX 0 rfl rfl dX5_broken_0 ?_
    obtain ⟨x1, h2, h⟩ := obind h
    refine wa_callVi hX (m_X5_refusalOfLines h2) cx_X5_refusalOfLines ml_X5_83 (As := []) (rest := []) 0 (ce_stage _ _) rfl rfl rfl rfl ⟨Nat.le_of_ble_eq_true rfl, Nat.le_of_ble_eq_true rfl⟩ (Nat.le_of_ble_eq_true rfl) dX5_broken_1 ?_
    refine wa_istore_n hX (lv2 := [(1, .int x1.1), (0, .ref (Ad X 0))]) rfl (by decide) rfl dX5_broken_4 ?_
    refine wa_iload_n hX 0 rfl rfl dX5_broken_5 ?_
    refine wa_if_eq hX 13 (by decide) dX5_broken_6 (fun c => ?_) (fun c => ?_)
    · replace h := itp c h
      refine wa_aload_n hX 1 rfl rfl dX5_broken_13 ?_
      refine wg_stage_rules hX fl_X5_10 dX5_broken_14 ?_
      refine wa_aload_n hX 1 rfl rfl dX5_broken_17 ?_
      refine wg_stage_play hX fl_X5_27 dX5_broken_18 ?_
      obtain ⟨x2, h2, h⟩ := obind h
      refine wa_callVi hX (m_X3_firstAgainstMay h2) cx_X3_firstAgainstMay ml_X5_130 (As := [.ref (Ad X 4)]) (rest := []) 8 (ce_rules _ _) rfl rfl rfl rfl ⟨Nat.le_of_ble_eq_true rfl, Nat.le_of_ble_eq_true rfl⟩ (Nat.le_of_ble_eq_true rfl) dX5_broken_21 ?_
      refine wa_sub (lv2 := []) [] rfl ?_
      exact t_X5_broken_24 hX hE  h
    · replace h := itn c h
      refine wa_iload_n hX 0 rfl rfl dX5_broken_9 ?_
      refine wa_goto hX 24 (by decide) dX5_broken_10 ?_
      refine wa_sub (lv2 := []) [] rfl ?_
      exact t_X5_broken_24 hX hE  h
set_option maxRecDepth 100000 in
set_option maxHeartbeats 4000000 in
theorem m_X5_strangersAt {w w1 : Wd} {p1 : Int32} {r : Int32} (h : F_X5_strangersAt w p1 = some (r, w1)) : Gi yX5_strangersAt cX5_strangersAt 2 (some .int) 0 0 (fun E => [.ref (E.2.1 0), .int p1]) w w1 r := by
  refine Gi.of (hy := by decide +kernel) (hlen := fun _ => Nat.le_of_ble_eq_true rfl) (fun X hX hE => ?_)
  · unfold F_X5_strangersAt at h
    refine (show Wa X w 0 [(0, .ref (Ad X 0)), (1, .int p1)] [] from ?_)
    refine wa_aload_n hX 0 rfl rfl dX5_strangersAt_0 ?_
    refine wg_stage_rules hX fl_X5_10 dX5_strangersAt_1 ?_
    refine wgN_rules_k hX fn_X5_64 dX5_strangersAt_4 ?_
    refine wa_aload_n hX 0 rfl rfl dX5_strangersAt_7 ?_
    refine wg_stage_play hX fl_X5_27 dX5_strangersAt_8 ?_
    refine wgN_play_manyAt hX fn_X5_228 dX5_strangersAt_11 ?_
    refine wa_iload_n hX 1 rfl rfl dX5_strangersAt_14 ?_
    obtain ⟨hg, h⟩ := gu_some h
    refine wl_play_manyAt hX hg dX5_strangersAt_15 ?_
    refine wa_isub hX dX5_strangersAt_16 ?_
    exact ret_i hE h dX5_strangersAt_17
set_option maxRecDepth 100000 in
set_option maxHeartbeats 4000000 in
theorem t_X5_bar_2 {X : Fx} (hX : Cx X cX5_bar RX5 2 1 21) {r : Int32} {w1 : Wd} (hE : ∀ pc lv, decode cX5_bar pc = .ok (.ireturn, 1) → narrow .int (.int r) = .int r → Wa X w1 pc lv [.int r])  : ∀ (n : Nat) (a : Wd × Int32), L_X5_bar_2  n a = some (r, w1) → Wa X a.1 2 [(0, .ref (Ad X 0)), (1, .int a.2)] [] := by
  refine it_mach (P := fun (a : Wd × Int32) => Wa X a.1 2 [(0, .ref (Ad X 0)), (1, .int a.2)] []) ?_
  intro k2 hk2 a h
  obtain ⟨w, v1⟩ := a
  have h : F_X5_bar_2 k2 w v1 = some (r, w1) := h
  show Wa X w 2 [(0, .ref (Ad X 0)), (1, .int v1)] []
  unfold F_X5_bar_2 at h
  refine wa_iload_n hX 1 rfl rfl dX5_bar_2 ?_
  refine wa_aload_n hX 0 rfl rfl dX5_bar_3 ?_
  refine wg_stage_play hX fl_X5_27 dX5_bar_4 ?_
  refine wgN_play_lineCount hX fn_X5_110 dX5_bar_7 ?_
  refine wa_icmp_ge hX 29 (by decide) dX5_bar_10 (fun c => ?_) (fun c => ?_)
  · replace h := itp c h
    refine wa_bipush hX (-6) kb_m6 dX5_bar_29 ?_
    exact ret_i hE h dX5_bar_31
  · replace h := itn c h
    refine wa_aload_n hX 0 rfl rfl dX5_bar_13 ?_
    refine wa_iload_n hX 1 rfl rfl dX5_bar_14 ?_
    obtain ⟨x1, h2, h⟩ := obind h
    refine wa_callVi hX (m_X5_strangersAt h2) cx_X5_strangersAt ml_X5_136 (As := [.int v1]) (rest := []) 0 (ce_stage _ _) rfl rfl rfl rfl ⟨Nat.le_of_ble_eq_true rfl, Nat.le_of_ble_eq_true rfl⟩ (Nat.le_of_ble_eq_true rfl) dX5_bar_15 ?_
    refine wa_if_ge hX 23 (by decide) dX5_bar_18 (fun c => ?_) (fun c => ?_)
    · replace h := itp c h
      refine wa_iinc hX (v := (v1 + 1)) (lv2 := [(1, .int (v1 + 1)), (0, .ref (Ad X 0))]) 1 rfl rfl (by decide) rfl dX5_bar_23 ?_
      refine wa_goto hX 2 (by decide) dX5_bar_26 ?_
      refine wa_sub (lv2 := [(0, .ref (Ad X 0)), (1, .int (v1 + 1))]) [1, 0] rfl ?_
      exact hk2 _ h
    · replace h := itn c h
      refine wa_iload_n hX 1 rfl rfl dX5_bar_21 ?_
      exact ret_i hE h dX5_bar_22
set_option maxRecDepth 100000 in
set_option maxHeartbeats 4000000 in
theorem m_X5_bar {w w1 : Wd} {r : Int32} (h : F_X5_bar w  = some (r, w1)) : Gi yX5_bar cX5_bar 2 (some .int) 1 21 (fun E => [.ref (E.2.1 0)]) w w1 r := by
  refine Gi.of (hy := by decide +kernel) (hlen := fun _ => Nat.le_of_ble_eq_true rfl) (fun X hX hE => ?_)
  · unfold F_X5_bar at h
    refine (show Wa X w 0 [(0, .ref (Ad X 0))] [] from ?_)
    refine wa_iconst hX 0 ki_0 dX5_bar_0 ?_
    refine wa_istore_n hX (lv2 := [(1, .int 0), (0, .ref (Ad X 0))]) rfl (by decide) rfl dX5_bar_1 ?_
    refine wa_sub (lv2 := [(0, .ref (Ad X 0)), (1, .int 0)]) [1, 0] rfl ?_
    exact t_X5_bar_2 hX hE  _ _ h
set_option maxRecDepth 100000 in
set_option maxHeartbeats 4000000 in
theorem t_X5_mostStrangers_4 {X : Fx} (hX : Cx X cX5_mostStrangers RX5 3 1 21) {r : Int32} {w1 : Wd} (hE : ∀ pc lv, decode cX5_mostStrangers pc = .ok (.ireturn, 1) → narrow .int (.int r) = .int r → Wa X w1 pc lv [.int r])  : ∀ (n : Nat) (a : Wd × Int32 × Int32), L_X5_mostStrangers_4  n a = some (r, w1) → Wa X a.1 4 [(0, .ref (Ad X 0)), (1, .int a.2.1), (2, .int a.2.2)] [] := by
  refine it_mach (P := fun (a : Wd × Int32 × Int32) => Wa X a.1 4 [(0, .ref (Ad X 0)), (1, .int a.2.1), (2, .int a.2.2)] []) ?_
  intro k4 hk4 a h
  obtain ⟨w, v1, v2⟩ := a
  have h : F_X5_mostStrangers_4 k4 w v1 v2 = some (r, w1) := h
  show Wa X w 4 [(0, .ref (Ad X 0)), (1, .int v1), (2, .int v2)] []
  unfold F_X5_mostStrangers_4 at h
  refine wa_iload_n hX 2 rfl rfl dX5_mostStrangers_4 ?_
  refine wa_aload_n hX 0 rfl rfl dX5_mostStrangers_5 ?_
  refine wg_stage_play hX fl_X5_27 dX5_mostStrangers_6 ?_
  refine wgN_play_lineCount hX fn_X5_110 dX5_mostStrangers_9 ?_
  refine wa_icmp_ge hX 31 (by decide) dX5_mostStrangers_12 (fun c => ?_) (fun c => ?_)
  · replace h := itp c h
    refine wa_iload_n hX 1 rfl rfl dX5_mostStrangers_31 ?_
    exact ret_i hE h dX5_mostStrangers_32
  · replace h := itn c h
    refine wa_iload_n hX 1 rfl rfl dX5_mostStrangers_15 ?_
    refine wa_aload_n hX 0 rfl rfl dX5_mostStrangers_16 ?_
    refine wa_iload_n hX 2 rfl rfl dX5_mostStrangers_17 ?_
    obtain ⟨x1, h2, h⟩ := obind h
    refine wa_callVi hX (m_X5_strangersAt h2) cx_X5_strangersAt ml_X5_136 (As := [.int v2]) (rest := [.int v1]) 0 (ce_stage _ _) rfl rfl rfl rfl ⟨Nat.le_of_ble_eq_true rfl, Nat.le_of_ble_eq_true rfl⟩ (Nat.le_of_ble_eq_true rfl) dX5_mostStrangers_18 ?_
    refine wa_mmax hX ml_X5_210 st_Lib_Math_max_name in_J9 cd_Lib_Math_max_name (Nat.le_of_ble_eq_true rfl) (Nat.le_of_ble_eq_true rfl) dX5_mostStrangers_21 ?_
    refine wa_istore_n hX (lv2 := [(1, .int (if v1 < x1.1 then x1.1 else v1)), (0, .ref (Ad X 0)), (2, .int v2)]) rfl (by decide) rfl dX5_mostStrangers_24 ?_
    refine wa_iinc hX (v := (v2 + 1)) (lv2 := [(2, .int (v2 + 1)), (1, .int (if v1 < x1.1 then x1.1 else v1)), (0, .ref (Ad X 0))]) 2 rfl rfl (by decide) rfl dX5_mostStrangers_25 ?_
    refine wa_goto hX 4 (by decide) dX5_mostStrangers_28 ?_
    refine wa_sub (lv2 := [(0, .ref (Ad X 0)), (1, .int (if v1 < x1.1 then x1.1 else v1)), (2, .int (v2 + 1))]) [2, 1, 0] rfl ?_
    exact hk4 _ h
set_option maxRecDepth 100000 in
set_option maxHeartbeats 4000000 in
theorem m_X5_mostStrangers {w w1 : Wd} {r : Int32} (h : F_X5_mostStrangers w  = some (r, w1)) : Gi yX5_mostStrangers cX5_mostStrangers 3 (some .int) 1 21 (fun E => [.ref (E.2.1 0)]) w w1 r := by
  refine Gi.of (hy := by decide +kernel) (hlen := fun _ => Nat.le_of_ble_eq_true rfl) (fun X hX hE => ?_)
  · unfold F_X5_mostStrangers at h
    refine (show Wa X w 0 [(0, .ref (Ad X 0))] [] from ?_)
    refine wa_iconst hX 0 ki_0 dX5_mostStrangers_0 ?_
    refine wa_istore_n hX (lv2 := [(1, .int 0), (0, .ref (Ad X 0))]) rfl (by decide) rfl dX5_mostStrangers_1 ?_
    refine wa_iconst hX 0 ki_0 dX5_mostStrangers_2 ?_
    refine wa_istore_n hX (lv2 := [(2, .int 0), (1, .int 0), (0, .ref (Ad X 0))]) rfl (by decide) rfl dX5_mostStrangers_3 ?_
    refine wa_sub (lv2 := [(0, .ref (Ad X 0)), (1, .int 0), (2, .int 0)]) [2, 1, 0] rfl ?_
    exact t_X5_mostStrangers_4 hX hE  _ _ h
set_option maxRecDepth 100000 in
set_option maxHeartbeats 4000000 in
theorem t_X5_strangersComings_6 {X : Fx} (hX : Cx X cX5_strangersComings RX5 4 1 21) {r : Int32} {w1 : Wd} (hE : ∀ pc lv, decode cX5_strangersComings pc = .ok (.ireturn, 1) → narrow .int (.int r) = .int r → Wa X w1 pc lv [.int r])  : ∀ (n : Nat) (a : Wd × Int32 × Int32 × Int32), L_X5_strangersComings_6  n a = some (r, w1) → Wa X a.1 6 [(0, .ref (Ad X 0)), (1, .int a.2.1), (2, .int a.2.2.1), (3, .int a.2.2.2)] [] := by
  refine it_mach (P := fun (a : Wd × Int32 × Int32 × Int32) => Wa X a.1 6 [(0, .ref (Ad X 0)), (1, .int a.2.1), (2, .int a.2.2.1), (3, .int a.2.2.2)] []) ?_
  intro k6 hk6 a h
  obtain ⟨w, v1, v2, v3⟩ := a
  have h : F_X5_strangersComings_6 k6 w v1 v2 v3 = some (r, w1) := h
  show Wa X w 6 [(0, .ref (Ad X 0)), (1, .int v1), (2, .int v2), (3, .int v3)] []
  unfold F_X5_strangersComings_6 at h
  refine wa_iload_n hX 3 rfl rfl dX5_strangersComings_6 ?_
  refine wa_aload_n hX 0 rfl rfl dX5_strangersComings_7 ?_
  refine wg_stage_play hX fl_X5_27 dX5_strangersComings_8 ?_
  refine wgN_play_lineCount hX fn_X5_110 dX5_strangersComings_11 ?_
  refine wa_icmp_ge hX 43 (by decide) dX5_strangersComings_14 (fun c => ?_) (fun c => ?_)
  · replace h := itp c h
    refine wa_iload_n hX 1 rfl rfl dX5_strangersComings_43 ?_
    exact ret_i hE h dX5_strangersComings_44
  · replace h := itn c h
    refine wa_iload_n hX 1 rfl rfl dX5_strangersComings_17 ?_
    refine wa_iconst hX 0 ki_0 dX5_strangersComings_18 ?_
    refine wa_aload_n hX 0 rfl rfl dX5_strangersComings_19 ?_
    refine wa_iload_n hX 3 rfl rfl dX5_strangersComings_20 ?_
    obtain ⟨x1, h2, h⟩ := obind h
    refine wa_callVi hX (m_X5_strangersAt h2) cx_X5_strangersAt ml_X5_136 (As := [.int v3]) (rest := [.int 0, .int v1]) 0 (ce_stage _ _) rfl rfl rfl rfl ⟨Nat.le_of_ble_eq_true rfl, Nat.le_of_ble_eq_true rfl⟩ (Nat.le_of_ble_eq_true rfl) dX5_strangersComings_21 ?_
    refine wa_iload_n hX 2 rfl rfl dX5_strangersComings_24 ?_
    refine wa_isub hX dX5_strangersComings_25 ?_
    refine wa_mmax hX ml_X5_210 st_Lib_Math_max_name in_J9 cd_Lib_Math_max_name (Nat.le_of_ble_eq_true rfl) (Nat.le_of_ble_eq_true rfl) dX5_strangersComings_26 ?_
    refine wa_iadd hX dX5_strangersComings_29 ?_
    refine wa_let h (fun y2 h => ?_)
    refine wa_istore_n hX (lv2 := [(1, .int y2), (0, .ref (Ad X 0)), (2, .int v2), (3, .int v3)]) rfl (by decide) rfl dX5_strangersComings_30 ?_
    refine wa_aload_n hX 1 rfl rfl dX5_strangersComings_31 ?_
    refine wa_iload_n hX 3 rfl rfl dX5_strangersComings_32 ?_
    obtain ⟨x3, h2, h⟩ := obind h
    refine wa_callVi hX (m_X5_strangersAt h2) cx_X5_strangersAt ml_X5_136 (As := [.int v3]) (rest := []) 0 (ce_stage _ _) rfl rfl rfl rfl ⟨Nat.le_of_ble_eq_true rfl, Nat.le_of_ble_eq_true rfl⟩ (Nat.le_of_ble_eq_true rfl) dX5_strangersComings_33 ?_
    refine wa_istore_n hX (lv2 := [(2, .int x3.1), (1, .int y2), (0, .ref (Ad X 0)), (3, .int v3)]) rfl (by decide) rfl dX5_strangersComings_36 ?_
    refine wa_iinc hX (v := (v3 + 1)) (lv2 := [(3, .int (v3 + 1)), (2, .int x3.1), (1, .int y2), (0, .ref (Ad X 0))]) 3 rfl rfl (by decide) rfl dX5_strangersComings_37 ?_
    refine wa_goto hX 6 (by decide) dX5_strangersComings_40 ?_
    refine wa_sub (lv2 := [(0, .ref (Ad X 0)), (1, .int y2), (2, .int x3.1), (3, .int (v3 + 1))]) [3, 2, 1, 0] rfl ?_
    exact hk6 _ h
set_option maxRecDepth 100000 in
set_option maxHeartbeats 4000000 in
theorem m_X5_strangersComings {w w1 : Wd} {r : Int32} (h : F_X5_strangersComings w  = some (r, w1)) : Gi yX5_strangersComings cX5_strangersComings 4 (some .int) 1 21 (fun E => [.ref (E.2.1 0)]) w w1 r := by
  refine Gi.of (hy := by decide +kernel) (hlen := fun _ => Nat.le_of_ble_eq_true rfl) (fun X hX hE => ?_)
  · unfold F_X5_strangersComings at h
    refine (show Wa X w 0 [(0, .ref (Ad X 0))] [] from ?_)
    refine wa_iconst hX 0 ki_0 dX5_strangersComings_0 ?_
    refine wa_istore_n hX (lv2 := [(1, .int 0), (0, .ref (Ad X 0))]) rfl (by decide) rfl dX5_strangersComings_1 ?_
    refine wa_iconst hX 0 ki_0 dX5_strangersComings_2 ?_
    refine wa_istore_n hX (lv2 := [(2, .int 0), (1, .int 0), (0, .ref (Ad X 0))]) rfl (by decide) rfl dX5_strangersComings_3 ?_
    refine wa_iconst hX 0 ki_0 dX5_strangersComings_4 ?_
    refine wa_istore_n hX (lv2 := [(3, .int 0), (2, .int 0), (1, .int 0), (0, .ref (Ad X 0))]) rfl (by decide) rfl dX5_strangersComings_5 ?_
    refine wa_sub (lv2 := [(0, .ref (Ad X 0)), (1, .int 0), (2, .int 0), (3, .int 0)]) [3, 2, 1, 0] rfl ?_
    exact t_X5_strangersComings_6 hX hE  _ _ h
set_option maxRecDepth 100000 in
set_option maxHeartbeats 4000000 in
theorem t_X5_strangers_101 {X : Fx} (hX : Cx X cX5_strangers RX5 5 5 111) {r : Int32} {w1 : Wd} (hE : ∀ pc lv, decode cX5_strangers pc = .ok (.ireturn, 1) → narrow .int (.int r) = .int r → Wa X w1 pc lv [.int r])  {w : Wd} {s0 : Int32} (h : F_X5_strangers_101 w s0 = some (r, w1)) : Wa X w 101 [] [.int s0] := by
  unfold F_X5_strangers_101 at h
  exact ret_i hE h dX5_strangers_101
set_option maxRecDepth 100000 in
set_option maxHeartbeats 4000000 in
theorem t_X5_strangers_49 {X : Fx} (hX : Cx X cX5_strangers RX5 5 5 111) {r : Int32} {w1 : Wd} (hE : ∀ pc lv, decode cX5_strangers pc = .ok (.ireturn, 1) → narrow .int (.int r) = .int r → Wa X w1 pc lv [.int r])  {w : Wd} {v1 : Int32} {v3 : Int32} (h : F_X5_strangers_49 w v1 v3 = some (r, w1)) : Wa X w 49 [(0, .ref (Ad X 0)), (1, .int v1), (3, .int v3)] [] := by
  unfold F_X5_strangers_49 at h
  refine wa_aload_n hX 0 rfl rfl dX5_strangers_49 ?_
  obtain ⟨x2, h2, h⟩ := obind h
  refine wa_callVi hX (m_X5_bar h2) cx_X5_bar ml_X5_133 (As := []) (rest := []) 0 (ce_stage _ _) rfl rfl rfl rfl ⟨Nat.le_of_ble_eq_true rfl, Nat.le_of_ble_eq_true rfl⟩ (Nat.le_of_ble_eq_true rfl) dX5_strangers_50 ?_
  refine wa_istore hX (lv2 := [(4, .int x2.1), (0, .ref (Ad X 0)), (1, .int v1), (3, .int v3)]) (by decide) rfl dX5_strangers_53 ?_
  refine wa_iload_n hX 2 rfl rfl dX5_strangers_55 ?_
  refine wa_iconst hX 2 ki_2 dX5_strangers_56 ?_
  refine wa_icmp_ne hX 63 (by decide) dX5_strangers_57 (fun c => ?_) (fun c => ?_)
  · replace h := itn c h
    refine wa_iload hX 0 rfl dX5_strangers_63 ?_
    refine wa_bipush hX (-6) kb_m6 dX5_strangers_65 ?_
    refine wa_icmp_eq hX 73 (by decide) dX5_strangers_67 (fun c => ?_) (fun c => ?_)
    · replace h := itp c h
      refine wa_iload_n hX 3 rfl rfl dX5_strangers_73 ?_
      refine wa_if_eq hX 86 (by decide) dX5_strangers_74 (fun c => ?_) (fun c => ?_)
      · replace h := itp c h
        refine wa_iload_n hX 2 rfl rfl dX5_strangers_86 ?_
        refine wa_if_ne hX 97 (by decide) dX5_strangers_87 (fun c => ?_) (fun c => ?_)
        · replace h := itn c h
          refine wa_aload_n hX 1 rfl rfl dX5_strangers_97 ?_
          obtain ⟨x3, h2, h⟩ := obind h
          refine wa_callVi hX (m_X5_mostStrangers h2) cx_X5_mostStrangers ml_X5_142 (As := []) (rest := []) 0 (ce_stage _ _) rfl rfl rfl rfl ⟨Nat.le_of_ble_eq_true rfl, Nat.le_of_ble_eq_true rfl⟩ (Nat.le_of_ble_eq_true rfl) dX5_strangers_98 ?_
          refine wa_sub (lv2 := []) [] rfl ?_
          exact t_X5_strangers_101 hX hE  h
        · replace h := itp c h
          refine wa_aload_n hX 1 rfl rfl dX5_strangers_90 ?_
          obtain ⟨x4, h2, h⟩ := obind h
          refine wa_callVi hX (m_X5_strangersComings h2) cx_X5_strangersComings ml_X5_139 (As := []) (rest := []) 0 (ce_stage _ _) rfl rfl rfl rfl ⟨Nat.le_of_ble_eq_true rfl, Nat.le_of_ble_eq_true rfl⟩ (Nat.le_of_ble_eq_true rfl) dX5_strangers_91 ?_
          refine wa_goto hX 101 (by decide) dX5_strangers_94 ?_
          refine wa_sub (lv2 := []) [] rfl ?_
          exact t_X5_strangers_101 hX hE  h
      · replace h := itn c h
        refine wa_aload_n hX 1 rfl rfl dX5_strangers_77 ?_
        refine wa_iload_n hX 2 rfl rfl dX5_strangers_78 ?_
        refine wa_bipush hX 10 kb_10 dX5_strangers_79 ?_
        refine wa_isub hX dX5_strangers_81 ?_
        obtain ⟨x5, h2, h⟩ := obind h
        refine wa_callVi hX (m_X5_strangersAt h2) cx_X5_strangersAt ml_X5_136 (As := [.int (v1 - 10)]) (rest := []) 0 (ce_stage _ _) rfl rfl rfl rfl ⟨Nat.le_of_ble_eq_true rfl, Nat.le_of_ble_eq_true rfl⟩ (Nat.le_of_ble_eq_true rfl) dX5_strangers_82 ?_
        exact ret_i hE h dX5_strangers_85
    · replace h := itn c h
      refine wa_bipush hX (-6) kb_m6 dX5_strangers_70 ?_
      exact ret_i hE h dX5_strangers_72
  · replace h := itp c h
    refine wa_iload hX 0 rfl dX5_strangers_60 ?_
    exact ret_i hE h dX5_strangers_62
set_option maxRecDepth 100000 in
set_option maxHeartbeats 4000000 in
theorem t_X5_strangers_33 {X : Fx} (hX : Cx X cX5_strangers RX5 5 5 111) {r : Int32} {w1 : Wd} (hE : ∀ pc lv, decode cX5_strangers pc = .ok (.ireturn, 1) → narrow .int (.int r) = .int r → Wa X w1 pc lv [.int r])  {w : Wd} {v1 : Int32} {s0 : Int32} (h : F_X5_strangers_33 w v1 s0 = some (r, w1)) : Wa X w 33 [(0, .ref (Ad X 0)), (1, .int v1)] [.int s0] := by
  unfold F_X5_strangers_33 at h
  refine wa_istore_n hX (lv2 := [(3, .int s0), (0, .ref (Ad X 0)), (1, .int v1)]) rfl (by decide) rfl dX5_strangers_33 ?_
  refine wa_iload_n hX 0 rfl rfl dX5_strangers_34 ?_
  refine wa_if_ne hX 49 (by decide) dX5_strangers_35 (fun c => ?_) (fun c => ?_)
  · replace h := itn c h
    refine wa_sub (lv2 := [(0, .ref (Ad X 0)), (1, .int v1), (3, .int s0)]) [1, 2, 0] rfl ?_
    exact t_X5_strangers_49 hX hE  h
  · replace h := itp c h
    refine wa_iload_n hX 2 rfl rfl dX5_strangers_38 ?_
    refine wa_iconst hX 2 ki_2 dX5_strangers_39 ?_
    obtain ⟨x6, h2, h⟩ := obind h
    refine wa_callSi hX (m_X5_isWithin h2) cx_X5_isWithin ml_X5_56 (As := [.int v1, .int 2]) (rest := []) rfl rfl rfl ⟨Nat.le_of_ble_eq_true rfl, Nat.le_of_ble_eq_true rfl⟩ (Nat.le_of_ble_eq_true rfl) dX5_strangers_40 ?_
    refine wa_if_ne hX 49 (by decide) dX5_strangers_43 (fun c => ?_) (fun c => ?_)
    · replace h := itn c h
      refine wa_sub (lv2 := [(0, .ref (Ad X 0)), (1, .int v1), (3, .int s0)]) [1, 2, 0] rfl ?_
      exact t_X5_strangers_49 hX hE  h
    · replace h := itp c h
      refine wa_bipush hX (-2) kb_m2 dX5_strangers_46 ?_
      exact ret_i hE h dX5_strangers_48
set_option maxRecDepth 100000 in
set_option maxHeartbeats 4000000 in
theorem t_X5_strangers_32 {X : Fx} (hX : Cx X cX5_strangers RX5 5 5 111) {r : Int32} {w1 : Wd} (hE : ∀ pc lv, decode cX5_strangers pc = .ok (.ireturn, 1) → narrow .int (.int r) = .int r → Wa X w1 pc lv [.int r])  {w : Wd} {v1 : Int32} (h : F_X5_strangers_32 w v1 = some (r, w1)) : Wa X w 32 [(0, .ref (Ad X 0)), (1, .int v1)] [] := by
  unfold F_X5_strangers_32 at h
  refine wa_iconst hX 0 ki_0 dX5_strangers_32 ?_
  exact t_X5_strangers_33 hX hE  h
set_option maxRecDepth 100000 in
set_option maxHeartbeats 4000000 in
theorem m_X5_strangers {w w1 : Wd} {p1 : Int32} {r : Int32} (h : F_X5_strangers w p1 = some (r, w1)) : Gi yX5_strangers cX5_strangers 5 (some .int) 5 111 (fun E => [.ref (E.2.1 0), .int p1]) w w1 r := by
  refine Gi.of (hy := by decide +kernel) (hlen := fun _ => Nat.le_of_ble_eq_true rfl) (fun X hX hE => ?_)
  · unfold F_X5_strangers at h
    refine (show Wa X w 0 [(0, .ref (Ad X 0)), (1, .int p1)] [] from ?_)
    refine wa_aload_n hX 0 rfl rfl dX5_strangers_0 ?_
    obtain ⟨x1, h2, h⟩ := obind h
    refine wa_callVi hX (m_X5_refusalOfLines h2) cx_X5_refusalOfLines ml_X5_83 (As := []) (rest := []) 0 (ce_stage _ _) rfl rfl rfl rfl ⟨Nat.le_of_ble_eq_true rfl, Nat.le_of_ble_eq_true rfl⟩ (Nat.le_of_ble_eq_true rfl) dX5_strangers_1 ?_
    refine wa_istore_n hX (lv2 := [(2, .int x1.1), (0, .ref (Ad X 0)), (1, .int p1)]) rfl (by decide) rfl dX5_strangers_4 ?_
    refine wa_iload_n hX 0 rfl rfl dX5_strangers_5 ?_
    refine wa_if_eq hX 11 (by decide) dX5_strangers_6 (fun c => ?_) (fun c => ?_)
    · replace h := itp c h
      refine wa_iload_n hX 2 rfl rfl dX5_strangers_11 ?_
      refine wa_bipush hX 10 kb_10 dX5_strangers_12 ?_
      refine wa_icmp_lt hX 32 (by decide) dX5_strangers_14 (fun c => ?_) (fun c => ?_)
      · replace h := itp c h
        refine wa_sub (lv2 := [(0, .ref (Ad X 0)), (1, .int p1)]) [1, 2] rfl ?_
        exact t_X5_strangers_32 hX hE  h
      · replace h := itn c h
        refine wa_aload_n hX 1 rfl rfl dX5_strangers_17 ?_
        refine wa_iload_n hX 2 rfl rfl dX5_strangers_18 ?_
        refine wa_bipush hX 10 kb_10 dX5_strangers_19 ?_
        refine wa_isub hX dX5_strangers_21 ?_
        obtain ⟨x7, h2, h⟩ := obind h
        refine wa_callVi hX (m_X5_isLine h2) cx_X5_isLine ml_X5_100 (As := [.int (p1 - 10)]) (rest := []) 0 (ce_stage _ _) rfl rfl rfl rfl ⟨Nat.le_of_ble_eq_true rfl, Nat.le_of_ble_eq_true rfl⟩ (Nat.le_of_ble_eq_true rfl) dX5_strangers_22 ?_
        have hJ : Wa X x7.2 33 [(0, .ref (Ad X 0)), (1, .int p1)] [.int (if x7.1 = 0 then (0 : Int32) else 1)] := by
          refine wa_istore_n hX (lv2 := [(3, .int (if x7.1 = 0 then (0 : Int32) else 1)), (0, .ref (Ad X 0)), (1, .int p1)]) rfl (by decide) rfl dX5_strangers_33 ?_
          refine wa_iload_n hX 0 rfl rfl dX5_strangers_34 ?_
          refine wa_if_ne hX 49 (by decide) dX5_strangers_35 (fun c => ?_) (fun c => ?_)
          · replace h := itn c h
            refine wa_sub (lv2 := [(0, .ref (Ad X 0)), (1, .int p1), (3, .int (if x7.1 = 0 then (0 : Int32) else 1))]) [1, 2, 0] rfl ?_
            exact t_X5_strangers_49 hX hE  h
          · replace h := itp c h
            refine wa_iload_n hX 2 rfl rfl dX5_strangers_38 ?_
            refine wa_iconst hX 2 ki_2 dX5_strangers_39 ?_
            obtain ⟨x8, h2, h⟩ := obind h
            refine wa_callSi hX (m_X5_isWithin h2) cx_X5_isWithin ml_X5_56 (As := [.int p1, .int 2]) (rest := []) rfl rfl rfl ⟨Nat.le_of_ble_eq_true rfl, Nat.le_of_ble_eq_true rfl⟩ (Nat.le_of_ble_eq_true rfl) dX5_strangers_40 ?_
            refine wa_if_ne hX 49 (by decide) dX5_strangers_43 (fun c => ?_) (fun c => ?_)
            · replace h := itn c h
              refine wa_sub (lv2 := [(0, .ref (Ad X 0)), (1, .int p1), (3, .int (if x7.1 = 0 then (0 : Int32) else 1))]) [1, 2, 0] rfl ?_
              exact t_X5_strangers_49 hX hE  h
            · replace h := itp c h
              refine wa_bipush hX (-2) kb_m2 dX5_strangers_46 ?_
              exact ret_i hE h dX5_strangers_48
        refine wa_if_eq hX 32 (by decide) dX5_strangers_25 (fun c => ?_) (fun c => ?_)
        · refine wa_iconst hX 0 ki_0 dX5_strangers_32 ?_
          refine wa_sub (lv2 := [(0, .ref (Ad X 0)), (1, .int p1)]) [1, 2] rfl ?_
          rw [show (if x7.1 = 0 then (0 : Int32) else 1) = 0 from if_pos c] at hJ
          exact hJ
        · refine wa_iconst hX 1 ki_1 dX5_strangers_28 ?_
          refine wa_goto hX 33 (by decide) dX5_strangers_29 ?_
          refine wa_sub (lv2 := [(0, .ref (Ad X 0)), (1, .int p1)]) [1, 2] rfl ?_
          rw [show (if x7.1 = 0 then (0 : Int32) else 1) = 1 from if_neg c] at hJ
          exact hJ
    · replace h := itn c h
      refine wa_iload_n hX 0 rfl rfl dX5_strangers_9 ?_
      exact ret_i hE h dX5_strangers_10
set_option maxRecDepth 100000 in
set_option maxHeartbeats 4000000 in
theorem t_J7_fill_stage_staying_5 {X : Fx} (hX : Cx X cJ7_fill_53178 RJ7 4 0 0) {w1 : Wd} (hE : ∀ pc lv, decode cJ7_fill_53178 pc = .ok (.return_, 1) → Wa X w1 pc lv [])  : ∀ (n : Nat) (a : Wd × Int32 × Int32 × Int32), L_J7_fill_stage_staying_5  n a = some w1 → Wa X a.1 5 [(0, .ref (Ad X 3)), (1, .int a.2.1), (2, .int a.2.2.1), (3, .int a.2.2.2)] [] := by
  refine it_mach (P := fun (a : Wd × Int32 × Int32 × Int32) => Wa X a.1 5 [(0, .ref (Ad X 3)), (1, .int a.2.1), (2, .int a.2.2.1), (3, .int a.2.2.2)] []) ?_
  intro k5 hk5 a h
  obtain ⟨w, v1, v2, v3⟩ := a
  have h : F_J7_fill_stage_staying_5 k5 w v1 v2 v3 = some w1 := h
  show Wa X w 5 [(0, .ref (Ad X 3)), (1, .int v1), (2, .int v2), (3, .int v3)] []
  unfold F_J7_fill_stage_staying_5 at h
  refine wa_iload_n hX 2 rfl rfl dJ7_fill_53178_5 ?_
  refine wa_iload_n hX 3 rfl rfl dJ7_fill_53178_6 ?_
  refine wa_icmp_ge hX 20 (by decide) dJ7_fill_53178_7 (fun c => ?_) (fun c => ?_)
  · replace h := itp c h
    exact ret_v hE h dJ7_fill_53178_20
  · replace h := itn c h
    refine wa_aload_n hX 0 rfl rfl dJ7_fill_53178_10 ?_
    refine wa_iload_n hX 2 rfl rfl dJ7_fill_53178_11 ?_
    refine wa_iload_n hX 1 rfl rfl dJ7_fill_53178_12 ?_
    obtain ⟨hg, h⟩ := gu_some h
    refine ws_stage_staying hX hg dJ7_fill_53178_13 ?_
    refine wa_iinc hX (v := (v2 + 1)) (lv2 := [(2, .int (v2 + 1)), (0, .ref (Ad X 3)), (1, .int v1), (3, .int v3)]) 2 rfl rfl (by decide) rfl dJ7_fill_53178_14 ?_
    refine wa_goto hX 5 (by decide) dJ7_fill_53178_17 ?_
    refine wa_sub (lv2 := [(0, .ref (Ad X 3)), (1, .int v1), (2, .int (v2 + 1)), (3, .int v3)]) [1, 2, 0, 3] rfl ?_
    exact hk5 _ h
set_option maxRecDepth 100000 in
set_option maxHeartbeats 4000000 in
theorem m_J7_fill_stage_staying {w w1 : Wd} {p1 : Int32} (h : F_J7_fill_stage_staying w p1 = some w1) : Gv yJ7_fill_53178 cJ7_fill_53178 4 none 0 0 (fun E => [.ref (E.2.1 3), .int p1]) w w1 := by
  refine Gv.of (hy := by decide +kernel) (hlen := fun _ => Nat.le_of_ble_eq_true rfl) (fun X hX hE => ?_)
  · unfold F_J7_fill_stage_staying at h
    refine (show Wa X w 0 [(0, .ref (Ad X 3)), (1, .int p1)] [] from ?_)
    refine wa_iconst hX 0 ki_0 dJ7_fill_53178_0 ?_
    refine wa_istore_n hX (lv2 := [(2, .int 0), (0, .ref (Ad X 3)), (1, .int p1)]) rfl (by decide) rfl dJ7_fill_53178_1 ?_
    refine wa_aload_n hX 1 rfl rfl dJ7_fill_53178_2 ?_
    refine wn_stage_staying hX dJ7_fill_53178_3 ?_
    refine wa_istore_n hX (lv2 := [(3, .int 9), (2, .int 0), (0, .ref (Ad X 3)), (1, .int p1)]) rfl (by decide) rfl dJ7_fill_53178_4 ?_
    refine wa_sub (lv2 := [(0, .ref (Ad X 3)), (1, .int p1), (2, .int 0), (3, .int 9)]) [2, 3, 1, 0] rfl ?_
    exact t_J7_fill_stage_staying_5 hX hE  _ _ h
set_option maxRecDepth 100000 in
set_option maxHeartbeats 4000000 in
theorem t_X5_longestRising_104 {X : Fx} (hX : Cx X cX5_longestRising RX5 6 1 23) {r : Int32} {w1 : Wd} (hE : ∀ pc lv, decode cX5_longestRising pc = .ok (.ireturn, 1) → narrow .int (.int r) = .int r → Wa X w1 pc lv [.int r]) {k12 : Wd × Int32 × Int32 → Option (Int32 × Wd)} (hk12 : ∀ a, k12 a = some (r, w1) → Wa X a.1 12 [(0, .ref (Ad X 0)), (1, .int a.2.1), (2, .int a.2.2)] []) {w : Wd} {v1 : Int32} {v2 : Int32} (h : F_X5_longestRising_104 k12 w v1 v2 = some (r, w1)) : Wa X w 104 [(0, .ref (Ad X 0)), (1, .int v1), (2, .int v2)] [] := by
  unfold F_X5_longestRising_104 at h
  refine wa_iinc hX (v := (v2 + 1)) (lv2 := [(2, .int (v2 + 1)), (0, .ref (Ad X 0)), (1, .int v1)]) 2 rfl rfl (by decide) rfl dX5_longestRising_104 ?_
  refine wa_goto hX 12 (by decide) dX5_longestRising_107 ?_
  refine wa_sub (lv2 := [(0, .ref (Ad X 0)), (1, .int v1), (2, .int (v2 + 1))]) [1, 2, 0] rfl ?_
  exact hk12 _ h
set_option maxRecDepth 100000 in
set_option maxHeartbeats 4000000 in
theorem t_X5_longestRising_59 {X : Fx} (hX : Cx X cX5_longestRising RX5 6 1 23) {r : Int32} {w1 : Wd} (hE : ∀ pc lv, decode cX5_longestRising pc = .ok (.ireturn, 1) → narrow .int (.int r) = .int r → Wa X w1 pc lv [.int r]) {k12 : Wd × Int32 × Int32 → Option (Int32 × Wd)} (hk12 : ∀ a, k12 a = some (r, w1) → Wa X a.1 12 [(0, .ref (Ad X 0)), (1, .int a.2.1), (2, .int a.2.2)] []) : ∀ (n : Nat) (a : Wd × Int32 × Int32 × Int32 × Int32 × Int32), L_X5_longestRising_59 k12 n a = some (r, w1) → Wa X a.1 59 [(0, .ref (Ad X 0)), (1, .int a.2.1), (2, .int a.2.2.1), (3, .int a.2.2.2.1), (4, .int a.2.2.2.2.1), (5, .int a.2.2.2.2.2)] [] := by
  refine it_mach (P := fun (a : Wd × Int32 × Int32 × Int32 × Int32 × Int32) => Wa X a.1 59 [(0, .ref (Ad X 0)), (1, .int a.2.1), (2, .int a.2.2.1), (3, .int a.2.2.2.1), (4, .int a.2.2.2.2.1), (5, .int a.2.2.2.2.2)] []) ?_
  intro k59 hk59 a h
  obtain ⟨w, v1, v2, v3, v4, v5⟩ := a
  have h : F_X5_longestRising_59 k12 k59 w v1 v2 v3 v4 v5 = some (r, w1) := h
  show Wa X w 59 [(0, .ref (Ad X 0)), (1, .int v1), (2, .int v2), (3, .int v3), (4, .int v4), (5, .int v5)] []
  unfold F_X5_longestRising_59 at h
  refine wa_iload hX 5 rfl dX5_longestRising_59 ?_
  refine wa_iload_n hX 3 rfl rfl dX5_longestRising_61 ?_
  refine wa_icmp_gt hX 85 (by decide) dX5_longestRising_62 (fun c => ?_) (fun c => ?_)
  · replace h := itp c h
    refine wa_aload_n hX 0 rfl rfl dX5_longestRising_85 ?_
    refine wg_stage_staying hX fl_X5_52 dX5_longestRising_86 ?_
    refine wa_iload_n hX 3 rfl rfl dX5_longestRising_89 ?_
    refine wa_iload hX 4 rfl dX5_longestRising_90 ?_
    refine wa_iconst hX 1 ki_1 dX5_longestRising_92 ?_
    refine wa_iadd hX dX5_longestRising_93 ?_
    obtain ⟨hg, h⟩ := gu_some h
    refine ws_stage_staying hX hg dX5_longestRising_94 ?_
    refine wa_iload_n hX 1 rfl rfl dX5_longestRising_95 ?_
    refine wa_iload hX 4 rfl dX5_longestRising_96 ?_
    refine wa_iconst hX 1 ki_1 dX5_longestRising_98 ?_
    refine wa_iadd hX dX5_longestRising_99 ?_
    refine wa_mmax hX ml_X5_210 st_Lib_Math_max_name in_J9 cd_Lib_Math_max_name (Nat.le_of_ble_eq_true rfl) (Nat.le_of_ble_eq_true rfl) dX5_longestRising_100 ?_
    refine wa_istore_n hX (lv2 := [(1, .int (if v1 < (v4 + 1) then (v4 + 1) else v1)), (0, .ref (Ad X 0)), (2, .int v2), (3, .int v3), (4, .int v4), (5, .int v5)]) rfl (by decide) rfl dX5_longestRising_103 ?_
    refine wa_sub (lv2 := [(0, .ref (Ad X 0)), (1, .int (if v1 < (v4 + 1) then (v4 + 1) else v1)), (2, .int v2)]) [1, 0, 2] rfl ?_
    exact t_X5_longestRising_104 hX hE hk12 h
  · replace h := itn c h
    refine wa_iload hX 4 rfl dX5_longestRising_65 ?_
    refine wa_aload_n hX 0 rfl rfl dX5_longestRising_67 ?_
    refine wg_stage_staying hX fl_X5_52 dX5_longestRising_68 ?_
    refine wa_iload hX 5 rfl dX5_longestRising_71 ?_
    obtain ⟨hg, h⟩ := gu_some h
    refine wl_stage_staying hX hg dX5_longestRising_73 ?_
    refine wa_mmax hX ml_X5_210 st_Lib_Math_max_name in_J9 cd_Lib_Math_max_name (Nat.le_of_ble_eq_true rfl) (Nat.le_of_ble_eq_true rfl) dX5_longestRising_74 ?_
    refine wa_let h (fun y2 h => ?_)
    refine wa_istore hX (lv2 := [(4, .int y2), (0, .ref (Ad X 0)), (1, .int v1), (2, .int v2), (3, .int v3), (5, .int v5)]) (by decide) rfl dX5_longestRising_77 ?_
    refine wa_iinc hX (v := (v5 + 1)) (lv2 := [(5, .int (v5 + 1)), (4, .int y2), (0, .ref (Ad X 0)), (1, .int v1), (2, .int v2), (3, .int v3)]) 5 rfl rfl (by decide) rfl dX5_longestRising_79 ?_
    refine wa_goto hX 59 (by decide) dX5_longestRising_82 ?_
    refine wa_sub (lv2 := [(0, .ref (Ad X 0)), (1, .int v1), (2, .int v2), (3, .int v3), (4, .int y2), (5, .int (v5 + 1))]) [2, 3, 4, 5, 1, 0] rfl ?_
    exact hk59 _ h
set_option maxRecDepth 100000 in
set_option maxHeartbeats 4000000 in
theorem t_X5_longestRising_12 {X : Fx} (hX : Cx X cX5_longestRising RX5 6 1 23) {r : Int32} {w1 : Wd} (hE : ∀ pc lv, decode cX5_longestRising pc = .ok (.ireturn, 1) → narrow .int (.int r) = .int r → Wa X w1 pc lv [.int r])  : ∀ (n : Nat) (a : Wd × Int32 × Int32), L_X5_longestRising_12  n a = some (r, w1) → Wa X a.1 12 [(0, .ref (Ad X 0)), (1, .int a.2.1), (2, .int a.2.2)] [] := by
  refine it_mach (P := fun (a : Wd × Int32 × Int32) => Wa X a.1 12 [(0, .ref (Ad X 0)), (1, .int a.2.1), (2, .int a.2.2)] []) ?_
  intro k12 hk12 a h
  obtain ⟨w, v1, v2⟩ := a
  have h : F_X5_longestRising_12 k12 w v1 v2 = some (r, w1) := h
  show Wa X w 12 [(0, .ref (Ad X 0)), (1, .int v1), (2, .int v2)] []
  unfold F_X5_longestRising_12 at h
  refine wa_iload_n hX 2 rfl rfl dX5_longestRising_12 ?_
  refine wa_aload_n hX 0 rfl rfl dX5_longestRising_13 ?_
  refine wg_stage_play hX fl_X5_27 dX5_longestRising_14 ?_
  refine wgN_play_lineCount hX fn_X5_110 dX5_longestRising_17 ?_
  refine wa_icmp_ge hX 110 (by decide) dX5_longestRising_20 (fun c => ?_) (fun c => ?_)
  · replace h := itp c h
    refine wa_iload_n hX 1 rfl rfl dX5_longestRising_110 ?_
    exact ret_i hE h dX5_longestRising_111
  · replace h := itn c h
    refine wa_aload_n hX 0 rfl rfl dX5_longestRising_23 ?_
    refine wg_stage_play hX fl_X5_27 dX5_longestRising_24 ?_
    refine wgN_play_manyAt hX fn_X5_228 dX5_longestRising_27 ?_
    refine wa_iload_n hX 2 rfl rfl dX5_longestRising_30 ?_
    obtain ⟨hg, h⟩ := gu_some h
    refine wl_play_manyAt hX hg dX5_longestRising_31 ?_
    refine wa_istore_n hX (lv2 := [(3, .int (w.2.1 6 v2.toNatClampNeg)), (0, .ref (Ad X 0)), (1, .int v1), (2, .int v2)]) rfl (by decide) rfl dX5_longestRising_32 ?_
    refine wa_iload_n hX 0 rfl rfl dX5_longestRising_33 ?_
    refine wa_aload_n hX 1 rfl rfl dX5_longestRising_34 ?_
    refine wg_stage_rules hX fl_X5_10 dX5_longestRising_35 ?_
    refine wgN_rules_k hX fn_X5_64 dX5_longestRising_38 ?_
    refine wa_icmp_lt hX 104 (by decide) dX5_longestRising_41 (fun c => ?_) (fun c => ?_)
    · replace h := itp c h
      refine wa_sub (lv2 := [(0, .ref (Ad X 0)), (1, .int v1), (2, .int v2)]) [1, 2, 3] rfl ?_
      exact t_X5_longestRising_104 hX hE hk12 h
    · replace h := itn c h
      refine wa_iload_n hX 0 rfl rfl dX5_longestRising_44 ?_
      refine wa_bipush hX 8 kb_8 dX5_longestRising_45 ?_
      refine wa_icmp_le hX 53 (by decide) dX5_longestRising_47 (fun c => ?_) (fun c => ?_)
      · replace h := itp c h
        refine wa_iconst hX 0 ki_0 dX5_longestRising_53 ?_
        refine wa_istore hX (lv2 := [(4, .int 0), (3, .int (w.2.1 6 v2.toNatClampNeg)), (0, .ref (Ad X 0)), (1, .int v1), (2, .int v2)]) (by decide) rfl dX5_longestRising_54 ?_
        refine wa_iconst hX 0 ki_0 dX5_longestRising_56 ?_
        refine wa_istore hX (lv2 := [(5, .int 0), (4, .int 0), (3, .int (w.2.1 6 v2.toNatClampNeg)), (0, .ref (Ad X 0)), (1, .int v1), (2, .int v2)]) (by decide) rfl dX5_longestRising_57 ?_
        refine wa_sub (lv2 := [(0, .ref (Ad X 0)), (1, .int v1), (2, .int v2), (3, .int (w.2.1 6 v2.toNatClampNeg)), (4, .int 0), (5, .int 0)]) [3, 4, 5, 2, 1, 0] rfl ?_
        exact t_X5_longestRising_59 hX hE hk12 _ _ h
      · replace h := itn c h
        refine wa_goto hX 104 (by decide) dX5_longestRising_50 ?_
        refine wa_sub (lv2 := [(0, .ref (Ad X 0)), (1, .int v1), (2, .int v2)]) [1, 2, 3] rfl ?_
        exact t_X5_longestRising_104 hX hE hk12 h
set_option maxRecDepth 100000 in
set_option maxHeartbeats 4000000 in
theorem m_X5_longestRising {w w1 : Wd} {r : Int32} (h : F_X5_longestRising w  = some (r, w1)) : Gi yX5_longestRising cX5_longestRising 6 (some .int) 1 23 (fun E => [.ref (E.2.1 0)]) w w1 r := by
  refine Gi.of (hy := by decide +kernel) (hlen := fun _ => Nat.le_of_ble_eq_true rfl) (fun X hX hE => ?_)
  · unfold F_X5_longestRising at h
    refine (show Wa X w 0 [(0, .ref (Ad X 0))] [] from ?_)
    refine wa_aload_n hX 0 rfl rfl dX5_longestRising_0 ?_
    refine wg_stage_staying hX fl_X5_52 dX5_longestRising_1 ?_
    refine wa_iconst hX 0 ki_0 dX5_longestRising_4 ?_
    obtain ⟨x1, h2, h⟩ := obind h
    refine wa_callSv hX (m_J7_fill_stage_staying h2) cx_J7_fill_53178 ml_X5_231 (As := [.ref (Ad X 3), .int 0]) (rest := []) rfl rfl rfl ⟨Nat.le_of_ble_eq_true rfl, Nat.le_of_ble_eq_true rfl⟩ (Nat.le_of_ble_eq_true rfl) dX5_longestRising_5 ?_
    refine wa_iconst hX 0 ki_0 dX5_longestRising_8 ?_
    refine wa_istore_n hX (lv2 := [(1, .int 0), (0, .ref (Ad X 0))]) rfl (by decide) rfl dX5_longestRising_9 ?_
    refine wa_iconst hX 0 ki_0 dX5_longestRising_10 ?_
    refine wa_istore_n hX (lv2 := [(2, .int 0), (1, .int 0), (0, .ref (Ad X 0))]) rfl (by decide) rfl dX5_longestRising_11 ?_
    refine wa_sub (lv2 := [(0, .ref (Ad X 0)), (1, .int 0), (2, .int 0)]) [2, 1, 0] rfl ?_
    exact t_X5_longestRising_12 hX hE  _ _ h
set_option maxRecDepth 100000 in
set_option maxHeartbeats 4000000 in
theorem t_X5_linesInLaw_4 {X : Fx} (hX : Cx X cX5_linesInLaw RX5 3 1 22) {r : Int32} {w1 : Wd} (hE : ∀ pc lv, decode cX5_linesInLaw pc = .ok (.ireturn, 1) → narrow .int (.int r) = .int r → Wa X w1 pc lv [.int r])  : ∀ (n : Nat) (a : Wd × Int32 × Int32), L_X5_linesInLaw_4  n a = some (r, w1) → Wa X a.1 4 [(0, .ref (Ad X 0)), (1, .int a.2.1), (2, .int a.2.2)] [] := by
  refine it_mach (P := fun (a : Wd × Int32 × Int32) => Wa X a.1 4 [(0, .ref (Ad X 0)), (1, .int a.2.1), (2, .int a.2.2)] []) ?_
  intro k4 hk4 a h
  obtain ⟨w, v1, v2⟩ := a
  have h : F_X5_linesInLaw_4 k4 w v1 v2 = some (r, w1) := h
  show Wa X w 4 [(0, .ref (Ad X 0)), (1, .int v1), (2, .int v2)] []
  unfold F_X5_linesInLaw_4 at h
  refine wa_iload_n hX 2 rfl rfl dX5_linesInLaw_4 ?_
  refine wa_aload_n hX 0 rfl rfl dX5_linesInLaw_5 ?_
  refine wg_stage_play hX fl_X5_27 dX5_linesInLaw_6 ?_
  refine wgN_play_lineCount hX fn_X5_110 dX5_linesInLaw_9 ?_
  refine wa_icmp_ge hX 44 (by decide) dX5_linesInLaw_12 (fun c => ?_) (fun c => ?_)
  · replace h := itp c h
    refine wa_iload_n hX 1 rfl rfl dX5_linesInLaw_44 ?_
    exact ret_i hE h dX5_linesInLaw_45
  · replace h := itn c h
    refine wa_aload_n hX 0 rfl rfl dX5_linesInLaw_15 ?_
    refine wg_stage_rules hX fl_X5_10 dX5_linesInLaw_16 ?_
    refine wa_aload_n hX 0 rfl rfl dX5_linesInLaw_19 ?_
    refine wg_stage_play hX fl_X5_27 dX5_linesInLaw_20 ?_
    refine wgN_play_manyAt hX fn_X5_228 dX5_linesInLaw_23 ?_
    refine wa_iload_n hX 2 rfl rfl dX5_linesInLaw_26 ?_
    obtain ⟨hg, h⟩ := gu_some h
    refine wl_play_manyAt hX hg dX5_linesInLaw_27 ?_
    refine wa_iconst hX 0 ki_0 dX5_linesInLaw_28 ?_
    obtain ⟨x1, h2, h⟩ := obind h
    refine wa_callVi hX (m_X3_holds h2) cx_X3_holds ml_X5_215 (As := [.int (w.2.1 6 v2.toNatClampNeg), .int 0]) (rest := []) 8 (ce_rules _ _) rfl rfl rfl rfl ⟨Nat.le_of_ble_eq_true rfl, Nat.le_of_ble_eq_true rfl⟩ (Nat.le_of_ble_eq_true rfl) dX5_linesInLaw_29 ?_
    have hJ : Wa X x1.2 38 [(0, .ref (Ad X 0)), (1, .int (if x1.1 = 0 then v1 else (v1 + 1))), (2, .int v2)] [] := by
      refine wa_iinc hX (v := (v2 + 1)) (lv2 := [(2, .int (v2 + 1)), (0, .ref (Ad X 0)), (1, .int (if x1.1 = 0 then v1 else (v1 + 1)))]) 2 rfl rfl (by decide) rfl dX5_linesInLaw_38 ?_
      refine wa_goto hX 4 (by decide) dX5_linesInLaw_41 ?_
      refine wa_sub (lv2 := [(0, .ref (Ad X 0)), (1, .int (if x1.1 = 0 then v1 else (v1 + 1))), (2, .int (v2 + 1))]) [1, 2, 0] rfl ?_
      exact hk4 _ h
    refine wa_if_eq hX 38 (by decide) dX5_linesInLaw_32 (fun c => ?_) (fun c => ?_)
    · rw [show (if x1.1 = 0 then v1 else (v1 + 1)) = v1 from if_pos c] at hJ
      exact hJ
    · refine wa_iinc hX (v := (v1 + 1)) (lv2 := [(1, .int (v1 + 1)), (0, .ref (Ad X 0)), (2, .int v2)]) 1 rfl rfl (by decide) rfl dX5_linesInLaw_35 ?_
      refine wa_sub (lv2 := [(0, .ref (Ad X 0)), (1, .int (v1 + 1)), (2, .int v2)]) [1, 0, 2] rfl ?_
      rw [show (if x1.1 = 0 then v1 else (v1 + 1)) = (v1 + 1) from if_neg c] at hJ
      exact hJ
set_option maxRecDepth 100000 in
set_option maxHeartbeats 4000000 in
theorem m_X5_linesInLaw {w w1 : Wd} {r : Int32} (h : F_X5_linesInLaw w  = some (r, w1)) : Gi yX5_linesInLaw cX5_linesInLaw 3 (some .int) 1 22 (fun E => [.ref (E.2.1 0)]) w w1 r := by
  refine Gi.of (hy := by decide +kernel) (hlen := fun _ => Nat.le_of_ble_eq_true rfl) (fun X hX hE => ?_)
  · unfold F_X5_linesInLaw at h
    refine (show Wa X w 0 [(0, .ref (Ad X 0))] [] from ?_)
    refine wa_iconst hX 0 ki_0 dX5_linesInLaw_0 ?_
    refine wa_istore_n hX (lv2 := [(1, .int 0), (0, .ref (Ad X 0))]) rfl (by decide) rfl dX5_linesInLaw_1 ?_
    refine wa_iconst hX 0 ki_0 dX5_linesInLaw_2 ?_
    refine wa_istore_n hX (lv2 := [(2, .int 0), (1, .int 0), (0, .ref (Ad X 0))]) rfl (by decide) rfl dX5_linesInLaw_3 ?_
    refine wa_sub (lv2 := [(0, .ref (Ad X 0)), (1, .int 0), (2, .int 0)]) [2, 1, 0] rfl ?_
    exact t_X5_linesInLaw_4 hX hE  _ _ h
set_option maxRecDepth 100000 in
set_option maxHeartbeats 4000000 in
theorem t_X5_cuts_60 {X : Fx} (hX : Cx X cX5_cuts RX5 3 5 111) {r : Int32} {w1 : Wd} (hE : ∀ pc lv, decode cX5_cuts pc = .ok (.ireturn, 1) → narrow .int (.int r) = .int r → Wa X w1 pc lv [.int r])  {w : Wd} {s0 : Int32} {s1 : Int32} (h : F_X5_cuts_60 w s0 s1 = some (r, w1)) : Wa X w 60 [] [.int s0, .int s1] := by
  unfold F_X5_cuts_60 at h
  refine wa_isub hX dX5_cuts_60 ?_
  exact ret_i hE h dX5_cuts_61
set_option maxRecDepth 100000 in
set_option maxHeartbeats 4000000 in
theorem m_X5_cuts {w w1 : Wd} {r : Int32} (h : F_X5_cuts w  = some (r, w1)) : Gi yX5_cuts cX5_cuts 3 (some .int) 5 111 (fun E => [.ref (E.2.1 0)]) w w1 r := by
  refine Gi.of (hy := by decide +kernel) (hlen := fun _ => Nat.le_of_ble_eq_true rfl) (fun X hX hE => ?_)
  · unfold F_X5_cuts at h
    refine (show Wa X w 0 [(0, .ref (Ad X 0))] [] from ?_)
    refine wa_aload_n hX 0 rfl rfl dX5_cuts_0 ?_
    obtain ⟨x1, h2, h⟩ := obind h
    refine wa_callVi hX (m_X5_refusalOfLines h2) cx_X5_refusalOfLines ml_X5_83 (As := []) (rest := []) 0 (ce_stage _ _) rfl rfl rfl rfl ⟨Nat.le_of_ble_eq_true rfl, Nat.le_of_ble_eq_true rfl⟩ (Nat.le_of_ble_eq_true rfl) dX5_cuts_1 ?_
    refine wa_istore_n hX (lv2 := [(1, .int x1.1), (0, .ref (Ad X 0))]) rfl (by decide) rfl dX5_cuts_4 ?_
    refine wa_iload_n hX 0 rfl rfl dX5_cuts_5 ?_
    refine wa_if_eq hX 11 (by decide) dX5_cuts_6 (fun c => ?_) (fun c => ?_)
    · replace h := itp c h
      refine wa_aload_n hX 1 rfl rfl dX5_cuts_11 ?_
      refine wg_stage_rules hX fl_X5_10 dX5_cuts_12 ?_
      refine wgN_rules_law hX fn_X5_60 dX5_cuts_15 ?_
      have hJ : Wa X x1.2 37 [(0, .ref (Ad X 0))] [.int (if (x1.2.1 8) = 0 then 1 else (if (x1.2.1 8) = 1 then (1 : Int32) else 0))] := by
        refine wa_let h (fun y2 h => ?_)
        refine wa_istore_n hX (lv2 := [(2, .int y2), (0, .ref (Ad X 0))]) rfl (by decide) rfl dX5_cuts_37 ?_
        refine wa_aload_n hX 1 rfl rfl dX5_cuts_38 ?_
        refine wg_stage_play hX fl_X5_27 dX5_cuts_39 ?_
        refine wgN_play_lineCount hX fn_X5_110 dX5_cuts_42 ?_
        refine wa_iload_n hX 0 rfl rfl dX5_cuts_45 ?_
        refine wa_if_eq hX 56 (by decide) dX5_cuts_46 (fun c => ?_) (fun c => ?_)
        · replace h := itp c h
          refine wa_aload_n hX 1 rfl rfl dX5_cuts_56 ?_
          obtain ⟨x3, h2, h⟩ := obind h
          refine wa_callVi hX (m_X5_longestRising h2) cx_X5_longestRising ml_X5_148 (As := []) (rest := [.int (x1.2.1 4)]) 0 (ce_stage _ _) rfl rfl rfl rfl ⟨Nat.le_of_ble_eq_true rfl, Nat.le_of_ble_eq_true rfl⟩ (Nat.le_of_ble_eq_true rfl) dX5_cuts_57 ?_
          refine wa_sub (lv2 := []) [] rfl ?_
          exact t_X5_cuts_60 hX hE  h
        · replace h := itn c h
          refine wa_aload_n hX 1 rfl rfl dX5_cuts_49 ?_
          obtain ⟨x4, h2, h⟩ := obind h
          refine wa_callVi hX (m_X5_linesInLaw h2) cx_X5_linesInLaw ml_X5_145 (As := []) (rest := [.int (x1.2.1 4)]) 0 (ce_stage _ _) rfl rfl rfl rfl ⟨Nat.le_of_ble_eq_true rfl, Nat.le_of_ble_eq_true rfl⟩ (Nat.le_of_ble_eq_true rfl) dX5_cuts_50 ?_
          refine wa_goto hX 60 (by decide) dX5_cuts_53 ?_
          refine wa_sub (lv2 := []) [] rfl ?_
          exact t_X5_cuts_60 hX hE  h
      refine wa_if_eq hX 32 (by decide) dX5_cuts_18 (fun c => ?_) (fun c => ?_)
      · refine wa_iconst hX 1 ki_1 dX5_cuts_32 ?_
        refine wa_goto hX 37 (by decide) dX5_cuts_33 ?_
        refine wa_sub (lv2 := [(0, .ref (Ad X 0))]) [1] rfl ?_
        rw [show (if (x1.2.1 8) = 0 then 1 else (if (x1.2.1 8) = 1 then (1 : Int32) else 0)) = 1 from if_pos c] at hJ
        exact hJ
      · refine wa_aload_n hX 1 rfl rfl dX5_cuts_21 ?_
        refine wg_stage_rules hX fl_X5_10 dX5_cuts_22 ?_
        refine wgN_rules_law hX fn_X5_60 dX5_cuts_25 ?_
        refine wa_iconst hX 1 ki_1 dX5_cuts_28 ?_
        have hI : Wa X x1.2 37 [(0, .ref (Ad X 0))] [.int (if (x1.2.1 8) = 1 then (1 : Int32) else 0)] := by
          rw [show (if (x1.2.1 8) = 0 then 1 else (if (x1.2.1 8) = 1 then (1 : Int32) else 0)) = (if (x1.2.1 8) = 1 then (1 : Int32) else 0) from if_neg c] at hJ
          exact hJ
        refine wa_icmp_ne hX 36 (by decide) dX5_cuts_29 (fun c2 => ?_) (fun c2 => ?_)
        · refine wa_iconst hX 0 ki_0 dX5_cuts_36 ?_
          refine wa_sub (lv2 := [(0, .ref (Ad X 0))]) [1] rfl ?_
          rw [show (if (x1.2.1 8) = 1 then (1 : Int32) else 0) = 0 from if_neg c2] at hI
          exact hI
        · refine wa_iconst hX 1 ki_1 dX5_cuts_32 ?_
          refine wa_goto hX 37 (by decide) dX5_cuts_33 ?_
          refine wa_sub (lv2 := [(0, .ref (Ad X 0))]) [1] rfl ?_
          rw [show (if (x1.2.1 8) = 1 then (1 : Int32) else 0) = 1 from if_pos c2] at hI
          exact hI
    · replace h := itn c h
      refine wa_iload_n hX 0 rfl rfl dX5_cuts_9 ?_
      exact ret_i hE h dX5_cuts_10
set_option maxRecDepth 100000 in
set_option maxHeartbeats 4000000 in
theorem t_X0_partsOf_4 {X : Fx} (hX : Cx X cX0_partsOf RX0 4 0 0) {r : Int32} {w1 : Wd} (hE : ∀ pc lv, decode cX0_partsOf pc = .ok (.ireturn, 1) → narrow .int (.int r) = .int r → Wa X w1 pc lv [.int r])  : ∀ (n : Nat) (a : Wd × Int32 × Int32 × Int32), L_X0_partsOf_4  n a = some (r, w1) → Wa X a.1 4 [(0, .ref (Ad X 26)), (1, .int a.2.1), (2, .int a.2.2.1), (3, .int a.2.2.2)] [] := by
  refine it_mach (P := fun (a : Wd × Int32 × Int32 × Int32) => Wa X a.1 4 [(0, .ref (Ad X 26)), (1, .int a.2.1), (2, .int a.2.2.1), (3, .int a.2.2.2)] []) ?_
  intro k4 hk4 a h
  obtain ⟨w, v1, v2, v3⟩ := a
  have h : F_X0_partsOf_4 k4 w v1 v2 v3 = some (r, w1) := h
  show Wa X w 4 [(0, .ref (Ad X 26)), (1, .int v1), (2, .int v2), (3, .int v3)] []
  unfold F_X0_partsOf_4 at h
  refine wa_iload_n hX 3 rfl rfl dX0_partsOf_4 ?_
  refine wa_bipush hX 8 kb_8 dX0_partsOf_5 ?_
  refine wa_icmp_ge hX 32 (by decide) dX0_partsOf_7 (fun c => ?_) (fun c => ?_)
  · replace h := itp c h
    refine wa_iload_n hX 2 rfl rfl dX0_partsOf_32 ?_
    exact ret_i hE h dX0_partsOf_33
  · replace h := itn c h
    refine wa_aload_n hX 0 rfl rfl dX0_partsOf_10 ?_
    refine wg_company_playerOf hX fl_X0_9 dX0_partsOf_11 ?_
    refine wa_iload_n hX 3 rfl rfl dX0_partsOf_14 ?_
    obtain ⟨hg, h⟩ := gu_some h
    refine wl_company_playerOf hX hg dX0_partsOf_15 ?_
    refine wa_iload_n hX 1 rfl rfl dX0_partsOf_16 ?_
    have hJ : Wa X w 26 [(0, .ref (Ad X 26)), (1, .int v1), (2, .int (if (w.2.1 27 v3.toNatClampNeg) = v1 then (v2 ||| (1 <<< (v3 &&& 31))) else v2)), (3, .int v3)] [] := by
      refine wa_iinc hX (v := (v3 + 1)) (lv2 := [(3, .int (v3 + 1)), (0, .ref (Ad X 26)), (1, .int v1), (2, .int (if (w.2.1 27 v3.toNatClampNeg) = v1 then (v2 ||| (1 <<< (v3 &&& 31))) else v2))]) 3 rfl rfl (by decide) rfl dX0_partsOf_26 ?_
      refine wa_goto hX 4 (by decide) dX0_partsOf_29 ?_
      refine wa_sub (lv2 := [(0, .ref (Ad X 26)), (1, .int v1), (2, .int (if (w.2.1 27 v3.toNatClampNeg) = v1 then (v2 ||| (1 <<< (v3 &&& 31))) else v2)), (3, .int (v3 + 1))]) [1, 2, 3, 0] rfl ?_
      exact hk4 _ h
    refine wa_icmp_ne hX 26 (by decide) dX0_partsOf_17 (fun c => ?_) (fun c => ?_)
    · rw [show (if (w.2.1 27 v3.toNatClampNeg) = v1 then (v2 ||| (1 <<< (v3 &&& 31))) else v2) = v2 from if_neg c] at hJ
      exact hJ
    · refine wa_iload_n hX 2 rfl rfl dX0_partsOf_20 ?_
      refine wa_iconst hX 1 ki_1 dX0_partsOf_21 ?_
      refine wa_iload_n hX 3 rfl rfl dX0_partsOf_22 ?_
      refine wa_ishl hX dX0_partsOf_23 ?_
      refine wa_ior hX dX0_partsOf_24 ?_
      refine wa_istore_n hX (lv2 := [(2, .int (v2 ||| (1 <<< (v3 &&& 31)))), (0, .ref (Ad X 26)), (1, .int v1), (3, .int v3)]) rfl (by decide) rfl dX0_partsOf_25 ?_
      refine wa_sub (lv2 := [(0, .ref (Ad X 26)), (1, .int v1), (2, .int (v2 ||| (1 <<< (v3 &&& 31)))), (3, .int v3)]) [1, 2, 0, 3] rfl ?_
      rw [show (if (w.2.1 27 v3.toNatClampNeg) = v1 then (v2 ||| (1 <<< (v3 &&& 31))) else v2) = (v2 ||| (1 <<< (v3 &&& 31))) from if_pos c] at hJ
      exact hJ
set_option maxRecDepth 100000 in
set_option maxHeartbeats 4000000 in
theorem m_X0_partsOf {w w1 : Wd} {p1 : Int32} {r : Int32} (h : F_X0_partsOf w p1 = some (r, w1)) : Gi yX0_partsOf cX0_partsOf 4 (some .int) 0 0 (fun E => [.ref (E.2.1 26), .int p1]) w w1 r := by
  refine Gi.of (hy := by decide +kernel) (hlen := fun _ => Nat.le_of_ble_eq_true rfl) (fun X hX hE => ?_)
  · unfold F_X0_partsOf at h
    refine (show Wa X w 0 [(0, .ref (Ad X 26)), (1, .int p1)] [] from ?_)
    refine wa_iconst hX 0 ki_0 dX0_partsOf_0 ?_
    refine wa_istore_n hX (lv2 := [(2, .int 0), (0, .ref (Ad X 26)), (1, .int p1)]) rfl (by decide) rfl dX0_partsOf_1 ?_
    refine wa_iconst hX 0 ki_0 dX0_partsOf_2 ?_
    refine wa_istore_n hX (lv2 := [(3, .int 0), (2, .int 0), (0, .ref (Ad X 26)), (1, .int p1)]) rfl (by decide) rfl dX0_partsOf_3 ?_
    refine wa_sub (lv2 := [(0, .ref (Ad X 26)), (1, .int p1), (2, .int 0), (3, .int 0)]) [2, 3, 1, 0] rfl ?_
    exact t_X0_partsOf_4 hX hE  _ _ h
set_option maxRecDepth 100000 in
set_option maxHeartbeats 4000000 in
theorem t_X0_isCast_98 {dd : Nat} {X : Fx} (hX : Cx X cX0_isCast RX0 4 (dd + 3) (40 * dd + 100)) {r : Int32} {w1 : Wd} (hE : ∀ pc lv, decode cX0_isCast pc = .ok (.ireturn, 1) → narrow .boolean (.int r) = .int r → Wa X w1 pc lv [.int r]) {rec : Wd → Int32 → Int32 → Option (Int32 × Wd)} (hrec : ∀ (w w1 : Wd) (a b r : Int32), rec w a b = some (r, w1) → Gi yX0_isCast cX0_isCast 4 (some .boolean) (dd + 2) (40 * dd + 60) (fun E => [.ref (E.2.1 26), .int a, .int b]) w w1 r) {w : Wd} (h : F_X0_isCast_98 rec w = some (r, w1)) : Wa X w 98 [] [] := by
  unfold F_X0_isCast_98 at h
  refine wa_iconst hX 0 ki_0 dX0_isCast_98 ?_
  exact ret_z hE h (by decide) dX0_isCast_99
set_option maxRecDepth 100000 in
set_option maxHeartbeats 4000000 in
theorem t_X0_isCast_92 {dd : Nat} {X : Fx} (hX : Cx X cX0_isCast RX0 4 (dd + 3) (40 * dd + 100)) {r : Int32} {w1 : Wd} (hE : ∀ pc lv, decode cX0_isCast pc = .ok (.ireturn, 1) → narrow .boolean (.int r) = .int r → Wa X w1 pc lv [.int r]) {rec : Wd → Int32 → Int32 → Option (Int32 × Wd)} (hrec : ∀ (w w1 : Wd) (a b r : Int32), rec w a b = some (r, w1) → Gi yX0_isCast cX0_isCast 4 (some .boolean) (dd + 2) (40 * dd + 60) (fun E => [.ref (E.2.1 26), .int a, .int b]) w w1 r) {k30 : Wd × Int32 × Int32 × Int32 → Option (Int32 × Wd)} (hk30 : ∀ a, k30 a = some (r, w1) → Wa X a.1 30 [(0, .ref (Ad X 26)), (1, .int a.2.1), (2, .int a.2.2.1), (3, .int a.2.2.2)] []) {w : Wd} {v1 : Int32} {v2 : Int32} {v3 : Int32} (h : F_X0_isCast_92 rec k30 w v1 v2 v3 = some (r, w1)) : Wa X w 92 [(0, .ref (Ad X 26)), (1, .int v1), (2, .int v2), (3, .int v3)] [] := by
  unfold F_X0_isCast_92 at h
  refine wa_iinc hX (v := (v3 + 1)) (lv2 := [(3, .int (v3 + 1)), (0, .ref (Ad X 26)), (1, .int v1), (2, .int v2)]) 3 rfl rfl (by decide) rfl dX0_isCast_92 ?_
  refine wa_goto hX 30 (by decide) dX0_isCast_95 ?_
  refine wa_sub (lv2 := [(0, .ref (Ad X 26)), (1, .int v1), (2, .int v2), (3, .int (v3 + 1))]) [1, 2, 3, 0] rfl ?_
  exact hk30 _ h
set_option maxRecDepth 100000 in
set_option maxHeartbeats 4000000 in
theorem t_X0_isCast_30 {dd : Nat} {X : Fx} (hX : Cx X cX0_isCast RX0 4 (dd + 3) (40 * dd + 100)) {r : Int32} {w1 : Wd} (hE : ∀ pc lv, decode cX0_isCast pc = .ok (.ireturn, 1) → narrow .boolean (.int r) = .int r → Wa X w1 pc lv [.int r]) {rec : Wd → Int32 → Int32 → Option (Int32 × Wd)} (hrec : ∀ (w w1 : Wd) (a b r : Int32), rec w a b = some (r, w1) → Gi yX0_isCast cX0_isCast 4 (some .boolean) (dd + 2) (40 * dd + 60) (fun E => [.ref (E.2.1 26), .int a, .int b]) w w1 r) : ∀ (n : Nat) (a : Wd × Int32 × Int32 × Int32), L_X0_isCast_30 rec n a = some (r, w1) → Wa X a.1 30 [(0, .ref (Ad X 26)), (1, .int a.2.1), (2, .int a.2.2.1), (3, .int a.2.2.2)] [] := by
  refine it_mach (P := fun (a : Wd × Int32 × Int32 × Int32) => Wa X a.1 30 [(0, .ref (Ad X 26)), (1, .int a.2.1), (2, .int a.2.2.1), (3, .int a.2.2.2)] []) ?_
  intro k30 hk30 a h
  obtain ⟨w, v1, v2, v3⟩ := a
  have h : F_X0_isCast_30 rec k30 w v1 v2 v3 = some (r, w1) := h
  show Wa X w 30 [(0, .ref (Ad X 26)), (1, .int v1), (2, .int v2), (3, .int v3)] []
  unfold F_X0_isCast_30 at h
  refine wa_iload_n hX 3 rfl rfl dX0_isCast_30 ?_
  refine wa_iload_n hX 2 rfl rfl dX0_isCast_31 ?_
  refine wa_icmp_gt hX 98 (by decide) dX0_isCast_32 (fun c => ?_) (fun c => ?_)
  · replace h := itp c h
    refine wa_sub (lv2 := []) [] rfl ?_
    exact t_X0_isCast_98 hX hE hrec h
  · replace h := itn c h
    refine wa_iload_n hX 3 rfl rfl dX0_isCast_35 ?_
    refine wa_aload_n hX 0 rfl rfl dX0_isCast_36 ?_
    refine wg_company_players hX fl_X0_35 dX0_isCast_37 ?_
    refine wa_icmp_ge hX 98 (by decide) dX0_isCast_40 (fun c => ?_) (fun c => ?_)
    · replace h := itp c h
      refine wa_sub (lv2 := []) [] rfl ?_
      exact t_X0_isCast_98 hX hE hrec h
    · replace h := itn c h
      refine wa_aload_n hX 0 rfl rfl dX0_isCast_43 ?_
      refine wg_company_clashes hX fl_X0_19 dX0_isCast_44 ?_
      refine wa_iload_n hX 1 rfl rfl dX0_isCast_47 ?_
      obtain ⟨hg, h⟩ := gu_some h
      refine wl_company_clashes hX hg dX0_isCast_48 ?_
      refine wa_aload_n hX 0 rfl rfl dX0_isCast_49 ?_
      refine wa_iload_n hX 3 rfl rfl dX0_isCast_50 ?_
      obtain ⟨x1, h2, h⟩ := obind h
      refine wa_callVi hX (m_X0_partsOf h2) cx_X0_partsOf ml_X0_42 (As := [.int v3]) (rest := [.int (w.2.1 29 v1.toNatClampNeg)]) 26 (ce_company _ _) rfl rfl rfl rfl ⟨by omega, by omega⟩ (Nat.le_of_ble_eq_true rfl) dX0_isCast_51 ?_
      refine wa_iand hX dX0_isCast_54 ?_
      refine wa_if_ne hX 92 (by decide) dX0_isCast_55 (fun c => ?_) (fun c => ?_)
      · replace h := itn c h
        exact t_X0_isCast_92 hX hE hrec hk30 h
      · replace h := itp c h
        refine wa_aload_n hX 0 rfl rfl dX0_isCast_58 ?_
        refine wg_company_playerOf hX fl_X0_9 dX0_isCast_59 ?_
        refine wa_iload_n hX 1 rfl rfl dX0_isCast_62 ?_
        refine wa_iload_n hX 3 rfl rfl dX0_isCast_63 ?_
        obtain ⟨hg, h⟩ := gu_some h
        refine ws_company_playerOf hX hg dX0_isCast_64 ?_
        refine wa_aload_n hX 0 rfl rfl dX0_isCast_65 ?_
        refine wa_iload_n hX 1 rfl rfl dX0_isCast_66 ?_
        refine wa_iconst hX 1 ki_1 dX0_isCast_67 ?_
        refine wa_iadd hX dX0_isCast_68 ?_
        refine wa_iload_n hX 2 rfl rfl dX0_isCast_69 ?_
        refine wa_iload_n hX 3 rfl rfl dX0_isCast_70 ?_
        refine wa_iconst hX 1 ki_1 dX0_isCast_71 ?_
        refine wa_iadd hX dX0_isCast_72 ?_
        refine wa_mmax hX ml_X0_46 st_Lib_Math_max_name in_J9 cd_Lib_Math_max_name (Nat.le_of_ble_eq_true rfl) (Nat.le_of_ble_eq_true rfl) dX0_isCast_73 ?_
        obtain ⟨x2, h2, h⟩ := obind h
        refine wa_callSi hX (hrec _ _ _ _ _ h2) cx_X0_isCast ml_X0_38 (As := [.ref (Ad X 26), .int (v1 + 1), .int (if v2 < (v3 + 1) then (v3 + 1) else v2)]) (rest := []) rfl rfl rfl ⟨by omega, by omega⟩ (Nat.le_of_ble_eq_true rfl) dX0_isCast_76 ?_
        refine wa_if_eq hX 84 (by decide) dX0_isCast_79 (fun c => ?_) (fun c => ?_)
        · replace h := itp c h
          refine wa_aload_n hX 0 rfl rfl dX0_isCast_84 ?_
          refine wg_company_playerOf hX fl_X0_9 dX0_isCast_85 ?_
          refine wa_iload_n hX 1 rfl rfl dX0_isCast_88 ?_
          refine wa_bipush hX (-6) kb_m6 dX0_isCast_89 ?_
          obtain ⟨hg, h⟩ := gu_some h
          refine ws_company_playerOf hX hg dX0_isCast_91 ?_
          exact t_X0_isCast_92 hX hE hrec hk30 h
        · replace h := itn c h
          refine wa_iconst hX 1 ki_1 dX0_isCast_82 ?_
          exact ret_z hE h (by decide) dX0_isCast_83
set_option maxRecDepth 100000 in
set_option maxHeartbeats 4000000 in
theorem m_X0_isCast_d : ∀ (dd : Nat) (w w1 : Wd) (p1 p2 : Int32) (r : Int32), F_X0_isCast dd w p1 p2 = some (r, w1) → Gi yX0_isCast cX0_isCast 4 (some .boolean) (dd + 2) (40 * dd + 60) (fun E => [.ref (E.2.1 26), .int p1, .int p2]) w w1 r := by
  intro dd
  induction dd with
  | zero => intro _ _ _ _ _ h; cases h
  | succ dd ih =>
    intro w w1 p1 p2 r h
    have hrec : ∀ (w w1 : Wd) (a b r : Int32), F_X0_isCast dd w a b = some (r, w1) → Gi yX0_isCast cX0_isCast 4 (some .boolean) (dd + 2) (40 * dd + 60) (fun E => [.ref (E.2.1 26), .int a, .int b]) w w1 r := fun w w1 a b r h => ih w w1 a b r h
    have h : F_X0_isCast_b (F_X0_isCast dd) w p1 p2 = some (r, w1) := h
    refine Gi.of (fr := dd + 3) (lo := 40 * dd + 100) (hy := by decide +kernel) (hlen := fun _ => Nat.le_of_ble_eq_true rfl) (fun X hX hE => ?_)
    unfold F_X0_isCast_b at h
    refine (show Wa X w 0 [(0, .ref (Ad X 26)), (1, .int p1), (2, .int p2)] [] from ?_)
    refine wa_iload_n hX 1 rfl rfl dX0_isCast_0 ?_
    refine wa_bipush hX 8 kb_8 dX0_isCast_1 ?_
    refine wa_icmp_lt hX 8 (by decide) dX0_isCast_3 (fun c => ?_) (fun c => ?_)
    · replace h := itp c h
      refine wa_aload_n hX 0 rfl rfl dX0_isCast_8 ?_
      refine wg_company_linesOf hX fl_X0_15 dX0_isCast_9 ?_
      refine wa_iload_n hX 1 rfl rfl dX0_isCast_12 ?_
      obtain ⟨hg, h⟩ := gu_some h
      refine wl_company_linesOf hX hg dX0_isCast_13 ?_
      refine wa_lconst hX 0 rfl dX0_isCast_14 ?_
      refine wa_lcmp hX dX0_isCast_15 ?_
      refine wa_if_ne hX 28 (by decide) dX0_isCast_16 (fun c => ?_) (fun c => ?_)
      · replace h := itn c h
        refine wa_iconst hX 0 ki_0 dX0_isCast_28 ?_
        refine wa_istore_n hX (lv2 := [(3, .int 0), (0, .ref (Ad X 26)), (1, .int p1), (2, .int p2)]) rfl (by decide) rfl dX0_isCast_29 ?_
        refine wa_sub (lv2 := [(0, .ref (Ad X 26)), (1, .int p1), (2, .int p2), (3, .int 0)]) [1, 2, 3, 0] rfl ?_
        exact t_X0_isCast_30 hX hE hrec _ _ h
      · replace h := itp c h
        refine wa_aload_n hX 0 rfl rfl dX0_isCast_19 ?_
        refine wa_iload_n hX 1 rfl rfl dX0_isCast_20 ?_
        refine wa_iconst hX 1 ki_1 dX0_isCast_21 ?_
        refine wa_iadd hX dX0_isCast_22 ?_
        refine wa_iload_n hX 2 rfl rfl dX0_isCast_23 ?_
        obtain ⟨x3, h2, h⟩ := obind h
        refine wa_callSi hX (hrec _ _ _ _ _ h2) cx_X0_isCast ml_X0_38 (As := [.ref (Ad X 26), .int (p1 + 1), .int p2]) (rest := []) rfl rfl rfl ⟨by omega, by omega⟩ (Nat.le_of_ble_eq_true rfl) dX0_isCast_24 ?_
        obtain ⟨hg, h⟩ := gu_some h
        exact ret_z hE h (isB_or hg) dX0_isCast_27
    · replace h := itn c h
      refine wa_iconst hX 1 ki_1 dX0_isCast_6 ?_
      exact ret_z hE h (by decide) dX0_isCast_7
set_option maxRecDepth 100000 in
set_option maxHeartbeats 4000000 in
theorem m_X0_isCast {w w1 : Wd} {p1 : Int32} {p2 : Int32} {r : Int32} (h : F_X0_isCast 10 w p1 p2 = some (r, w1)) : Gi yX0_isCast cX0_isCast 4 (some .boolean) 12 460 (fun E => [.ref (E.2.1 26), .int p1, .int p2]) w w1 r := m_X0_isCast_d 10 _ _ _ _ _ h
set_option maxRecDepth 100000 in
set_option maxHeartbeats 4000000 in
theorem t_X0_clashesOf_38 {X : Fx} (hX : Cx X cX0_clashesOf RX0 7 0 0) {r : Int32} {w1 : Wd} (hE : ∀ pc lv, decode cX0_clashesOf pc = .ok (.ireturn, 1) → narrow .int (.int r) = .int r → Wa X w1 pc lv [.int r])  : ∀ (n : Nat) (a : Wd × Int64 × Int32 × Int32), L_X0_clashesOf_38  n a = some (r, w1) → Wa X a.1 38 [(0, .ref (Ad X 26)), (3, .long a.2.1), (5, .int a.2.2.1), (6, .int a.2.2.2)] [] := by
  refine it_mach (P := fun (a : Wd × Int64 × Int32 × Int32) => Wa X a.1 38 [(0, .ref (Ad X 26)), (3, .long a.2.1), (5, .int a.2.2.1), (6, .int a.2.2.2)] []) ?_
  intro k38 hk38 a h
  obtain ⟨w, v3, v5, v6⟩ := a
  have h : F_X0_clashesOf_38 k38 w v3 v5 v6 = some (r, w1) := h
  show Wa X w 38 [(0, .ref (Ad X 26)), (3, .long v3), (5, .int v5), (6, .int v6)] []
  unfold F_X0_clashesOf_38 at h
  refine wa_iload hX 3 rfl dX0_clashesOf_38 ?_
  refine wa_bipush hX 8 kb_8 dX0_clashesOf_40 ?_
  refine wa_icmp_ge hX 74 (by decide) dX0_clashesOf_42 (fun c => ?_) (fun c => ?_)
  · replace h := itp c h
    refine wa_iload hX 2 rfl dX0_clashesOf_74 ?_
    exact ret_i hE h dX0_clashesOf_76
  · replace h := itn c h
    refine wa_lload_n hX 1 rfl rfl dX0_clashesOf_45 ?_
    refine wa_aload_n hX 0 rfl rfl dX0_clashesOf_46 ?_
    refine wg_company_linesOf hX fl_X0_15 dX0_clashesOf_47 ?_
    refine wa_iload hX 3 rfl dX0_clashesOf_50 ?_
    obtain ⟨hg, h⟩ := gu_some h
    refine wl_company_linesOf hX hg dX0_clashesOf_52 ?_
    refine wa_land hX dX0_clashesOf_53 ?_
    refine wa_lconst hX 0 rfl dX0_clashesOf_54 ?_
    refine wa_lcmp hX dX0_clashesOf_55 ?_
    have hJ : Wa X w 68 [(0, .ref (Ad X 26)), (3, .long v3), (5, .int (if (lg_cmp (v3 &&& w.2.2 28 v6.toNatClampNeg) 0) = 0 then v5 else (v5 ||| (1 <<< (v6 &&& 31))))), (6, .int v6)] [] := by
      refine wa_iinc hX (v := (v6 + 1)) (lv2 := [(6, .int (v6 + 1)), (0, .ref (Ad X 26)), (3, .long v3), (5, .int (if (lg_cmp (v3 &&& w.2.2 28 v6.toNatClampNeg) 0) = 0 then v5 else (v5 ||| (1 <<< (v6 &&& 31)))))]) 3 rfl rfl (by decide) rfl dX0_clashesOf_68 ?_
      refine wa_goto hX 38 (by decide) dX0_clashesOf_71 ?_
      refine wa_sub (lv2 := [(0, .ref (Ad X 26)), (3, .long v3), (5, .int (if (lg_cmp (v3 &&& w.2.2 28 v6.toNatClampNeg) 0) = 0 then v5 else (v5 ||| (1 <<< (v6 &&& 31))))), (6, .int (v6 + 1))]) [1, 2, 3, 0] rfl ?_
      exact hk38 _ h
    refine wa_if_eq hX 68 (by decide) dX0_clashesOf_56 (fun c => ?_) (fun c => ?_)
    · rw [show (if (lg_cmp (v3 &&& w.2.2 28 v6.toNatClampNeg) 0) = 0 then v5 else (v5 ||| (1 <<< (v6 &&& 31)))) = v5 from if_pos c] at hJ
      exact hJ
    · refine wa_iload hX 2 rfl dX0_clashesOf_59 ?_
      refine wa_iconst hX 1 ki_1 dX0_clashesOf_61 ?_
      refine wa_iload hX 3 rfl dX0_clashesOf_62 ?_
      refine wa_ishl hX dX0_clashesOf_64 ?_
      refine wa_ior hX dX0_clashesOf_65 ?_
      refine wa_istore hX (lv2 := [(5, .int (v5 ||| (1 <<< (v6 &&& 31)))), (0, .ref (Ad X 26)), (3, .long v3), (6, .int v6)]) (by decide) rfl dX0_clashesOf_66 ?_
      refine wa_sub (lv2 := [(0, .ref (Ad X 26)), (3, .long v3), (5, .int (v5 ||| (1 <<< (v6 &&& 31)))), (6, .int v6)]) [1, 2, 0, 3] rfl ?_
      rw [show (if (lg_cmp (v3 &&& w.2.2 28 v6.toNatClampNeg) 0) = 0 then v5 else (v5 ||| (1 <<< (v6 &&& 31)))) = (v5 ||| (1 <<< (v6 &&& 31))) from if_neg c] at hJ
      exact hJ
set_option maxRecDepth 100000 in
set_option maxHeartbeats 4000000 in
theorem t_X0_clashesOf_5 {X : Fx} (hX : Cx X cX0_clashesOf RX0 7 0 0) {r : Int32} {w1 : Wd} (hE : ∀ pc lv, decode cX0_clashesOf pc = .ok (.ireturn, 1) → narrow .int (.int r) = .int r → Wa X w1 pc lv [.int r])  : ∀ (n : Nat) (a : Wd × Int64 × Int64 × Int32), L_X0_clashesOf_5  n a = some (r, w1) → Wa X a.1 5 [(0, .ref (Ad X 26)), (1, .long a.2.1), (3, .long a.2.2.1), (5, .int a.2.2.2)] [] := by
  refine it_mach (P := fun (a : Wd × Int64 × Int64 × Int32) => Wa X a.1 5 [(0, .ref (Ad X 26)), (1, .long a.2.1), (3, .long a.2.2.1), (5, .int a.2.2.2)] []) ?_
  intro k5 hk5 a h
  obtain ⟨w, v1, v3, v5⟩ := a
  have h : F_X0_clashesOf_5 k5 w v1 v3 v5 = some (r, w1) := h
  show Wa X w 5 [(0, .ref (Ad X 26)), (1, .long v1), (3, .long v3), (5, .int v5)] []
  unfold F_X0_clashesOf_5 at h
  refine wa_iload hX 3 rfl dX0_clashesOf_5 ?_
  refine wa_aload_n hX 0 rfl rfl dX0_clashesOf_7 ?_
  refine wg_company_change hX fl_X0_22 dX0_clashesOf_8 ?_
  refine wa_icmp_gt hX 32 (by decide) dX0_clashesOf_11 (fun c => ?_) (fun c => ?_)
  · replace h := itp c h
    refine wa_iconst hX 0 ki_0 dX0_clashesOf_32 ?_
    refine wa_istore hX (lv2 := [(5, .int 0), (0, .ref (Ad X 26)), (1, .long v1), (3, .long v3)]) (by decide) rfl dX0_clashesOf_33 ?_
    refine wa_iconst hX 0 ki_0 dX0_clashesOf_35 ?_
    refine wa_istore hX (lv2 := [(6, .int 0), (5, .int 0), (0, .ref (Ad X 26)), (1, .long v1), (3, .long v3)]) (by decide) rfl dX0_clashesOf_36 ?_
    refine wa_sub (lv2 := [(0, .ref (Ad X 26)), (3, .long v3), (5, .int 0), (6, .int 0)]) [2, 4, 1, 0] rfl ?_
    exact t_X0_clashesOf_38 hX hE  _ _ h
  · replace h := itn c h
    refine wa_lload_n hX 2 rfl rfl dX0_clashesOf_14 ?_
    refine wa_lload_n hX 1 rfl rfl dX0_clashesOf_15 ?_
    refine wa_iload hX 3 rfl dX0_clashesOf_16 ?_
    refine wa_lshl hX dX0_clashesOf_18 ?_
    refine wa_lload_n hX 1 rfl rfl dX0_clashesOf_19 ?_
    refine wa_iload hX 3 rfl dX0_clashesOf_20 ?_
    refine wa_lushr hX dX0_clashesOf_22 ?_
    refine wa_lor hX dX0_clashesOf_23 ?_
    refine wa_lor hX dX0_clashesOf_24 ?_
    refine wa_letl h (fun y1 h => ?_)
    refine wa_lstore_n hX (lv2 := [(3, .long y1), (0, .ref (Ad X 26)), (1, .long v1), (5, .int v5)]) rfl (by decide) rfl dX0_clashesOf_25 ?_
    refine wa_iinc hX (v := (v5 + 1)) (lv2 := [(5, .int (v5 + 1)), (3, .long y1), (0, .ref (Ad X 26)), (1, .long v1)]) 3 rfl rfl (by decide) rfl dX0_clashesOf_26 ?_
    refine wa_goto hX 5 (by decide) dX0_clashesOf_29 ?_
    refine wa_sub (lv2 := [(0, .ref (Ad X 26)), (1, .long v1), (3, .long y1), (5, .int (v5 + 1))]) [2, 3, 1, 0] rfl ?_
    exact hk5 _ h
set_option maxRecDepth 100000 in
set_option maxHeartbeats 4000000 in
theorem m_X0_clashesOf {w w1 : Wd} {p1 : Int64} {r : Int32} (h : F_X0_clashesOf w p1 = some (r, w1)) : Gi yX0_clashesOf cX0_clashesOf 7 (some .int) 0 0 (fun E => [.ref (E.2.1 26), .long p1]) w w1 r := by
  refine Gi.of (hy := by decide +kernel) (hlen := fun _ => Nat.le_of_ble_eq_true rfl) (fun X hX hE => ?_)
  · unfold F_X0_clashesOf at h
    refine (show Wa X w 0 [(0, .ref (Ad X 26)), (1, .long p1)] [] from ?_)
    refine wa_lload_n hX 1 rfl rfl dX0_clashesOf_0 ?_
    refine wa_lstore_n hX (lv2 := [(3, .long p1), (0, .ref (Ad X 26)), (1, .long p1)]) rfl (by decide) rfl dX0_clashesOf_1 ?_
    refine wa_iconst hX 1 ki_1 dX0_clashesOf_2 ?_
    refine wa_istore hX (lv2 := [(5, .int 1), (3, .long p1), (0, .ref (Ad X 26)), (1, .long p1)]) (by decide) rfl dX0_clashesOf_3 ?_
    refine wa_sub (lv2 := [(0, .ref (Ad X 26)), (1, .long p1), (3, .long p1), (5, .int 1)]) [2, 3, 1, 0] rfl ?_
    exact t_X0_clashesOf_5 hX hE  _ _ h
set_option maxRecDepth 100000 in
set_option maxHeartbeats 4000000 in
theorem t_X0_choose_103 {X : Fx} (hX : Cx X cX0_choose RX0 5 13 583) {w1 : Wd} (hE : ∀ pc lv, decode cX0_choose pc = .ok (.return_, 1) → Wa X w1 pc lv [])  {w : Wd} (h : F_X0_choose_103 w = some w1) : Wa X w 103 [] [] := by
  unfold F_X0_choose_103 at h
  exact ret_v hE h dX0_choose_103
set_option maxRecDepth 100000 in
set_option maxHeartbeats 4000000 in
theorem t_X0_choose_73 {X : Fx} (hX : Cx X cX0_choose RX0 5 13 583) {w1 : Wd} (hE : ∀ pc lv, decode cX0_choose pc = .ok (.return_, 1) → Wa X w1 pc lv [])  : ∀ (n : Nat) (a : Wd × Int32 × Int32), L_X0_choose_73  n a = some w1 → Wa X a.1 73 [(0, .ref (Ad X 26)), (3, .int a.2.1), (4, .int a.2.2)] [] := by
  refine it_mach (P := fun (a : Wd × Int32 × Int32) => Wa X a.1 73 [(0, .ref (Ad X 26)), (3, .int a.2.1), (4, .int a.2.2)] []) ?_
  intro k73 hk73 a h
  obtain ⟨w, v3, v4⟩ := a
  have h : F_X0_choose_73 k73 w v3 v4 = some w1 := h
  show Wa X w 73 [(0, .ref (Ad X 26)), (3, .int v3), (4, .int v4)] []
  unfold F_X0_choose_73 at h
  refine wa_iload hX 2 rfl dX0_choose_73 ?_
  refine wa_bipush hX 8 kb_8 dX0_choose_75 ?_
  refine wa_icmp_gt hX 103 (by decide) dX0_choose_77 (fun c => ?_) (fun c => ?_)
  · replace h := itp c h
    refine wa_sub (lv2 := []) [] rfl ?_
    exact t_X0_choose_103 hX hE  h
  · replace h := itn c h
    refine wa_iload_n hX 1 rfl rfl dX0_choose_80 ?_
    refine wa_if_ne hX 103 (by decide) dX0_choose_81 (fun c => ?_) (fun c => ?_)
    · replace h := itn c h
      refine wa_sub (lv2 := []) [] rfl ?_
      exact t_X0_choose_103 hX hE  h
    · replace h := itp c h
      refine wa_aload_n hX 0 rfl rfl dX0_choose_84 ?_
      refine wa_iload hX 2 rfl dX0_choose_85 ?_
      refine wp_company_players hX fl_X0_35 dX0_choose_87 ?_
      refine wa_aload_n hX 0 rfl rfl dX0_choose_90 ?_
      refine wa_iconst hX 0 ki_0 dX0_choose_91 ?_
      refine wa_iconst hX 0 ki_0 dX0_choose_92 ?_
      obtain ⟨x1, h2, h⟩ := obind h
      refine wa_callSi hX (m_X0_isCast h2) cx_X0_isCast ml_X0_38 (As := [.ref (Ad X 26), .int 0, .int 0]) (rest := []) rfl rfl rfl ⟨Nat.le_of_ble_eq_true rfl, Nat.le_of_ble_eq_true rfl⟩ (Nat.le_of_ble_eq_true rfl) dX0_choose_93 ?_
      refine wa_istore_n hX (lv2 := [(3, .int x1.1), (0, .ref (Ad X 26)), (4, .int v4)]) rfl (by decide) rfl dX0_choose_96 ?_
      refine wa_iinc hX (v := (v4 + 1)) (lv2 := [(4, .int (v4 + 1)), (3, .int x1.1), (0, .ref (Ad X 26))]) 2 rfl rfl (by decide) rfl dX0_choose_97 ?_
      refine wa_goto hX 73 (by decide) dX0_choose_100 ?_
      refine wa_sub (lv2 := [(0, .ref (Ad X 26)), (3, .int x1.1), (4, .int (v4 + 1))]) [2, 1, 0] rfl ?_
      exact hk73 _ h
set_option maxRecDepth 100000 in
set_option maxHeartbeats 4000000 in
theorem t_X0_choose_40 {X : Fx} (hX : Cx X cX0_choose RX0 5 13 583) {w1 : Wd} (hE : ∀ pc lv, decode cX0_choose pc = .ok (.return_, 1) → Wa X w1 pc lv [])  : ∀ (n : Nat) (a : Wd × Int32), L_X0_choose_40  n a = some w1 → Wa X a.1 40 [(0, .ref (Ad X 26)), (3, .int a.2)] [] := by
  refine it_mach (P := fun (a : Wd × Int32) => Wa X a.1 40 [(0, .ref (Ad X 26)), (3, .int a.2)] []) ?_
  intro k40 hk40 a h
  obtain ⟨w, v3⟩ := a
  have h : F_X0_choose_40 k40 w v3 = some w1 := h
  show Wa X w 40 [(0, .ref (Ad X 26)), (3, .int v3)] []
  unfold F_X0_choose_40 at h
  refine wa_iload_n hX 1 rfl rfl dX0_choose_40 ?_
  refine wa_bipush hX 8 kb_8 dX0_choose_41 ?_
  refine wa_icmp_ge hX 68 (by decide) dX0_choose_43 (fun c => ?_) (fun c => ?_)
  · replace h := itp c h
    refine wa_iconst hX 0 ki_0 dX0_choose_68 ?_
    refine wa_istore_n hX (lv2 := [(3, .int 0), (0, .ref (Ad X 26))]) rfl (by decide) rfl dX0_choose_69 ?_
    refine wa_iconst hX 0 ki_0 dX0_choose_70 ?_
    refine wa_istore hX (lv2 := [(4, .int 0), (3, .int 0), (0, .ref (Ad X 26))]) (by decide) rfl dX0_choose_71 ?_
    refine wa_sub (lv2 := [(0, .ref (Ad X 26)), (3, .int 0), (4, .int 0)]) [2, 1, 0] rfl ?_
    exact t_X0_choose_73 hX hE  _ _ h
  · replace h := itn c h
    refine wa_aload_n hX 0 rfl rfl dX0_choose_46 ?_
    refine wg_company_clashes hX fl_X0_19 dX0_choose_47 ?_
    refine wa_iload_n hX 1 rfl rfl dX0_choose_50 ?_
    refine wa_aload_n hX 0 rfl rfl dX0_choose_51 ?_
    refine wa_aload_n hX 0 rfl rfl dX0_choose_52 ?_
    refine wg_company_linesOf hX fl_X0_15 dX0_choose_53 ?_
    refine wa_iload_n hX 1 rfl rfl dX0_choose_56 ?_
    obtain ⟨hg, h⟩ := gu_some h
    refine wl_company_linesOf hX hg dX0_choose_57 ?_
    obtain ⟨x2, h2, h⟩ := obind h
    refine wa_callVi hX (m_X0_clashesOf h2) cx_X0_clashesOf ml_X0_31 (As := [.long (w.2.2 28 v3.toNatClampNeg)]) (rest := [.int v3, .ref (Ad X 29)]) 26 (ce_company _ _) rfl rfl rfl rfl ⟨Nat.le_of_ble_eq_true rfl, Nat.le_of_ble_eq_true rfl⟩ (Nat.le_of_ble_eq_true rfl) dX0_choose_58 ?_
    obtain ⟨hg, h⟩ := gu_some h
    refine ws_company_clashes hX hg dX0_choose_61 ?_
    refine wa_iinc hX (v := (v3 + 1)) (lv2 := [(3, .int (v3 + 1)), (0, .ref (Ad X 26))]) 1 rfl rfl (by decide) rfl dX0_choose_62 ?_
    refine wa_goto hX 40 (by decide) dX0_choose_65 ?_
    refine wa_sub (lv2 := [(0, .ref (Ad X 26)), (3, .int (v3 + 1))]) [1, 0] rfl ?_
    exact hk40 _ h
set_option maxRecDepth 100000 in
set_option maxHeartbeats 4000000 in
theorem t_X0_choose_7 {X : Fx} (hX : Cx X cX0_choose RX0 5 13 583) {w1 : Wd} (hE : ∀ pc lv, decode cX0_choose pc = .ok (.return_, 1) → Wa X w1 pc lv [])  : ∀ (n : Nat) (a : Wd × Int32), L_X0_choose_7  n a = some w1 → Wa X a.1 7 [(0, .ref (Ad X 26)), (1, .ref (Ad X 4)), (3, .int a.2)] [] := by
  refine it_mach (P := fun (a : Wd × Int32) => Wa X a.1 7 [(0, .ref (Ad X 26)), (1, .ref (Ad X 4)), (3, .int a.2)] []) ?_
  intro k7 hk7 a h
  obtain ⟨w, v3⟩ := a
  have h : F_X0_choose_7 k7 w v3 = some w1 := h
  show Wa X w 7 [(0, .ref (Ad X 26)), (1, .ref (Ad X 4)), (3, .int v3)] []
  unfold F_X0_choose_7 at h
  refine wa_iload_n hX 2 rfl rfl dX0_choose_7 ?_
  refine wa_bipush hX 8 kb_8 dX0_choose_8 ?_
  refine wa_icmp_ge hX 38 (by decide) dX0_choose_10 (fun c => ?_) (fun c => ?_)
  · replace h := itp c h
    refine wa_iconst hX 0 ki_0 dX0_choose_38 ?_
    refine wa_istore_n hX (lv2 := [(3, .int 0), (0, .ref (Ad X 26)), (1, .ref (Ad X 4))]) rfl (by decide) rfl dX0_choose_39 ?_
    refine wa_sub (lv2 := [(0, .ref (Ad X 26)), (3, .int 0)]) [1, 0] rfl ?_
    exact t_X0_choose_40 hX hE  _ _ h
  · replace h := itn c h
    refine wa_aload_n hX 0 rfl rfl dX0_choose_13 ?_
    refine wg_company_linesOf hX fl_X0_15 dX0_choose_14 ?_
    refine wa_iload_n hX 2 rfl rfl dX0_choose_17 ?_
    refine wa_aload_n hX 1 rfl rfl dX0_choose_18 ?_
    refine wa_iload_n hX 2 rfl rfl dX0_choose_19 ?_
    obtain ⟨x3, h2, h⟩ := obind h
    refine wa_callVl hX (m_X2_linesOf h2) cx_X2_linesOf ml_X0_26 (As := [.int v3]) (rest := [.int v3, .ref (Ad X 28)]) 4 (ce_play _ _) rfl rfl rfl rfl ⟨Nat.le_of_ble_eq_true rfl, Nat.le_of_ble_eq_true rfl⟩ (Nat.le_of_ble_eq_true rfl) dX0_choose_20 ?_
    obtain ⟨hg, h⟩ := gu_some h
    refine ws_company_linesOf hX hg dX0_choose_23 ?_
    refine wa_aload_n hX 0 rfl rfl dX0_choose_24 ?_
    refine wg_company_playerOf hX fl_X0_9 dX0_choose_25 ?_
    refine wa_iload_n hX 2 rfl rfl dX0_choose_28 ?_
    refine wa_bipush hX (-6) kb_m6 dX0_choose_29 ?_
    obtain ⟨hg, h⟩ := gu_some h
    refine ws_company_playerOf hX hg dX0_choose_31 ?_
    refine wa_iinc hX (v := (v3 + 1)) (lv2 := [(3, .int (v3 + 1)), (0, .ref (Ad X 26)), (1, .ref (Ad X 4))]) 2 rfl rfl (by decide) rfl dX0_choose_32 ?_
    refine wa_goto hX 7 (by decide) dX0_choose_35 ?_
    refine wa_sub (lv2 := [(0, .ref (Ad X 26)), (1, .ref (Ad X 4)), (3, .int (v3 + 1))]) [1, 2, 0] rfl ?_
    exact hk7 _ h
set_option maxRecDepth 100000 in
set_option maxHeartbeats 4000000 in
theorem m_X0_choose {w w1 : Wd} {p2 : Int32} (h : F_X0_choose w p2 = some w1) : Gv yX0_choose cX0_choose 5 none 13 583 (fun E => [.ref (E.2.1 26), .ref (E.2.1 4), .int p2]) w w1 := by
  refine Gv.of (hy := by decide +kernel) (hlen := fun _ => Nat.le_of_ble_eq_true rfl) (fun X hX hE => ?_)
  · unfold F_X0_choose at h
    refine (show Wa X w 0 [(0, .ref (Ad X 26)), (1, .ref (Ad X 4)), (2, .int p2)] [] from ?_)
    refine wa_aload_n hX 0 rfl rfl dX0_choose_0 ?_
    refine wa_iload_n hX 2 rfl rfl dX0_choose_1 ?_
    refine wp_company_change hX fl_X0_22 dX0_choose_2 ?_
    refine wa_iconst hX 0 ki_0 dX0_choose_5 ?_
    refine wa_istore_n hX (lv2 := [(3, .int 0), (0, .ref (Ad X 26)), (1, .ref (Ad X 4)), (2, .int p2)]) rfl (by decide) rfl dX0_choose_6 ?_
    refine wa_sub (lv2 := [(0, .ref (Ad X 26)), (1, .ref (Ad X 4)), (3, .int 0)]) [1, 2, 0] rfl ?_
    exact t_X0_choose_7 hX hE  _ _ h
set_option maxRecDepth 100000 in
set_option maxHeartbeats 4000000 in
theorem t_X5_cast_67 {X : Fx} (hX : Cx X cX5_cast RX5 3 14 607) {r : Int32} {w1 : Wd} (hE : ∀ pc lv, decode cX5_cast pc = .ok (.ireturn, 1) → narrow .int (.int r) = .int r → Wa X w1 pc lv [.int r])  {w : Wd} {s0 : Int32} (h : F_X5_cast_67 w s0 = some (r, w1)) : Wa X w 67 [] [.int s0] := by
  unfold F_X5_cast_67 at h
  exact ret_i hE h dX5_cast_67
set_option maxRecDepth 100000 in
set_option maxHeartbeats 4000000 in
theorem t_X5_cast_14 {X : Fx} (hX : Cx X cX5_cast RX5 3 14 607) {r : Int32} {w1 : Wd} (hE : ∀ pc lv, decode cX5_cast pc = .ok (.ireturn, 1) → narrow .int (.int r) = .int r → Wa X w1 pc lv [.int r])  {w : Wd} {v1 : Int32} (h : F_X5_cast_14 w v1 = some (r, w1)) : Wa X w 14 [(0, .ref (Ad X 0)), (1, .int v1)] [] := by
  unfold F_X5_cast_14 at h
  refine wa_aload_n hX 0 rfl rfl dX5_cast_14 ?_
  obtain ⟨x1, h2, h⟩ := obind h
  refine wa_callVi hX (m_X5_refusalOfLines h2) cx_X5_refusalOfLines ml_X5_83 (As := []) (rest := []) 0 (ce_stage _ _) rfl rfl rfl rfl ⟨Nat.le_of_ble_eq_true rfl, Nat.le_of_ble_eq_true rfl⟩ (Nat.le_of_ble_eq_true rfl) dX5_cast_15 ?_
  refine wa_istore_n hX (lv2 := [(2, .int x1.1), (0, .ref (Ad X 0)), (1, .int v1)]) rfl (by decide) rfl dX5_cast_18 ?_
  refine wa_iload_n hX 0 rfl rfl dX5_cast_19 ?_
  refine wa_if_eq hX 25 (by decide) dX5_cast_20 (fun c => ?_) (fun c => ?_)
  · replace h := itp c h
    refine wa_aload_n hX 1 rfl rfl dX5_cast_25 ?_
    refine wg_stage_company hX fl_X5_34 dX5_cast_26 ?_
    refine wa_aload_n hX 1 rfl rfl dX5_cast_29 ?_
    refine wg_stage_play hX fl_X5_27 dX5_cast_30 ?_
    refine wa_aload_n hX 1 rfl rfl dX5_cast_33 ?_
    refine wg_stage_rules hX fl_X5_10 dX5_cast_34 ?_
    refine wgN_rules_change hX fn_X5_67 dX5_cast_37 ?_
    obtain ⟨x2, h2, h⟩ := obind h
    refine wa_callVv hX (m_X0_choose h2) cx_X0_choose ml_X5_151 (As := [.ref (Ad X 4), .int (x1.2.1 10)]) (rest := []) 26 (ce_company _ _) rfl rfl rfl rfl ⟨Nat.le_of_ble_eq_true rfl, Nat.le_of_ble_eq_true rfl⟩ (Nat.le_of_ble_eq_true rfl) dX5_cast_40 ?_
    refine wa_iload_n hX 2 rfl rfl dX5_cast_43 ?_
    refine wa_iconst hX (-1) ki_m1 dX5_cast_44 ?_
    refine wa_icmp_ne hX 58 (by decide) dX5_cast_45 (fun c => ?_) (fun c => ?_)
    · replace h := itn c h
      refine wa_aload_n hX 1 rfl rfl dX5_cast_58 ?_
      refine wg_stage_company hX fl_X5_34 dX5_cast_59 ?_
      refine wgN_company_playerOf hX fn_X5_158 dX5_cast_62 ?_
      refine wa_iload_n hX 2 rfl rfl dX5_cast_65 ?_
      obtain ⟨hg, h⟩ := gu_some h
      refine wl_company_playerOf hX hg dX5_cast_66 ?_
      refine wa_sub (lv2 := []) [] rfl ?_
      exact t_X5_cast_67 hX hE  h
    · replace h := itp c h
      refine wa_aload_n hX 1 rfl rfl dX5_cast_48 ?_
      refine wg_stage_company hX fl_X5_34 dX5_cast_49 ?_
      refine wgN_company_players hX fn_X5_155 dX5_cast_52 ?_
      refine wa_goto hX 67 (by decide) dX5_cast_55 ?_
      refine wa_sub (lv2 := []) [] rfl ?_
      exact t_X5_cast_67 hX hE  h
  · replace h := itn c h
    refine wa_iload_n hX 0 rfl rfl dX5_cast_23 ?_
    exact ret_i hE h dX5_cast_24
set_option maxRecDepth 100000 in
set_option maxHeartbeats 4000000 in
theorem m_X5_cast {w w1 : Wd} {p1 : Int32} {r : Int32} (h : F_X5_cast w p1 = some (r, w1)) : Gi yX5_cast cX5_cast 3 (some .int) 14 607 (fun E => [.ref (E.2.1 0), .int p1]) w w1 r := by
  refine Gi.of (hy := by decide +kernel) (hlen := fun _ => Nat.le_of_ble_eq_true rfl) (fun X hX hE => ?_)
  · unfold F_X5_cast at h
    refine (show Wa X w 0 [(0, .ref (Ad X 0)), (1, .int p1)] [] from ?_)
    refine wa_iload_n hX 1 rfl rfl dX5_cast_0 ?_
    refine wa_iconst hX (-1) ki_m1 dX5_cast_1 ?_
    refine wa_icmp_eq hX 14 (by decide) dX5_cast_2 (fun c => ?_) (fun c => ?_)
    · replace h := itp c h
      exact t_X5_cast_14 hX hE  h
    · replace h := itn c h
      refine wa_iload_n hX 1 rfl rfl dX5_cast_5 ?_
      obtain ⟨x3, h2, h⟩ := obind h
      refine wa_callSi hX (m_X5_isPart h2) cx_X5_isPart ml_X5_123 (As := [.int p1]) (rest := []) rfl rfl rfl ⟨Nat.le_of_ble_eq_true rfl, Nat.le_of_ble_eq_true rfl⟩ (Nat.le_of_ble_eq_true rfl) dX5_cast_6 ?_
      refine wa_if_ne hX 14 (by decide) dX5_cast_9 (fun c => ?_) (fun c => ?_)
      · replace h := itn c h
        exact t_X5_cast_14 hX hE  h
      · replace h := itp c h
        refine wa_iconst hX (-1) ki_m1 dX5_cast_12 ?_
        exact ret_i hE h dX5_cast_13
set_option maxRecDepth 100000 in
set_option maxHeartbeats 4000000 in
theorem t_X0_canTakeOver_39 {X : Fx} (hX : Cx X cX0_canTakeOver RX0 6 1 26) {r : Int32} {w1 : Wd} (hE : ∀ pc lv, decode cX0_canTakeOver pc = .ok (.ireturn, 1) → narrow .boolean (.int r) = .int r → Wa X w1 pc lv [.int r]) {k10 : Wd × Int32 × Int32 × Int32 → Option (Int32 × Wd)} (hk10 : ∀ a, k10 a = some (r, w1) → Wa X a.1 10 [(0, .ref (Ad X 26)), (3, .int a.2.1), (4, .int a.2.2.1), (5, .int a.2.2.2)] []) {w : Wd} {v3 : Int32} {v4 : Int32} {v5 : Int32} (h : F_X0_canTakeOver_39 k10 w v3 v4 v5 = some (r, w1)) : Wa X w 39 [(0, .ref (Ad X 26)), (3, .int v3), (4, .int v4), (5, .int v5)] [] := by
  unfold F_X0_canTakeOver_39 at h
  refine wa_iinc hX (v := (v5 + 1)) (lv2 := [(5, .int (v5 + 1)), (0, .ref (Ad X 26)), (3, .int v3), (4, .int v4)]) 3 rfl rfl (by decide) rfl dX0_canTakeOver_39 ?_
  refine wa_goto hX 10 (by decide) dX0_canTakeOver_42 ?_
  refine wa_sub (lv2 := [(0, .ref (Ad X 26)), (3, .int v3), (4, .int v4), (5, .int (v5 + 1))]) [1, 2, 3, 0] rfl ?_
  exact hk10 _ h
set_option maxRecDepth 100000 in
set_option maxHeartbeats 4000000 in
theorem t_X0_canTakeOver_10 {X : Fx} (hX : Cx X cX0_canTakeOver RX0 6 1 26) {r : Int32} {w1 : Wd} (hE : ∀ pc lv, decode cX0_canTakeOver pc = .ok (.ireturn, 1) → narrow .boolean (.int r) = .int r → Wa X w1 pc lv [.int r])  : ∀ (n : Nat) (a : Wd × Int32 × Int32 × Int32), L_X0_canTakeOver_10  n a = some (r, w1) → Wa X a.1 10 [(0, .ref (Ad X 26)), (3, .int a.2.1), (4, .int a.2.2.1), (5, .int a.2.2.2)] [] := by
  refine it_mach (P := fun (a : Wd × Int32 × Int32 × Int32) => Wa X a.1 10 [(0, .ref (Ad X 26)), (3, .int a.2.1), (4, .int a.2.2.1), (5, .int a.2.2.2)] []) ?_
  intro k10 hk10 a h
  obtain ⟨w, v3, v4, v5⟩ := a
  have h : F_X0_canTakeOver_10 k10 w v3 v4 v5 = some (r, w1) := h
  show Wa X w 10 [(0, .ref (Ad X 26)), (3, .int v3), (4, .int v4), (5, .int v5)] []
  unfold F_X0_canTakeOver_10 at h
  refine wa_iload hX 3 rfl dX0_canTakeOver_10 ?_
  refine wa_aload_n hX 0 rfl rfl dX0_canTakeOver_12 ?_
  refine wg_company_players hX fl_X0_35 dX0_canTakeOver_13 ?_
  refine wa_icmp_ge hX 45 (by decide) dX0_canTakeOver_16 (fun c => ?_) (fun c => ?_)
  · replace h := itp c h
    refine wa_iconst hX 0 ki_0 dX0_canTakeOver_45 ?_
    exact ret_z hE h (by decide) dX0_canTakeOver_46
  · replace h := itn c h
    refine wa_iload hX 3 rfl dX0_canTakeOver_19 ?_
    refine wa_iload_n hX 1 rfl rfl dX0_canTakeOver_21 ?_
    refine wa_icmp_eq hX 39 (by decide) dX0_canTakeOver_22 (fun c => ?_) (fun c => ?_)
    · replace h := itp c h
      exact t_X0_canTakeOver_39 hX hE hk10 h
    · replace h := itn c h
      refine wa_iload hX 2 rfl dX0_canTakeOver_25 ?_
      refine wa_aload_n hX 0 rfl rfl dX0_canTakeOver_27 ?_
      refine wa_iload hX 3 rfl dX0_canTakeOver_28 ?_
      obtain ⟨x2, h2, h⟩ := obind h
      refine wa_callVi hX (m_X0_partsOf h2) cx_X0_partsOf ml_X0_42 (As := [.int v5]) (rest := [.int v4]) 26 (ce_company _ _) rfl rfl rfl rfl ⟨Nat.le_of_ble_eq_true rfl, Nat.le_of_ble_eq_true rfl⟩ (Nat.le_of_ble_eq_true rfl) dX0_canTakeOver_30 ?_
      refine wa_iand hX dX0_canTakeOver_33 ?_
      refine wa_if_ne hX 39 (by decide) dX0_canTakeOver_34 (fun c => ?_) (fun c => ?_)
      · replace h := itn c h
        exact t_X0_canTakeOver_39 hX hE hk10 h
      · replace h := itp c h
        refine wa_iconst hX 1 ki_1 dX0_canTakeOver_37 ?_
        exact ret_z hE h (by decide) dX0_canTakeOver_38
set_option maxRecDepth 100000 in
set_option maxHeartbeats 4000000 in
theorem m_X0_canTakeOver {w w1 : Wd} {p1 : Int64} {p3 : Int32} {r : Int32} (h : F_X0_canTakeOver w p1 p3 = some (r, w1)) : Gi yX0_canTakeOver cX0_canTakeOver 6 (some .boolean) 1 26 (fun E => [.ref (E.2.1 26), .long p1, .int p3]) w w1 r := by
  refine Gi.of (hy := by decide +kernel) (hlen := fun _ => Nat.le_of_ble_eq_true rfl) (fun X hX hE => ?_)
  · unfold F_X0_canTakeOver at h
    refine (show Wa X w 0 [(0, .ref (Ad X 26)), (1, .long p1), (3, .int p3)] [] from ?_)
    refine wa_aload_n hX 0 rfl rfl dX0_canTakeOver_0 ?_
    refine wa_lload_n hX 1 rfl rfl dX0_canTakeOver_1 ?_
    obtain ⟨x1, h2, h⟩ := obind h
    refine wa_callVi hX (m_X0_clashesOf h2) cx_X0_clashesOf ml_X0_31 (As := [.long p1]) (rest := []) 26 (ce_company _ _) rfl rfl rfl rfl ⟨Nat.le_of_ble_eq_true rfl, Nat.le_of_ble_eq_true rfl⟩ (Nat.le_of_ble_eq_true rfl) dX0_canTakeOver_2 ?_
    refine wa_istore hX (lv2 := [(4, .int x1.1), (0, .ref (Ad X 26)), (1, .long p1), (3, .int p3)]) (by decide) rfl dX0_canTakeOver_5 ?_
    refine wa_iconst hX 0 ki_0 dX0_canTakeOver_7 ?_
    refine wa_istore hX (lv2 := [(5, .int 0), (4, .int x1.1), (0, .ref (Ad X 26)), (1, .long p1), (3, .int p3)]) (by decide) rfl dX0_canTakeOver_8 ?_
    refine wa_sub (lv2 := [(0, .ref (Ad X 26)), (3, .int p3), (4, .int x1.1), (5, .int 0)]) [2, 4, 1, 0] rfl ?_
    exact t_X0_canTakeOver_10 hX hE  _ _ h
set_option maxRecDepth 100000 in
set_option maxHeartbeats 4000000 in
theorem t_X0_notTakenOver_64 {X : Fx} (hX : Cx X cX0_notTakenOver RX0 7 2 51) {r : Int32} {w1 : Wd} (hE : ∀ pc lv, decode cX0_notTakenOver pc = .ok (.ireturn, 1) → narrow .int (.int r) = .int r → Wa X w1 pc lv [.int r]) {k13 : Wd × Int32 × Int32 × Int32 × Int32 → Option (Int32 × Wd)} (hk13 : ∀ a, k13 a = some (r, w1) → Wa X a.1 13 [(0, .ref (Ad X 26)), (1, .int a.2.1), (2, .int a.2.2.1), (3, .int a.2.2.2.1), (4, .int a.2.2.2.2)] []) {w : Wd} {v1 : Int32} {v2 : Int32} {v3 : Int32} {v4 : Int32} (h : F_X0_notTakenOver_64 k13 w v1 v2 v3 v4 = some (r, w1)) : Wa X w 64 [(0, .ref (Ad X 26)), (1, .int v1), (2, .int v2), (3, .int v3), (4, .int v4)] [] := by
  unfold F_X0_notTakenOver_64 at h
  refine wa_iinc hX (v := (v4 + 1)) (lv2 := [(4, .int (v4 + 1)), (0, .ref (Ad X 26)), (1, .int v1), (2, .int v2), (3, .int v3)]) 4 rfl rfl (by decide) rfl dX0_notTakenOver_64 ?_
  refine wa_goto hX 13 (by decide) dX0_notTakenOver_67 ?_
  refine wa_sub (lv2 := [(0, .ref (Ad X 26)), (1, .int v1), (2, .int v2), (3, .int v3), (4, .int (v4 + 1))]) [1, 2, 3, 4, 0] rfl ?_
  exact hk13 _ h
set_option maxRecDepth 100000 in
set_option maxHeartbeats 4000000 in
theorem t_X0_notTakenOver_13 {X : Fx} (hX : Cx X cX0_notTakenOver RX0 7 2 51) {r : Int32} {w1 : Wd} (hE : ∀ pc lv, decode cX0_notTakenOver pc = .ok (.ireturn, 1) → narrow .int (.int r) = .int r → Wa X w1 pc lv [.int r])  : ∀ (n : Nat) (a : Wd × Int32 × Int32 × Int32 × Int32), L_X0_notTakenOver_13  n a = some (r, w1) → Wa X a.1 13 [(0, .ref (Ad X 26)), (1, .int a.2.1), (2, .int a.2.2.1), (3, .int a.2.2.2.1), (4, .int a.2.2.2.2)] [] := by
  refine it_mach (P := fun (a : Wd × Int32 × Int32 × Int32 × Int32) => Wa X a.1 13 [(0, .ref (Ad X 26)), (1, .int a.2.1), (2, .int a.2.2.1), (3, .int a.2.2.2.1), (4, .int a.2.2.2.2)] []) ?_
  intro k13 hk13 a h
  obtain ⟨w, v1, v2, v3, v4⟩ := a
  have h : F_X0_notTakenOver_13 k13 w v1 v2 v3 v4 = some (r, w1) := h
  show Wa X w 13 [(0, .ref (Ad X 26)), (1, .int v1), (2, .int v2), (3, .int v3), (4, .int v4)] []
  unfold F_X0_notTakenOver_13 at h
  refine wa_iload hX 4 rfl dX0_notTakenOver_13 ?_
  refine wa_bipush hX 8 kb_8 dX0_notTakenOver_15 ?_
  refine wa_icmp_ge hX 70 (by decide) dX0_notTakenOver_17 (fun c => ?_) (fun c => ?_)
  · replace h := itp c h
    refine wa_iload_n hX 3 rfl rfl dX0_notTakenOver_70 ?_
    exact ret_i hE h dX0_notTakenOver_71
  · replace h := itn c h
    refine wa_aload_n hX 0 rfl rfl dX0_notTakenOver_20 ?_
    refine wg_company_linesOf hX fl_X0_15 dX0_notTakenOver_21 ?_
    refine wa_iload hX 4 rfl dX0_notTakenOver_24 ?_
    obtain ⟨hg, h⟩ := gu_some h
    refine wl_company_linesOf hX hg dX0_notTakenOver_26 ?_
    refine wa_iload_n hX 2 rfl rfl dX0_notTakenOver_27 ?_
    refine wa_lushr hX dX0_notTakenOver_28 ?_
    refine wa_iload_n hX 2 rfl rfl dX0_notTakenOver_29 ?_
    refine wa_lshl hX dX0_notTakenOver_30 ?_
    refine wa_letl h (fun y1 h => ?_)
    refine wa_lstore hX (lv2 := [(5, .long y1), (0, .ref (Ad X 26)), (1, .int v1), (2, .int v2), (3, .int v3), (4, .int v4)]) (by decide) rfl dX0_notTakenOver_31 ?_
    refine wa_aload_n hX 1 rfl rfl dX0_notTakenOver_33 ?_
    refine wg_company_playerOf hX fl_X0_9 dX0_notTakenOver_34 ?_
    refine wa_iload hX 5 rfl dX0_notTakenOver_37 ?_
    obtain ⟨hg, h⟩ := gu_some h
    refine wl_company_playerOf hX hg dX0_notTakenOver_39 ?_
    refine wa_iload_n hX 2 rfl rfl dX0_notTakenOver_40 ?_
    refine wa_icmp_ne hX 64 (by decide) dX0_notTakenOver_41 (fun c => ?_) (fun c => ?_)
    · replace h := itn c h
      refine wa_sub (lv2 := [(0, .ref (Ad X 26)), (1, .int v1), (2, .int v2), (3, .int v3), (4, .int v4)]) [1, 2, 3, 4, 5] rfl ?_
      exact t_X0_notTakenOver_64 hX hE hk13 h
    · replace h := itp c h
      refine wa_lload hX 0 rfl dX0_notTakenOver_44 ?_
      refine wa_lconst hX 0 rfl dX0_notTakenOver_46 ?_
      refine wa_lcmp hX dX0_notTakenOver_47 ?_
      refine wa_if_eq hX 64 (by decide) dX0_notTakenOver_48 (fun c => ?_) (fun c => ?_)
      · replace h := itp c h
        refine wa_sub (lv2 := [(0, .ref (Ad X 26)), (1, .int v1), (2, .int v2), (3, .int v3), (4, .int v4)]) [1, 2, 3, 4, 5] rfl ?_
        exact t_X0_notTakenOver_64 hX hE hk13 h
      · replace h := itn c h
        refine wa_aload_n hX 1 rfl rfl dX0_notTakenOver_51 ?_
        refine wa_lload hX 0 rfl dX0_notTakenOver_52 ?_
        refine wa_iload_n hX 2 rfl rfl dX0_notTakenOver_54 ?_
        obtain ⟨x2, h2, h⟩ := obind h
        refine wa_callVi hX (m_X0_canTakeOver h2) cx_X0_canTakeOver ml_X0_52 (As := [.long y1, .int v1]) (rest := []) 26 (ce_company _ _) rfl rfl rfl rfl ⟨Nat.le_of_ble_eq_true rfl, Nat.le_of_ble_eq_true rfl⟩ (Nat.le_of_ble_eq_true rfl) dX0_notTakenOver_55 ?_
        have hJ : Wa X x2.2 64 [(0, .ref (Ad X 26)), (1, .int v1), (2, .int v2), (3, .int (if x2.1 = 0 then (v3 + 1) else v3)), (4, .int v4)] [] := by
          exact t_X0_notTakenOver_64 hX hE hk13 h
        refine wa_if_ne hX 64 (by decide) dX0_notTakenOver_58 (fun c => ?_) (fun c => ?_)
        · refine wa_sub (lv2 := [(0, .ref (Ad X 26)), (1, .int v1), (2, .int v2), (3, .int v3), (4, .int v4)]) [1, 2, 3, 4, 5] rfl ?_
          rw [show (if x2.1 = 0 then (v3 + 1) else v3) = v3 from if_neg c] at hJ
          exact hJ
        · refine wa_iinc hX (v := (v3 + 1)) (lv2 := [(3, .int (v3 + 1)), (5, .long y1), (0, .ref (Ad X 26)), (1, .int v1), (2, .int v2), (4, .int v4)]) 4 rfl rfl (by decide) rfl dX0_notTakenOver_61 ?_
          refine wa_sub (lv2 := [(0, .ref (Ad X 26)), (1, .int v1), (2, .int v2), (3, .int (v3 + 1)), (4, .int v4)]) [2, 3, 4, 0, 5] rfl ?_
          rw [show (if x2.1 = 0 then (v3 + 1) else v3) = (v3 + 1) from if_pos c] at hJ
          exact hJ
set_option maxRecDepth 100000 in
set_option maxHeartbeats 4000000 in
theorem m_X0_notTakenOver {w w1 : Wd} {p1 : Int32} {p2 : Int32} {r : Int32} (h : F_X0_notTakenOver w p1 p2 = some (r, w1)) : Gi yX0_notTakenOver cX0_notTakenOver 7 (some .int) 2 51 (fun E => [.ref (E.2.1 26), .int p1, .int p2]) w w1 r := by
  refine Gi.of (hy := by decide +kernel) (hlen := fun _ => Nat.le_of_ble_eq_true rfl) (fun X hX hE => ?_)
  · unfold F_X0_notTakenOver at h
    refine (show Wa X w 0 [(0, .ref (Ad X 26)), (1, .int p1), (2, .int p2)] [] from ?_)
    refine wa_iload_n hX 1 rfl rfl dX0_notTakenOver_0 ?_
    refine wa_bipush hX (-6) kb_m6 dX0_notTakenOver_1 ?_
    refine wa_icmp_ne hX 8 (by decide) dX0_notTakenOver_3 (fun c => ?_) (fun c => ?_)
    · replace h := itn c h
      refine wa_iconst hX 0 ki_0 dX0_notTakenOver_8 ?_
      refine wa_istore_n hX (lv2 := [(3, .int 0), (0, .ref (Ad X 26)), (1, .int p1), (2, .int p2)]) rfl (by decide) rfl dX0_notTakenOver_9 ?_
      refine wa_iconst hX 0 ki_0 dX0_notTakenOver_10 ?_
      refine wa_istore hX (lv2 := [(4, .int 0), (3, .int 0), (0, .ref (Ad X 26)), (1, .int p1), (2, .int p2)]) (by decide) rfl dX0_notTakenOver_11 ?_
      refine wa_sub (lv2 := [(0, .ref (Ad X 26)), (1, .int p1), (2, .int p2), (3, .int 0), (4, .int 0)]) [2, 3, 4, 1, 0] rfl ?_
      exact t_X0_notTakenOver_13 hX hE  _ _ h
    · replace h := itp c h
      refine wa_iconst hX 0 ki_0 dX0_notTakenOver_6 ?_
      exact ret_i hE h dX0_notTakenOver_7
set_option maxRecDepth 100000 in
set_option maxHeartbeats 4000000 in
theorem m_X5_ill {w w1 : Wd} {p1 : Int32} {p2 : Int32} {r : Int32} (h : F_X5_ill w p1 p2 = some (r, w1)) : Gi yX5_ill cX5_ill 4 (some .int) 14 607 (fun E => [.ref (E.2.1 0), .int p1, .int p2]) w w1 r := by
  refine Gi.of (hy := by decide +kernel) (hlen := fun _ => Nat.le_of_ble_eq_true rfl) (fun X hX hE => ?_)
  · unfold F_X5_ill at h
    refine (show Wa X w 0 [(0, .ref (Ad X 0)), (1, .int p1), (2, .int p2)] [] from ?_)
    refine wa_iload_n hX 1 rfl rfl dX5_ill_0 ?_
    obtain ⟨x1, h2, h⟩ := obind h
    refine wa_callSi hX (m_X5_isPart h2) cx_X5_isPart ml_X5_123 (As := [.int p1]) (rest := []) rfl rfl rfl ⟨Nat.le_of_ble_eq_true rfl, Nat.le_of_ble_eq_true rfl⟩ (Nat.le_of_ble_eq_true rfl) dX5_ill_1 ?_
    refine wa_if_ne hX 9 (by decide) dX5_ill_4 (fun c => ?_) (fun c => ?_)
    · replace h := itn c h
      refine wa_aload_n hX 0 rfl rfl dX5_ill_9 ?_
      obtain ⟨x2, h2, h⟩ := obind h
      refine wa_callVi hX (m_X5_refusalOfLines h2) cx_X5_refusalOfLines ml_X5_83 (As := []) (rest := []) 0 (ce_stage _ _) rfl rfl rfl rfl ⟨Nat.le_of_ble_eq_true rfl, Nat.le_of_ble_eq_true rfl⟩ (Nat.le_of_ble_eq_true rfl) dX5_ill_10 ?_
      refine wa_istore_n hX (lv2 := [(3, .int x2.1), (0, .ref (Ad X 0)), (1, .int p1), (2, .int p2)]) rfl (by decide) rfl dX5_ill_13 ?_
      refine wa_iload_n hX 0 rfl rfl dX5_ill_14 ?_
      refine wa_if_eq hX 20 (by decide) dX5_ill_15 (fun c => ?_) (fun c => ?_)
      · replace h := itp c h
        refine wa_aload_n hX 1 rfl rfl dX5_ill_20 ?_
        refine wa_iload_n hX 3 rfl rfl dX5_ill_21 ?_
        obtain ⟨x3, h2, h⟩ := obind h
        refine wa_callVi hX (m_X5_isLine h2) cx_X5_isLine ml_X5_100 (As := [.int p2]) (rest := []) 0 (ce_stage _ _) rfl rfl rfl rfl ⟨Nat.le_of_ble_eq_true rfl, Nat.le_of_ble_eq_true rfl⟩ (Nat.le_of_ble_eq_true rfl) dX5_ill_22 ?_
        refine wa_if_ne hX 31 (by decide) dX5_ill_25 (fun c => ?_) (fun c => ?_)
        · replace h := itn c h
          refine wa_aload_n hX 1 rfl rfl dX5_ill_31 ?_
          refine wg_stage_company hX fl_X5_34 dX5_ill_32 ?_
          refine wa_aload_n hX 1 rfl rfl dX5_ill_35 ?_
          refine wg_stage_play hX fl_X5_27 dX5_ill_36 ?_
          refine wa_aload_n hX 1 rfl rfl dX5_ill_39 ?_
          refine wg_stage_rules hX fl_X5_10 dX5_ill_40 ?_
          refine wgN_rules_change hX fn_X5_67 dX5_ill_43 ?_
          obtain ⟨x4, h2, h⟩ := obind h
          refine wa_callVv hX (m_X0_choose h2) cx_X0_choose ml_X5_151 (As := [.ref (Ad X 4), .int (x3.2.1 10)]) (rest := []) 26 (ce_company _ _) rfl rfl rfl rfl ⟨Nat.le_of_ble_eq_true rfl, Nat.le_of_ble_eq_true rfl⟩ (Nat.le_of_ble_eq_true rfl) dX5_ill_46 ?_
          refine wa_aload_n hX 1 rfl rfl dX5_ill_49 ?_
          refine wg_stage_company hX fl_X5_34 dX5_ill_50 ?_
          refine wa_aload_n hX 1 rfl rfl dX5_ill_53 ?_
          refine wg_stage_company hX fl_X5_34 dX5_ill_54 ?_
          refine wgN_company_playerOf hX fn_X5_158 dX5_ill_57 ?_
          refine wa_iload_n hX 2 rfl rfl dX5_ill_60 ?_
          obtain ⟨hg, h⟩ := gu_some h
          refine wl_company_playerOf hX hg dX5_ill_61 ?_
          refine wa_iload_n hX 3 rfl rfl dX5_ill_62 ?_
          obtain ⟨x5, h2, h⟩ := obind h
          refine wa_callVi hX (m_X0_notTakenOver h2) cx_X0_notTakenOver ml_X5_161 (As := [.int (x4.2.1 27 p1.toNatClampNeg), .int p2]) (rest := []) 26 (ce_company _ _) rfl rfl rfl rfl ⟨Nat.le_of_ble_eq_true rfl, Nat.le_of_ble_eq_true rfl⟩ (Nat.le_of_ble_eq_true rfl) dX5_ill_63 ?_
          exact ret_i hE h dX5_ill_66
        · replace h := itp c h
          refine wa_bipush hX (-2) kb_m2 dX5_ill_28 ?_
          exact ret_i hE h dX5_ill_30
      · replace h := itn c h
        refine wa_iload_n hX 0 rfl rfl dX5_ill_18 ?_
        exact ret_i hE h dX5_ill_19
    · replace h := itp c h
      refine wa_iconst hX (-1) ki_m1 dX5_ill_7 ?_
      exact ret_i hE h dX5_ill_8
set_option maxRecDepth 100000 in
set_option maxHeartbeats 4000000 in
theorem m_X3_addScene {w w1 : Wd} {p1 : Int32} {r : Int32} (h : F_X3_addScene w p1 = some (r, w1)) : Gi yX3_addScene cX3_addScene 2 (some .int) 0 0 (fun E => [.ref (E.2.1 8), .int p1]) w w1 r := by
  refine Gi.of (hy := by decide +kernel) (hlen := fun _ => Nat.le_of_ble_eq_true rfl) (fun X hX hE => ?_)
  · unfold F_X3_addScene at h
    refine (show Wa X w 0 [(0, .ref (Ad X 8)), (1, .int p1)] [] from ?_)
    refine wa_aload_n hX 0 rfl rfl dX3_addScene_0 ?_
    refine wg_rules_scenes hX fl_X3_37 dX3_addScene_1 ?_
    refine wa_bipush hX 6 kb_6 dX3_addScene_4 ?_
    refine wa_icmp_lt hX 12 (by decide) dX3_addScene_6 (fun c => ?_) (fun c => ?_)
    · replace h := itp c h
      refine wa_aload_n hX 0 rfl rfl dX3_addScene_12 ?_
      refine wg_rules_sceneOn hX fl_X3_25 dX3_addScene_13 ?_
      refine wa_aload_n hX 0 rfl rfl dX3_addScene_16 ?_
      refine wg_rules_scenes hX fl_X3_37 dX3_addScene_17 ?_
      refine wa_iload_n hX 1 rfl rfl dX3_addScene_20 ?_
      obtain ⟨hg, h⟩ := gu_some h
      refine ws_rules_sceneOn hX hg dX3_addScene_21 ?_
      refine wa_aload_n hX 0 rfl rfl dX3_addScene_22 ?_
      refine wa_dup hX rfl dX3_addScene_23 ?_
      refine wg_rules_scenes hX fl_X3_37 dX3_addScene_24 ?_
      refine (show Wa X (wA w 11 (w.1 11) p1) 27 [(0, .ref (Ad X 8)), (1, .int p1)] [.int (w.1 11), .ref (Ad X 8)] from ?_)
      refine wa_iconst hX 1 ki_1 dX3_addScene_27 ?_
      refine wa_iadd hX dX3_addScene_28 ?_
      refine wp_rules_scenes hX fl_X3_37 dX3_addScene_29 ?_
      refine wa_aload_n hX 0 rfl rfl dX3_addScene_32 ?_
      refine wg_rules_scenes hX fl_X3_37 dX3_addScene_33 ?_
      refine (show Wa X (wI (wA w 11 (w.1 11) p1) 11 (w.1 11 + 1)) 36 [(0, .ref (Ad X 8)), (1, .int p1)] [.int (w.1 11 + 1)] from ?_)
      exact ret_i hE h dX3_addScene_36
    · replace h := itn c h
      refine wa_bipush hX (-4) kb_m4 dX3_addScene_9 ?_
      exact ret_i hE h dX3_addScene_11
set_option maxRecDepth 100000 in
set_option maxHeartbeats 4000000 in
theorem m_X5_scene {w w1 : Wd} {p1 : Int32} {r : Int32} (h : F_X5_scene w p1 = some (r, w1)) : Gi yX5_scene cX5_scene 2 (some .int) 1 21 (fun E => [.ref (E.2.1 0), .int p1]) w w1 r := by
  refine Gi.of (hy := by decide +kernel) (hlen := fun _ => Nat.le_of_ble_eq_true rfl) (fun X hX hE => ?_)
  · unfold F_X5_scene at h
    refine (show Wa X w 0 [(0, .ref (Ad X 0)), (1, .int p1)] [] from ?_)
    refine wa_iload_n hX 1 rfl rfl dX5_scene_0 ?_
    refine wa_sipush hX 255 ks_255 dX5_scene_1 ?_
    obtain ⟨x1, h2, h⟩ := obind h
    refine wa_callSi hX (m_X5_isWithin h2) cx_X5_isWithin ml_X5_56 (As := [.int p1, .int 255]) (rest := []) rfl rfl rfl ⟨Nat.le_of_ble_eq_true rfl, Nat.le_of_ble_eq_true rfl⟩ (Nat.le_of_ble_eq_true rfl) dX5_scene_4 ?_
    refine wa_if_ne hX 13 (by decide) dX5_scene_7 (fun c => ?_) (fun c => ?_)
    · replace h := itn c h
      refine wa_aload_n hX 0 rfl rfl dX5_scene_13 ?_
      refine wg_stage_rules hX fl_X5_10 dX5_scene_14 ?_
      refine wa_iload_n hX 1 rfl rfl dX5_scene_17 ?_
      obtain ⟨x2, h2, h⟩ := obind h
      refine wa_callVi hX (m_X3_addScene h2) cx_X3_addScene ml_X5_165 (As := [.int p1]) (rest := []) 8 (ce_rules _ _) rfl rfl rfl rfl ⟨Nat.le_of_ble_eq_true rfl, Nat.le_of_ble_eq_true rfl⟩ (Nat.le_of_ble_eq_true rfl) dX5_scene_18 ?_
      exact ret_i hE h dX5_scene_21
    · replace h := itp c h
      refine wa_bipush hX (-2) kb_m2 dX5_scene_10 ?_
      exact ret_i hE h dX5_scene_12
set_option maxRecDepth 100000 in
set_option maxHeartbeats 4000000 in
theorem m_X5_strike {w w1 : Wd} {r : Int32} (h : F_X5_strike w  = some (r, w1)) : Gi yX5_strike cX5_strike 2 (some .int) 0 0 (fun E => [.ref (E.2.1 0)]) w w1 r := by
  refine Gi.of (hy := by decide +kernel) (hlen := fun _ => Nat.le_of_ble_eq_true rfl) (fun X hX hE => ?_)
  · unfold F_X5_strike at h
    refine (show Wa X w 0 [(0, .ref (Ad X 0))] [] from ?_)
    refine wa_aload_n hX 0 rfl rfl dX5_strike_0 ?_
    refine wg_stage_rules hX fl_X5_10 dX5_strike_1 ?_
    refine wgN_rules_scenes hX fn_X5_168 dX5_strike_4 ?_
    refine wa_istore_n hX (lv2 := [(1, .int (w.1 11)), (0, .ref (Ad X 0))]) rfl (by decide) rfl dX5_strike_7 ?_
    refine wa_aload_n hX 1 rfl rfl dX5_strike_8 ?_
    refine wg_stage_rules hX fl_X5_10 dX5_strike_9 ?_
    refine wa_iconst hX 0 ki_0 dX5_strike_12 ?_
    refine wpN_rules_scenes hX fn_X5_168 dX5_strike_13 ?_
    refine wa_iload_n hX 0 rfl rfl dX5_strike_16 ?_
    exact ret_i hE h dX5_strike_17
set_option maxRecDepth 100000 in
set_option maxHeartbeats 4000000 in
theorem m_J6_bitCount {w w1 : Wd} {p0 : Int32} {r : Int32} (h : F_J6_bitCount w p0 = some (r, w1)) : Gi yJ6_bitCount_0f7a4 cJ6_bitCount_0f7a4 1 (some .int) 0 0 (fun E => [.int p0]) w w1 r := by
  refine Gi.of (hy := by decide +kernel) (hlen := fun _ => Nat.le_of_ble_eq_true rfl) (fun X hX hE => ?_)
  · unfold F_J6_bitCount at h
    refine (show Wa X w 0 [(0, .int p0)] [] from ?_)
    refine wa_iload_n hX 0 rfl rfl dJ6_bitCount_0f7a4_0 ?_
    refine wa_iload_n hX 0 rfl rfl dJ6_bitCount_0f7a4_1 ?_
    refine wa_iconst hX 1 ki_1 dJ6_bitCount_0f7a4_2 ?_
    refine wa_iushr hX dJ6_bitCount_0f7a4_3 ?_
    refine wa_ldcw hX kc_J6_265 dJ6_bitCount_0f7a4_4 ?_
    refine wa_iand hX dJ6_bitCount_0f7a4_7 ?_
    refine wa_isub hX dJ6_bitCount_0f7a4_8 ?_
    refine wa_istore_n hX (lv2 := [(0, .int (p0 - ((ushr p0 1) &&& 1431655765)))]) rfl (by decide) rfl dJ6_bitCount_0f7a4_9 ?_
    refine wa_iload_n hX 0 rfl rfl dJ6_bitCount_0f7a4_10 ?_
    refine wa_ldcw hX kc_J6_266 dJ6_bitCount_0f7a4_11 ?_
    refine wa_iand hX dJ6_bitCount_0f7a4_14 ?_
    refine wa_iload_n hX 0 rfl rfl dJ6_bitCount_0f7a4_15 ?_
    refine wa_iconst hX 2 ki_2 dJ6_bitCount_0f7a4_16 ?_
    refine wa_iushr hX dJ6_bitCount_0f7a4_17 ?_
    refine wa_ldcw hX kc_J6_266 dJ6_bitCount_0f7a4_18 ?_
    refine wa_iand hX dJ6_bitCount_0f7a4_21 ?_
    refine wa_iadd hX dJ6_bitCount_0f7a4_22 ?_
    refine wa_let h (fun y1 h => ?_)
    refine wa_istore_n hX (lv2 := [(0, .int y1)]) rfl (by decide) rfl dJ6_bitCount_0f7a4_23 ?_
    refine wa_iload_n hX 0 rfl rfl dJ6_bitCount_0f7a4_24 ?_
    refine wa_iload_n hX 0 rfl rfl dJ6_bitCount_0f7a4_25 ?_
    refine wa_iconst hX 4 ki_4 dJ6_bitCount_0f7a4_26 ?_
    refine wa_iushr hX dJ6_bitCount_0f7a4_27 ?_
    refine wa_iadd hX dJ6_bitCount_0f7a4_28 ?_
    refine wa_ldcw hX kc_J6_267 dJ6_bitCount_0f7a4_29 ?_
    refine wa_iand hX dJ6_bitCount_0f7a4_32 ?_
    refine wa_istore_n hX (lv2 := [(0, .int ((y1 + (ushr y1 4)) &&& 252645135))]) rfl (by decide) rfl dJ6_bitCount_0f7a4_33 ?_
    refine wa_iload_n hX 0 rfl rfl dJ6_bitCount_0f7a4_34 ?_
    refine wa_iload_n hX 0 rfl rfl dJ6_bitCount_0f7a4_35 ?_
    refine wa_bipush hX 8 kb_8 dJ6_bitCount_0f7a4_36 ?_
    refine wa_iushr hX dJ6_bitCount_0f7a4_38 ?_
    refine wa_iadd hX dJ6_bitCount_0f7a4_39 ?_
    refine wa_let h (fun y2 h => ?_)
    refine wa_istore_n hX (lv2 := [(0, .int y2)]) rfl (by decide) rfl dJ6_bitCount_0f7a4_40 ?_
    refine wa_iload_n hX 0 rfl rfl dJ6_bitCount_0f7a4_41 ?_
    refine wa_iload_n hX 0 rfl rfl dJ6_bitCount_0f7a4_42 ?_
    refine wa_bipush hX 16 kb_16 dJ6_bitCount_0f7a4_43 ?_
    refine wa_iushr hX dJ6_bitCount_0f7a4_45 ?_
    refine wa_iadd hX dJ6_bitCount_0f7a4_46 ?_
    refine wa_istore_n hX (lv2 := [(0, .int (y2 + (ushr y2 16)))]) rfl (by decide) rfl dJ6_bitCount_0f7a4_47 ?_
    refine wa_iload_n hX 0 rfl rfl dJ6_bitCount_0f7a4_48 ?_
    refine wa_bipush hX 63 kb_63 dJ6_bitCount_0f7a4_49 ?_
    refine wa_iand hX dJ6_bitCount_0f7a4_51 ?_
    exact ret_i hE h dJ6_bitCount_0f7a4_52
set_option maxRecDepth 100000 in
set_option maxHeartbeats 4000000 in
theorem m_X4_fewestBy {w w1 : Wd} {p1 : Int32} {p2 : Int32} {p3 : Int32} {r : Int32} (h : F_X4_fewestBy w p1 p2 p3 = some (r, w1)) : Gi yX4_fewestBy cX4_fewestBy 4 (some .int) 1 20 (fun E => [.ref (E.2.1 30), .int p1, .int p2, .int p3]) w w1 r := by
  refine Gi.of (hy := by decide +kernel) (hlen := fun _ => Nat.le_of_ble_eq_true rfl) (fun X hX hE => ?_)
  · unfold F_X4_fewestBy at h
    refine (show Wa X w 0 [(0, .ref (Ad X 30)), (1, .int p1), (2, .int p2), (3, .int p3)] [] from ?_)
    refine wa_iload_n hX 3 rfl rfl dX4_fewestBy_0 ?_
    refine wa_aload_n hX 0 rfl rfl dX4_fewestBy_1 ?_
    refine wg_order_sceneOn hX fl_X4_15 dX4_fewestBy_2 ?_
    refine wa_iload_n hX 1 rfl rfl dX4_fewestBy_5 ?_
    obtain ⟨hg, h⟩ := gu_some h
    refine wl_order_sceneOn hX hg dX4_fewestBy_6 ?_
    refine wa_ixor hX dX4_fewestBy_7 ?_
    obtain ⟨x1, h2, h⟩ := obind h
    refine wa_callSi hX (m_J6_bitCount h2) cx_J6_bitCount_0f7a4 ml_X4_45 (As := [.int (p3 ^^^ w.2.1 32 p1.toNatClampNeg)]) (rest := []) rfl rfl rfl ⟨Nat.le_of_ble_eq_true rfl, Nat.le_of_ble_eq_true rfl⟩ (Nat.le_of_ble_eq_true rfl) dX4_fewestBy_8 ?_
    refine wa_aload_n hX 0 rfl rfl dX4_fewestBy_11 ?_
    refine wg_order_behind hX fl_X4_18 dX4_fewestBy_12 ?_
    refine wa_iload_n hX 2 rfl rfl dX4_fewestBy_15 ?_
    refine wa_iconst hX 1 ki_1 dX4_fewestBy_16 ?_
    refine wa_iload_n hX 1 rfl rfl dX4_fewestBy_17 ?_
    refine wa_ishl hX dX4_fewestBy_18 ?_
    refine wa_ior hX dX4_fewestBy_19 ?_
    refine wa_bipush hX 6 kb_6 dX4_fewestBy_20 ?_
    refine wa_imul hX dX4_fewestBy_22 ?_
    refine wa_iload_n hX 1 rfl rfl dX4_fewestBy_23 ?_
    refine wa_iadd hX dX4_fewestBy_24 ?_
    obtain ⟨hg, h⟩ := gu_some h
    refine wl_order_behind hX hg dX4_fewestBy_25 ?_
    refine wa_iadd hX dX4_fewestBy_26 ?_
    exact ret_i hE h dX4_fewestBy_27
set_option maxRecDepth 100000 in
set_option maxHeartbeats 4000000 in
theorem t_X4_fewestFrom_54 {X : Fx} (hX : Cx X cX4_fewestFrom RX4 5 2 43) {r : Int32} {w1 : Wd} (hE : ∀ pc lv, decode cX4_fewestFrom pc = .ok (.ireturn, 1) → narrow .int (.int r) = .int r → Wa X w1 pc lv [.int r]) {k23 : Wd × Int32 × Int32 × Int32 × Int32 → Option (Int32 × Wd)} (hk23 : ∀ a, k23 a = some (r, w1) → Wa X a.1 23 [(0, .ref (Ad X 30)), (1, .int a.2.1), (2, .int a.2.2.1), (3, .int a.2.2.2.1), (4, .int a.2.2.2.2)] []) {w : Wd} {v1 : Int32} {v2 : Int32} {v3 : Int32} {v4 : Int32} (h : F_X4_fewestFrom_54 k23 w v1 v2 v3 v4 = some (r, w1)) : Wa X w 54 [(0, .ref (Ad X 30)), (1, .int v1), (2, .int v2), (3, .int v3), (4, .int v4)] [] := by
  unfold F_X4_fewestFrom_54 at h
  refine wa_iinc hX (v := (v4 + 1)) (lv2 := [(4, .int (v4 + 1)), (0, .ref (Ad X 30)), (1, .int v1), (2, .int v2), (3, .int v3)]) 4 rfl rfl (by decide) rfl dX4_fewestFrom_54 ?_
  refine wa_goto hX 23 (by decide) dX4_fewestFrom_57 ?_
  refine wa_sub (lv2 := [(0, .ref (Ad X 30)), (1, .int v1), (2, .int v2), (3, .int v3), (4, .int (v4 + 1))]) [1, 2, 3, 4, 0] rfl ?_
  exact hk23 _ h
set_option maxRecDepth 100000 in
set_option maxHeartbeats 4000000 in
theorem t_X4_fewestFrom_23 {X : Fx} (hX : Cx X cX4_fewestFrom RX4 5 2 43) {r : Int32} {w1 : Wd} (hE : ∀ pc lv, decode cX4_fewestFrom pc = .ok (.ireturn, 1) → narrow .int (.int r) = .int r → Wa X w1 pc lv [.int r])  : ∀ (n : Nat) (a : Wd × Int32 × Int32 × Int32 × Int32), L_X4_fewestFrom_23  n a = some (r, w1) → Wa X a.1 23 [(0, .ref (Ad X 30)), (1, .int a.2.1), (2, .int a.2.2.1), (3, .int a.2.2.2.1), (4, .int a.2.2.2.2)] [] := by
  refine it_mach (P := fun (a : Wd × Int32 × Int32 × Int32 × Int32) => Wa X a.1 23 [(0, .ref (Ad X 30)), (1, .int a.2.1), (2, .int a.2.2.1), (3, .int a.2.2.2.1), (4, .int a.2.2.2.2)] []) ?_
  intro k23 hk23 a h
  obtain ⟨w, v1, v2, v3, v4⟩ := a
  have h : F_X4_fewestFrom_23 k23 w v1 v2 v3 v4 = some (r, w1) := h
  show Wa X w 23 [(0, .ref (Ad X 30)), (1, .int v1), (2, .int v2), (3, .int v3), (4, .int v4)] []
  unfold F_X4_fewestFrom_23 at h
  refine wa_iload hX 4 rfl dX4_fewestFrom_23 ?_
  refine wa_aload_n hX 0 rfl rfl dX4_fewestFrom_25 ?_
  refine wg_order_scenes hX fl_X4_27 dX4_fewestFrom_26 ?_
  refine wa_icmp_ge hX 60 (by decide) dX4_fewestFrom_29 (fun c => ?_) (fun c => ?_)
  · replace h := itp c h
    refine wa_iload_n hX 3 rfl rfl dX4_fewestFrom_60 ?_
    exact ret_i hE h dX4_fewestFrom_61
  · replace h := itn c h
    refine wa_iload_n hX 1 rfl rfl dX4_fewestFrom_32 ?_
    refine wa_iload hX 4 rfl dX4_fewestFrom_33 ?_
    refine wa_ishr hX dX4_fewestFrom_35 ?_
    refine wa_iconst hX 1 ki_1 dX4_fewestFrom_36 ?_
    refine wa_iand hX dX4_fewestFrom_37 ?_
    refine wa_if_ne hX 54 (by decide) dX4_fewestFrom_38 (fun c => ?_) (fun c => ?_)
    · replace h := itn c h
      exact t_X4_fewestFrom_54 hX hE hk23 h
    · replace h := itp c h
      refine wa_iload_n hX 3 rfl rfl dX4_fewestFrom_41 ?_
      refine wa_aload_n hX 0 rfl rfl dX4_fewestFrom_42 ?_
      refine wa_iload hX 4 rfl dX4_fewestFrom_43 ?_
      refine wa_iload_n hX 1 rfl rfl dX4_fewestFrom_45 ?_
      refine wa_iload_n hX 2 rfl rfl dX4_fewestFrom_46 ?_
      obtain ⟨x1, h2, h⟩ := obind h
      refine wa_callVi hX (m_X4_fewestBy h2) cx_X4_fewestBy ml_X4_51 (As := [.int v4, .int v1, .int v2]) (rest := [.int v3]) 30 (ce_order _ _) rfl rfl rfl rfl ⟨Nat.le_of_ble_eq_true rfl, Nat.le_of_ble_eq_true rfl⟩ (Nat.le_of_ble_eq_true rfl) dX4_fewestFrom_47 ?_
      refine wa_mmin hX ml_X4_55 st_Lib_Math_min_name in_J9 cd_Lib_Math_min_name (Nat.le_of_ble_eq_true rfl) (Nat.le_of_ble_eq_true rfl) dX4_fewestFrom_50 ?_
      refine wa_istore_n hX (lv2 := [(3, .int (if x1.1 < v3 then x1.1 else v3)), (0, .ref (Ad X 30)), (1, .int v1), (2, .int v2), (4, .int v4)]) rfl (by decide) rfl dX4_fewestFrom_53 ?_
      refine wa_sub (lv2 := [(0, .ref (Ad X 30)), (1, .int v1), (2, .int v2), (3, .int (if x1.1 < v3 then x1.1 else v3)), (4, .int v4)]) [1, 2, 3, 0, 4] rfl ?_
      exact t_X4_fewestFrom_54 hX hE hk23 h
set_option maxRecDepth 100000 in
set_option maxHeartbeats 4000000 in
theorem m_X4_fewestFrom {w w1 : Wd} {p1 : Int32} {p2 : Int32} {r : Int32} (h : F_X4_fewestFrom w p1 p2 = some (r, w1)) : Gi yX4_fewestFrom cX4_fewestFrom 5 (some .int) 2 43 (fun E => [.ref (E.2.1 30), .int p1, .int p2]) w w1 r := by
  refine Gi.of (hy := by decide +kernel) (hlen := fun _ => Nat.le_of_ble_eq_true rfl) (fun X hX hE => ?_)
  · unfold F_X4_fewestFrom at h
    refine (show Wa X w 0 [(0, .ref (Ad X 30)), (1, .int p1), (2, .int p2)] [] from ?_)
    refine wa_iload_n hX 1 rfl rfl dX4_fewestFrom_0 ?_
    refine wa_iconst hX 1 ki_1 dX4_fewestFrom_1 ?_
    refine wa_aload_n hX 0 rfl rfl dX4_fewestFrom_2 ?_
    refine wg_order_scenes hX fl_X4_27 dX4_fewestFrom_3 ?_
    refine wa_ishl hX dX4_fewestFrom_6 ?_
    refine wa_iconst hX 1 ki_1 dX4_fewestFrom_7 ?_
    refine wa_isub hX dX4_fewestFrom_8 ?_
    refine wa_icmp_ne hX 17 (by decide) dX4_fewestFrom_9 (fun c => ?_) (fun c => ?_)
    · replace h := itn c h
      refine wa_bipush hX 57 kb_57 dX4_fewestFrom_17 ?_
      refine wa_istore_n hX (lv2 := [(3, .int 57), (0, .ref (Ad X 30)), (1, .int p1), (2, .int p2)]) rfl (by decide) rfl dX4_fewestFrom_19 ?_
      refine wa_iconst hX 0 ki_0 dX4_fewestFrom_20 ?_
      refine wa_istore hX (lv2 := [(4, .int 0), (3, .int 57), (0, .ref (Ad X 30)), (1, .int p1), (2, .int p2)]) (by decide) rfl dX4_fewestFrom_21 ?_
      refine wa_sub (lv2 := [(0, .ref (Ad X 30)), (1, .int p1), (2, .int p2), (3, .int 57), (4, .int 0)]) [2, 3, 4, 1, 0] rfl ?_
      exact t_X4_fewestFrom_23 hX hE  _ _ h
    · replace h := itp c h
      refine wa_iload_n hX 2 rfl rfl dX4_fewestFrom_12 ?_
      obtain ⟨x2, h2, h⟩ := obind h
      refine wa_callSi hX (m_J6_bitCount h2) cx_J6_bitCount_0f7a4 ml_X4_45 (As := [.int p2]) (rest := []) rfl rfl rfl ⟨Nat.le_of_ble_eq_true rfl, Nat.le_of_ble_eq_true rfl⟩ (Nat.le_of_ble_eq_true rfl) dX4_fewestFrom_13 ?_
      exact ret_i hE h dX4_fewestFrom_16
set_option maxRecDepth 100000 in
set_option maxHeartbeats 4000000 in
theorem t_X4_firstBest_43 {X : Fx} (hX : Cx X cX4_firstBest RX4 5 3 67) {r : Int32} {w1 : Wd} (hE : ∀ pc lv, decode cX4_firstBest pc = .ok (.ireturn, 1) → narrow .int (.int r) = .int r → Wa X w1 pc lv [.int r]) {k10 : Wd × Int32 × Int32 × Int32 × Int32 → Option (Int32 × Wd)} (hk10 : ∀ a, k10 a = some (r, w1) → Wa X a.1 10 [(0, .ref (Ad X 30)), (1, .int a.2.1), (2, .int a.2.2.1), (3, .int a.2.2.2.1), (4, .int a.2.2.2.2)] []) {w : Wd} {v1 : Int32} {v2 : Int32} {v3 : Int32} {v4 : Int32} (h : F_X4_firstBest_43 k10 w v1 v2 v3 v4 = some (r, w1)) : Wa X w 43 [(0, .ref (Ad X 30)), (1, .int v1), (2, .int v2), (3, .int v3), (4, .int v4)] [] := by
  unfold F_X4_firstBest_43 at h
  refine wa_iinc hX (v := (v4 + 1)) (lv2 := [(4, .int (v4 + 1)), (0, .ref (Ad X 30)), (1, .int v1), (2, .int v2), (3, .int v3)]) 4 rfl rfl (by decide) rfl dX4_firstBest_43 ?_
  refine wa_goto hX 10 (by decide) dX4_firstBest_46 ?_
  refine wa_sub (lv2 := [(0, .ref (Ad X 30)), (1, .int v1), (2, .int v2), (3, .int v3), (4, .int (v4 + 1))]) [1, 2, 3, 4, 0] rfl ?_
  exact hk10 _ h
set_option maxRecDepth 100000 in
set_option maxHeartbeats 4000000 in
theorem t_X4_firstBest_10 {X : Fx} (hX : Cx X cX4_firstBest RX4 5 3 67) {r : Int32} {w1 : Wd} (hE : ∀ pc lv, decode cX4_firstBest pc = .ok (.ireturn, 1) → narrow .int (.int r) = .int r → Wa X w1 pc lv [.int r])  : ∀ (n : Nat) (a : Wd × Int32 × Int32 × Int32 × Int32), L_X4_firstBest_10  n a = some (r, w1) → Wa X a.1 10 [(0, .ref (Ad X 30)), (1, .int a.2.1), (2, .int a.2.2.1), (3, .int a.2.2.2.1), (4, .int a.2.2.2.2)] [] := by
  refine it_mach (P := fun (a : Wd × Int32 × Int32 × Int32 × Int32) => Wa X a.1 10 [(0, .ref (Ad X 30)), (1, .int a.2.1), (2, .int a.2.2.1), (3, .int a.2.2.2.1), (4, .int a.2.2.2.2)] []) ?_
  intro k10 hk10 a h
  obtain ⟨w, v1, v2, v3, v4⟩ := a
  have h : F_X4_firstBest_10 k10 w v1 v2 v3 v4 = some (r, w1) := h
  show Wa X w 10 [(0, .ref (Ad X 30)), (1, .int v1), (2, .int v2), (3, .int v3), (4, .int v4)] []
  unfold F_X4_firstBest_10 at h
  refine wa_iload hX 4 rfl dX4_firstBest_10 ?_
  refine wa_aload_n hX 0 rfl rfl dX4_firstBest_12 ?_
  refine wg_order_scenes hX fl_X4_27 dX4_firstBest_13 ?_
  refine wa_icmp_ge hX 49 (by decide) dX4_firstBest_16 (fun c => ?_) (fun c => ?_)
  · replace h := itp c h
    refine wa_iconst hX 0 ki_0 dX4_firstBest_49 ?_
    exact ret_i hE h dX4_firstBest_50
  · replace h := itn c h
    refine wa_iload_n hX 1 rfl rfl dX4_firstBest_19 ?_
    refine wa_iload hX 4 rfl dX4_firstBest_20 ?_
    refine wa_ishr hX dX4_firstBest_22 ?_
    refine wa_iconst hX 1 ki_1 dX4_firstBest_23 ?_
    refine wa_iand hX dX4_firstBest_24 ?_
    refine wa_if_ne hX 43 (by decide) dX4_firstBest_25 (fun c => ?_) (fun c => ?_)
    · replace h := itn c h
      exact t_X4_firstBest_43 hX hE hk10 h
    · replace h := itp c h
      refine wa_aload_n hX 0 rfl rfl dX4_firstBest_28 ?_
      refine wa_iload hX 4 rfl dX4_firstBest_29 ?_
      refine wa_iload_n hX 1 rfl rfl dX4_firstBest_31 ?_
      refine wa_iload_n hX 2 rfl rfl dX4_firstBest_32 ?_
      obtain ⟨x2, h2, h⟩ := obind h
      refine wa_callVi hX (m_X4_fewestBy h2) cx_X4_fewestBy ml_X4_51 (As := [.int v4, .int v1, .int v2]) (rest := []) 30 (ce_order _ _) rfl rfl rfl rfl ⟨Nat.le_of_ble_eq_true rfl, Nat.le_of_ble_eq_true rfl⟩ (Nat.le_of_ble_eq_true rfl) dX4_firstBest_33 ?_
      refine wa_iload_n hX 3 rfl rfl dX4_firstBest_36 ?_
      refine wa_icmp_ne hX 43 (by decide) dX4_firstBest_37 (fun c => ?_) (fun c => ?_)
      · replace h := itn c h
        exact t_X4_firstBest_43 hX hE hk10 h
      · replace h := itp c h
        refine wa_iload hX 4 rfl dX4_firstBest_40 ?_
        exact ret_i hE h dX4_firstBest_42
set_option maxRecDepth 100000 in
set_option maxHeartbeats 4000000 in
theorem m_X4_firstBest {w w1 : Wd} {p1 : Int32} {p2 : Int32} {r : Int32} (h : F_X4_firstBest w p1 p2 = some (r, w1)) : Gi yX4_firstBest cX4_firstBest 5 (some .int) 3 67 (fun E => [.ref (E.2.1 30), .int p1, .int p2]) w w1 r := by
  refine Gi.of (hy := by decide +kernel) (hlen := fun _ => Nat.le_of_ble_eq_true rfl) (fun X hX hE => ?_)
  · unfold F_X4_firstBest at h
    refine (show Wa X w 0 [(0, .ref (Ad X 30)), (1, .int p1), (2, .int p2)] [] from ?_)
    refine wa_aload_n hX 0 rfl rfl dX4_firstBest_0 ?_
    refine wa_iload_n hX 1 rfl rfl dX4_firstBest_1 ?_
    refine wa_iload_n hX 2 rfl rfl dX4_firstBest_2 ?_
    obtain ⟨x1, h2, h⟩ := obind h
    refine wa_callVi hX (m_X4_fewestFrom h2) cx_X4_fewestFrom ml_X4_35 (As := [.int p1, .int p2]) (rest := []) 30 (ce_order _ _) rfl rfl rfl rfl ⟨Nat.le_of_ble_eq_true rfl, Nat.le_of_ble_eq_true rfl⟩ (Nat.le_of_ble_eq_true rfl) dX4_firstBest_3 ?_
    refine wa_istore_n hX (lv2 := [(3, .int x1.1), (0, .ref (Ad X 30)), (1, .int p1), (2, .int p2)]) rfl (by decide) rfl dX4_firstBest_6 ?_
    refine wa_iconst hX 0 ki_0 dX4_firstBest_7 ?_
    refine wa_istore hX (lv2 := [(4, .int 0), (3, .int x1.1), (0, .ref (Ad X 30)), (1, .int p1), (2, .int p2)]) (by decide) rfl dX4_firstBest_8 ?_
    refine wa_sub (lv2 := [(0, .ref (Ad X 30)), (1, .int p1), (2, .int p2), (3, .int x1.1), (4, .int 0)]) [2, 3, 4, 1, 0] rfl ?_
    exact t_X4_firstBest_10 hX hE  _ _ h
set_option maxRecDepth 100000 in
set_option maxHeartbeats 4000000 in
theorem t_X4_fillRow_6 {X : Fx} (hX : Cx X cX4_fillRow RX4 5 4 91) {w1 : Wd} (hE : ∀ pc lv, decode cX4_fillRow pc = .ok (.return_, 1) → Wa X w1 pc lv [])  : ∀ (n : Nat) (a : Wd × Int32 × Int32 × Int32), L_X4_fillRow_6  n a = some w1 → Wa X a.1 6 [(0, .ref (Ad X 30)), (1, .int a.2.1), (2, .int a.2.2.1), (3, .int a.2.2.2)] [] := by
  refine it_mach (P := fun (a : Wd × Int32 × Int32 × Int32) => Wa X a.1 6 [(0, .ref (Ad X 30)), (1, .int a.2.1), (2, .int a.2.2.1), (3, .int a.2.2.2)] []) ?_
  intro k6 hk6 a h
  obtain ⟨w, v1, v2, v3⟩ := a
  have h : F_X4_fillRow_6 k6 w v1 v2 v3 = some w1 := h
  show Wa X w 6 [(0, .ref (Ad X 30)), (1, .int v1), (2, .int v2), (3, .int v3)] []
  unfold F_X4_fillRow_6 at h
  refine wa_iload_n hX 3 rfl rfl dX4_fillRow_6 ?_
  refine wa_aload_n hX 0 rfl rfl dX4_fillRow_7 ?_
  refine wg_order_scenes hX fl_X4_27 dX4_fillRow_8 ?_
  refine wa_icmp_ge hX 51 (by decide) dX4_fillRow_11 (fun c => ?_) (fun c => ?_)
  · replace h := itp c h
    exact ret_v hE h dX4_fillRow_51
  · replace h := itn c h
    refine wa_aload_n hX 0 rfl rfl dX4_fillRow_14 ?_
    refine wa_iload_n hX 1 rfl rfl dX4_fillRow_15 ?_
    refine wa_iload_n hX 2 rfl rfl dX4_fillRow_16 ?_
    obtain ⟨x1, h2, h⟩ := obind h
    refine wa_callVi hX (m_X4_firstBest h2) cx_X4_firstBest ml_X4_60 (As := [.int v1, .int v2]) (rest := []) 30 (ce_order _ _) rfl rfl rfl rfl ⟨Nat.le_of_ble_eq_true rfl, Nat.le_of_ble_eq_true rfl⟩ (Nat.le_of_ble_eq_true rfl) dX4_fillRow_17 ?_
    refine wa_istore hX (lv2 := [(4, .int x1.1), (0, .ref (Ad X 30)), (1, .int v1), (2, .int v2), (3, .int v3)]) (by decide) rfl dX4_fillRow_20 ?_
    refine wa_aload_n hX 1 rfl rfl dX4_fillRow_22 ?_
    refine wg_order_row hX fl_X4_9 dX4_fillRow_23 ?_
    refine wa_iload_n hX 4 rfl rfl dX4_fillRow_26 ?_
    refine wa_iload hX 0 rfl dX4_fillRow_27 ?_
    obtain ⟨hg, h⟩ := gu_some h
    refine ws_order_row hX hg dX4_fillRow_29 ?_
    refine wa_iload_n hX 2 rfl rfl dX4_fillRow_30 ?_
    refine wa_iconst hX 1 ki_1 dX4_fillRow_31 ?_
    refine wa_iload hX 0 rfl dX4_fillRow_32 ?_
    refine wa_ishl hX dX4_fillRow_34 ?_
    refine wa_ior hX dX4_fillRow_35 ?_
    refine wa_istore_n hX (lv2 := [(1, .int (v1 ||| (1 <<< (x1.1 &&& 31)))), (4, .int x1.1), (0, .ref (Ad X 30)), (2, .int v2), (3, .int v3)]) rfl (by decide) rfl dX4_fillRow_36 ?_
    refine wa_aload_n hX 2 rfl rfl dX4_fillRow_37 ?_
    refine wg_order_sceneOn hX fl_X4_15 dX4_fillRow_38 ?_
    refine wa_iload hX 1 rfl dX4_fillRow_41 ?_
    obtain ⟨hg, h⟩ := gu_some h
    refine wl_order_sceneOn hX hg dX4_fillRow_43 ?_
    refine (show Wa X (wA x1.2 31 v3 x1.1) 44 [(1, .int (v1 ||| (1 <<< (x1.1 &&& 31)))), (4, .int x1.1), (0, .ref (Ad X 30)), (2, .int v2), (3, .int v3)] [.int (x1.2.2.1 32 x1.1.toNatClampNeg)] from ?_)
    refine wa_istore_n hX (lv2 := [(2, .int (x1.2.2.1 32 x1.1.toNatClampNeg)), (1, .int (v1 ||| (1 <<< (x1.1 &&& 31)))), (4, .int x1.1), (0, .ref (Ad X 30)), (3, .int v3)]) rfl (by decide) rfl dX4_fillRow_44 ?_
    refine wa_iinc hX (v := (v3 + 1)) (lv2 := [(3, .int (v3 + 1)), (2, .int (x1.2.2.1 32 x1.1.toNatClampNeg)), (1, .int (v1 ||| (1 <<< (x1.1 &&& 31)))), (4, .int x1.1), (0, .ref (Ad X 30))]) 4 rfl rfl (by decide) rfl dX4_fillRow_45 ?_
    refine wa_goto hX 6 (by decide) dX4_fillRow_48 ?_
    refine wa_sub (lv2 := [(0, .ref (Ad X 30)), (1, .int (v1 ||| (1 <<< (x1.1 &&& 31)))), (2, .int (x1.2.2.1 32 x1.1.toNatClampNeg)), (3, .int (v3 + 1))]) [4, 2, 1, 0] rfl ?_
    exact hk6 _ h
set_option maxRecDepth 100000 in
set_option maxHeartbeats 4000000 in
theorem m_X4_fillRow {w w1 : Wd} (h : F_X4_fillRow w  = some w1) : Gv yX4_fillRow cX4_fillRow 5 none 4 91 (fun E => [.ref (E.2.1 30)]) w w1 := by
  refine Gv.of (hy := by decide +kernel) (hlen := fun _ => Nat.le_of_ble_eq_true rfl) (fun X hX hE => ?_)
  · unfold F_X4_fillRow at h
    refine (show Wa X w 0 [(0, .ref (Ad X 30))] [] from ?_)
    refine wa_iconst hX 0 ki_0 dX4_fillRow_0 ?_
    refine wa_istore_n hX (lv2 := [(1, .int 0), (0, .ref (Ad X 30))]) rfl (by decide) rfl dX4_fillRow_1 ?_
    refine wa_iconst hX 0 ki_0 dX4_fillRow_2 ?_
    refine wa_istore_n hX (lv2 := [(2, .int 0), (1, .int 0), (0, .ref (Ad X 30))]) rfl (by decide) rfl dX4_fillRow_3 ?_
    refine wa_iconst hX 0 ki_0 dX4_fillRow_4 ?_
    refine wa_istore_n hX (lv2 := [(3, .int 0), (2, .int 0), (1, .int 0), (0, .ref (Ad X 30))]) rfl (by decide) rfl dX4_fillRow_5 ?_
    refine wa_sub (lv2 := [(0, .ref (Ad X 30)), (1, .int 0), (2, .int 0), (3, .int 0)]) [3, 2, 1, 0] rfl ?_
    exact t_X4_fillRow_6 hX hE  _ _ h
set_option maxRecDepth 100000 in
set_option maxHeartbeats 4000000 in
theorem t_X4_choose_77 {X : Fx} (hX : Cx X cX4_choose RX4 4 5 115) {w1 : Wd} (hE : ∀ pc lv, decode cX4_choose pc = .ok (.return_, 1) → Wa X w1 pc lv []) {k32 : Wd × Int32 → Option (Wd)} (hk32 : ∀ a, k32 a = some w1 → Wa X a.1 32 [(0, .ref (Ad X 30)), (2, .int a.2)] []) {k38 : Wd × Int32 × Int32 → Option (Wd)} (hk38 : ∀ a, k38 a = some w1 → Wa X a.1 38 [(0, .ref (Ad X 30)), (2, .int a.2.1), (3, .int a.2.2)] []) {w : Wd} {v2 : Int32} {v3 : Int32} (h : F_X4_choose_77 k32 k38 w v2 v3 = some w1) : Wa X w 77 [(0, .ref (Ad X 30)), (2, .int v2), (3, .int v3)] [] := by
  unfold F_X4_choose_77 at h
  refine wa_iinc hX (v := (v3 + 1)) (lv2 := [(3, .int (v3 + 1)), (0, .ref (Ad X 30)), (2, .int v2)]) 2 rfl rfl (by decide) rfl dX4_choose_77 ?_
  refine wa_goto hX 38 (by decide) dX4_choose_80 ?_
  refine wa_sub (lv2 := [(0, .ref (Ad X 30)), (2, .int v2), (3, .int (v3 + 1))]) [1, 2, 0] rfl ?_
  exact hk38 _ h
set_option maxRecDepth 100000 in
set_option maxHeartbeats 4000000 in
theorem t_X4_choose_38 {X : Fx} (hX : Cx X cX4_choose RX4 4 5 115) {w1 : Wd} (hE : ∀ pc lv, decode cX4_choose pc = .ok (.return_, 1) → Wa X w1 pc lv []) {k32 : Wd × Int32 → Option (Wd)} (hk32 : ∀ a, k32 a = some w1 → Wa X a.1 32 [(0, .ref (Ad X 30)), (2, .int a.2)] []) : ∀ (n : Nat) (a : Wd × Int32 × Int32), L_X4_choose_38 k32 n a = some w1 → Wa X a.1 38 [(0, .ref (Ad X 30)), (2, .int a.2.1), (3, .int a.2.2)] [] := by
  refine it_mach (P := fun (a : Wd × Int32 × Int32) => Wa X a.1 38 [(0, .ref (Ad X 30)), (2, .int a.2.1), (3, .int a.2.2)] []) ?_
  intro k38 hk38 a h
  obtain ⟨w, v2, v3⟩ := a
  have h : F_X4_choose_38 k32 k38 w v2 v3 = some w1 := h
  show Wa X w 38 [(0, .ref (Ad X 30)), (2, .int v2), (3, .int v3)] []
  unfold F_X4_choose_38 at h
  refine wa_iload_n hX 2 rfl rfl dX4_choose_38 ?_
  refine wa_aload_n hX 0 rfl rfl dX4_choose_39 ?_
  refine wg_order_scenes hX fl_X4_27 dX4_choose_40 ?_
  refine wa_icmp_ge hX 83 (by decide) dX4_choose_43 (fun c => ?_) (fun c => ?_)
  · replace h := itp c h
    refine wa_iinc hX (v := (v2 + (-1))) (lv2 := [(2, .int (v2 + (-1))), (0, .ref (Ad X 30)), (3, .int v3)]) 1 rfl (by rw [ki_m1]) (by decide) rfl dX4_choose_83 ?_
    refine wa_goto hX 32 (by decide) dX4_choose_86 ?_
    refine wa_sub (lv2 := [(0, .ref (Ad X 30)), (2, .int (v2 + (-1)))]) [1, 0] rfl ?_
    exact hk32 _ h
  · replace h := itn c h
    refine wa_iload_n hX 1 rfl rfl dX4_choose_46 ?_
    refine wa_iload_n hX 2 rfl rfl dX4_choose_47 ?_
    refine wa_ishr hX dX4_choose_48 ?_
    refine wa_iconst hX 1 ki_1 dX4_choose_49 ?_
    refine wa_iand hX dX4_choose_50 ?_
    refine wa_iconst hX 1 ki_1 dX4_choose_51 ?_
    refine wa_icmp_ne hX 77 (by decide) dX4_choose_52 (fun c => ?_) (fun c => ?_)
    · replace h := itn c h
      exact t_X4_choose_77 hX hE hk32 hk38 h
    · replace h := itp c h
      refine wa_aload_n hX 0 rfl rfl dX4_choose_55 ?_
      refine wg_order_behind hX fl_X4_18 dX4_choose_56 ?_
      refine wa_iload_n hX 1 rfl rfl dX4_choose_59 ?_
      refine wa_bipush hX 6 kb_6 dX4_choose_60 ?_
      refine wa_imul hX dX4_choose_62 ?_
      refine wa_iload_n hX 2 rfl rfl dX4_choose_63 ?_
      refine wa_iadd hX dX4_choose_64 ?_
      refine wa_aload_n hX 0 rfl rfl dX4_choose_65 ?_
      refine wa_iload_n hX 1 rfl rfl dX4_choose_66 ?_
      refine wa_aload_n hX 0 rfl rfl dX4_choose_67 ?_
      refine wg_order_sceneOn hX fl_X4_15 dX4_choose_68 ?_
      refine wa_iload_n hX 2 rfl rfl dX4_choose_71 ?_
      obtain ⟨hg, h⟩ := gu_some h
      refine wl_order_sceneOn hX hg dX4_choose_72 ?_
      obtain ⟨x3, h2, h⟩ := obind h
      refine wa_callVi hX (m_X4_fewestFrom h2) cx_X4_fewestFrom ml_X4_35 (As := [.int v2, .int (w.2.1 32 v3.toNatClampNeg)]) (rest := [.int ((v2 * 6) + v3), .ref (Ad X 33)]) 30 (ce_order _ _) rfl rfl rfl rfl ⟨Nat.le_of_ble_eq_true rfl, Nat.le_of_ble_eq_true rfl⟩ (Nat.le_of_ble_eq_true rfl) dX4_choose_73 ?_
      obtain ⟨hg, h⟩ := gu_some h
      refine ws_order_behind hX hg dX4_choose_76 ?_
      exact t_X4_choose_77 hX hE hk32 hk38 h
set_option maxRecDepth 100000 in
set_option maxHeartbeats 4000000 in
theorem t_X4_choose_32 {X : Fx} (hX : Cx X cX4_choose RX4 4 5 115) {w1 : Wd} (hE : ∀ pc lv, decode cX4_choose pc = .ok (.return_, 1) → Wa X w1 pc lv [])  : ∀ (n : Nat) (a : Wd × Int32), L_X4_choose_32  n a = some w1 → Wa X a.1 32 [(0, .ref (Ad X 30)), (2, .int a.2)] [] := by
  refine it_mach (P := fun (a : Wd × Int32) => Wa X a.1 32 [(0, .ref (Ad X 30)), (2, .int a.2)] []) ?_
  intro k32 hk32 a h
  obtain ⟨w, v2⟩ := a
  have h : F_X4_choose_32 k32 w v2 = some w1 := h
  show Wa X w 32 [(0, .ref (Ad X 30)), (2, .int v2)] []
  unfold F_X4_choose_32 at h
  refine wa_iload_n hX 1 rfl rfl dX4_choose_32 ?_
  refine wa_if_le hX 89 (by decide) dX4_choose_33 (fun c => ?_) (fun c => ?_)
  · replace h := itp c h
    refine wa_aload_n hX 0 rfl rfl dX4_choose_89 ?_
    refine wa_aload_n hX 0 rfl rfl dX4_choose_90 ?_
    refine wa_iconst hX 0 ki_0 dX4_choose_91 ?_
    refine wa_iconst hX 0 ki_0 dX4_choose_92 ?_
    obtain ⟨x1, h2, h⟩ := obind h
    refine wa_callVi hX (m_X4_fewestFrom h2) cx_X4_fewestFrom ml_X4_35 (As := [.int 0, .int 0]) (rest := [.ref (Ad X 30)]) 30 (ce_order _ _) rfl rfl rfl rfl ⟨Nat.le_of_ble_eq_true rfl, Nat.le_of_ble_eq_true rfl⟩ (Nat.le_of_ble_eq_true rfl) dX4_choose_93 ?_
    refine wp_order_fewest hX fl_X4_39 dX4_choose_96 ?_
    refine wa_aload_n hX 0 rfl rfl dX4_choose_99 ?_
    obtain ⟨x2, h2, h⟩ := obind h
    refine wa_callVv hX (m_X4_fillRow h2) cx_X4_fillRow ml_X4_42 (As := []) (rest := []) 30 (ce_order _ _) rfl rfl rfl rfl ⟨Nat.le_of_ble_eq_true rfl, Nat.le_of_ble_eq_true rfl⟩ (Nat.le_of_ble_eq_true rfl) dX4_choose_100 ?_
    exact ret_v hE h dX4_choose_103
  · replace h := itn c h
    refine wa_iconst hX 0 ki_0 dX4_choose_36 ?_
    refine wa_istore_n hX (lv2 := [(3, .int 0), (0, .ref (Ad X 30)), (2, .int v2)]) rfl (by decide) rfl dX4_choose_37 ?_
    refine wa_sub (lv2 := [(0, .ref (Ad X 30)), (2, .int v2), (3, .int 0)]) [1, 2, 0] rfl ?_
    exact t_X4_choose_38 hX hE hk32 _ _ h
set_option maxRecDepth 100000 in
set_option maxHeartbeats 4000000 in
theorem m_X4_choose {w w1 : Wd} (h : F_X4_choose w  = some w1) : Gv yX4_choose cX4_choose 4 none 5 115 (fun E => [.ref (E.2.1 30), .ref (E.2.1 8)]) w w1 := by
  refine Gv.of (hy := by decide +kernel) (hlen := fun _ => Nat.le_of_ble_eq_true rfl) (fun X hX hE => ?_)
  · unfold F_X4_choose at h
    refine (show Wa X w 0 [(0, .ref (Ad X 30)), (1, .ref (Ad X 8))] [] from ?_)
    refine wa_aload_n hX 0 rfl rfl dX4_choose_0 ?_
    refine wa_aload_n hX 1 rfl rfl dX4_choose_1 ?_
    refine wgN_rules_scenes hX fn_X4_21 dX4_choose_2 ?_
    refine wp_order_scenes hX fl_X4_27 dX4_choose_5 ?_
    refine wa_aload_n hX 1 rfl rfl dX4_choose_8 ?_
    refine wgN_rules_sceneOn hX fn_X4_28 dX4_choose_9 ?_
    refine wa_iconst hX 0 ki_0 dX4_choose_12 ?_
    refine wa_aload_n hX 0 rfl rfl dX4_choose_13 ?_
    refine wg_order_sceneOn hX fl_X4_15 dX4_choose_14 ?_
    refine wa_iconst hX 0 ki_0 dX4_choose_17 ?_
    refine wa_bipush hX 6 kb_6 dX4_choose_18 ?_
    refine wa_copyG hX ml_X4_29 11 32 rfl rfl (by decide) (by decide) (by decide) (by decide) (by decide) (Nat.le_of_ble_eq_true rfl) (by decide) (wR (wI w 26 (w.1 11)) 32 (va_cpy (w.2.1 11) (w.2.1 32) 0 0 6)) (ct_order_sceneOn _ _ _) dX4_choose_20 ?_
    refine wa_iconst hX 1 ki_1 dX4_choose_23 ?_
    refine wa_aload_n hX 0 rfl rfl dX4_choose_24 ?_
    refine wg_order_scenes hX fl_X4_27 dX4_choose_25 ?_
    refine (show Wa X (wR (wI w 26 (w.1 11)) 32 (va_cpy (w.2.1 11) (w.2.1 32) 0 0 6)) 28 [(0, .ref (Ad X 30)), (1, .ref (Ad X 8))] [.int (w.1 11), .int 1] from ?_)
    refine wa_ishl hX dX4_choose_28 ?_
    refine wa_iconst hX 1 ki_1 dX4_choose_29 ?_
    refine wa_isub hX dX4_choose_30 ?_
    refine wa_istore_n hX (lv2 := [(2, .int ((1 <<< (w.1 11 &&& 31)) - 1)), (0, .ref (Ad X 30)), (1, .ref (Ad X 8))]) rfl (by decide) rfl dX4_choose_31 ?_
    refine wa_sub (lv2 := [(0, .ref (Ad X 30)), (2, .int ((1 <<< (w.1 11 &&& 31)) - 1))]) [1, 0] rfl ?_
    exact t_X4_choose_32 hX hE  _ _ h
set_option maxRecDepth 100000 in
set_option maxHeartbeats 4000000 in
theorem t_X5_order_16 {X : Fx} (hX : Cx X cX5_order RX5 2 6 138) {r : Int32} {w1 : Wd} (hE : ∀ pc lv, decode cX5_order pc = .ok (.ireturn, 1) → narrow .int (.int r) = .int r → Wa X w1 pc lv [.int r])  {w : Wd} (h : F_X5_order_16 w = some (r, w1)) : Wa X w 16 [] [] := by
  unfold F_X5_order_16 at h
  refine wa_bipush hX (-6) kb_m6 dX5_order_16 ?_
  exact ret_i hE h dX5_order_18
set_option maxRecDepth 100000 in
set_option maxHeartbeats 4000000 in
theorem t_X5_order_54 {X : Fx} (hX : Cx X cX5_order RX5 2 6 138) {r : Int32} {w1 : Wd} (hE : ∀ pc lv, decode cX5_order pc = .ok (.ireturn, 1) → narrow .int (.int r) = .int r → Wa X w1 pc lv [.int r])  {w : Wd} {s0 : Int32} (h : F_X5_order_54 w s0 = some (r, w1)) : Wa X w 54 [] [.int s0] := by
  unfold F_X5_order_54 at h
  exact ret_i hE h dX5_order_54
set_option maxRecDepth 100000 in
set_option maxHeartbeats 4000000 in
theorem m_X5_order {w w1 : Wd} {p1 : Int32} {r : Int32} (h : F_X5_order w p1 = some (r, w1)) : Gi yX5_order cX5_order 2 (some .int) 6 138 (fun E => [.ref (E.2.1 0), .int p1]) w w1 r := by
  refine Gi.of (hy := by decide +kernel) (hlen := fun _ => Nat.le_of_ble_eq_true rfl) (fun X hX hE => ?_)
  · unfold F_X5_order at h
    refine (show Wa X w 0 [(0, .ref (Ad X 0)), (1, .int p1)] [] from ?_)
    refine wa_iload_n hX 1 rfl rfl dX5_order_0 ?_
    refine wa_iconst hX (-1) ki_m1 dX5_order_1 ?_
    refine wa_icmp_lt hX 16 (by decide) dX5_order_2 (fun c => ?_) (fun c => ?_)
    · replace h := itp c h
      refine wa_sub (lv2 := []) [] rfl ?_
      exact t_X5_order_16 hX hE  h
    · replace h := itn c h
      refine wa_iload_n hX 1 rfl rfl dX5_order_5 ?_
      refine wa_aload_n hX 0 rfl rfl dX5_order_6 ?_
      refine wg_stage_rules hX fl_X5_10 dX5_order_7 ?_
      refine wgN_rules_scenes hX fn_X5_168 dX5_order_10 ?_
      refine wa_icmp_lt hX 19 (by decide) dX5_order_13 (fun c => ?_) (fun c => ?_)
      · replace h := itp c h
        refine wa_aload_n hX 0 rfl rfl dX5_order_19 ?_
        refine wg_stage_sceneOrder hX fl_X5_41 dX5_order_20 ?_
        refine wa_aload_n hX 0 rfl rfl dX5_order_23 ?_
        refine wg_stage_rules hX fl_X5_10 dX5_order_24 ?_
        obtain ⟨x1, h2, h⟩ := obind h
        refine wa_callVv hX (m_X4_choose h2) cx_X4_choose ml_X5_171 (As := [.ref (Ad X 8)]) (rest := []) 30 (ce_order _ _) rfl rfl rfl rfl ⟨Nat.le_of_ble_eq_true rfl, Nat.le_of_ble_eq_true rfl⟩ (Nat.le_of_ble_eq_true rfl) dX5_order_27 ?_
        refine wa_iload_n hX 1 rfl rfl dX5_order_30 ?_
        refine wa_iconst hX (-1) ki_m1 dX5_order_31 ?_
        refine wa_icmp_ne hX 45 (by decide) dX5_order_32 (fun c => ?_) (fun c => ?_)
        · replace h := itn c h
          refine wa_aload_n hX 0 rfl rfl dX5_order_45 ?_
          refine wg_stage_sceneOrder hX fl_X5_41 dX5_order_46 ?_
          refine wgN_order_row hX fn_X5_177 dX5_order_49 ?_
          refine wa_iload_n hX 1 rfl rfl dX5_order_52 ?_
          obtain ⟨hg, h⟩ := gu_some h
          refine wl_order_row hX hg dX5_order_53 ?_
          refine wa_sub (lv2 := []) [] rfl ?_
          exact t_X5_order_54 hX hE  h
        · replace h := itp c h
          refine wa_aload_n hX 0 rfl rfl dX5_order_35 ?_
          refine wg_stage_sceneOrder hX fl_X5_41 dX5_order_36 ?_
          refine wgN_order_fewest hX fn_X5_174 dX5_order_39 ?_
          refine wa_goto hX 54 (by decide) dX5_order_42 ?_
          refine wa_sub (lv2 := []) [] rfl ?_
          exact t_X5_order_54 hX hE  h
      · replace h := itn c h
        refine wa_sub (lv2 := []) [] rfl ?_
        exact t_X5_order_16 hX hE  h
set_option maxRecDepth 100000 in
set_option maxHeartbeats 4000000 in
theorem m_X3_addSight {w w1 : Wd} {p1 : Int32} {p2 : Int32} {r : Int32} (h : F_X3_addSight w p1 p2 = some (r, w1)) : Gi yX3_addSight cX3_addSight 3 (some .int) 0 0 (fun E => [.ref (E.2.1 8), .int p1, .int p2]) w w1 r := by
  refine Gi.of (hy := by decide +kernel) (hlen := fun _ => Nat.le_of_ble_eq_true rfl) (fun X hX hE => ?_)
  · unfold F_X3_addSight at h
    refine (show Wa X w 0 [(0, .ref (Ad X 8)), (1, .int p1), (2, .int p2)] [] from ?_)
    refine wa_aload_n hX 0 rfl rfl dX3_addSight_0 ?_
    refine wg_rules_sights hX fl_X3_40 dX3_addSight_1 ?_
    refine wa_bipush hX 6 kb_6 dX3_addSight_4 ?_
    refine wa_icmp_lt hX 12 (by decide) dX3_addSight_6 (fun c => ?_) (fun c => ?_)
    · replace h := itp c h
      refine wa_aload_n hX 0 rfl rfl dX3_addSight_12 ?_
      refine wg_rules_sightLine hX fl_X3_28 dX3_addSight_13 ?_
      refine wa_aload_n hX 0 rfl rfl dX3_addSight_16 ?_
      refine wg_rules_sights hX fl_X3_40 dX3_addSight_17 ?_
      refine wa_iload_n hX 1 rfl rfl dX3_addSight_20 ?_
      obtain ⟨hg, h⟩ := gu_some h
      refine ws_rules_sightLine hX hg dX3_addSight_21 ?_
      refine wa_aload_n hX 0 rfl rfl dX3_addSight_22 ?_
      refine wg_rules_sightMany hX fl_X3_31 dX3_addSight_23 ?_
      refine wa_aload_n hX 0 rfl rfl dX3_addSight_26 ?_
      refine wg_rules_sights hX fl_X3_40 dX3_addSight_27 ?_
      refine (show Wa X (wA w 12 (w.1 12) p1) 30 [(0, .ref (Ad X 8)), (1, .int p1), (2, .int p2)] [.int (w.1 12), .ref (Ad X 13)] from ?_)
      refine wa_iload_n hX 2 rfl rfl dX3_addSight_30 ?_
      obtain ⟨hg, h⟩ := gu_some h
      refine ws_rules_sightMany hX hg dX3_addSight_31 ?_
      refine wa_aload_n hX 0 rfl rfl dX3_addSight_32 ?_
      refine wa_dup hX rfl dX3_addSight_33 ?_
      refine wg_rules_sights hX fl_X3_40 dX3_addSight_34 ?_
      refine (show Wa X (wA (wA w 12 (w.1 12) p1) 13 (w.1 12) p2) 37 [(0, .ref (Ad X 8)), (1, .int p1), (2, .int p2)] [.int (w.1 12), .ref (Ad X 8)] from ?_)
      refine wa_iconst hX 1 ki_1 dX3_addSight_37 ?_
      refine wa_iadd hX dX3_addSight_38 ?_
      refine wp_rules_sights hX fl_X3_40 dX3_addSight_39 ?_
      refine wa_aload_n hX 0 rfl rfl dX3_addSight_42 ?_
      refine wg_rules_sights hX fl_X3_40 dX3_addSight_43 ?_
      refine (show Wa X (wI (wA (wA w 12 (w.1 12) p1) 13 (w.1 12) p2) 12 (w.1 12 + 1)) 46 [(0, .ref (Ad X 8)), (1, .int p1), (2, .int p2)] [.int (w.1 12 + 1)] from ?_)
      exact ret_i hE h dX3_addSight_46
    · replace h := itn c h
      refine wa_bipush hX (-4) kb_m4 dX3_addSight_9 ?_
      exact ret_i hE h dX3_addSight_11
set_option maxRecDepth 100000 in
set_option maxHeartbeats 4000000 in
theorem t_X5_seen_18 {X : Fx} (hX : Cx X cX5_seen RX5 3 1 22) {r : Int32} {w1 : Wd} (hE : ∀ pc lv, decode cX5_seen pc = .ok (.ireturn, 1) → narrow .int (.int r) = .int r → Wa X w1 pc lv [.int r])  {w : Wd} (h : F_X5_seen_18 w = some (r, w1)) : Wa X w 18 [] [] := by
  unfold F_X5_seen_18 at h
  refine wa_bipush hX (-2) kb_m2 dX5_seen_18 ?_
  exact ret_i hE h dX5_seen_20
set_option maxRecDepth 100000 in
set_option maxHeartbeats 4000000 in
theorem m_X5_seen {w w1 : Wd} {p1 : Int32} {p2 : Int32} {r : Int32} (h : F_X5_seen w p1 p2 = some (r, w1)) : Gi yX5_seen cX5_seen 3 (some .int) 1 22 (fun E => [.ref (E.2.1 0), .int p1, .int p2]) w w1 r := by
  refine Gi.of (hy := by decide +kernel) (hlen := fun _ => Nat.le_of_ble_eq_true rfl) (fun X hX hE => ?_)
  · unfold F_X5_seen at h
    refine (show Wa X w 0 [(0, .ref (Ad X 0)), (1, .int p1), (2, .int p2)] [] from ?_)
    refine wa_iload_n hX 1 rfl rfl dX5_seen_0 ?_
    refine wa_bipush hX 39 kb_39 dX5_seen_1 ?_
    obtain ⟨x1, h2, h⟩ := obind h
    refine wa_callSi hX (m_X5_isWithin h2) cx_X5_isWithin ml_X5_56 (As := [.int p1, .int 39]) (rest := []) rfl rfl rfl ⟨Nat.le_of_ble_eq_true rfl, Nat.le_of_ble_eq_true rfl⟩ (Nat.le_of_ble_eq_true rfl) dX5_seen_3 ?_
    refine wa_if_eq hX 18 (by decide) dX5_seen_6 (fun c => ?_) (fun c => ?_)
    · replace h := itp c h
      refine wa_sub (lv2 := []) [] rfl ?_
      exact t_X5_seen_18 hX hE  h
    · replace h := itn c h
      refine wa_iload_n hX 2 rfl rfl dX5_seen_9 ?_
      refine wa_bipush hX 8 kb_8 dX5_seen_10 ?_
      obtain ⟨x2, h2, h⟩ := obind h
      refine wa_callSi hX (m_X5_isWithin h2) cx_X5_isWithin ml_X5_56 (As := [.int p2, .int 8]) (rest := []) rfl rfl rfl ⟨Nat.le_of_ble_eq_true rfl, Nat.le_of_ble_eq_true rfl⟩ (Nat.le_of_ble_eq_true rfl) dX5_seen_12 ?_
      refine wa_if_ne hX 21 (by decide) dX5_seen_15 (fun c => ?_) (fun c => ?_)
      · replace h := itn c h
        refine wa_aload_n hX 0 rfl rfl dX5_seen_21 ?_
        refine wg_stage_rules hX fl_X5_10 dX5_seen_22 ?_
        refine wa_iload_n hX 1 rfl rfl dX5_seen_25 ?_
        refine wa_iload_n hX 2 rfl rfl dX5_seen_26 ?_
        obtain ⟨x3, h2, h⟩ := obind h
        refine wa_callVi hX (m_X3_addSight h2) cx_X3_addSight ml_X5_180 (As := [.int p1, .int p2]) (rest := []) 8 (ce_rules _ _) rfl rfl rfl rfl ⟨Nat.le_of_ble_eq_true rfl, Nat.le_of_ble_eq_true rfl⟩ (Nat.le_of_ble_eq_true rfl) dX5_seen_27 ?_
        exact ret_i hE h dX5_seen_30
      · replace h := itp c h
        refine wa_sub (lv2 := []) [] rfl ?_
        exact t_X5_seen_18 hX hE  h
set_option maxRecDepth 100000 in
set_option maxHeartbeats 4000000 in
theorem m_X5_forget {w w1 : Wd} {r : Int32} (h : F_X5_forget w  = some (r, w1)) : Gi yX5_forget cX5_forget 2 (some .int) 0 0 (fun E => [.ref (E.2.1 0)]) w w1 r := by
  refine Gi.of (hy := by decide +kernel) (hlen := fun _ => Nat.le_of_ble_eq_true rfl) (fun X hX hE => ?_)
  · unfold F_X5_forget at h
    refine (show Wa X w 0 [(0, .ref (Ad X 0))] [] from ?_)
    refine wa_aload_n hX 0 rfl rfl dX5_forget_0 ?_
    refine wg_stage_rules hX fl_X5_10 dX5_forget_1 ?_
    refine wgN_rules_sights hX fn_X5_183 dX5_forget_4 ?_
    refine wa_istore_n hX (lv2 := [(1, .int (w.1 12)), (0, .ref (Ad X 0))]) rfl (by decide) rfl dX5_forget_7 ?_
    refine wa_aload_n hX 1 rfl rfl dX5_forget_8 ?_
    refine wg_stage_rules hX fl_X5_10 dX5_forget_9 ?_
    refine wa_iconst hX 0 ki_0 dX5_forget_12 ?_
    refine wpN_rules_sights hX fn_X5_183 dX5_forget_13 ?_
    refine wa_iload_n hX 0 rfl rfl dX5_forget_16 ?_
    exact ret_i hE h dX5_forget_17
set_option maxRecDepth 100000 in
set_option maxHeartbeats 4000000 in
theorem t_J7_fill_guess_who_5 {X : Fx} (hX : Cx X cJ7_fill_53178 RJ7 4 0 0) {w1 : Wd} (hE : ∀ pc lv, decode cJ7_fill_53178 pc = .ok (.return_, 1) → Wa X w1 pc lv [])  : ∀ (n : Nat) (a : Wd × Int32 × Int32 × Int32), L_J7_fill_guess_who_5  n a = some w1 → Wa X a.1 5 [(0, .ref (Ad X 35)), (1, .int a.2.1), (2, .int a.2.2.1), (3, .int a.2.2.2)] [] := by
  refine it_mach (P := fun (a : Wd × Int32 × Int32 × Int32) => Wa X a.1 5 [(0, .ref (Ad X 35)), (1, .int a.2.1), (2, .int a.2.2.1), (3, .int a.2.2.2)] []) ?_
  intro k5 hk5 a h
  obtain ⟨w, v1, v2, v3⟩ := a
  have h : F_J7_fill_guess_who_5 k5 w v1 v2 v3 = some w1 := h
  show Wa X w 5 [(0, .ref (Ad X 35)), (1, .int v1), (2, .int v2), (3, .int v3)] []
  unfold F_J7_fill_guess_who_5 at h
  refine wa_iload_n hX 2 rfl rfl dJ7_fill_53178_5 ?_
  refine wa_iload_n hX 3 rfl rfl dJ7_fill_53178_6 ?_
  refine wa_icmp_ge hX 20 (by decide) dJ7_fill_53178_7 (fun c => ?_) (fun c => ?_)
  · replace h := itp c h
    exact ret_v hE h dJ7_fill_53178_20
  · replace h := itn c h
    refine wa_aload_n hX 0 rfl rfl dJ7_fill_53178_10 ?_
    refine wa_iload_n hX 2 rfl rfl dJ7_fill_53178_11 ?_
    refine wa_iload_n hX 1 rfl rfl dJ7_fill_53178_12 ?_
    obtain ⟨hg, h⟩ := gu_some h
    refine ws_guess_who hX hg dJ7_fill_53178_13 ?_
    refine wa_iinc hX (v := (v2 + 1)) (lv2 := [(2, .int (v2 + 1)), (0, .ref (Ad X 35)), (1, .int v1), (3, .int v3)]) 2 rfl rfl (by decide) rfl dJ7_fill_53178_14 ?_
    refine wa_goto hX 5 (by decide) dJ7_fill_53178_17 ?_
    refine wa_sub (lv2 := [(0, .ref (Ad X 35)), (1, .int v1), (2, .int (v2 + 1)), (3, .int v3)]) [1, 2, 0, 3] rfl ?_
    exact hk5 _ h
set_option maxRecDepth 100000 in
set_option maxHeartbeats 4000000 in
theorem m_J7_fill_guess_who {w w1 : Wd} {p1 : Int32} (h : F_J7_fill_guess_who w p1 = some w1) : Gv yJ7_fill_53178 cJ7_fill_53178 4 none 0 0 (fun E => [.ref (E.2.1 35), .int p1]) w w1 := by
  refine Gv.of (hy := by decide +kernel) (hlen := fun _ => Nat.le_of_ble_eq_true rfl) (fun X hX hE => ?_)
  · unfold F_J7_fill_guess_who at h
    refine (show Wa X w 0 [(0, .ref (Ad X 35)), (1, .int p1)] [] from ?_)
    refine wa_iconst hX 0 ki_0 dJ7_fill_53178_0 ?_
    refine wa_istore_n hX (lv2 := [(2, .int 0), (0, .ref (Ad X 35)), (1, .int p1)]) rfl (by decide) rfl dJ7_fill_53178_1 ?_
    refine wa_aload_n hX 1 rfl rfl dJ7_fill_53178_2 ?_
    refine wn_guess_who hX dJ7_fill_53178_3 ?_
    refine wa_istore_n hX (lv2 := [(3, .int 3), (2, .int 0), (0, .ref (Ad X 35)), (1, .int p1)]) rfl (by decide) rfl dJ7_fill_53178_4 ?_
    refine wa_sub (lv2 := [(0, .ref (Ad X 35)), (1, .int p1), (2, .int 0), (3, .int 3)]) [2, 3, 1, 0] rfl ?_
    exact t_J7_fill_guess_who_5 hX hE  _ _ h
set_option maxRecDepth 100000 in
set_option maxHeartbeats 4000000 in
theorem t_X3_sightsHold_40 {X : Fx} (hX : Cx X cX3_sightsHold RX3 4 0 0) {r : Int32} {w1 : Wd} (hE : ∀ pc lv, decode cX3_sightsHold pc = .ok (.ireturn, 1) → narrow .boolean (.int r) = .int r → Wa X w1 pc lv [.int r])  {w : Wd} (h : F_X3_sightsHold_40 w = some (r, w1)) : Wa X w 40 [] [] := by
  unfold F_X3_sightsHold_40 at h
  refine wa_iconst hX 0 ki_0 dX3_sightsHold_40 ?_
  exact ret_z hE h (by decide) dX3_sightsHold_41
set_option maxRecDepth 100000 in
set_option maxHeartbeats 4000000 in
theorem t_X3_sightsHold_2 {X : Fx} (hX : Cx X cX3_sightsHold RX3 4 0 0) {r : Int32} {w1 : Wd} (hE : ∀ pc lv, decode cX3_sightsHold pc = .ok (.ireturn, 1) → narrow .boolean (.int r) = .int r → Wa X w1 pc lv [.int r])  : ∀ (n : Nat) (a : Wd × Int32), L_X3_sightsHold_2  n a = some (r, w1) → Wa X a.1 2 [(0, .ref (Ad X 8)), (1, .ref (Ad X 4)), (2, .int a.2)] [] := by
  refine it_mach (P := fun (a : Wd × Int32) => Wa X a.1 2 [(0, .ref (Ad X 8)), (1, .ref (Ad X 4)), (2, .int a.2)] []) ?_
  intro k2 hk2 a h
  obtain ⟨w, v2⟩ := a
  have h : F_X3_sightsHold_2 k2 w v2 = some (r, w1) := h
  show Wa X w 2 [(0, .ref (Ad X 8)), (1, .ref (Ad X 4)), (2, .int v2)] []
  unfold F_X3_sightsHold_2 at h
  refine wa_iload_n hX 2 rfl rfl dX3_sightsHold_2 ?_
  refine wa_aload_n hX 0 rfl rfl dX3_sightsHold_3 ?_
  refine wg_rules_sights hX fl_X3_40 dX3_sightsHold_4 ?_
  refine wa_icmp_ge hX 48 (by decide) dX3_sightsHold_7 (fun c => ?_) (fun c => ?_)
  · replace h := itp c h
    refine wa_iconst hX 1 ki_1 dX3_sightsHold_48 ?_
    exact ret_z hE h (by decide) dX3_sightsHold_49
  · replace h := itn c h
    refine wa_aload_n hX 0 rfl rfl dX3_sightsHold_10 ?_
    refine wg_rules_sightLine hX fl_X3_28 dX3_sightsHold_11 ?_
    refine wa_iload_n hX 2 rfl rfl dX3_sightsHold_14 ?_
    obtain ⟨hg, h⟩ := gu_some h
    refine wl_rules_sightLine hX hg dX3_sightsHold_15 ?_
    refine wa_istore_n hX (lv2 := [(3, .int (w.2.1 12 v2.toNatClampNeg)), (0, .ref (Ad X 8)), (1, .ref (Ad X 4)), (2, .int v2)]) rfl (by decide) rfl dX3_sightsHold_16 ?_
    refine wa_iload_n hX 0 rfl rfl dX3_sightsHold_17 ?_
    refine wa_aload_n hX 2 rfl rfl dX3_sightsHold_18 ?_
    refine wgN_play_lineCount hX fn_X3_49 dX3_sightsHold_19 ?_
    refine wa_icmp_ge hX 40 (by decide) dX3_sightsHold_22 (fun c => ?_) (fun c => ?_)
    · replace h := itp c h
      refine wa_sub (lv2 := []) [] rfl ?_
      exact t_X3_sightsHold_40 hX hE  h
    · replace h := itn c h
      refine wa_aload_n hX 2 rfl rfl dX3_sightsHold_25 ?_
      refine wgN_play_manyAt hX fn_X3_54 dX3_sightsHold_26 ?_
      refine wa_iload_n hX 0 rfl rfl dX3_sightsHold_29 ?_
      obtain ⟨hg, h⟩ := gu_some h
      refine wl_play_manyAt hX hg dX3_sightsHold_30 ?_
      refine wa_aload_n hX 1 rfl rfl dX3_sightsHold_31 ?_
      refine wg_rules_sightMany hX fl_X3_31 dX3_sightsHold_32 ?_
      refine wa_iload_n hX 3 rfl rfl dX3_sightsHold_35 ?_
      obtain ⟨hg, h⟩ := gu_some h
      refine wl_rules_sightMany hX hg dX3_sightsHold_36 ?_
      refine wa_icmp_eq hX 42 (by decide) dX3_sightsHold_37 (fun c => ?_) (fun c => ?_)
      · replace h := itp c h
        refine wa_iinc hX (v := (v2 + 1)) (lv2 := [(2, .int (v2 + 1)), (3, .int (w.2.1 12 v2.toNatClampNeg)), (0, .ref (Ad X 8)), (1, .ref (Ad X 4))]) 3 rfl rfl (by decide) rfl dX3_sightsHold_42 ?_
        refine wa_goto hX 2 (by decide) dX3_sightsHold_45 ?_
        refine wa_sub (lv2 := [(0, .ref (Ad X 8)), (1, .ref (Ad X 4)), (2, .int (v2 + 1))]) [2, 3, 0] rfl ?_
        exact hk2 _ h
      · replace h := itn c h
        refine wa_sub (lv2 := []) [] rfl ?_
        exact t_X3_sightsHold_40 hX hE  h
set_option maxRecDepth 100000 in
set_option maxHeartbeats 4000000 in
theorem m_X3_sightsHold {w w1 : Wd} {r : Int32} (h : F_X3_sightsHold w  = some (r, w1)) : Gi yX3_sightsHold cX3_sightsHold 4 (some .boolean) 0 0 (fun E => [.ref (E.2.1 8), .ref (E.2.1 4)]) w w1 r := by
  refine Gi.of (hy := by decide +kernel) (hlen := fun _ => Nat.le_of_ble_eq_true rfl) (fun X hX hE => ?_)
  · unfold F_X3_sightsHold at h
    refine (show Wa X w 0 [(0, .ref (Ad X 8)), (1, .ref (Ad X 4))] [] from ?_)
    refine wa_iconst hX 0 ki_0 dX3_sightsHold_0 ?_
    refine wa_istore_n hX (lv2 := [(2, .int 0), (0, .ref (Ad X 8)), (1, .ref (Ad X 4))]) rfl (by decide) rfl dX3_sightsHold_1 ?_
    refine wa_sub (lv2 := [(0, .ref (Ad X 8)), (1, .ref (Ad X 4)), (2, .int 0)]) [1, 2, 0] rfl ?_
    exact t_X3_sightsHold_2 hX hE  _ _ h
set_option maxRecDepth 100000 in
set_option maxHeartbeats 4000000 in
theorem t_X1_keep_24 {X : Fx} (hX : Cx X cX1_keep RX1 4 1 22) {w1 : Wd} (hE : ∀ pc lv, decode cX1_keep pc = .ok (.return_, 1) → Wa X w1 pc lv [])  : ∀ (n : Nat) (a : Wd × Int32 × Int32), L_X1_keep_24  n a = some w1 → Wa X a.1 24 [(0, .ref (Ad X 34)), (1, .ref (Ad X 4)), (2, .int a.2.1), (3, .int a.2.2)] [] := by
  refine it_mach (P := fun (a : Wd × Int32 × Int32) => Wa X a.1 24 [(0, .ref (Ad X 34)), (1, .ref (Ad X 4)), (2, .int a.2.1), (3, .int a.2.2)] []) ?_
  intro k24 hk24 a h
  obtain ⟨w, v2, v3⟩ := a
  have h : F_X1_keep_24 k24 w v2 v3 = some w1 := h
  show Wa X w 24 [(0, .ref (Ad X 34)), (1, .ref (Ad X 4)), (2, .int v2), (3, .int v3)] []
  unfold F_X1_keep_24 at h
  refine wa_iload_n hX 3 rfl rfl dX1_keep_24 ?_
  refine wa_aload_n hX 1 rfl rfl dX1_keep_25 ?_
  refine wgN_play_asked hX fn_X1_34 dX1_keep_26 ?_
  refine wa_icmp_ge hX 55 (by decide) dX1_keep_29 (fun c => ?_) (fun c => ?_)
  · replace h := itp c h
    exact ret_v hE h dX1_keep_55
  · replace h := itn c h
    refine wa_aload_n hX 0 rfl rfl dX1_keep_32 ?_
    refine wg_guess_who hX fl_X1_9 dX1_keep_33 ?_
    refine wa_iload_n hX 3 rfl rfl dX1_keep_36 ?_
    refine wa_dup2 hX rfl rfl dX1_keep_37 ?_
    obtain ⟨hg, h⟩ := gu_some h
    refine wl_guess_who hX hg dX1_keep_38 ?_
    refine wa_iconst hX 1 ki_1 dX1_keep_39 ?_
    refine wa_aload_n hX 1 rfl rfl dX1_keep_40 ?_
    refine wa_iload_n hX 2 rfl rfl dX1_keep_41 ?_
    refine wa_iload_n hX 3 rfl rfl dX1_keep_42 ?_
    obtain ⟨x1, h2, h⟩ := obind h
    refine wa_callVi hX (m_X2_guessed h2) cx_X2_guessed ml_X1_53 (As := [.int v2, .int v3]) (rest := [.int 1, .int (w.2.1 35 v3.toNatClampNeg), .int v3, .ref (Ad X 35)]) 4 (ce_play _ _) rfl rfl rfl rfl ⟨Nat.le_of_ble_eq_true rfl, Nat.le_of_ble_eq_true rfl⟩ (Nat.le_of_ble_eq_true rfl) dX1_keep_43 ?_
    refine wa_ishl hX dX1_keep_46 ?_
    refine wa_ior hX dX1_keep_47 ?_
    obtain ⟨hg, h⟩ := gu_some h
    refine ws_guess_who hX hg dX1_keep_48 ?_
    refine wa_iinc hX (v := (v3 + 1)) (lv2 := [(3, .int (v3 + 1)), (0, .ref (Ad X 34)), (1, .ref (Ad X 4)), (2, .int v2)]) 3 rfl rfl (by decide) rfl dX1_keep_49 ?_
    refine wa_goto hX 24 (by decide) dX1_keep_52 ?_
    refine wa_sub (lv2 := [(0, .ref (Ad X 34)), (1, .ref (Ad X 4)), (2, .int v2), (3, .int (v3 + 1))]) [1, 2, 3, 0] rfl ?_
    exact hk24 _ h
set_option maxRecDepth 100000 in
set_option maxHeartbeats 4000000 in
theorem t_X1_keep_12 {X : Fx} (hX : Cx X cX1_keep RX1 4 1 22) {w1 : Wd} (hE : ∀ pc lv, decode cX1_keep pc = .ok (.return_, 1) → Wa X w1 pc lv [])  {w : Wd} {v2 : Int32} (h : F_X1_keep_12 w v2 = some w1) : Wa X w 12 [(0, .ref (Ad X 34)), (1, .ref (Ad X 4)), (2, .int v2)] [] := by
  unfold F_X1_keep_12 at h
  refine wa_aload_n hX 0 rfl rfl dX1_keep_12 ?_
  refine wa_dup hX rfl dX1_keep_13 ?_
  refine wg_guess_ways hX fl_X1_15 dX1_keep_14 ?_
  refine wa_iconst hX 1 ki_1 dX1_keep_17 ?_
  refine wa_iadd hX dX1_keep_18 ?_
  refine wp_guess_ways hX fl_X1_15 dX1_keep_19 ?_
  refine wa_iconst hX 0 ki_0 dX1_keep_22 ?_
  refine wa_istore_n hX (lv2 := [(3, .int 0), (0, .ref (Ad X 34)), (1, .ref (Ad X 4)), (2, .int v2)]) rfl (by decide) rfl dX1_keep_23 ?_
  refine wa_sub (lv2 := [(0, .ref (Ad X 34)), (1, .ref (Ad X 4)), (2, .int v2), (3, .int 0)]) [1, 2, 3, 0] rfl ?_
  exact t_X1_keep_24 hX hE  _ _ h
set_option maxRecDepth 100000 in
set_option maxHeartbeats 4000000 in
theorem m_X1_keep {w w1 : Wd} {p2 : Int32} (h : F_X1_keep w p2 = some w1) : Gv yX1_keep cX1_keep 4 none 1 22 (fun E => [.ref (E.2.1 34), .ref (E.2.1 4), .int p2]) w w1 := by
  refine Gv.of (hy := by decide +kernel) (hlen := fun _ => Nat.le_of_ble_eq_true rfl) (fun X hX hE => ?_)
  · unfold F_X1_keep at h
    refine (show Wa X w 0 [(0, .ref (Ad X 34)), (1, .ref (Ad X 4)), (2, .int p2)] [] from ?_)
    refine wa_aload_n hX 0 rfl rfl dX1_keep_0 ?_
    refine wg_guess_ways hX fl_X1_15 dX1_keep_1 ?_
    refine wa_if_ne hX 12 (by decide) dX1_keep_4 (fun c => ?_) (fun c => ?_)
    · replace h := itn c h
      exact t_X1_keep_12 hX hE  h
    · replace h := itp c h
      refine wa_aload_n hX 0 rfl rfl dX1_keep_7 ?_
      refine wa_iload_n hX 2 rfl rfl dX1_keep_8 ?_
      refine wp_guess_first hX fl_X1_19 dX1_keep_9 ?_
      exact t_X1_keep_12 hX hE  h
set_option maxRecDepth 100000 in
set_option maxHeartbeats 4000000 in
theorem t_X1_tryAll_96 {X : Fx} (hX : Cx X cX1_tryAll RX1 6 3 70) {w1 : Wd} (hE : ∀ pc lv, decode cX1_tryAll pc = .ok (.return_, 1) → Wa X w1 pc lv []) {k43 : Wd × Int32 × Int32 × Int32 → Option (Wd)} (hk43 : ∀ a, k43 a = some w1 → Wa X a.1 43 [(0, .ref (Ad X 34)), (1, .ref (Ad X 4)), (3, .int a.2.1), (4, .int a.2.2.1), (5, .int a.2.2.2)] []) {w : Wd} {v3 : Int32} {v4 : Int32} {v5 : Int32} (h : F_X1_tryAll_96 k43 w v3 v4 v5 = some w1) : Wa X w 96 [(0, .ref (Ad X 34)), (1, .ref (Ad X 4)), (3, .int v3), (4, .int v4), (5, .int v5)] [] := by
  unfold F_X1_tryAll_96 at h
  refine wa_iinc hX (v := (v5 + 1)) (lv2 := [(5, .int (v5 + 1)), (0, .ref (Ad X 34)), (1, .ref (Ad X 4)), (3, .int v3), (4, .int v4)]) 4 rfl rfl (by decide) rfl dX1_tryAll_96 ?_
  refine wa_goto hX 43 (by decide) dX1_tryAll_99 ?_
  refine wa_sub (lv2 := [(0, .ref (Ad X 34)), (1, .ref (Ad X 4)), (3, .int v3), (4, .int v4), (5, .int (v5 + 1))]) [1, 2, 3, 4, 0] rfl ?_
  exact hk43 _ h
set_option maxRecDepth 100000 in
set_option maxHeartbeats 4000000 in
theorem t_X1_tryAll_78 {X : Fx} (hX : Cx X cX1_tryAll RX1 6 3 70) {w1 : Wd} (hE : ∀ pc lv, decode cX1_tryAll pc = .ok (.return_, 1) → Wa X w1 pc lv []) {k43 : Wd × Int32 × Int32 × Int32 → Option (Wd)} (hk43 : ∀ a, k43 a = some w1 → Wa X a.1 43 [(0, .ref (Ad X 34)), (1, .ref (Ad X 4)), (3, .int a.2.1), (4, .int a.2.2.1), (5, .int a.2.2.2)] []) {w : Wd} {v3 : Int32} {v5 : Int32} (h : F_X1_tryAll_78 k43 w v3 v5 = some w1) : Wa X w 78 [(0, .ref (Ad X 34)), (1, .ref (Ad X 4)), (3, .int v3), (5, .int v5)] [] := by
  unfold F_X1_tryAll_78 at h
  refine wa_iload hX 3 rfl dX1_tryAll_78 ?_
  refine wa_iconst hX 1 ki_1 dX1_tryAll_80 ?_
  refine wa_iconst hX 3 ki_3 dX1_tryAll_81 ?_
  refine wa_aload_n hX 1 rfl rfl dX1_tryAll_82 ?_
  refine wgN_play_asked hX fn_X1_34 dX1_tryAll_83 ?_
  refine wa_aload_n hX 1 rfl rfl dX1_tryAll_86 ?_
  refine wgN_play_met hX fn_X1_50 dX1_tryAll_87 ?_
  refine wa_isub hX dX1_tryAll_90 ?_
  refine wa_imul hX dX1_tryAll_91 ?_
  refine wa_ishl hX dX1_tryAll_92 ?_
  refine wa_iadd hX dX1_tryAll_93 ?_
  refine wa_let h (fun y4 h => ?_)
  refine wa_istore hX (lv2 := [(4, .int y4), (0, .ref (Ad X 34)), (1, .ref (Ad X 4)), (3, .int v3), (5, .int v5)]) (by decide) rfl dX1_tryAll_94 ?_
  refine wa_sub (lv2 := [(0, .ref (Ad X 34)), (1, .ref (Ad X 4)), (3, .int v3), (4, .int y4), (5, .int v5)]) [1, 2, 3, 0, 4] rfl ?_
  exact t_X1_tryAll_96 hX hE hk43 h
set_option maxRecDepth 100000 in
set_option maxHeartbeats 4000000 in
theorem t_X1_tryAll_43 {X : Fx} (hX : Cx X cX1_tryAll RX1 6 3 70) {w1 : Wd} (hE : ∀ pc lv, decode cX1_tryAll pc = .ok (.return_, 1) → Wa X w1 pc lv [])  : ∀ (n : Nat) (a : Wd × Int32 × Int32 × Int32), L_X1_tryAll_43  n a = some w1 → Wa X a.1 43 [(0, .ref (Ad X 34)), (1, .ref (Ad X 4)), (3, .int a.2.1), (4, .int a.2.2.1), (5, .int a.2.2.2)] [] := by
  refine it_mach (P := fun (a : Wd × Int32 × Int32 × Int32) => Wa X a.1 43 [(0, .ref (Ad X 34)), (1, .ref (Ad X 4)), (3, .int a.2.1), (4, .int a.2.2.1), (5, .int a.2.2.2)] []) ?_
  intro k43 hk43 a h
  obtain ⟨w, v3, v4, v5⟩ := a
  have h : F_X1_tryAll_43 k43 w v3 v4 v5 = some w1 := h
  show Wa X w 43 [(0, .ref (Ad X 34)), (1, .ref (Ad X 4)), (3, .int v3), (4, .int v4), (5, .int v5)] []
  unfold F_X1_tryAll_43 at h
  refine wa_iload hX 4 rfl dX1_tryAll_43 ?_
  refine wa_iload_n hX 2 rfl rfl dX1_tryAll_45 ?_
  refine wa_icmp_ge hX 102 (by decide) dX1_tryAll_46 (fun c => ?_) (fun c => ?_)
  · replace h := itp c h
    exact ret_v hE h dX1_tryAll_102
  · replace h := itn c h
    refine wa_iload hX 4 rfl dX1_tryAll_49 ?_
    refine wa_iload hX 3 rfl dX1_tryAll_51 ?_
    refine wa_icmp_lt hX 96 (by decide) dX1_tryAll_53 (fun c => ?_) (fun c => ?_)
    · replace h := itp c h
      exact t_X1_tryAll_96 hX hE hk43 h
    · replace h := itn c h
      refine wa_aload_n hX 1 rfl rfl dX1_tryAll_56 ?_
      refine wa_iload hX 4 rfl dX1_tryAll_57 ?_
      obtain ⟨x3, h2, h⟩ := obind h
      refine wa_callVv hX (m_X2_perform h2) cx_X2_perform ml_X1_39 (As := [.int v5]) (rest := []) 4 (ce_play _ _) rfl rfl rfl rfl ⟨Nat.le_of_ble_eq_true rfl, Nat.le_of_ble_eq_true rfl⟩ (Nat.le_of_ble_eq_true rfl) dX1_tryAll_59 ?_
      refine wa_aload_n hX 1 rfl rfl dX1_tryAll_62 ?_
      refine wgN_play_impossibleAt hX fn_X1_43 dX1_tryAll_63 ?_
      refine wa_bipush hX (-6) kb_m6 dX1_tryAll_66 ?_
      refine wa_icmp_ne hX 78 (by decide) dX1_tryAll_68 (fun c => ?_) (fun c => ?_)
      · replace h := itn c h
        refine wa_sub (lv2 := [(0, .ref (Ad X 34)), (1, .ref (Ad X 4)), (3, .int v3), (5, .int v5)]) [0, 1, 2, 4] rfl ?_
        exact t_X1_tryAll_78 hX hE hk43 h
      · replace h := itp c h
        refine wa_aload_n hX 0 rfl rfl dX1_tryAll_71 ?_
        refine wa_aload_n hX 1 rfl rfl dX1_tryAll_72 ?_
        refine wa_iload hX 4 rfl dX1_tryAll_73 ?_
        obtain ⟨x5, h2, h⟩ := obind h
        refine wa_callVv hX (m_X1_keep h2) cx_X1_keep ml_X1_46 (As := [.ref (Ad X 4), .int v5]) (rest := []) 34 (ce_guess _ _) rfl rfl rfl rfl ⟨Nat.le_of_ble_eq_true rfl, Nat.le_of_ble_eq_true rfl⟩ (Nat.le_of_ble_eq_true rfl) dX1_tryAll_75 ?_
        refine wa_sub (lv2 := [(0, .ref (Ad X 34)), (1, .ref (Ad X 4)), (3, .int v3), (5, .int v5)]) [0, 1, 2, 4] rfl ?_
        exact t_X1_tryAll_78 hX hE hk43 h
set_option maxRecDepth 100000 in
set_option maxHeartbeats 4000000 in
theorem m_X1_tryAll {w w1 : Wd} (h : F_X1_tryAll w  = some w1) : Gv yX1_tryAll cX1_tryAll 6 none 3 70 (fun E => [.ref (E.2.1 34), .ref (E.2.1 4), .ref (E.2.1 8)]) w w1 := by
  refine Gv.of (hy := by decide +kernel) (hlen := fun _ => Nat.le_of_ble_eq_true rfl) (fun X hX hE => ?_)
  · unfold F_X1_tryAll at h
    refine (show Wa X w 0 [(0, .ref (Ad X 34)), (1, .ref (Ad X 4)), (2, .ref (Ad X 8))] [] from ?_)
    refine wa_aload_n hX 0 rfl rfl dX1_tryAll_0 ?_
    refine wa_iconst hX 0 ki_0 dX1_tryAll_1 ?_
    refine wp_guess_ways hX fl_X1_15 dX1_tryAll_2 ?_
    refine wa_aload_n hX 0 rfl rfl dX1_tryAll_5 ?_
    refine wa_bipush hX (-6) kb_m6 dX1_tryAll_6 ?_
    refine wp_guess_first hX fl_X1_19 dX1_tryAll_8 ?_
    refine wa_aload_n hX 0 rfl rfl dX1_tryAll_11 ?_
    refine wg_guess_who hX fl_X1_9 dX1_tryAll_12 ?_
    refine wa_iconst hX 0 ki_0 dX1_tryAll_15 ?_
    obtain ⟨x1, h2, h⟩ := obind h
    refine wa_callSv hX (m_J7_fill_guess_who h2) cx_J7_fill_53178 ml_X1_22 (As := [.ref (Ad X 35), .int 0]) (rest := []) rfl rfl rfl ⟨Nat.le_of_ble_eq_true rfl, Nat.le_of_ble_eq_true rfl⟩ (Nat.le_of_ble_eq_true rfl) dX1_tryAll_16 ?_
    refine wa_aload_n hX 2 rfl rfl dX1_tryAll_19 ?_
    refine wa_aload_n hX 1 rfl rfl dX1_tryAll_20 ?_
    obtain ⟨x2, h2, h⟩ := obind h
    refine wa_callVi hX (m_X3_sightsHold h2) cx_X3_sightsHold ml_X1_28 (As := [.ref (Ad X 4)]) (rest := []) 8 (ce_rules _ _) rfl rfl rfl rfl ⟨Nat.le_of_ble_eq_true rfl, Nat.le_of_ble_eq_true rfl⟩ (Nat.le_of_ble_eq_true rfl) dX1_tryAll_21 ?_
    refine wa_if_ne hX 28 (by decide) dX1_tryAll_24 (fun c => ?_) (fun c => ?_)
    · replace h := itn c h
      refine wa_iconst hX 1 ki_1 dX1_tryAll_28 ?_
      refine wa_iconst hX 3 ki_3 dX1_tryAll_29 ?_
      refine wa_aload_n hX 1 rfl rfl dX1_tryAll_30 ?_
      refine wgN_play_asked hX fn_X1_34 dX1_tryAll_31 ?_
      refine wa_imul hX dX1_tryAll_34 ?_
      refine wa_ishl hX dX1_tryAll_35 ?_
      refine wa_istore_n hX (lv2 := [(3, .int (1 <<< ((3 * x2.2.1 2) &&& 31))), (0, .ref (Ad X 34)), (1, .ref (Ad X 4)), (2, .ref (Ad X 8))]) rfl (by decide) rfl dX1_tryAll_36 ?_
      refine wa_iconst hX 0 ki_0 dX1_tryAll_37 ?_
      refine wa_istore hX (lv2 := [(4, .int 0), (3, .int (1 <<< ((3 * x2.2.1 2) &&& 31))), (0, .ref (Ad X 34)), (1, .ref (Ad X 4)), (2, .ref (Ad X 8))]) (by decide) rfl dX1_tryAll_38 ?_
      refine wa_iconst hX 0 ki_0 dX1_tryAll_40 ?_
      refine wa_istore hX (lv2 := [(5, .int 0), (4, .int 0), (3, .int (1 <<< ((3 * x2.2.1 2) &&& 31))), (0, .ref (Ad X 34)), (1, .ref (Ad X 4)), (2, .ref (Ad X 8))]) (by decide) rfl dX1_tryAll_41 ?_
      refine wa_sub (lv2 := [(0, .ref (Ad X 34)), (1, .ref (Ad X 4)), (3, .int (1 <<< ((3 * x2.2.1 2) &&& 31))), (4, .int 0), (5, .int 0)]) [3, 4, 2, 1, 0] rfl ?_
      exact t_X1_tryAll_43 hX hE  _ _ h
    · replace h := itp c h
      exact ret_v hE h dX1_tryAll_27
set_option maxRecDepth 100000 in
set_option maxHeartbeats 4000000 in
theorem t_X5_fits_38 {X : Fx} (hX : Cx X cX5_fits RX5 2 4 95) {r : Int32} {w1 : Wd} (hE : ∀ pc lv, decode cX5_fits pc = .ok (.ireturn, 1) → narrow .int (.int r) = .int r → Wa X w1 pc lv [.int r])  {w : Wd} (h : F_X5_fits_38 w = some (r, w1)) : Wa X w 38 [] [] := by
  unfold F_X5_fits_38 at h
  refine wa_bipush hX (-6) kb_m6 dX5_fits_38 ?_
  exact ret_i hE h dX5_fits_40
set_option maxRecDepth 100000 in
set_option maxHeartbeats 4000000 in
theorem t_X5_fits_99 {X : Fx} (hX : Cx X cX5_fits RX5 2 4 95) {r : Int32} {w1 : Wd} (hE : ∀ pc lv, decode cX5_fits pc = .ok (.ireturn, 1) → narrow .int (.int r) = .int r → Wa X w1 pc lv [.int r])  {w : Wd} {s0 : Int32} (h : F_X5_fits_99 w s0 = some (r, w1)) : Wa X w 99 [] [.int s0] := by
  unfold F_X5_fits_99 at h
  exact ret_i hE h dX5_fits_99
set_option maxRecDepth 100000 in
set_option maxHeartbeats 4000000 in
theorem m_X5_fits {w w1 : Wd} {p1 : Int32} {r : Int32} (h : F_X5_fits w p1 = some (r, w1)) : Gi yX5_fits cX5_fits 2 (some .int) 4 95 (fun E => [.ref (E.2.1 0), .int p1]) w w1 r := by
  refine Gi.of (hy := by decide +kernel) (hlen := fun _ => Nat.le_of_ble_eq_true rfl) (fun X hX hE => ?_)
  · unfold F_X5_fits at h
    refine (show Wa X w 0 [(0, .ref (Ad X 0)), (1, .int p1)] [] from ?_)
    refine wa_aload_n hX 0 rfl rfl dX5_fits_0 ?_
    refine wg_stage_play hX fl_X5_27 dX5_fits_1 ?_
    obtain ⟨x1, h2, h⟩ := obind h
    refine wa_callVv hX (m_X2_survey h2) cx_X2_survey ml_X5_77 (As := []) (rest := []) 4 (ce_play _ _) rfl rfl rfl rfl ⟨Nat.le_of_ble_eq_true rfl, Nat.le_of_ble_eq_true rfl⟩ (Nat.le_of_ble_eq_true rfl) dX5_fits_4 ?_
    refine wa_aload_n hX 0 rfl rfl dX5_fits_7 ?_
    refine wg_stage_play hX fl_X5_27 dX5_fits_8 ?_
    refine wgN_play_faultAt hX fn_X5_80 dX5_fits_11 ?_
    refine wa_bipush hX (-6) kb_m6 dX5_fits_14 ?_
    refine wa_icmp_eq hX 22 (by decide) dX5_fits_16 (fun c => ?_) (fun c => ?_)
    · replace h := itp c h
      refine wa_iload_n hX 1 rfl rfl dX5_fits_22 ?_
      refine wa_iconst hX (-1) ki_m1 dX5_fits_23 ?_
      refine wa_icmp_lt hX 38 (by decide) dX5_fits_24 (fun c => ?_) (fun c => ?_)
      · replace h := itp c h
        refine wa_sub (lv2 := []) [] rfl ?_
        exact t_X5_fits_38 hX hE  h
      · replace h := itn c h
        refine wa_iload_n hX 1 rfl rfl dX5_fits_27 ?_
        refine wa_aload_n hX 0 rfl rfl dX5_fits_28 ?_
        refine wg_stage_play hX fl_X5_27 dX5_fits_29 ?_
        refine wgN_play_asked hX fn_X5_186 dX5_fits_32 ?_
        refine wa_icmp_lt hX 41 (by decide) dX5_fits_35 (fun c => ?_) (fun c => ?_)
        · replace h := itp c h
          refine wa_aload_n hX 0 rfl rfl dX5_fits_41 ?_
          refine wg_stage_guess hX fl_X5_48 dX5_fits_42 ?_
          refine wa_aload_n hX 0 rfl rfl dX5_fits_45 ?_
          refine wg_stage_play hX fl_X5_27 dX5_fits_46 ?_
          refine wa_aload_n hX 0 rfl rfl dX5_fits_49 ?_
          refine wg_stage_rules hX fl_X5_10 dX5_fits_50 ?_
          obtain ⟨x2, h2, h⟩ := obind h
          refine wa_callVv hX (m_X1_tryAll h2) cx_X1_tryAll ml_X5_189 (As := [.ref (Ad X 4), .ref (Ad X 8)]) (rest := []) 34 (ce_guess _ _) rfl rfl rfl rfl ⟨Nat.le_of_ble_eq_true rfl, Nat.le_of_ble_eq_true rfl⟩ (Nat.le_of_ble_eq_true rfl) dX5_fits_53 ?_
          refine wa_iload_n hX 1 rfl rfl dX5_fits_56 ?_
          refine wa_iconst hX (-1) ki_m1 dX5_fits_57 ?_
          refine wa_icmp_ne hX 69 (by decide) dX5_fits_58 (fun c => ?_) (fun c => ?_)
          · replace h := itn c h
            refine wa_aload_n hX 0 rfl rfl dX5_fits_69 ?_
            refine wg_stage_guess hX fl_X5_48 dX5_fits_70 ?_
            refine wgN_guess_ways hX fn_X5_193 dX5_fits_73 ?_
            refine wa_if_ne hX 84 (by decide) dX5_fits_76 (fun c => ?_) (fun c => ?_)
            · replace h := itn c h
              refine wa_aload_n hX 0 rfl rfl dX5_fits_84 ?_
              refine wg_stage_play hX fl_X5_27 dX5_fits_85 ?_
              refine wa_aload_n hX 0 rfl rfl dX5_fits_88 ?_
              refine wg_stage_guess hX fl_X5_48 dX5_fits_89 ?_
              refine wgN_guess_first hX fn_X5_196 dX5_fits_92 ?_
              refine wa_iload_n hX 1 rfl rfl dX5_fits_95 ?_
              obtain ⟨x3, h2, h⟩ := obind h
              refine wa_callVi hX (m_X2_guessed h2) cx_X2_guessed ml_X5_199 (As := [.int (x2.1 28), .int p1]) (rest := []) 4 (ce_play _ _) rfl rfl rfl rfl ⟨Nat.le_of_ble_eq_true rfl, Nat.le_of_ble_eq_true rfl⟩ (Nat.le_of_ble_eq_true rfl) dX5_fits_96 ?_
              refine wa_sub (lv2 := []) [] rfl ?_
              exact t_X5_fits_99 hX hE  h
            · replace h := itp c h
              refine wa_bipush hX (-6) kb_m6 dX5_fits_79 ?_
              refine wa_goto hX 99 (by decide) dX5_fits_81 ?_
              refine wa_sub (lv2 := []) [] rfl ?_
              exact t_X5_fits_99 hX hE  h
          · replace h := itp c h
            refine wa_aload_n hX 0 rfl rfl dX5_fits_61 ?_
            refine wg_stage_guess hX fl_X5_48 dX5_fits_62 ?_
            refine wgN_guess_ways hX fn_X5_193 dX5_fits_65 ?_
            exact ret_i hE h dX5_fits_68
        · replace h := itn c h
          refine wa_sub (lv2 := []) [] rfl ?_
          exact t_X5_fits_38 hX hE  h
    · replace h := itn c h
      refine wa_bipush hX (-5) kb_m5 dX5_fits_19 ?_
      exact ret_i hE h dX5_fits_21
set_option maxRecDepth 100000 in
set_option maxHeartbeats 4000000 in
theorem t_X5_could_37 {X : Fx} (hX : Cx X cX5_could RX5 2 4 95) {r : Int32} {w1 : Wd} (hE : ∀ pc lv, decode cX5_could pc = .ok (.ireturn, 1) → narrow .int (.int r) = .int r → Wa X w1 pc lv [.int r])  {w : Wd} (h : F_X5_could_37 w = some (r, w1)) : Wa X w 37 [] [] := by
  unfold F_X5_could_37 at h
  refine wa_bipush hX (-6) kb_m6 dX5_could_37 ?_
  exact ret_i hE h dX5_could_39
set_option maxRecDepth 100000 in
set_option maxHeartbeats 4000000 in
theorem m_X5_could {w w1 : Wd} {p1 : Int32} {r : Int32} (h : F_X5_could w p1 = some (r, w1)) : Gi yX5_could cX5_could 2 (some .int) 4 95 (fun E => [.ref (E.2.1 0), .int p1]) w w1 r := by
  refine Gi.of (hy := by decide +kernel) (hlen := fun _ => Nat.le_of_ble_eq_true rfl) (fun X hX hE => ?_)
  · unfold F_X5_could at h
    refine (show Wa X w 0 [(0, .ref (Ad X 0)), (1, .int p1)] [] from ?_)
    refine wa_aload_n hX 0 rfl rfl dX5_could_0 ?_
    refine wg_stage_play hX fl_X5_27 dX5_could_1 ?_
    obtain ⟨x1, h2, h⟩ := obind h
    refine wa_callVv hX (m_X2_survey h2) cx_X2_survey ml_X5_77 (As := []) (rest := []) 4 (ce_play _ _) rfl rfl rfl rfl ⟨Nat.le_of_ble_eq_true rfl, Nat.le_of_ble_eq_true rfl⟩ (Nat.le_of_ble_eq_true rfl) dX5_could_4 ?_
    refine wa_aload_n hX 0 rfl rfl dX5_could_7 ?_
    refine wg_stage_play hX fl_X5_27 dX5_could_8 ?_
    refine wgN_play_faultAt hX fn_X5_80 dX5_could_11 ?_
    refine wa_bipush hX (-6) kb_m6 dX5_could_14 ?_
    refine wa_icmp_eq hX 22 (by decide) dX5_could_16 (fun c => ?_) (fun c => ?_)
    · replace h := itp c h
      refine wa_iload_n hX 1 rfl rfl dX5_could_22 ?_
      refine wa_if_lt hX 37 (by decide) dX5_could_23 (fun c => ?_) (fun c => ?_)
      · replace h := itp c h
        refine wa_sub (lv2 := []) [] rfl ?_
        exact t_X5_could_37 hX hE  h
      · replace h := itn c h
        refine wa_iload_n hX 1 rfl rfl dX5_could_26 ?_
        refine wa_aload_n hX 0 rfl rfl dX5_could_27 ?_
        refine wg_stage_play hX fl_X5_27 dX5_could_28 ?_
        refine wgN_play_asked hX fn_X5_186 dX5_could_31 ?_
        refine wa_icmp_lt hX 40 (by decide) dX5_could_34 (fun c => ?_) (fun c => ?_)
        · replace h := itp c h
          refine wa_aload_n hX 0 rfl rfl dX5_could_40 ?_
          refine wg_stage_guess hX fl_X5_48 dX5_could_41 ?_
          refine wa_aload_n hX 0 rfl rfl dX5_could_44 ?_
          refine wg_stage_play hX fl_X5_27 dX5_could_45 ?_
          refine wa_aload_n hX 0 rfl rfl dX5_could_48 ?_
          refine wg_stage_rules hX fl_X5_10 dX5_could_49 ?_
          obtain ⟨x2, h2, h⟩ := obind h
          refine wa_callVv hX (m_X1_tryAll h2) cx_X1_tryAll ml_X5_189 (As := [.ref (Ad X 4), .ref (Ad X 8)]) (rest := []) 34 (ce_guess _ _) rfl rfl rfl rfl ⟨Nat.le_of_ble_eq_true rfl, Nat.le_of_ble_eq_true rfl⟩ (Nat.le_of_ble_eq_true rfl) dX5_could_52 ?_
          refine wa_aload_n hX 0 rfl rfl dX5_could_55 ?_
          refine wg_stage_guess hX fl_X5_48 dX5_could_56 ?_
          refine wgN_guess_who hX fn_X5_202 dX5_could_59 ?_
          refine wa_iload_n hX 1 rfl rfl dX5_could_62 ?_
          obtain ⟨hg, h⟩ := gu_some h
          refine wl_guess_who hX hg dX5_could_63 ?_
          exact ret_i hE h dX5_could_64
        · replace h := itn c h
          refine wa_sub (lv2 := []) [] rfl ?_
          exact t_X5_could_37 hX hE  h
    · replace h := itn c h
      refine wa_bipush hX (-5) kb_m5 dX5_could_19 ?_
      exact ret_i hE h dX5_could_21
set_option maxRecDepth 100000 in
set_option maxHeartbeats 4000000 in
theorem t_X5_evening_29 {X : Fx} (hX : Cx X cX5_evening RX5 11 1 22) {r : Int32} {w1 : Wd} (hE : ∀ pc lv, decode cX5_evening pc = .ok (.ireturn, 1) → narrow .int (.int r) = .int r → Wa X w1 pc lv [.int r])  {w : Wd} (h : F_X5_evening_29 w = some (r, w1)) : Wa X w 29 [] [] := by
  unfold F_X5_evening_29 at h
  refine wa_bipush hX (-2) kb_m2 dX5_evening_29 ?_
  exact ret_i hE h dX5_evening_31
set_option maxRecDepth 100000 in
set_option maxHeartbeats 4000000 in
theorem t_X5_evening_59 {X : Fx} (hX : Cx X cX5_evening RX5 11 1 22) {r : Int32} {w1 : Wd} (hE : ∀ pc lv, decode cX5_evening pc = .ok (.ireturn, 1) → narrow .int (.int r) = .int r → Wa X w1 pc lv [.int r])  : ∀ (n : Nat) (a : Wd × Int32 × Int32 × Int32 × Int32 × Int32 × Int32 × Int32 × Int32 × Int32), L_X5_evening_59  n a = some (r, w1) → Wa X a.1 59 [(0, .ref (Ad X 0)), (2, .int a.2.1), (3, .int a.2.2.1), (4, .int a.2.2.2.1), (5, .int a.2.2.2.2.1), (6, .int a.2.2.2.2.2.1), (7, .int a.2.2.2.2.2.2.1), (8, .int a.2.2.2.2.2.2.2.1), (9, .int a.2.2.2.2.2.2.2.2.1), (10, .int a.2.2.2.2.2.2.2.2.2)] [] := by
  refine it_mach (P := fun (a : Wd × Int32 × Int32 × Int32 × Int32 × Int32 × Int32 × Int32 × Int32 × Int32) => Wa X a.1 59 [(0, .ref (Ad X 0)), (2, .int a.2.1), (3, .int a.2.2.1), (4, .int a.2.2.2.1), (5, .int a.2.2.2.2.1), (6, .int a.2.2.2.2.2.1), (7, .int a.2.2.2.2.2.2.1), (8, .int a.2.2.2.2.2.2.2.1), (9, .int a.2.2.2.2.2.2.2.2.1), (10, .int a.2.2.2.2.2.2.2.2.2)] []) ?_
  intro k59 hk59 a h
  obtain ⟨w, v2, v3, v4, v5, v6, v7, v8, v9, v10⟩ := a
  have h : F_X5_evening_59 k59 w v2 v3 v4 v5 v6 v7 v8 v9 v10 = some (r, w1) := h
  show Wa X w 59 [(0, .ref (Ad X 0)), (2, .int v2), (3, .int v3), (4, .int v4), (5, .int v5), (6, .int v6), (7, .int v7), (8, .int v8), (9, .int v9), (10, .int v10)] []
  unfold F_X5_evening_59 at h
  refine wa_iload hX 9 rfl dX5_evening_59 ?_
  refine wa_iload_n hX 1 rfl rfl dX5_evening_61 ?_
  refine wa_icmp_ge hX 133 (by decide) dX5_evening_62 (fun c => ?_) (fun c => ?_)
  · replace h := itp c h
    refine wa_iload_n hX 2 rfl rfl dX5_evening_133 ?_
    refine wa_if_ne hX 140 (by decide) dX5_evening_134 (fun c => ?_) (fun c => ?_)
    · replace h := itn c h
      refine wa_iload_n hX 2 rfl rfl dX5_evening_140 ?_
      refine wa_iconst hX 1 ki_1 dX5_evening_141 ?_
      have hJ : Wa X w 152 [] [.int (if v3 = 1 then v6 else v7)] := by
        exact ret_i hE h dX5_evening_152
      refine wa_icmp_ne hX 150 (by decide) dX5_evening_142 (fun c => ?_) (fun c => ?_)
      · refine wa_iload hX 6 rfl dX5_evening_150 ?_
        refine wa_sub (lv2 := []) [] rfl ?_
        rw [show (if v3 = 1 then v6 else v7) = v7 from if_neg c] at hJ
        exact hJ
      · refine wa_iload hX 5 rfl dX5_evening_145 ?_
        refine wa_goto hX 152 (by decide) dX5_evening_147 ?_
        refine wa_sub (lv2 := []) [] rfl ?_
        rw [show (if v3 = 1 then v6 else v7) = v6 from if_pos c] at hJ
        exact hJ
    · replace h := itp c h
      refine wa_iload hX 7 rfl dX5_evening_137 ?_
      exact ret_i hE h dX5_evening_139
  · replace h := itn c h
    refine wa_bipush hX 75 kb_75 dX5_evening_65 ?_
    refine wa_iload hX 3 rfl dX5_evening_67 ?_
    refine wa_imul hX dX5_evening_69 ?_
    refine wa_bipush hX 74 kb_74 dX5_evening_70 ?_
    refine wa_iadd hX dX5_evening_72 ?_
    refine wa_ldc hX kc_X5_205 dX5_evening_73 ?_
    refine wa_irem hX (by decide) dX5_evening_75 ?_
    refine wa_let h (fun y3 h => ?_)
    refine wa_istore hX (lv2 := [(4, .int y3), (0, .ref (Ad X 0)), (2, .int v2), (3, .int v3), (5, .int v5), (6, .int v6), (7, .int v7), (8, .int v8), (9, .int v9), (10, .int v10)]) (by decide) rfl dX5_evening_76 ?_
    refine wa_iload hX 4 rfl dX5_evening_78 ?_
    refine wa_iconst hX 1 ki_1 dX5_evening_80 ?_
    refine wa_iload hX 0 rfl dX5_evening_81 ?_
    refine wa_bipush hX 8 kb_8 dX5_evening_83 ?_
    refine wa_irem hX (by decide) dX5_evening_85 ?_
    refine wa_ishl hX dX5_evening_86 ?_
    refine wa_ixor hX dX5_evening_87 ?_
    refine wa_let h (fun y4 h => ?_)
    refine wa_istore hX (lv2 := [(5, .int y4), (4, .int y3), (0, .ref (Ad X 0)), (2, .int v2), (3, .int v3), (6, .int v6), (7, .int v7), (8, .int v8), (9, .int v9), (10, .int v10)]) (by decide) rfl dX5_evening_88 ?_
    refine wa_iload hX 0 rfl dX5_evening_90 ?_
    obtain ⟨x5, h2, h⟩ := obind h
    refine wa_callSi hX (m_J6_bitCount h2) cx_J6_bitCount_0f7a4 ml_X5_206 (As := [.int y4]) (rest := []) rfl rfl rfl ⟨Nat.le_of_ble_eq_true rfl, Nat.le_of_ble_eq_true rfl⟩ (Nat.le_of_ble_eq_true rfl) dX5_evening_92 ?_
    refine wa_istore hX (lv2 := [(6, .int x5.1), (5, .int y4), (4, .int y3), (0, .ref (Ad X 0)), (2, .int v2), (3, .int v3), (7, .int v7), (8, .int v8), (9, .int v9), (10, .int v10)]) (by decide) rfl dX5_evening_95 ?_
    refine wa_iload hX 6 rfl dX5_evening_97 ?_
    refine wa_iload hX 0 rfl dX5_evening_99 ?_
    refine wa_mmax hX ml_X5_210 st_Lib_Math_max_name in_J9 cd_Lib_Math_max_name (Nat.le_of_ble_eq_true rfl) (Nat.le_of_ble_eq_true rfl) dX5_evening_101 ?_
    refine wa_istore hX (lv2 := [(7, .int (if v7 < x5.1 then x5.1 else v7)), (6, .int x5.1), (5, .int y4), (4, .int y3), (0, .ref (Ad X 0)), (2, .int v2), (3, .int v3), (8, .int v8), (9, .int v9), (10, .int v10)]) (by decide) rfl dX5_evening_104 ?_
    refine wa_aload_n hX 4 rfl rfl dX5_evening_106 ?_
    refine wg_stage_rules hX fl_X5_10 dX5_evening_107 ?_
    refine wa_iload hX 1 rfl dX5_evening_110 ?_
    refine wa_iload hX 8 rfl dX5_evening_112 ?_
    obtain ⟨x6, h2, h⟩ := obind h
    refine wa_callVi hX (m_X3_holds h2) cx_X3_holds ml_X5_215 (As := [.int x5.1, .int v9]) (rest := []) 8 (ce_rules _ _) rfl rfl rfl rfl ⟨Nat.le_of_ble_eq_true rfl, Nat.le_of_ble_eq_true rfl⟩ (Nat.le_of_ble_eq_true rfl) dX5_evening_114 ?_
    have hJ : Wa X x6.2 123 [(0, .ref (Ad X 0)), (2, .int v2), (3, .int v3), (4, .int y3), (5, .int y4), (6, .int x5.1), (7, .int (if v7 < x5.1 then x5.1 else v7)), (8, .int (if x6.1 = 0 then v8 else (v8 + 1))), (10, .int v10)] [] := by
      refine wa_iload hX 5 rfl dX5_evening_123 ?_
      refine wa_istore hX (lv2 := [(9, .int x5.1), (0, .ref (Ad X 0)), (2, .int v2), (3, .int v3), (4, .int y3), (5, .int y4), (6, .int x5.1), (7, .int (if v7 < x5.1 then x5.1 else v7)), (8, .int (if x6.1 = 0 then v8 else (v8 + 1))), (10, .int v10)]) (by decide) rfl dX5_evening_125 ?_
      refine wa_iinc hX (v := (v10 + 1)) (lv2 := [(10, .int (v10 + 1)), (9, .int x5.1), (0, .ref (Ad X 0)), (2, .int v2), (3, .int v3), (4, .int y3), (5, .int y4), (6, .int x5.1), (7, .int (if v7 < x5.1 then x5.1 else v7)), (8, .int (if x6.1 = 0 then v8 else (v8 + 1)))]) 9 rfl rfl (by decide) rfl dX5_evening_127 ?_
      refine wa_goto hX 59 (by decide) dX5_evening_130 ?_
      refine wa_sub (lv2 := [(0, .ref (Ad X 0)), (2, .int v2), (3, .int v3), (4, .int y3), (5, .int y4), (6, .int x5.1), (7, .int (if v7 < x5.1 then x5.1 else v7)), (8, .int (if x6.1 = 0 then v8 else (v8 + 1))), (9, .int x5.1), (10, .int (v10 + 1))]) [2, 3, 4, 5, 6, 7, 8, 9, 1, 0] rfl ?_
      exact hk59 _ h
    refine wa_if_eq hX 123 (by decide) dX5_evening_117 (fun c => ?_) (fun c => ?_)
    · refine wa_sub (lv2 := [(0, .ref (Ad X 0)), (2, .int v2), (3, .int v3), (4, .int y3), (5, .int y4), (6, .int x5.1), (7, .int (if v7 < x5.1 then x5.1 else v7)), (8, .int v8), (10, .int v10)]) [4, 5, 6, 3, 2, 1, 0, 7, 9] rfl ?_
      rw [show (if x6.1 = 0 then v8 else (v8 + 1)) = v8 from if_pos c] at hJ
      exact hJ
    · refine wa_iinc hX (v := (v8 + 1)) (lv2 := [(8, .int (v8 + 1)), (7, .int (if v7 < x5.1 then x5.1 else v7)), (6, .int x5.1), (5, .int y4), (4, .int y3), (0, .ref (Ad X 0)), (2, .int v2), (3, .int v3), (9, .int v9), (10, .int v10)]) 7 rfl rfl (by decide) rfl dX5_evening_120 ?_
      refine wa_sub (lv2 := [(0, .ref (Ad X 0)), (2, .int v2), (3, .int v3), (4, .int y3), (5, .int y4), (6, .int x5.1), (7, .int (if v7 < x5.1 then x5.1 else v7)), (8, .int (v8 + 1)), (10, .int v10)]) [5, 6, 7, 4, 3, 2, 1, 0, 9] rfl ?_
      rw [show (if x6.1 = 0 then v8 else (v8 + 1)) = (v8 + 1) from if_neg c] at hJ
      exact hJ
set_option maxRecDepth 100000 in
set_option maxHeartbeats 4000000 in
theorem m_X5_evening {w w1 : Wd} {p1 : Int32} {p2 : Int32} {p3 : Int32} {r : Int32} (h : F_X5_evening w p1 p2 p3 = some (r, w1)) : Gi yX5_evening cX5_evening 11 (some .int) 1 22 (fun E => [.ref (E.2.1 0), .int p1, .int p2, .int p3]) w w1 r := by
  refine Gi.of (hy := by decide +kernel) (hlen := fun _ => Nat.le_of_ble_eq_true rfl) (fun X hX hE => ?_)
  · unfold F_X5_evening at h
    refine (show Wa X w 0 [(0, .ref (Ad X 0)), (1, .int p1), (2, .int p2), (3, .int p3)] [] from ?_)
    refine wa_iload_n hX 1 rfl rfl dX5_evening_0 ?_
    refine wa_sipush hX 9999 ks_9999 dX5_evening_1 ?_
    obtain ⟨x1, h2, h⟩ := obind h
    refine wa_callSi hX (m_X5_isWithin h2) cx_X5_isWithin ml_X5_56 (As := [.int p1, .int 9999]) (rest := []) rfl rfl rfl ⟨Nat.le_of_ble_eq_true rfl, Nat.le_of_ble_eq_true rfl⟩ (Nat.le_of_ble_eq_true rfl) dX5_evening_4 ?_
    refine wa_if_eq hX 29 (by decide) dX5_evening_7 (fun c => ?_) (fun c => ?_)
    · replace h := itp c h
      refine wa_sub (lv2 := []) [] rfl ?_
      exact t_X5_evening_29 hX hE  h
    · replace h := itn c h
      refine wa_iload_n hX 2 rfl rfl dX5_evening_10 ?_
      refine wa_iconst hX 1 ki_1 dX5_evening_11 ?_
      refine wa_icmp_lt hX 29 (by decide) dX5_evening_12 (fun c => ?_) (fun c => ?_)
      · replace h := itp c h
        refine wa_sub (lv2 := []) [] rfl ?_
        exact t_X5_evening_29 hX hE  h
      · replace h := itn c h
        refine wa_iload_n hX 2 rfl rfl dX5_evening_15 ?_
        refine wa_bipush hX 99 kb_99 dX5_evening_16 ?_
        refine wa_icmp_gt hX 29 (by decide) dX5_evening_18 (fun c => ?_) (fun c => ?_)
        · replace h := itp c h
          refine wa_sub (lv2 := []) [] rfl ?_
          exact t_X5_evening_29 hX hE  h
        · replace h := itn c h
          refine wa_iload_n hX 3 rfl rfl dX5_evening_21 ?_
          refine wa_iconst hX 2 ki_2 dX5_evening_22 ?_
          obtain ⟨x2, h2, h⟩ := obind h
          refine wa_callSi hX (m_X5_isWithin h2) cx_X5_isWithin ml_X5_56 (As := [.int p3, .int 2]) (rest := []) rfl rfl rfl ⟨Nat.le_of_ble_eq_true rfl, Nat.le_of_ble_eq_true rfl⟩ (Nat.le_of_ble_eq_true rfl) dX5_evening_23 ?_
          refine wa_if_ne hX 32 (by decide) dX5_evening_26 (fun c => ?_) (fun c => ?_)
          · replace h := itn c h
            refine wa_iload_n hX 1 rfl rfl dX5_evening_32 ?_
            refine wa_istore hX (lv2 := [(4, .int p1), (0, .ref (Ad X 0)), (1, .int p1), (2, .int p2), (3, .int p3)]) (by decide) rfl dX5_evening_33 ?_
            refine wa_iconst hX 0 ki_0 dX5_evening_35 ?_
            refine wa_istore hX (lv2 := [(5, .int 0), (4, .int p1), (0, .ref (Ad X 0)), (1, .int p1), (2, .int p2), (3, .int p3)]) (by decide) rfl dX5_evening_36 ?_
            refine wa_iconst hX 0 ki_0 dX5_evening_38 ?_
            refine wa_istore hX (lv2 := [(6, .int 0), (5, .int 0), (4, .int p1), (0, .ref (Ad X 0)), (1, .int p1), (2, .int p2), (3, .int p3)]) (by decide) rfl dX5_evening_39 ?_
            refine wa_iconst hX 0 ki_0 dX5_evening_41 ?_
            refine wa_istore hX (lv2 := [(7, .int 0), (6, .int 0), (5, .int 0), (4, .int p1), (0, .ref (Ad X 0)), (1, .int p1), (2, .int p2), (3, .int p3)]) (by decide) rfl dX5_evening_42 ?_
            refine wa_iconst hX 0 ki_0 dX5_evening_44 ?_
            refine wa_istore hX (lv2 := [(8, .int 0), (7, .int 0), (6, .int 0), (5, .int 0), (4, .int p1), (0, .ref (Ad X 0)), (1, .int p1), (2, .int p2), (3, .int p3)]) (by decide) rfl dX5_evening_45 ?_
            refine wa_aload_n hX 5 rfl rfl dX5_evening_47 ?_
            refine wg_stage_rules hX fl_X5_10 dX5_evening_48 ?_
            refine wgN_rules_k hX fn_X5_64 dX5_evening_51 ?_
            refine wa_istore hX (lv2 := [(9, .int (x2.2.1 9)), (8, .int 0), (7, .int 0), (6, .int 0), (5, .int 0), (4, .int p1), (0, .ref (Ad X 0)), (1, .int p1), (2, .int p2), (3, .int p3)]) (by decide) rfl dX5_evening_54 ?_
            refine wa_iconst hX 0 ki_0 dX5_evening_56 ?_
            refine wa_istore hX (lv2 := [(10, .int 0), (9, .int (x2.2.1 9)), (8, .int 0), (7, .int 0), (6, .int 0), (5, .int 0), (4, .int p1), (0, .ref (Ad X 0)), (1, .int p1), (2, .int p2), (3, .int p3)]) (by decide) rfl dX5_evening_57 ?_
            refine wa_sub (lv2 := [(0, .ref (Ad X 0)), (2, .int p2), (3, .int p3), (4, .int p1), (5, .int 0), (6, .int 0), (7, .int 0), (8, .int 0), (9, .int (x2.2.1 9)), (10, .int 0)]) [7, 9, 10, 6, 5, 4, 3, 2, 1, 0] rfl ?_
            exact t_X5_evening_59 hX hE  _ _ h
          · replace h := itp c h
            refine wa_sub (lv2 := []) [] rfl ?_
            exact t_X5_evening_29 hX hE  h
set_option maxRecDepth 100000 in
set_option maxHeartbeats 4000000 in
theorem m_X3_become_img0_rules {w w1 : Wd} (h : F_X3_become_img0_rules w  = some w1) : Gv yX3_become cX3_become 2 none 1 100 (fun E => [.ref (E.2.1 14), .ref (E.2.1 8)]) w w1 := by
  refine Gv.of (hy := by decide +kernel) (hlen := fun _ => Nat.le_of_ble_eq_true rfl) (fun X hX hE => ?_)
  · unfold F_X3_become_img0_rules at h
    refine (show Wa X w 0 [(0, .ref (Ad X 14)), (1, .ref (Ad X 8))] [] from ?_)
    refine wa_aload_n hX 0 rfl rfl dX3_become_0 ?_
    refine wa_aload_n hX 1 rfl rfl dX3_become_1 ?_
    refine wg_rules_law hX fl_X3_9 dX3_become_2 ?_
    refine wp_img0_law hX fl_X3_9 dX3_become_5 ?_
    refine wa_aload_n hX 0 rfl rfl dX3_become_8 ?_
    refine wa_aload_n hX 1 rfl rfl dX3_become_9 ?_
    refine wg_rules_k hX fl_X3_15 dX3_become_10 ?_
    refine (show Wa X (wI w 13 (w.1 8)) 13 [(0, .ref (Ad X 14)), (1, .ref (Ad X 8))] [.int (w.1 9), .ref (Ad X 14)] from ?_)
    refine wp_img0_k hX fl_X3_15 dX3_become_13 ?_
    refine wa_aload_n hX 0 rfl rfl dX3_become_16 ?_
    refine wa_aload_n hX 1 rfl rfl dX3_become_17 ?_
    refine wg_rules_change hX fl_X3_34 dX3_become_18 ?_
    refine (show Wa X (wI (wI w 13 (w.1 8)) 14 (w.1 9)) 21 [(0, .ref (Ad X 14)), (1, .ref (Ad X 8))] [.int (w.1 10), .ref (Ad X 14)] from ?_)
    refine wp_img0_change hX fl_X3_34 dX3_become_21 ?_
    refine wa_aload_n hX 0 rfl rfl dX3_become_24 ?_
    refine wa_aload_n hX 1 rfl rfl dX3_become_25 ?_
    refine wg_rules_scenes hX fl_X3_37 dX3_become_26 ?_
    refine (show Wa X (wI (wI (wI w 13 (w.1 8)) 14 (w.1 9)) 15 (w.1 10)) 29 [(0, .ref (Ad X 14)), (1, .ref (Ad X 8))] [.int (w.1 11), .ref (Ad X 14)] from ?_)
    refine wp_img0_scenes hX fl_X3_37 dX3_become_29 ?_
    refine wa_aload_n hX 0 rfl rfl dX3_become_32 ?_
    refine wa_aload_n hX 1 rfl rfl dX3_become_33 ?_
    refine wg_rules_sights hX fl_X3_40 dX3_become_34 ?_
    refine (show Wa X (wI (wI (wI (wI w 13 (w.1 8)) 14 (w.1 9)) 15 (w.1 10)) 16 (w.1 11)) 37 [(0, .ref (Ad X 14)), (1, .ref (Ad X 8))] [.int (w.1 12), .ref (Ad X 14)] from ?_)
    refine wp_img0_sights hX fl_X3_40 dX3_become_37 ?_
    refine wa_aload_n hX 1 rfl rfl dX3_become_40 ?_
    refine wg_rules_apart hX fl_X3_18 dX3_become_41 ?_
    refine wa_iconst hX 0 ki_0 dX3_become_44 ?_
    refine wa_aload_n hX 0 rfl rfl dX3_become_45 ?_
    refine wg_img0_apart hX fl_X3_18 dX3_become_46 ?_
    refine wa_iconst hX 0 ki_0 dX3_become_49 ?_
    refine wa_bipush hX 8 kb_8 dX3_become_50 ?_
    refine wa_copyG hX ml_X3_43 9 15 rfl rfl (by decide) (by decide) (by decide) (by decide) (by decide) (Nat.le_of_ble_eq_true rfl) (by decide) (wR (wI (wI (wI (wI (wI w 13 (w.1 8)) 14 (w.1 9)) 15 (w.1 10)) 16 (w.1 11)) 17 (w.1 12)) 15 (va_cpy (w.2.1 9) (w.2.1 15) 0 0 8)) (ct_img0_apart _ _ _) dX3_become_52 ?_
    refine wa_aload_n hX 1 rfl rfl dX3_become_55 ?_
    refine wg_rules_together hX fl_X3_22 dX3_become_56 ?_
    refine wa_iconst hX 0 ki_0 dX3_become_59 ?_
    refine wa_aload_n hX 0 rfl rfl dX3_become_60 ?_
    refine wg_img0_together hX fl_X3_22 dX3_become_61 ?_
    refine wa_iconst hX 0 ki_0 dX3_become_64 ?_
    refine wa_bipush hX 8 kb_8 dX3_become_65 ?_
    refine wa_copyG hX ml_X3_43 10 16 rfl rfl (by decide) (by decide) (by decide) (by decide) (by decide) (Nat.le_of_ble_eq_true rfl) (by decide) (wR (wR (wI (wI (wI (wI (wI w 13 (w.1 8)) 14 (w.1 9)) 15 (w.1 10)) 16 (w.1 11)) 17 (w.1 12)) 15 (va_cpy (w.2.1 9) (w.2.1 15) 0 0 8)) 16 (va_cpy (w.2.1 10) (w.2.1 16) 0 0 8)) (ct_img0_together _ _ _) dX3_become_67 ?_
    refine wa_aload_n hX 1 rfl rfl dX3_become_70 ?_
    refine wg_rules_sceneOn hX fl_X3_25 dX3_become_71 ?_
    refine wa_iconst hX 0 ki_0 dX3_become_74 ?_
    refine wa_aload_n hX 0 rfl rfl dX3_become_75 ?_
    refine wg_img0_sceneOn hX fl_X3_25 dX3_become_76 ?_
    refine wa_iconst hX 0 ki_0 dX3_become_79 ?_
    refine wa_bipush hX 6 kb_6 dX3_become_80 ?_
    refine wa_copyG hX ml_X3_43 11 17 rfl rfl (by decide) (by decide) (by decide) (by decide) (by decide) (Nat.le_of_ble_eq_true rfl) (by decide) (wR (wR (wR (wI (wI (wI (wI (wI w 13 (w.1 8)) 14 (w.1 9)) 15 (w.1 10)) 16 (w.1 11)) 17 (w.1 12)) 15 (va_cpy (w.2.1 9) (w.2.1 15) 0 0 8)) 16 (va_cpy (w.2.1 10) (w.2.1 16) 0 0 8)) 17 (va_cpy (w.2.1 11) (w.2.1 17) 0 0 6)) (ct_img0_sceneOn _ _ _) dX3_become_82 ?_
    refine wa_aload_n hX 1 rfl rfl dX3_become_85 ?_
    refine wg_rules_sightLine hX fl_X3_28 dX3_become_86 ?_
    refine wa_iconst hX 0 ki_0 dX3_become_89 ?_
    refine wa_aload_n hX 0 rfl rfl dX3_become_90 ?_
    refine wg_img0_sightLine hX fl_X3_28 dX3_become_91 ?_
    refine wa_iconst hX 0 ki_0 dX3_become_94 ?_
    refine wa_bipush hX 6 kb_6 dX3_become_95 ?_
    refine wa_copyG hX ml_X3_43 12 18 rfl rfl (by decide) (by decide) (by decide) (by decide) (by decide) (Nat.le_of_ble_eq_true rfl) (by decide) (wR (wR (wR (wR (wI (wI (wI (wI (wI w 13 (w.1 8)) 14 (w.1 9)) 15 (w.1 10)) 16 (w.1 11)) 17 (w.1 12)) 15 (va_cpy (w.2.1 9) (w.2.1 15) 0 0 8)) 16 (va_cpy (w.2.1 10) (w.2.1 16) 0 0 8)) 17 (va_cpy (w.2.1 11) (w.2.1 17) 0 0 6)) 18 (va_cpy (w.2.1 12) (w.2.1 18) 0 0 6)) (ct_img0_sightLine _ _ _) dX3_become_97 ?_
    refine wa_aload_n hX 1 rfl rfl dX3_become_100 ?_
    refine wg_rules_sightMany hX fl_X3_31 dX3_become_101 ?_
    refine wa_iconst hX 0 ki_0 dX3_become_104 ?_
    refine wa_aload_n hX 0 rfl rfl dX3_become_105 ?_
    refine wg_img0_sightMany hX fl_X3_31 dX3_become_106 ?_
    refine wa_iconst hX 0 ki_0 dX3_become_109 ?_
    refine wa_bipush hX 6 kb_6 dX3_become_110 ?_
    refine wa_copyG hX ml_X3_43 13 19 rfl rfl (by decide) (by decide) (by decide) (by decide) (by decide) (Nat.le_of_ble_eq_true rfl) (by decide) (wR (wR (wR (wR (wR (wI (wI (wI (wI (wI w 13 (w.1 8)) 14 (w.1 9)) 15 (w.1 10)) 16 (w.1 11)) 17 (w.1 12)) 15 (va_cpy (w.2.1 9) (w.2.1 15) 0 0 8)) 16 (va_cpy (w.2.1 10) (w.2.1 16) 0 0 8)) 17 (va_cpy (w.2.1 11) (w.2.1 17) 0 0 6)) 18 (va_cpy (w.2.1 12) (w.2.1 18) 0 0 6)) 19 (va_cpy (w.2.1 13) (w.2.1 19) 0 0 6)) (ct_img0_sightMany _ _ _) dX3_become_112 ?_
    exact ret_v hE h dX3_become_115
set_option maxRecDepth 100000 in
set_option maxHeartbeats 4000000 in
theorem m_X3_become_img1_rules {w w1 : Wd} (h : F_X3_become_img1_rules w  = some w1) : Gv yX3_become cX3_become 2 none 1 100 (fun E => [.ref (E.2.1 20), .ref (E.2.1 8)]) w w1 := by
  refine Gv.of (hy := by decide +kernel) (hlen := fun _ => Nat.le_of_ble_eq_true rfl) (fun X hX hE => ?_)
  · unfold F_X3_become_img1_rules at h
    refine (show Wa X w 0 [(0, .ref (Ad X 20)), (1, .ref (Ad X 8))] [] from ?_)
    refine wa_aload_n hX 0 rfl rfl dX3_become_0 ?_
    refine wa_aload_n hX 1 rfl rfl dX3_become_1 ?_
    refine wg_rules_law hX fl_X3_9 dX3_become_2 ?_
    refine wp_img1_law hX fl_X3_9 dX3_become_5 ?_
    refine wa_aload_n hX 0 rfl rfl dX3_become_8 ?_
    refine wa_aload_n hX 1 rfl rfl dX3_become_9 ?_
    refine wg_rules_k hX fl_X3_15 dX3_become_10 ?_
    refine (show Wa X (wI w 18 (w.1 8)) 13 [(0, .ref (Ad X 20)), (1, .ref (Ad X 8))] [.int (w.1 9), .ref (Ad X 20)] from ?_)
    refine wp_img1_k hX fl_X3_15 dX3_become_13 ?_
    refine wa_aload_n hX 0 rfl rfl dX3_become_16 ?_
    refine wa_aload_n hX 1 rfl rfl dX3_become_17 ?_
    refine wg_rules_change hX fl_X3_34 dX3_become_18 ?_
    refine (show Wa X (wI (wI w 18 (w.1 8)) 19 (w.1 9)) 21 [(0, .ref (Ad X 20)), (1, .ref (Ad X 8))] [.int (w.1 10), .ref (Ad X 20)] from ?_)
    refine wp_img1_change hX fl_X3_34 dX3_become_21 ?_
    refine wa_aload_n hX 0 rfl rfl dX3_become_24 ?_
    refine wa_aload_n hX 1 rfl rfl dX3_become_25 ?_
    refine wg_rules_scenes hX fl_X3_37 dX3_become_26 ?_
    refine (show Wa X (wI (wI (wI w 18 (w.1 8)) 19 (w.1 9)) 20 (w.1 10)) 29 [(0, .ref (Ad X 20)), (1, .ref (Ad X 8))] [.int (w.1 11), .ref (Ad X 20)] from ?_)
    refine wp_img1_scenes hX fl_X3_37 dX3_become_29 ?_
    refine wa_aload_n hX 0 rfl rfl dX3_become_32 ?_
    refine wa_aload_n hX 1 rfl rfl dX3_become_33 ?_
    refine wg_rules_sights hX fl_X3_40 dX3_become_34 ?_
    refine (show Wa X (wI (wI (wI (wI w 18 (w.1 8)) 19 (w.1 9)) 20 (w.1 10)) 21 (w.1 11)) 37 [(0, .ref (Ad X 20)), (1, .ref (Ad X 8))] [.int (w.1 12), .ref (Ad X 20)] from ?_)
    refine wp_img1_sights hX fl_X3_40 dX3_become_37 ?_
    refine wa_aload_n hX 1 rfl rfl dX3_become_40 ?_
    refine wg_rules_apart hX fl_X3_18 dX3_become_41 ?_
    refine wa_iconst hX 0 ki_0 dX3_become_44 ?_
    refine wa_aload_n hX 0 rfl rfl dX3_become_45 ?_
    refine wg_img1_apart hX fl_X3_18 dX3_become_46 ?_
    refine wa_iconst hX 0 ki_0 dX3_become_49 ?_
    refine wa_bipush hX 8 kb_8 dX3_become_50 ?_
    refine wa_copyG hX ml_X3_43 9 21 rfl rfl (by decide) (by decide) (by decide) (by decide) (by decide) (Nat.le_of_ble_eq_true rfl) (by decide) (wR (wI (wI (wI (wI (wI w 18 (w.1 8)) 19 (w.1 9)) 20 (w.1 10)) 21 (w.1 11)) 22 (w.1 12)) 21 (va_cpy (w.2.1 9) (w.2.1 21) 0 0 8)) (ct_img1_apart _ _ _) dX3_become_52 ?_
    refine wa_aload_n hX 1 rfl rfl dX3_become_55 ?_
    refine wg_rules_together hX fl_X3_22 dX3_become_56 ?_
    refine wa_iconst hX 0 ki_0 dX3_become_59 ?_
    refine wa_aload_n hX 0 rfl rfl dX3_become_60 ?_
    refine wg_img1_together hX fl_X3_22 dX3_become_61 ?_
    refine wa_iconst hX 0 ki_0 dX3_become_64 ?_
    refine wa_bipush hX 8 kb_8 dX3_become_65 ?_
    refine wa_copyG hX ml_X3_43 10 22 rfl rfl (by decide) (by decide) (by decide) (by decide) (by decide) (Nat.le_of_ble_eq_true rfl) (by decide) (wR (wR (wI (wI (wI (wI (wI w 18 (w.1 8)) 19 (w.1 9)) 20 (w.1 10)) 21 (w.1 11)) 22 (w.1 12)) 21 (va_cpy (w.2.1 9) (w.2.1 21) 0 0 8)) 22 (va_cpy (w.2.1 10) (w.2.1 22) 0 0 8)) (ct_img1_together _ _ _) dX3_become_67 ?_
    refine wa_aload_n hX 1 rfl rfl dX3_become_70 ?_
    refine wg_rules_sceneOn hX fl_X3_25 dX3_become_71 ?_
    refine wa_iconst hX 0 ki_0 dX3_become_74 ?_
    refine wa_aload_n hX 0 rfl rfl dX3_become_75 ?_
    refine wg_img1_sceneOn hX fl_X3_25 dX3_become_76 ?_
    refine wa_iconst hX 0 ki_0 dX3_become_79 ?_
    refine wa_bipush hX 6 kb_6 dX3_become_80 ?_
    refine wa_copyG hX ml_X3_43 11 23 rfl rfl (by decide) (by decide) (by decide) (by decide) (by decide) (Nat.le_of_ble_eq_true rfl) (by decide) (wR (wR (wR (wI (wI (wI (wI (wI w 18 (w.1 8)) 19 (w.1 9)) 20 (w.1 10)) 21 (w.1 11)) 22 (w.1 12)) 21 (va_cpy (w.2.1 9) (w.2.1 21) 0 0 8)) 22 (va_cpy (w.2.1 10) (w.2.1 22) 0 0 8)) 23 (va_cpy (w.2.1 11) (w.2.1 23) 0 0 6)) (ct_img1_sceneOn _ _ _) dX3_become_82 ?_
    refine wa_aload_n hX 1 rfl rfl dX3_become_85 ?_
    refine wg_rules_sightLine hX fl_X3_28 dX3_become_86 ?_
    refine wa_iconst hX 0 ki_0 dX3_become_89 ?_
    refine wa_aload_n hX 0 rfl rfl dX3_become_90 ?_
    refine wg_img1_sightLine hX fl_X3_28 dX3_become_91 ?_
    refine wa_iconst hX 0 ki_0 dX3_become_94 ?_
    refine wa_bipush hX 6 kb_6 dX3_become_95 ?_
    refine wa_copyG hX ml_X3_43 12 24 rfl rfl (by decide) (by decide) (by decide) (by decide) (by decide) (Nat.le_of_ble_eq_true rfl) (by decide) (wR (wR (wR (wR (wI (wI (wI (wI (wI w 18 (w.1 8)) 19 (w.1 9)) 20 (w.1 10)) 21 (w.1 11)) 22 (w.1 12)) 21 (va_cpy (w.2.1 9) (w.2.1 21) 0 0 8)) 22 (va_cpy (w.2.1 10) (w.2.1 22) 0 0 8)) 23 (va_cpy (w.2.1 11) (w.2.1 23) 0 0 6)) 24 (va_cpy (w.2.1 12) (w.2.1 24) 0 0 6)) (ct_img1_sightLine _ _ _) dX3_become_97 ?_
    refine wa_aload_n hX 1 rfl rfl dX3_become_100 ?_
    refine wg_rules_sightMany hX fl_X3_31 dX3_become_101 ?_
    refine wa_iconst hX 0 ki_0 dX3_become_104 ?_
    refine wa_aload_n hX 0 rfl rfl dX3_become_105 ?_
    refine wg_img1_sightMany hX fl_X3_31 dX3_become_106 ?_
    refine wa_iconst hX 0 ki_0 dX3_become_109 ?_
    refine wa_bipush hX 6 kb_6 dX3_become_110 ?_
    refine wa_copyG hX ml_X3_43 13 25 rfl rfl (by decide) (by decide) (by decide) (by decide) (by decide) (Nat.le_of_ble_eq_true rfl) (by decide) (wR (wR (wR (wR (wR (wI (wI (wI (wI (wI w 18 (w.1 8)) 19 (w.1 9)) 20 (w.1 10)) 21 (w.1 11)) 22 (w.1 12)) 21 (va_cpy (w.2.1 9) (w.2.1 21) 0 0 8)) 22 (va_cpy (w.2.1 10) (w.2.1 22) 0 0 8)) 23 (va_cpy (w.2.1 11) (w.2.1 23) 0 0 6)) 24 (va_cpy (w.2.1 12) (w.2.1 24) 0 0 6)) 25 (va_cpy (w.2.1 13) (w.2.1 25) 0 0 6)) (ct_img1_sightMany _ _ _) dX3_become_112 ?_
    exact ret_v hE h dX3_become_115
set_option maxRecDepth 100000 in
set_option maxHeartbeats 4000000 in
theorem m_X5_image {w w1 : Wd} {p1 : Int32} {r : Int32} (h : F_X5_image w p1 = some (r, w1)) : Gi yX5_image cX5_image 2 (some .int) 2 121 (fun E => [.ref (E.2.1 0), .int p1]) w w1 r := by
  refine Gi.of (hy := by decide +kernel) (hlen := fun _ => Nat.le_of_ble_eq_true rfl) (fun X hX hE => ?_)
  · unfold F_X5_image at h
    refine (show Wa X w 0 [(0, .ref (Ad X 0)), (1, .int p1)] [] from ?_)
    refine wa_iload_n hX 1 rfl rfl dX5_image_0 ?_
    refine wa_iconst hX 1 ki_1 dX5_image_1 ?_
    obtain ⟨x1, h2, h⟩ := obind h
    refine wa_callSi hX (m_X5_isWithin h2) cx_X5_isWithin ml_X5_56 (As := [.int p1, .int 1]) (rest := []) rfl rfl rfl ⟨Nat.le_of_ble_eq_true rfl, Nat.le_of_ble_eq_true rfl⟩ (Nat.le_of_ble_eq_true rfl) dX5_image_2 ?_
    refine wa_if_ne hX 11 (by decide) dX5_image_5 (fun c => ?_) (fun c => ?_)
    · replace h := itn c h
      refine wa_aload_n hX 0 rfl rfl dX5_image_11 ?_
      refine wg_stage_images hX fl_X5_16 dX5_image_12 ?_
      refine wa_iload_n hX 1 rfl rfl dX5_image_15 ?_
      by_cases c : p1 = 0
      · replace h := itp c h
        refine wl_stage_images_0 hX c dX5_image_16 ?_
        refine wa_aload_n hX 0 rfl rfl dX5_image_17 ?_
        refine wg_stage_rules hX fl_X5_10 dX5_image_18 ?_
        obtain ⟨x2, h2, h⟩ := obind h
        refine wa_callVv hX (m_X3_become_img0_rules h2) cx_X3_become ml_X5_218 (As := [.ref (Ad X 8)]) (rest := []) 14 (ce_img0 _ _) rfl rfl rfl rfl ⟨Nat.le_of_ble_eq_true rfl, Nat.le_of_ble_eq_true rfl⟩ (Nat.le_of_ble_eq_true rfl) dX5_image_21 ?_
        refine wa_aload_n hX 0 rfl rfl dX5_image_24 ?_
        refine wg_stage_kept hX fl_X5_20 dX5_image_25 ?_
        refine wa_iload_n hX 1 rfl rfl dX5_image_28 ?_
        refine wa_iconst hX 1 ki_1 dX5_image_29 ?_
        obtain ⟨hg, h⟩ := gu_some h
        refine ws_stage_kept hX hg (by decide) dX5_image_30 ?_
        refine wa_iconst hX 1 ki_1 dX5_image_31 ?_
        exact ret_i hE h dX5_image_32
      · replace h := itn c h
        obtain ⟨hg, h⟩ := gu_some h
        refine wl_stage_images_1 hX (of_decide_eq_true hg) dX5_image_16 ?_
        refine wa_aload_n hX 0 rfl rfl dX5_image_17 ?_
        refine wg_stage_rules hX fl_X5_10 dX5_image_18 ?_
        obtain ⟨x3, h2, h⟩ := obind h
        refine wa_callVv hX (m_X3_become_img1_rules h2) cx_X3_become ml_X5_218 (As := [.ref (Ad X 8)]) (rest := []) 20 (ce_img1 _ _) rfl rfl rfl rfl ⟨Nat.le_of_ble_eq_true rfl, Nat.le_of_ble_eq_true rfl⟩ (Nat.le_of_ble_eq_true rfl) dX5_image_21 ?_
        refine wa_aload_n hX 0 rfl rfl dX5_image_24 ?_
        refine wg_stage_kept hX fl_X5_20 dX5_image_25 ?_
        refine wa_iload_n hX 1 rfl rfl dX5_image_28 ?_
        refine wa_iconst hX 1 ki_1 dX5_image_29 ?_
        obtain ⟨hg, h⟩ := gu_some h
        refine ws_stage_kept hX hg (by decide) dX5_image_30 ?_
        refine wa_iconst hX 1 ki_1 dX5_image_31 ?_
        exact ret_i hE h dX5_image_32
    · replace h := itp c h
      refine wa_bipush hX (-2) kb_m2 dX5_image_8 ?_
      exact ret_i hE h dX5_image_10
set_option maxRecDepth 100000 in
set_option maxHeartbeats 4000000 in
theorem m_X3_become_rules_img0 {w w1 : Wd} (h : F_X3_become_rules_img0 w  = some w1) : Gv yX3_become cX3_become 2 none 1 100 (fun E => [.ref (E.2.1 8), .ref (E.2.1 14)]) w w1 := by
  refine Gv.of (hy := by decide +kernel) (hlen := fun _ => Nat.le_of_ble_eq_true rfl) (fun X hX hE => ?_)
  · unfold F_X3_become_rules_img0 at h
    refine (show Wa X w 0 [(0, .ref (Ad X 8)), (1, .ref (Ad X 14))] [] from ?_)
    refine wa_aload_n hX 0 rfl rfl dX3_become_0 ?_
    refine wa_aload_n hX 1 rfl rfl dX3_become_1 ?_
    refine wg_img0_law hX fl_X3_9 dX3_become_2 ?_
    refine wp_rules_law hX fl_X3_9 dX3_become_5 ?_
    refine wa_aload_n hX 0 rfl rfl dX3_become_8 ?_
    refine wa_aload_n hX 1 rfl rfl dX3_become_9 ?_
    refine wg_img0_k hX fl_X3_15 dX3_become_10 ?_
    refine (show Wa X (wI w 8 (w.1 13)) 13 [(0, .ref (Ad X 8)), (1, .ref (Ad X 14))] [.int (w.1 14), .ref (Ad X 8)] from ?_)
    refine wp_rules_k hX fl_X3_15 dX3_become_13 ?_
    refine wa_aload_n hX 0 rfl rfl dX3_become_16 ?_
    refine wa_aload_n hX 1 rfl rfl dX3_become_17 ?_
    refine wg_img0_change hX fl_X3_34 dX3_become_18 ?_
    refine (show Wa X (wI (wI w 8 (w.1 13)) 9 (w.1 14)) 21 [(0, .ref (Ad X 8)), (1, .ref (Ad X 14))] [.int (w.1 15), .ref (Ad X 8)] from ?_)
    refine wp_rules_change hX fl_X3_34 dX3_become_21 ?_
    refine wa_aload_n hX 0 rfl rfl dX3_become_24 ?_
    refine wa_aload_n hX 1 rfl rfl dX3_become_25 ?_
    refine wg_img0_scenes hX fl_X3_37 dX3_become_26 ?_
    refine (show Wa X (wI (wI (wI w 8 (w.1 13)) 9 (w.1 14)) 10 (w.1 15)) 29 [(0, .ref (Ad X 8)), (1, .ref (Ad X 14))] [.int (w.1 16), .ref (Ad X 8)] from ?_)
    refine wp_rules_scenes hX fl_X3_37 dX3_become_29 ?_
    refine wa_aload_n hX 0 rfl rfl dX3_become_32 ?_
    refine wa_aload_n hX 1 rfl rfl dX3_become_33 ?_
    refine wg_img0_sights hX fl_X3_40 dX3_become_34 ?_
    refine (show Wa X (wI (wI (wI (wI w 8 (w.1 13)) 9 (w.1 14)) 10 (w.1 15)) 11 (w.1 16)) 37 [(0, .ref (Ad X 8)), (1, .ref (Ad X 14))] [.int (w.1 17), .ref (Ad X 8)] from ?_)
    refine wp_rules_sights hX fl_X3_40 dX3_become_37 ?_
    refine wa_aload_n hX 1 rfl rfl dX3_become_40 ?_
    refine wg_img0_apart hX fl_X3_18 dX3_become_41 ?_
    refine wa_iconst hX 0 ki_0 dX3_become_44 ?_
    refine wa_aload_n hX 0 rfl rfl dX3_become_45 ?_
    refine wg_rules_apart hX fl_X3_18 dX3_become_46 ?_
    refine wa_iconst hX 0 ki_0 dX3_become_49 ?_
    refine wa_bipush hX 8 kb_8 dX3_become_50 ?_
    refine wa_copyG hX ml_X3_43 15 9 rfl rfl (by decide) (by decide) (by decide) (by decide) (by decide) (Nat.le_of_ble_eq_true rfl) (by decide) (wR (wI (wI (wI (wI (wI w 8 (w.1 13)) 9 (w.1 14)) 10 (w.1 15)) 11 (w.1 16)) 12 (w.1 17)) 9 (va_cpy (w.2.1 15) (w.2.1 9) 0 0 8)) (ct_rules_apart _ _ _) dX3_become_52 ?_
    refine wa_aload_n hX 1 rfl rfl dX3_become_55 ?_
    refine wg_img0_together hX fl_X3_22 dX3_become_56 ?_
    refine wa_iconst hX 0 ki_0 dX3_become_59 ?_
    refine wa_aload_n hX 0 rfl rfl dX3_become_60 ?_
    refine wg_rules_together hX fl_X3_22 dX3_become_61 ?_
    refine wa_iconst hX 0 ki_0 dX3_become_64 ?_
    refine wa_bipush hX 8 kb_8 dX3_become_65 ?_
    refine wa_copyG hX ml_X3_43 16 10 rfl rfl (by decide) (by decide) (by decide) (by decide) (by decide) (Nat.le_of_ble_eq_true rfl) (by decide) (wR (wR (wI (wI (wI (wI (wI w 8 (w.1 13)) 9 (w.1 14)) 10 (w.1 15)) 11 (w.1 16)) 12 (w.1 17)) 9 (va_cpy (w.2.1 15) (w.2.1 9) 0 0 8)) 10 (va_cpy (w.2.1 16) (w.2.1 10) 0 0 8)) (ct_rules_together _ _ _) dX3_become_67 ?_
    refine wa_aload_n hX 1 rfl rfl dX3_become_70 ?_
    refine wg_img0_sceneOn hX fl_X3_25 dX3_become_71 ?_
    refine wa_iconst hX 0 ki_0 dX3_become_74 ?_
    refine wa_aload_n hX 0 rfl rfl dX3_become_75 ?_
    refine wg_rules_sceneOn hX fl_X3_25 dX3_become_76 ?_
    refine wa_iconst hX 0 ki_0 dX3_become_79 ?_
    refine wa_bipush hX 6 kb_6 dX3_become_80 ?_
    refine wa_copyG hX ml_X3_43 17 11 rfl rfl (by decide) (by decide) (by decide) (by decide) (by decide) (Nat.le_of_ble_eq_true rfl) (by decide) (wR (wR (wR (wI (wI (wI (wI (wI w 8 (w.1 13)) 9 (w.1 14)) 10 (w.1 15)) 11 (w.1 16)) 12 (w.1 17)) 9 (va_cpy (w.2.1 15) (w.2.1 9) 0 0 8)) 10 (va_cpy (w.2.1 16) (w.2.1 10) 0 0 8)) 11 (va_cpy (w.2.1 17) (w.2.1 11) 0 0 6)) (ct_rules_sceneOn _ _ _) dX3_become_82 ?_
    refine wa_aload_n hX 1 rfl rfl dX3_become_85 ?_
    refine wg_img0_sightLine hX fl_X3_28 dX3_become_86 ?_
    refine wa_iconst hX 0 ki_0 dX3_become_89 ?_
    refine wa_aload_n hX 0 rfl rfl dX3_become_90 ?_
    refine wg_rules_sightLine hX fl_X3_28 dX3_become_91 ?_
    refine wa_iconst hX 0 ki_0 dX3_become_94 ?_
    refine wa_bipush hX 6 kb_6 dX3_become_95 ?_
    refine wa_copyG hX ml_X3_43 18 12 rfl rfl (by decide) (by decide) (by decide) (by decide) (by decide) (Nat.le_of_ble_eq_true rfl) (by decide) (wR (wR (wR (wR (wI (wI (wI (wI (wI w 8 (w.1 13)) 9 (w.1 14)) 10 (w.1 15)) 11 (w.1 16)) 12 (w.1 17)) 9 (va_cpy (w.2.1 15) (w.2.1 9) 0 0 8)) 10 (va_cpy (w.2.1 16) (w.2.1 10) 0 0 8)) 11 (va_cpy (w.2.1 17) (w.2.1 11) 0 0 6)) 12 (va_cpy (w.2.1 18) (w.2.1 12) 0 0 6)) (ct_rules_sightLine _ _ _) dX3_become_97 ?_
    refine wa_aload_n hX 1 rfl rfl dX3_become_100 ?_
    refine wg_img0_sightMany hX fl_X3_31 dX3_become_101 ?_
    refine wa_iconst hX 0 ki_0 dX3_become_104 ?_
    refine wa_aload_n hX 0 rfl rfl dX3_become_105 ?_
    refine wg_rules_sightMany hX fl_X3_31 dX3_become_106 ?_
    refine wa_iconst hX 0 ki_0 dX3_become_109 ?_
    refine wa_bipush hX 6 kb_6 dX3_become_110 ?_
    refine wa_copyG hX ml_X3_43 19 13 rfl rfl (by decide) (by decide) (by decide) (by decide) (by decide) (Nat.le_of_ble_eq_true rfl) (by decide) (wR (wR (wR (wR (wR (wI (wI (wI (wI (wI w 8 (w.1 13)) 9 (w.1 14)) 10 (w.1 15)) 11 (w.1 16)) 12 (w.1 17)) 9 (va_cpy (w.2.1 15) (w.2.1 9) 0 0 8)) 10 (va_cpy (w.2.1 16) (w.2.1 10) 0 0 8)) 11 (va_cpy (w.2.1 17) (w.2.1 11) 0 0 6)) 12 (va_cpy (w.2.1 18) (w.2.1 12) 0 0 6)) 13 (va_cpy (w.2.1 19) (w.2.1 13) 0 0 6)) (ct_rules_sightMany _ _ _) dX3_become_112 ?_
    exact ret_v hE h dX3_become_115
set_option maxRecDepth 100000 in
set_option maxHeartbeats 4000000 in
theorem m_X3_become_rules_img1 {w w1 : Wd} (h : F_X3_become_rules_img1 w  = some w1) : Gv yX3_become cX3_become 2 none 1 100 (fun E => [.ref (E.2.1 8), .ref (E.2.1 20)]) w w1 := by
  refine Gv.of (hy := by decide +kernel) (hlen := fun _ => Nat.le_of_ble_eq_true rfl) (fun X hX hE => ?_)
  · unfold F_X3_become_rules_img1 at h
    refine (show Wa X w 0 [(0, .ref (Ad X 8)), (1, .ref (Ad X 20))] [] from ?_)
    refine wa_aload_n hX 0 rfl rfl dX3_become_0 ?_
    refine wa_aload_n hX 1 rfl rfl dX3_become_1 ?_
    refine wg_img1_law hX fl_X3_9 dX3_become_2 ?_
    refine wp_rules_law hX fl_X3_9 dX3_become_5 ?_
    refine wa_aload_n hX 0 rfl rfl dX3_become_8 ?_
    refine wa_aload_n hX 1 rfl rfl dX3_become_9 ?_
    refine wg_img1_k hX fl_X3_15 dX3_become_10 ?_
    refine (show Wa X (wI w 8 (w.1 18)) 13 [(0, .ref (Ad X 8)), (1, .ref (Ad X 20))] [.int (w.1 19), .ref (Ad X 8)] from ?_)
    refine wp_rules_k hX fl_X3_15 dX3_become_13 ?_
    refine wa_aload_n hX 0 rfl rfl dX3_become_16 ?_
    refine wa_aload_n hX 1 rfl rfl dX3_become_17 ?_
    refine wg_img1_change hX fl_X3_34 dX3_become_18 ?_
    refine (show Wa X (wI (wI w 8 (w.1 18)) 9 (w.1 19)) 21 [(0, .ref (Ad X 8)), (1, .ref (Ad X 20))] [.int (w.1 20), .ref (Ad X 8)] from ?_)
    refine wp_rules_change hX fl_X3_34 dX3_become_21 ?_
    refine wa_aload_n hX 0 rfl rfl dX3_become_24 ?_
    refine wa_aload_n hX 1 rfl rfl dX3_become_25 ?_
    refine wg_img1_scenes hX fl_X3_37 dX3_become_26 ?_
    refine (show Wa X (wI (wI (wI w 8 (w.1 18)) 9 (w.1 19)) 10 (w.1 20)) 29 [(0, .ref (Ad X 8)), (1, .ref (Ad X 20))] [.int (w.1 21), .ref (Ad X 8)] from ?_)
    refine wp_rules_scenes hX fl_X3_37 dX3_become_29 ?_
    refine wa_aload_n hX 0 rfl rfl dX3_become_32 ?_
    refine wa_aload_n hX 1 rfl rfl dX3_become_33 ?_
    refine wg_img1_sights hX fl_X3_40 dX3_become_34 ?_
    refine (show Wa X (wI (wI (wI (wI w 8 (w.1 18)) 9 (w.1 19)) 10 (w.1 20)) 11 (w.1 21)) 37 [(0, .ref (Ad X 8)), (1, .ref (Ad X 20))] [.int (w.1 22), .ref (Ad X 8)] from ?_)
    refine wp_rules_sights hX fl_X3_40 dX3_become_37 ?_
    refine wa_aload_n hX 1 rfl rfl dX3_become_40 ?_
    refine wg_img1_apart hX fl_X3_18 dX3_become_41 ?_
    refine wa_iconst hX 0 ki_0 dX3_become_44 ?_
    refine wa_aload_n hX 0 rfl rfl dX3_become_45 ?_
    refine wg_rules_apart hX fl_X3_18 dX3_become_46 ?_
    refine wa_iconst hX 0 ki_0 dX3_become_49 ?_
    refine wa_bipush hX 8 kb_8 dX3_become_50 ?_
    refine wa_copyG hX ml_X3_43 21 9 rfl rfl (by decide) (by decide) (by decide) (by decide) (by decide) (Nat.le_of_ble_eq_true rfl) (by decide) (wR (wI (wI (wI (wI (wI w 8 (w.1 18)) 9 (w.1 19)) 10 (w.1 20)) 11 (w.1 21)) 12 (w.1 22)) 9 (va_cpy (w.2.1 21) (w.2.1 9) 0 0 8)) (ct_rules_apart _ _ _) dX3_become_52 ?_
    refine wa_aload_n hX 1 rfl rfl dX3_become_55 ?_
    refine wg_img1_together hX fl_X3_22 dX3_become_56 ?_
    refine wa_iconst hX 0 ki_0 dX3_become_59 ?_
    refine wa_aload_n hX 0 rfl rfl dX3_become_60 ?_
    refine wg_rules_together hX fl_X3_22 dX3_become_61 ?_
    refine wa_iconst hX 0 ki_0 dX3_become_64 ?_
    refine wa_bipush hX 8 kb_8 dX3_become_65 ?_
    refine wa_copyG hX ml_X3_43 22 10 rfl rfl (by decide) (by decide) (by decide) (by decide) (by decide) (Nat.le_of_ble_eq_true rfl) (by decide) (wR (wR (wI (wI (wI (wI (wI w 8 (w.1 18)) 9 (w.1 19)) 10 (w.1 20)) 11 (w.1 21)) 12 (w.1 22)) 9 (va_cpy (w.2.1 21) (w.2.1 9) 0 0 8)) 10 (va_cpy (w.2.1 22) (w.2.1 10) 0 0 8)) (ct_rules_together _ _ _) dX3_become_67 ?_
    refine wa_aload_n hX 1 rfl rfl dX3_become_70 ?_
    refine wg_img1_sceneOn hX fl_X3_25 dX3_become_71 ?_
    refine wa_iconst hX 0 ki_0 dX3_become_74 ?_
    refine wa_aload_n hX 0 rfl rfl dX3_become_75 ?_
    refine wg_rules_sceneOn hX fl_X3_25 dX3_become_76 ?_
    refine wa_iconst hX 0 ki_0 dX3_become_79 ?_
    refine wa_bipush hX 6 kb_6 dX3_become_80 ?_
    refine wa_copyG hX ml_X3_43 23 11 rfl rfl (by decide) (by decide) (by decide) (by decide) (by decide) (Nat.le_of_ble_eq_true rfl) (by decide) (wR (wR (wR (wI (wI (wI (wI (wI w 8 (w.1 18)) 9 (w.1 19)) 10 (w.1 20)) 11 (w.1 21)) 12 (w.1 22)) 9 (va_cpy (w.2.1 21) (w.2.1 9) 0 0 8)) 10 (va_cpy (w.2.1 22) (w.2.1 10) 0 0 8)) 11 (va_cpy (w.2.1 23) (w.2.1 11) 0 0 6)) (ct_rules_sceneOn _ _ _) dX3_become_82 ?_
    refine wa_aload_n hX 1 rfl rfl dX3_become_85 ?_
    refine wg_img1_sightLine hX fl_X3_28 dX3_become_86 ?_
    refine wa_iconst hX 0 ki_0 dX3_become_89 ?_
    refine wa_aload_n hX 0 rfl rfl dX3_become_90 ?_
    refine wg_rules_sightLine hX fl_X3_28 dX3_become_91 ?_
    refine wa_iconst hX 0 ki_0 dX3_become_94 ?_
    refine wa_bipush hX 6 kb_6 dX3_become_95 ?_
    refine wa_copyG hX ml_X3_43 24 12 rfl rfl (by decide) (by decide) (by decide) (by decide) (by decide) (Nat.le_of_ble_eq_true rfl) (by decide) (wR (wR (wR (wR (wI (wI (wI (wI (wI w 8 (w.1 18)) 9 (w.1 19)) 10 (w.1 20)) 11 (w.1 21)) 12 (w.1 22)) 9 (va_cpy (w.2.1 21) (w.2.1 9) 0 0 8)) 10 (va_cpy (w.2.1 22) (w.2.1 10) 0 0 8)) 11 (va_cpy (w.2.1 23) (w.2.1 11) 0 0 6)) 12 (va_cpy (w.2.1 24) (w.2.1 12) 0 0 6)) (ct_rules_sightLine _ _ _) dX3_become_97 ?_
    refine wa_aload_n hX 1 rfl rfl dX3_become_100 ?_
    refine wg_img1_sightMany hX fl_X3_31 dX3_become_101 ?_
    refine wa_iconst hX 0 ki_0 dX3_become_104 ?_
    refine wa_aload_n hX 0 rfl rfl dX3_become_105 ?_
    refine wg_rules_sightMany hX fl_X3_31 dX3_become_106 ?_
    refine wa_iconst hX 0 ki_0 dX3_become_109 ?_
    refine wa_bipush hX 6 kb_6 dX3_become_110 ?_
    refine wa_copyG hX ml_X3_43 25 13 rfl rfl (by decide) (by decide) (by decide) (by decide) (by decide) (Nat.le_of_ble_eq_true rfl) (by decide) (wR (wR (wR (wR (wR (wI (wI (wI (wI (wI w 8 (w.1 18)) 9 (w.1 19)) 10 (w.1 20)) 11 (w.1 21)) 12 (w.1 22)) 9 (va_cpy (w.2.1 21) (w.2.1 9) 0 0 8)) 10 (va_cpy (w.2.1 22) (w.2.1 10) 0 0 8)) 11 (va_cpy (w.2.1 23) (w.2.1 11) 0 0 6)) 12 (va_cpy (w.2.1 24) (w.2.1 12) 0 0 6)) 13 (va_cpy (w.2.1 25) (w.2.1 13) 0 0 6)) (ct_rules_sightMany _ _ _) dX3_become_112 ?_
    exact ret_v hE h dX3_become_115
set_option maxRecDepth 100000 in
set_option maxHeartbeats 4000000 in
theorem m_X5_restore {w w1 : Wd} {p1 : Int32} {r : Int32} (h : F_X5_restore w p1 = some (r, w1)) : Gi yX5_restore cX5_restore 2 (some .int) 2 121 (fun E => [.ref (E.2.1 0), .int p1]) w w1 r := by
  refine Gi.of (hy := by decide +kernel) (hlen := fun _ => Nat.le_of_ble_eq_true rfl) (fun X hX hE => ?_)
  · unfold F_X5_restore at h
    refine (show Wa X w 0 [(0, .ref (Ad X 0)), (1, .int p1)] [] from ?_)
    refine wa_iload_n hX 1 rfl rfl dX5_restore_0 ?_
    refine wa_iconst hX 1 ki_1 dX5_restore_1 ?_
    obtain ⟨x1, h2, h⟩ := obind h
    refine wa_callSi hX (m_X5_isWithin h2) cx_X5_isWithin ml_X5_56 (As := [.int p1, .int 1]) (rest := []) rfl rfl rfl ⟨Nat.le_of_ble_eq_true rfl, Nat.le_of_ble_eq_true rfl⟩ (Nat.le_of_ble_eq_true rfl) dX5_restore_2 ?_
    refine wa_if_ne hX 11 (by decide) dX5_restore_5 (fun c => ?_) (fun c => ?_)
    · replace h := itn c h
      refine wa_aload_n hX 0 rfl rfl dX5_restore_11 ?_
      refine wg_stage_kept hX fl_X5_20 dX5_restore_12 ?_
      refine wa_iload_n hX 1 rfl rfl dX5_restore_15 ?_
      obtain ⟨hg, h⟩ := gu_some h
      refine wl_stage_kept hX hg dX5_restore_16 ?_
      refine wa_if_ne hX 23 (by decide) dX5_restore_17 (fun c => ?_) (fun c => ?_)
      · replace h := itn c h
        refine wa_aload_n hX 0 rfl rfl dX5_restore_23 ?_
        refine wg_stage_rules hX fl_X5_10 dX5_restore_24 ?_
        refine wa_aload_n hX 0 rfl rfl dX5_restore_27 ?_
        refine wg_stage_images hX fl_X5_16 dX5_restore_28 ?_
        refine wa_iload_n hX 1 rfl rfl dX5_restore_31 ?_
        by_cases c : p1 = 0
        · replace h := itp c h
          refine wl_stage_images_0 hX c dX5_restore_32 ?_
          obtain ⟨x2, h2, h⟩ := obind h
          refine wa_callVv hX (m_X3_become_rules_img0 h2) cx_X3_become ml_X5_218 (As := [.ref (Ad X 14)]) (rest := []) 8 (ce_rules _ _) rfl rfl rfl rfl ⟨Nat.le_of_ble_eq_true rfl, Nat.le_of_ble_eq_true rfl⟩ (Nat.le_of_ble_eq_true rfl) dX5_restore_33 ?_
          refine wa_iconst hX 1 ki_1 dX5_restore_36 ?_
          exact ret_i hE h dX5_restore_37
        · replace h := itn c h
          obtain ⟨hg, h⟩ := gu_some h
          refine wl_stage_images_1 hX (of_decide_eq_true hg) dX5_restore_32 ?_
          obtain ⟨x3, h2, h⟩ := obind h
          refine wa_callVv hX (m_X3_become_rules_img1 h2) cx_X3_become ml_X5_218 (As := [.ref (Ad X 20)]) (rest := []) 8 (ce_rules _ _) rfl rfl rfl rfl ⟨Nat.le_of_ble_eq_true rfl, Nat.le_of_ble_eq_true rfl⟩ (Nat.le_of_ble_eq_true rfl) dX5_restore_33 ?_
          refine wa_iconst hX 1 ki_1 dX5_restore_36 ?_
          exact ret_i hE h dX5_restore_37
      · replace h := itp c h
        refine wa_bipush hX (-3) kb_m3 dX5_restore_20 ?_
        exact ret_i hE h dX5_restore_22
    · replace h := itp c h
      refine wa_bipush hX (-2) kb_m2 dX5_restore_8 ?_
      exact ret_i hE h dX5_restore_10
set_option maxRecDepth 100000 in
set_option maxHeartbeats 4000000 in
theorem t_X5_told_33 {X : Fx} (hX : Cx X cX5_told RX5 2 0 0) {r : Int32} {w1 : Wd} (hE : ∀ pc lv, decode cX5_told pc = .ok (.ireturn, 1) → narrow .int (.int r) = .int r → Wa X w1 pc lv [.int r])  {w : Wd} {v1 : Int32} (h : F_X5_told_33 w v1 = some (r, w1)) : Wa X w 33 [(0, .ref (Ad X 0)), (1, .int v1)] [] := by
  unfold F_X5_told_33 at h
  refine wa_iload_n hX 1 rfl rfl dX5_told_33 ?_
  by_cases c0 : v1 = 0
  · replace h := itp c0 h
    have e : (v1 : Int32).toInt = 0 := by rw [c0]; rfl
    refine wa_tin hX 72 (by rw [e]; decide) (by rw [e]; decide) (by rw [e]; rfl) (by decide) dX5_told_34 ?_
    refine wa_aload_n hX 0 rfl rfl dX5_told_72 ?_
    refine wg_stage_play hX fl_X5_27 dX5_told_73 ?_
    refine wgN_play_count hX fn_X5_74 dX5_told_76 ?_
    exact ret_i hE h dX5_told_79
  · replace h := itn c0 h
    by_cases c1 : v1 = 1
    · replace h := itp c1 h
      have e : (v1 : Int32).toInt = 1 := by rw [c1]; rfl
      refine wa_tin hX 80 (by rw [e]; decide) (by rw [e]; decide) (by rw [e]; rfl) (by decide) dX5_told_34 ?_
      refine wa_aload_n hX 0 rfl rfl dX5_told_80 ?_
      refine wg_stage_rules hX fl_X5_10 dX5_told_81 ?_
      refine wgN_rules_law hX fn_X5_60 dX5_told_84 ?_
      exact ret_i hE h dX5_told_87
    · replace h := itn c1 h
      by_cases c2 : v1 = 2
      · replace h := itp c2 h
        have e : (v1 : Int32).toInt = 2 := by rw [c2]; rfl
        refine wa_tin hX 88 (by rw [e]; decide) (by rw [e]; decide) (by rw [e]; rfl) (by decide) dX5_told_34 ?_
        refine wa_aload_n hX 0 rfl rfl dX5_told_88 ?_
        refine wg_stage_rules hX fl_X5_10 dX5_told_89 ?_
        refine wgN_rules_k hX fn_X5_64 dX5_told_92 ?_
        exact ret_i hE h dX5_told_95
      · replace h := itn c2 h
        by_cases c3 : v1 = 3
        · replace h := itp c3 h
          have e : (v1 : Int32).toInt = 3 := by rw [c3]; rfl
          refine wa_tin hX 96 (by rw [e]; decide) (by rw [e]; decide) (by rw [e]; rfl) (by decide) dX5_told_34 ?_
          refine wa_aload_n hX 0 rfl rfl dX5_told_96 ?_
          refine wg_stage_rules hX fl_X5_10 dX5_told_97 ?_
          refine wgN_rules_change hX fn_X5_67 dX5_told_100 ?_
          exact ret_i hE h dX5_told_103
        · replace h := itn c3 h
          by_cases c4 : v1 = 4
          · replace h := itp c4 h
            have e : (v1 : Int32).toInt = 4 := by rw [c4]; rfl
            refine wa_tin hX 104 (by rw [e]; decide) (by rw [e]; decide) (by rw [e]; rfl) (by decide) dX5_told_34 ?_
            refine wa_aload_n hX 0 rfl rfl dX5_told_104 ?_
            refine wg_stage_rules hX fl_X5_10 dX5_told_105 ?_
            refine wgN_rules_scenes hX fn_X5_168 dX5_told_108 ?_
            exact ret_i hE h dX5_told_111
          · replace h := itn c4 h
            by_cases c5 : v1 = 5
            · replace h := itp c5 h
              have e : (v1 : Int32).toInt = 5 := by rw [c5]; rfl
              refine wa_tin hX 112 (by rw [e]; decide) (by rw [e]; decide) (by rw [e]; rfl) (by decide) dX5_told_34 ?_
              refine wa_aload_n hX 0 rfl rfl dX5_told_112 ?_
              refine wg_stage_rules hX fl_X5_10 dX5_told_113 ?_
              refine wgN_rules_sights hX fn_X5_183 dX5_told_116 ?_
              exact ret_i hE h dX5_told_119
            · replace h := itn c5 h
              refine wa_tout hX 120 (tsw_out (lo := 0) (hi := 5) (fun q => by
                have q2 : (v1 : Int32).toInt = 0 ∨ (v1 : Int32).toInt = 1 ∨ (v1 : Int32).toInt = 2 ∨ (v1 : Int32).toInt = 3 ∨ (v1 : Int32).toInt = 4 ∨ (v1 : Int32).toInt = 5 := by omega
                rcases q2 with q | q | q | q | q | q
                · exact c0 (toInt_lit q rfl)
                · exact c1 (toInt_lit q rfl)
                · exact c2 (toInt_lit q rfl)
                · exact c3 (toInt_lit q rfl)
                · exact c4 (toInt_lit q rfl)
                · exact c5 (toInt_lit q rfl))) (by decide) dX5_told_34 ?_
              refine wa_bipush hX (-2) kb_m2 dX5_told_120 ?_
              exact ret_i hE h dX5_told_122
set_option maxRecDepth 100000 in
set_option maxHeartbeats 4000000 in
theorem m_X5_told {w w1 : Wd} {p1 : Int32} {r : Int32} (h : F_X5_told w p1 = some (r, w1)) : Gi yX5_told cX5_told 2 (some .int) 0 0 (fun E => [.ref (E.2.1 0), .int p1]) w w1 r := by
  refine Gi.of (hy := by decide +kernel) (hlen := fun _ => Nat.le_of_ble_eq_true rfl) (fun X hX hE => ?_)
  · unfold F_X5_told at h
    refine (show Wa X w 0 [(0, .ref (Ad X 0)), (1, .int p1)] [] from ?_)
    refine wa_iload_n hX 1 rfl rfl dX5_told_0 ?_
    refine wa_bipush hX 10 kb_10 dX5_told_1 ?_
    refine wa_icmp_lt hX 33 (by decide) dX5_told_3 (fun c => ?_) (fun c => ?_)
    · replace h := itp c h
      exact t_X5_told_33 hX hE  h
    · replace h := itn c h
      refine wa_iload_n hX 1 rfl rfl dX5_told_6 ?_
      refine wa_bipush hX 10 kb_10 dX5_told_7 ?_
      refine wa_isub hX dX5_told_9 ?_
      refine wa_aload_n hX 0 rfl rfl dX5_told_10 ?_
      refine wg_stage_rules hX fl_X5_10 dX5_told_11 ?_
      refine wgN_rules_scenes hX fn_X5_168 dX5_told_14 ?_
      refine wa_icmp_ge hX 33 (by decide) dX5_told_17 (fun c => ?_) (fun c => ?_)
      · replace h := itp c h
        exact t_X5_told_33 hX hE  h
      · replace h := itn c h
        refine wa_aload_n hX 0 rfl rfl dX5_told_20 ?_
        refine wg_stage_rules hX fl_X5_10 dX5_told_21 ?_
        refine wgN_rules_sceneOn hX fn_X5_221 dX5_told_24 ?_
        refine wa_iload_n hX 1 rfl rfl dX5_told_27 ?_
        refine wa_bipush hX 10 kb_10 dX5_told_28 ?_
        refine wa_isub hX dX5_told_30 ?_
        obtain ⟨hg, h⟩ := gu_some h
        refine wl_rules_sceneOn hX hg dX5_told_31 ?_
        exact ret_i hE h dX5_told_32
