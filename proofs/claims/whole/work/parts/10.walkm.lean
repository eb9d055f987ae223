set_option maxRecDepth 100000 in
set_option maxHeartbeats 4000000 in
theorem m_X6_in {w w1 : Wd} {p0 : Int64} {p2 : Int64} {p4 : Int64} {r : Int32} (h : F_X6_in w p0 p2 p4 = some (r, w1)) : Gi yX6_in cX6_in 6 (some .boolean) 0 0 (fun E => [.long p0, .long p2, .long p4]) w w1 r := by
  refine Gi.of (hy := by decide +kernel) (hlen := fun _ => Nat.le_of_ble_eq_true rfl) (fun X hX hE => ?_)
  · unfold F_X6_in at h
    refine (show Wa X w 0 [(0, .long p0), (2, .long p2), (4, .long p4)] [] from ?_)
    refine wa_lload_n hX 0 rfl rfl dX6_in_0 ?_
    refine wa_lload_n hX 1 rfl rfl dX6_in_1 ?_
    refine wa_lcmp hX dX6_in_2 ?_
    have hJ : Wa X w 18 [] [.int (if (lg_cmp p0 p2) < 0 then 0 else (if 0 < (lg_cmp p0 p4) then (0 : Int32) else 1))] := by
      obtain ⟨hg, h⟩ := gu_some h
      exact ret_z hE h (isB_or hg) dX6_in_18
    refine wa_if_lt hX 17 (by decide) dX6_in_3 (fun c => ?_) (fun c => ?_)
    · refine wa_iconst hX 0 ki_0 dX6_in_17 ?_
      refine wa_sub (lv2 := []) [] rfl ?_
      rw [show (if (lg_cmp p0 p2) < 0 then 0 else (if 0 < (lg_cmp p0 p4) then (0 : Int32) else 1)) = 0 from if_pos c] at hJ
      exact hJ
    · refine wa_lload_n hX 0 rfl rfl dX6_in_6 ?_
      refine wa_lload hX 2 rfl dX6_in_7 ?_
      refine wa_lcmp hX dX6_in_9 ?_
      have hI : Wa X w 18 [] [.int (if 0 < (lg_cmp p0 p4) then (0 : Int32) else 1)] := by
        rw [show (if (lg_cmp p0 p2) < 0 then 0 else (if 0 < (lg_cmp p0 p4) then (0 : Int32) else 1)) = (if 0 < (lg_cmp p0 p4) then (0 : Int32) else 1) from if_neg c] at hJ
        exact hJ
      refine wa_if_gt hX 17 (by decide) dX6_in_10 (fun c2 => ?_) (fun c2 => ?_)
      · refine wa_iconst hX 0 ki_0 dX6_in_17 ?_
        refine wa_sub (lv2 := []) [] rfl ?_
        rw [show (if 0 < (lg_cmp p0 p4) then (0 : Int32) else 1) = 0 from if_pos c2] at hI
        exact hI
      · refine wa_iconst hX 1 ki_1 dX6_in_13 ?_
        refine wa_goto hX 18 (by decide) dX6_in_14 ?_
        refine wa_sub (lv2 := []) [] rfl ?_
        rw [show (if 0 < (lg_cmp p0 p4) then (0 : Int32) else 1) = 1 from if_neg c2] at hI
        exact hI
set_option maxRecDepth 100000 in
set_option maxHeartbeats 4000000 in
theorem t_X6_set_45 {X : Fx} (hX : Cx X cX6_set RX6 4 1 25) {r : Int32} {w1 : Wd} (hE : ∀ pc lv, decode cX6_set pc = .ok (.ireturn, 1) → narrow .int (.int r) = .int r → Wa X w1 pc lv [.int r])  {w : Wd} (h : F_X6_set_45 w = some (r, w1)) : Wa X w 45 [] [] := by
  unfold F_X6_set_45 at h
  refine wa_bipush hX (-2) kb_m2 dX6_set_45 ?_
  exact ret_i hE h dX6_set_47
set_option maxRecDepth 100000 in
set_option maxHeartbeats 4000000 in
theorem m_X6_set {w w1 : Wd} {p1 : Int32} {p2 : Int32} {r : Int32} (h : F_X6_set w p1 p2 = some (r, w1)) : Gi yX6_set cX6_set 4 (some .int) 1 25 (fun E => [.ref (E.2.1 36), .int p1, .int p2]) w w1 r := by
  refine Gi.of (hy := by decide +kernel) (hlen := fun _ => Nat.le_of_ble_eq_true rfl) (fun X hX hE => ?_)
  · unfold F_X6_set at h
    refine (show Wa X w 0 [(0, .ref (Ad X 36)), (1, .int p1), (2, .int p2)] [] from ?_)
    refine wa_iload_n hX 1 rfl rfl dX6_set_0 ?_
    refine wa_i2l hX dX6_set_1 ?_
    refine wa_lconst hX 0 rfl dX6_set_2 ?_
    refine wa_ldc2 hX kc_X6_66 dX6_set_3 ?_
    obtain ⟨x1, h2, h⟩ := obind h
    refine wa_callSi hX (m_X6_in h2) cx_X6_in ml_X6_62 (As := [.long p1.toInt64, .long 0, .long 2]) (rest := []) rfl rfl rfl ⟨Nat.le_of_ble_eq_true rfl, Nat.le_of_ble_eq_true rfl⟩ (Nat.le_of_ble_eq_true rfl) dX6_set_6 ?_
    refine wa_if_eq hX 45 (by decide) dX6_set_9 (fun c => ?_) (fun c => ?_)
    · replace h := itp c h
      refine wa_sub (lv2 := []) [] rfl ?_
      exact t_X6_set_45 hX hE  h
    · replace h := itn c h
      refine wa_iload_n hX 2 rfl rfl dX6_set_12 ?_
      refine wa_i2l hX dX6_set_13 ?_
      refine wa_lconst hX 0 rfl dX6_set_14 ?_
      refine wa_iload_n hX 1 rfl rfl dX6_set_15 ?_
      have hJ : Wa X x1.2 39 [(0, .ref (Ad X 36)), (1, .int p1), (2, .int p2)] [.long (if p1 = 0 then 2 else (if p1 = 1 then (8 : Int64) else 9)), .long 0, .long p2.toInt64] := by
        obtain ⟨x2, h2, h⟩ := obind h
        refine wa_callSi hX (m_X6_in h2) cx_X6_in ml_X6_62 (As := [.long p2.toInt64, .long 0, .long (if p1 = 0 then 2 else (if p1 = 1 then (8 : Int64) else 9))]) (rest := []) rfl rfl rfl ⟨Nat.le_of_ble_eq_true rfl, Nat.le_of_ble_eq_true rfl⟩ (Nat.le_of_ble_eq_true rfl) dX6_set_39 ?_
        refine wa_if_ne hX 48 (by decide) dX6_set_42 (fun c => ?_) (fun c => ?_)
        · replace h := itn c h
          refine wa_iload_n hX 1 rfl rfl dX6_set_48 ?_
          have hJ : Wa X x2.2 75 [(0, .ref (Ad X 36)), (1, .int p1), (2, .int p2)] [.int (if p1 = 0 then x2.2.1 29 else (if p1 = 1 then x2.2.1 30 else x2.2.1 31))] := by
            refine wa_let h (fun y3 h => ?_)
            refine wa_istore_n hX (lv2 := [(3, .int y3), (0, .ref (Ad X 36)), (1, .int p1), (2, .int p2)]) rfl (by decide) rfl dX6_set_75 ?_
            refine wa_aload_n hX 1 rfl rfl dX6_set_76 ?_
            refine wa_iload_n hX 2 rfl rfl dX6_set_77 ?_
            have hJ : Wa X x2.2 89 [(0, .ref (Ad X 36)), (1, .int p1), (2, .int p2), (3, .int y3)] [.int (if p1 = 0 then p2 else x2.2.1 29), .ref (Ad X 36)] := by
              refine wp_model_law hX fl_X6_72 dX6_set_89 ?_
              refine wa_aload_n hX 0 rfl rfl dX6_set_92 ?_
              refine wa_iload_n hX 1 rfl rfl dX6_set_93 ?_
              refine wa_iconst hX 1 ki_1 dX6_set_94 ?_
              have hJ : Wa X (wI x2.2 29 (if p1 = 0 then p2 else x2.2.1 29)) 106 [(0, .ref (Ad X 36)), (1, .int p1), (2, .int p2), (3, .int y3)] [.int (if p1 = 1 then p2 else x2.2.1 30), .ref (Ad X 36)] := by
                refine wp_model_just hX fl_X6_56 dX6_set_106 ?_
                refine wa_aload_n hX 0 rfl rfl dX6_set_109 ?_
                refine wa_iload_n hX 1 rfl rfl dX6_set_110 ?_
                refine wa_iconst hX 2 ki_2 dX6_set_111 ?_
                have hJ : Wa X (wI (wI x2.2 29 (if p1 = 0 then p2 else x2.2.1 29)) 30 (if p1 = 1 then p2 else x2.2.1 30)) 123 [(3, .int y3)] [.int (if p1 = 2 then p2 else x2.2.1 31), .ref (Ad X 36)] := by
                  refine wp_model_change hX fl_X6_75 dX6_set_123 ?_
                  refine wa_iload_n hX 0 rfl rfl dX6_set_126 ?_
                  exact ret_i hE h dX6_set_127
                refine wa_icmp_ne hX 119 (by decide) dX6_set_112 (fun c => ?_) (fun c => ?_)
                · refine wa_aload_n hX 0 rfl rfl dX6_set_119 ?_
                  refine wg_model_change hX fl_X6_75 dX6_set_120 ?_
                  refine (show Wa X (wI (wI x2.2 29 (if p1 = 0 then p2 else x2.2.1 29)) 30 (if p1 = 1 then p2 else x2.2.1 30)) 123 [(0, .ref (Ad X 36)), (1, .int p1), (2, .int p2), (3, .int y3)] [.int (x2.2.1 31), .ref (Ad X 36)] from ?_)
                  refine wa_sub (lv2 := [(3, .int y3)]) [3] rfl ?_
                  rw [show (if p1 = 2 then p2 else x2.2.1 31) = x2.2.1 31 from if_neg c] at hJ
                  exact hJ
                · refine wa_iload_n hX 2 rfl rfl dX6_set_115 ?_
                  refine wa_goto hX 123 (by decide) dX6_set_116 ?_
                  refine wa_sub (lv2 := [(3, .int y3)]) [3] rfl ?_
                  rw [show (if p1 = 2 then p2 else x2.2.1 31) = p2 from if_pos c] at hJ
                  exact hJ
              refine wa_icmp_ne hX 102 (by decide) dX6_set_95 (fun c => ?_) (fun c => ?_)
              · refine wa_aload_n hX 0 rfl rfl dX6_set_102 ?_
                refine wg_model_just hX fl_X6_56 dX6_set_103 ?_
                refine (show Wa X (wI x2.2 29 (if p1 = 0 then p2 else x2.2.1 29)) 106 [(0, .ref (Ad X 36)), (1, .int p1), (2, .int p2), (3, .int y3)] [.int (x2.2.1 30), .ref (Ad X 36)] from ?_)
                rw [show (if p1 = 1 then p2 else x2.2.1 30) = x2.2.1 30 from if_neg c] at hJ
                exact hJ
              · refine wa_iload_n hX 2 rfl rfl dX6_set_98 ?_
                refine wa_goto hX 106 (by decide) dX6_set_99 ?_
                rw [show (if p1 = 1 then p2 else x2.2.1 30) = p2 from if_pos c] at hJ
                exact hJ
            refine wa_if_ne hX 85 (by decide) dX6_set_78 (fun c => ?_) (fun c => ?_)
            · refine wa_aload_n hX 1 rfl rfl dX6_set_85 ?_
              refine wg_model_law hX fl_X6_72 dX6_set_86 ?_
              refine wa_sub (lv2 := [(0, .ref (Ad X 36)), (1, .int p1), (2, .int p2), (3, .int y3)]) [1, 2, 3, 0] rfl ?_
              rw [show (if p1 = 0 then p2 else x2.2.1 29) = x2.2.1 29 from if_neg c] at hJ
              exact hJ
            · refine wa_iload_n hX 3 rfl rfl dX6_set_81 ?_
              refine wa_goto hX 89 (by decide) dX6_set_82 ?_
              refine wa_sub (lv2 := [(0, .ref (Ad X 36)), (1, .int p1), (2, .int p2), (3, .int y3)]) [1, 2, 3, 0] rfl ?_
              rw [show (if p1 = 0 then p2 else x2.2.1 29) = p2 from if_pos c] at hJ
              exact hJ
          refine wa_if_ne hX 59 (by decide) dX6_set_49 (fun c => ?_) (fun c => ?_)
          · refine wa_iload_n hX 1 rfl rfl dX6_set_59 ?_
            refine wa_iconst hX 1 ki_1 dX6_set_60 ?_
            have hI : Wa X x2.2 75 [(0, .ref (Ad X 36)), (1, .int p1), (2, .int p2)] [.int (if p1 = 1 then x2.2.1 30 else x2.2.1 31)] := by
              rw [show (if p1 = 0 then x2.2.1 29 else (if p1 = 1 then x2.2.1 30 else x2.2.1 31)) = (if p1 = 1 then x2.2.1 30 else x2.2.1 31) from if_neg c] at hJ
              exact hJ
            refine wa_icmp_ne hX 71 (by decide) dX6_set_61 (fun c2 => ?_) (fun c2 => ?_)
            · refine wa_aload_n hX 0 rfl rfl dX6_set_71 ?_
              refine wg_model_change hX fl_X6_75 dX6_set_72 ?_
              rw [show (if p1 = 1 then x2.2.1 30 else x2.2.1 31) = x2.2.1 31 from if_neg c2] at hI
              exact hI
            · refine wa_aload_n hX 0 rfl rfl dX6_set_64 ?_
              refine wg_model_just hX fl_X6_56 dX6_set_65 ?_
              refine wa_goto hX 75 (by decide) dX6_set_68 ?_
              rw [show (if p1 = 1 then x2.2.1 30 else x2.2.1 31) = x2.2.1 30 from if_pos c2] at hI
              exact hI
          · refine wa_aload_n hX 0 rfl rfl dX6_set_52 ?_
            refine wg_model_law hX fl_X6_72 dX6_set_53 ?_
            refine wa_goto hX 75 (by decide) dX6_set_56 ?_
            rw [show (if p1 = 0 then x2.2.1 29 else (if p1 = 1 then x2.2.1 30 else x2.2.1 31)) = x2.2.1 29 from if_pos c] at hJ
            exact hJ
        · replace h := itp c h
          refine wa_sub (lv2 := []) [] rfl ?_
          exact t_X6_set_45 hX hE  h
      refine wa_if_ne hX 25 (by decide) dX6_set_16 (fun c => ?_) (fun c => ?_)
      · refine wa_iload_n hX 1 rfl rfl dX6_set_25 ?_
        refine wa_iconst hX 1 ki_1 dX6_set_26 ?_
        have hI : Wa X x1.2 39 [(0, .ref (Ad X 36)), (1, .int p1), (2, .int p2)] [.long (if p1 = 1 then (8 : Int64) else 9), .long 0, .long p2.toInt64] := by
          rw [show (if p1 = 0 then 2 else (if p1 = 1 then (8 : Int64) else 9)) = (if p1 = 1 then (8 : Int64) else 9) from if_neg c] at hJ
          exact hJ
        refine wa_icmp_ne hX 36 (by decide) dX6_set_27 (fun c2 => ?_) (fun c2 => ?_)
        · refine wa_ldc2 hX kc_X6_70 dX6_set_36 ?_
          rw [show (if p1 = 1 then (8 : Int64) else 9) = 9 from if_neg c2] at hI
          exact hI
        · refine wa_ldc2 hX kc_X6_68 dX6_set_30 ?_
          refine wa_goto hX 39 (by decide) dX6_set_33 ?_
          rw [show (if p1 = 1 then (8 : Int64) else 9) = 8 from if_pos c2] at hI
          exact hI
      · refine wa_ldc2 hX kc_X6_66 dX6_set_19 ?_
        refine wa_goto hX 39 (by decide) dX6_set_22 ?_
        rw [show (if p1 = 0 then 2 else (if p1 = 1 then (8 : Int64) else 9)) = 2 from if_pos c] at hJ
        exact hJ
set_option maxRecDepth 100000 in
set_option maxHeartbeats 4000000 in
theorem m_X6_say {w w1 : Wd} {p1 : Int32} {r : Int32} (h : F_X6_say w p1 = some (r, w1)) : Gi yX6_say cX6_say 2 (some .int) 1 25 (fun E => [.ref (E.2.1 36), .int p1]) w w1 r := by
  refine Gi.of (hy := by decide +kernel) (hlen := fun _ => Nat.le_of_ble_eq_true rfl) (fun X hX hE => ?_)
  · unfold F_X6_say at h
    refine (show Wa X w 0 [(0, .ref (Ad X 36)), (1, .int p1)] [] from ?_)
    refine wa_iload_n hX 1 rfl rfl dX6_say_0 ?_
    refine wa_i2l hX dX6_say_1 ?_
    refine wa_ldc2 hX kc_X6_78 dX6_say_2 ?_
    refine wa_ldc2 hX kc_X6_80 dX6_say_5 ?_
    obtain ⟨x1, h2, h⟩ := obind h
    refine wa_callSi hX (m_X6_in h2) cx_X6_in ml_X6_62 (As := [.long p1.toInt64, .long 33, .long 126]) (rest := []) rfl rfl rfl ⟨Nat.le_of_ble_eq_true rfl, Nat.le_of_ble_eq_true rfl⟩ (Nat.le_of_ble_eq_true rfl) dX6_say_8 ?_
    refine wa_if_ne hX 17 (by decide) dX6_say_11 (fun c => ?_) (fun c => ?_)
    · replace h := itn c h
      refine wa_aload_n hX 0 rfl rfl dX6_say_17 ?_
      refine wg_model_padMany hX fl_X6_82 dX6_say_18 ?_
      refine wa_bipush hX 40 kb_40 dX6_say_21 ?_
      refine wa_icmp_ne hX 29 (by decide) dX6_say_23 (fun c => ?_) (fun c => ?_)
      · replace h := itn c h
        refine wa_aload_n hX 0 rfl rfl dX6_say_29 ?_
        refine wg_model_pad hX fl_X6_22 dX6_say_30 ?_
        refine wa_aload_n hX 0 rfl rfl dX6_say_33 ?_
        refine wg_model_padMany hX fl_X6_82 dX6_say_34 ?_
        refine wa_iload_n hX 1 rfl rfl dX6_say_37 ?_
        obtain ⟨hg, h⟩ := gu_some h
        refine ws_model_pad hX hg dX6_say_38 ?_
        refine wa_aload_n hX 0 rfl rfl dX6_say_39 ?_
        refine wa_dup hX rfl dX6_say_40 ?_
        refine wg_model_padMany hX fl_X6_82 dX6_say_41 ?_
        refine (show Wa X (wA x1.2 41 (x1.2.1 34) p1) 44 [(0, .ref (Ad X 36)), (1, .int p1)] [.int (x1.2.1 34), .ref (Ad X 36)] from ?_)
        refine wa_iconst hX 1 ki_1 dX6_say_44 ?_
        refine wa_iadd hX dX6_say_45 ?_
        refine wp_model_padMany hX fl_X6_82 dX6_say_46 ?_
        refine wa_aload_n hX 0 rfl rfl dX6_say_49 ?_
        refine wg_model_padMany hX fl_X6_82 dX6_say_50 ?_
        refine (show Wa X (wI (wA x1.2 41 (x1.2.1 34) p1) 34 (x1.2.1 34 + 1)) 53 [(0, .ref (Ad X 36)), (1, .int p1)] [.int (x1.2.1 34 + 1)] from ?_)
        exact ret_i hE h dX6_say_53
      · replace h := itp c h
        refine wa_bipush hX (-4) kb_m4 dX6_say_26 ?_
        exact ret_i hE h dX6_say_28
    · replace h := itp c h
      refine wa_bipush hX (-2) kb_m2 dX6_say_14 ?_
      exact ret_i hE h dX6_say_16
set_option maxRecDepth 100000 in
set_option maxHeartbeats 4000000 in
theorem m_X6_wipe {w w1 : Wd} {r : Int32} (h : F_X6_wipe w  = some (r, w1)) : Gi yX6_wipe cX6_wipe 2 (some .int) 0 0 (fun E => [.ref (E.2.1 36)]) w w1 r := by
  refine Gi.of (hy := by decide +kernel) (hlen := fun _ => Nat.le_of_ble_eq_true rfl) (fun X hX hE => ?_)
  · unfold F_X6_wipe at h
    refine (show Wa X w 0 [(0, .ref (Ad X 36))] [] from ?_)
    refine wa_aload_n hX 0 rfl rfl dX6_wipe_0 ?_
    refine wg_model_padMany hX fl_X6_82 dX6_wipe_1 ?_
    refine wa_istore_n hX (lv2 := [(1, .int (w.1 34)), (0, .ref (Ad X 36))]) rfl (by decide) rfl dX6_wipe_4 ?_
    refine wa_aload_n hX 1 rfl rfl dX6_wipe_5 ?_
    refine wa_iconst hX 0 ki_0 dX6_wipe_6 ?_
    refine wp_model_padMany hX fl_X6_82 dX6_wipe_7 ?_
    refine wa_iload_n hX 0 rfl rfl dX6_wipe_10 ?_
    exact ret_i hE h dX6_wipe_11
set_option maxRecDepth 100000 in
set_option maxHeartbeats 4000000 in
theorem t_X6_fault_83 {X : Fx} (hX : Cx X cX6_fault RX6 5 1 25) {r : Int32} {w1 : Wd} (hE : ∀ pc lv, decode cX6_fault pc = .ok (.ireturn, 1) → narrow .int (.int r) = .int r → Wa X w1 pc lv [.int r]) {k4 : Wd × Int32 × Int32 → Option (Int32 × Wd)} (hk4 : ∀ a, k4 a = some (r, w1) → Wa X a.1 4 [(0, .ref (Ad X 36)), (1, .int a.2.1), (2, .int a.2.2)] []) {w : Wd} {v1 : Int32} {v2 : Int32} {s0 : Int32} (h : F_X6_fault_83 k4 w v1 v2 s0 = some (r, w1)) : Wa X w 83 [(0, .ref (Ad X 36)), (1, .int v1), (2, .int v2)] [.int s0] := by
  unfold F_X6_fault_83 at h
  refine wa_istore hX (lv2 := [(4, .int s0), (0, .ref (Ad X 36)), (1, .int v1), (2, .int v2)]) (by decide) rfl dX6_fault_83 ?_
  refine wa_iload hX 0 rfl dX6_fault_85 ?_
  refine wa_if_ne hX 92 (by decide) dX6_fault_87 (fun c => ?_) (fun c => ?_)
  · replace h := itn c h
    refine wa_iinc hX (v := (v2 + 1)) (lv2 := [(2, .int (v2 + 1)), (4, .int s0), (0, .ref (Ad X 36)), (1, .int v1)]) 3 rfl rfl (by decide) rfl dX6_fault_92 ?_
    refine wa_goto hX 4 (by decide) dX6_fault_95 ?_
    refine wa_sub (lv2 := [(0, .ref (Ad X 36)), (1, .int v1), (2, .int (v2 + 1))]) [2, 3, 0] rfl ?_
    exact hk4 _ h
  · replace h := itp c h
    refine wa_iload_n hX 3 rfl rfl dX6_fault_90 ?_
    exact ret_i hE h dX6_fault_91
set_option maxRecDepth 100000 in
set_option maxHeartbeats 4000000 in
theorem t_X6_fault_78 {X : Fx} (hX : Cx X cX6_fault RX6 5 1 25) {r : Int32} {w1 : Wd} (hE : ∀ pc lv, decode cX6_fault pc = .ok (.ireturn, 1) → narrow .int (.int r) = .int r → Wa X w1 pc lv [.int r]) {k4 : Wd × Int32 × Int32 → Option (Int32 × Wd)} (hk4 : ∀ a, k4 a = some (r, w1) → Wa X a.1 4 [(0, .ref (Ad X 36)), (1, .int a.2.1), (2, .int a.2.2)] []) {w : Wd} {v1 : Int32} {v2 : Int32} (h : F_X6_fault_78 k4 w v1 v2 = some (r, w1)) : Wa X w 78 [(0, .ref (Ad X 36)), (1, .int v1), (2, .int v2)] [] := by
  unfold F_X6_fault_78 at h
  refine wa_iconst hX 1 ki_1 dX6_fault_78 ?_
  refine wa_goto hX 83 (by decide) dX6_fault_79 ?_
  exact t_X6_fault_83 hX hE hk4 h
set_option maxRecDepth 100000 in
set_option maxHeartbeats 4000000 in
theorem t_X6_fault_50 {X : Fx} (hX : Cx X cX6_fault RX6 5 1 25) {r : Int32} {w1 : Wd} (hE : ∀ pc lv, decode cX6_fault pc = .ok (.ireturn, 1) → narrow .int (.int r) = .int r → Wa X w1 pc lv [.int r]) {k4 : Wd × Int32 × Int32 → Option (Int32 × Wd)} (hk4 : ∀ a, k4 a = some (r, w1) → Wa X a.1 4 [(0, .ref (Ad X 36)), (1, .int a.2.1), (2, .int a.2.2)] []) {w : Wd} {v1 : Int32} {v2 : Int32} {v3 : Int32} (h : F_X6_fault_50 k4 w v1 v2 v3 = some (r, w1)) : Wa X w 50 [(0, .ref (Ad X 36)), (1, .int v1), (2, .int v2), (3, .int v3)] [] := by
  unfold F_X6_fault_50 at h
  refine wa_iload_n hX 3 rfl rfl dX6_fault_50 ?_
  refine wa_i2l hX dX6_fault_51 ?_
  refine wa_ldc2 hX kc_X6_85 dX6_fault_52 ?_
  refine wa_ldc2 hX kc_X6_87 dX6_fault_55 ?_
  obtain ⟨x2, h2, h⟩ := obind h
  refine wa_callSi hX (m_X6_in h2) cx_X6_in ml_X6_62 (As := [.long v3.toInt64, .long 65, .long 72]) (rest := []) rfl rfl rfl ⟨Nat.le_of_ble_eq_true rfl, Nat.le_of_ble_eq_true rfl⟩ (Nat.le_of_ble_eq_true rfl) dX6_fault_58 ?_
  refine wa_if_ne hX 78 (by decide) dX6_fault_61 (fun c => ?_) (fun c => ?_)
  · replace h := itn c h
    refine wa_sub (lv2 := [(0, .ref (Ad X 36)), (1, .int v1), (2, .int v2)]) [0, 1, 2] rfl ?_
    exact t_X6_fault_78 hX hE hk4 h
  · replace h := itp c h
    refine wa_iload_n hX 3 rfl rfl dX6_fault_64 ?_
    refine wa_i2l hX dX6_fault_65 ?_
    refine wa_ldc2 hX kc_X6_89 dX6_fault_66 ?_
    refine wa_ldc2 hX kc_X6_91 dX6_fault_69 ?_
    obtain ⟨x3, h2, h⟩ := obind h
    refine wa_callSi hX (m_X6_in h2) cx_X6_in ml_X6_62 (As := [.long v3.toInt64, .long 97, .long 104]) (rest := []) rfl rfl rfl ⟨Nat.le_of_ble_eq_true rfl, Nat.le_of_ble_eq_true rfl⟩ (Nat.le_of_ble_eq_true rfl) dX6_fault_72 ?_
    have hJ : Wa X x3.2 83 [(0, .ref (Ad X 36)), (1, .int v1), (2, .int v2)] [.int (if x3.1 = 0 then (0 : Int32) else 1)] := by
      refine wa_istore hX (lv2 := [(4, .int (if x3.1 = 0 then (0 : Int32) else 1)), (0, .ref (Ad X 36)), (1, .int v1), (2, .int v2)]) (by decide) rfl dX6_fault_83 ?_
      refine wa_iload hX 0 rfl dX6_fault_85 ?_
      refine wa_if_ne hX 92 (by decide) dX6_fault_87 (fun c => ?_) (fun c => ?_)
      · replace h := itn c h
        refine wa_iinc hX (v := (v2 + 1)) (lv2 := [(2, .int (v2 + 1)), (4, .int (if x3.1 = 0 then (0 : Int32) else 1)), (0, .ref (Ad X 36)), (1, .int v1)]) 3 rfl rfl (by decide) rfl dX6_fault_92 ?_
        refine wa_goto hX 4 (by decide) dX6_fault_95 ?_
        refine wa_sub (lv2 := [(0, .ref (Ad X 36)), (1, .int v1), (2, .int (v2 + 1))]) [2, 3, 0] rfl ?_
        exact hk4 _ h
      · replace h := itp c h
        refine wa_iload_n hX 3 rfl rfl dX6_fault_90 ?_
        exact ret_i hE h dX6_fault_91
    refine wa_if_eq hX 82 (by decide) dX6_fault_75 (fun c => ?_) (fun c => ?_)
    · refine wa_iconst hX 0 ki_0 dX6_fault_82 ?_
      refine wa_sub (lv2 := [(0, .ref (Ad X 36)), (1, .int v1), (2, .int v2)]) [0, 1, 2] rfl ?_
      rw [show (if x3.1 = 0 then (0 : Int32) else 1) = 0 from if_pos c] at hJ
      exact hJ
    · refine wa_iconst hX 1 ki_1 dX6_fault_78 ?_
      refine wa_goto hX 83 (by decide) dX6_fault_79 ?_
      refine wa_sub (lv2 := [(0, .ref (Ad X 36)), (1, .int v1), (2, .int v2)]) [0, 1, 2] rfl ?_
      rw [show (if x3.1 = 0 then (0 : Int32) else 1) = 1 from if_neg c] at hJ
      exact hJ
set_option maxRecDepth 100000 in
set_option maxHeartbeats 4000000 in
theorem t_X6_fault_4 {X : Fx} (hX : Cx X cX6_fault RX6 5 1 25) {r : Int32} {w1 : Wd} (hE : ∀ pc lv, decode cX6_fault pc = .ok (.ireturn, 1) → narrow .int (.int r) = .int r → Wa X w1 pc lv [.int r])  : ∀ (n : Nat) (a : Wd × Int32 × Int32), L_X6_fault_4  n a = some (r, w1) → Wa X a.1 4 [(0, .ref (Ad X 36)), (1, .int a.2.1), (2, .int a.2.2)] [] := by
  refine it_mach (P := fun (a : Wd × Int32 × Int32) => Wa X a.1 4 [(0, .ref (Ad X 36)), (1, .int a.2.1), (2, .int a.2.2)] []) ?_
  intro k4 hk4 a h
  obtain ⟨w, v1, v2⟩ := a
  have h : F_X6_fault_4 k4 w v1 v2 = some (r, w1) := h
  show Wa X w 4 [(0, .ref (Ad X 36)), (1, .int v1), (2, .int v2)] []
  unfold F_X6_fault_4 at h
  refine wa_iload_n hX 2 rfl rfl dX6_fault_4 ?_
  refine wa_aload_n hX 0 rfl rfl dX6_fault_5 ?_
  refine wg_model_padMany hX fl_X6_82 dX6_fault_6 ?_
  refine wa_icmp_ge hX 98 (by decide) dX6_fault_9 (fun c => ?_) (fun c => ?_)
  · replace h := itp c h
    refine wa_bipush hX (-6) kb_m6 dX6_fault_98 ?_
    exact ret_i hE h dX6_fault_100
  · replace h := itn c h
    refine wa_aload_n hX 0 rfl rfl dX6_fault_12 ?_
    refine wg_model_pad hX fl_X6_22 dX6_fault_13 ?_
    refine wa_iload_n hX 2 rfl rfl dX6_fault_16 ?_
    obtain ⟨hg, h⟩ := gu_some h
    refine wl_model_pad hX hg dX6_fault_17 ?_
    refine wa_istore_n hX (lv2 := [(3, .int (w.2.1 41 v2.toNatClampNeg)), (0, .ref (Ad X 36)), (1, .int v1), (2, .int v2)]) rfl (by decide) rfl dX6_fault_18 ?_
    refine wa_iload_n hX 2 rfl rfl dX6_fault_19 ?_
    refine wa_iload_n hX 0 rfl rfl dX6_fault_20 ?_
    refine wa_bipush hX 63 kb_63 dX6_fault_21 ?_
    have hJ : Wa X w 31 [(0, .ref (Ad X 36)), (2, .int v2), (3, .int (w.2.1 41 v2.toNatClampNeg))] [.int (if (w.2.1 41 v2.toNatClampNeg) = 63 then (1 : Int32) else 0), .int v1] := by
      refine wa_iadd hX dX6_fault_31 ?_
      refine wa_let h (fun y1 h => ?_)
      refine wa_istore_n hX (lv2 := [(1, .int y1), (0, .ref (Ad X 36)), (2, .int v2), (3, .int (w.2.1 41 v2.toNatClampNeg))]) rfl (by decide) rfl dX6_fault_32 ?_
      refine wa_iload_n hX 3 rfl rfl dX6_fault_33 ?_
      refine wa_bipush hX 46 kb_46 dX6_fault_34 ?_
      refine wa_icmp_eq hX 78 (by decide) dX6_fault_36 (fun c => ?_) (fun c => ?_)
      · replace h := itp c h
        refine wa_sub (lv2 := [(0, .ref (Ad X 36)), (1, .int y1), (2, .int v2)]) [1, 0, 2] rfl ?_
        exact t_X6_fault_78 hX hE hk4 h
      · replace h := itn c h
        refine wa_iload_n hX 3 rfl rfl dX6_fault_39 ?_
        refine wa_bipush hX 63 kb_63 dX6_fault_40 ?_
        refine wa_icmp_ne hX 50 (by decide) dX6_fault_42 (fun c => ?_) (fun c => ?_)
        · replace h := itn c h
          refine wa_sub (lv2 := [(0, .ref (Ad X 36)), (1, .int y1), (2, .int v2), (3, .int (w.2.1 41 v2.toNatClampNeg))]) [1, 0, 2, 3] rfl ?_
          exact t_X6_fault_50 hX hE hk4 h
        · replace h := itp c h
          refine wa_iload_n hX 0 rfl rfl dX6_fault_45 ?_
          refine wa_iconst hX 3 ki_3 dX6_fault_46 ?_
          refine wa_icmp_le hX 78 (by decide) dX6_fault_47 (fun c => ?_) (fun c => ?_)
          · replace h := itp c h
            refine wa_sub (lv2 := [(0, .ref (Ad X 36)), (1, .int y1), (2, .int v2)]) [1, 0, 2] rfl ?_
            exact t_X6_fault_78 hX hE hk4 h
          · replace h := itn c h
            refine wa_sub (lv2 := [(0, .ref (Ad X 36)), (1, .int y1), (2, .int v2), (3, .int (w.2.1 41 v2.toNatClampNeg))]) [1, 0, 2, 3] rfl ?_
            exact t_X6_fault_50 hX hE hk4 h
    refine wa_icmp_ne hX 30 (by decide) dX6_fault_23 (fun c => ?_) (fun c => ?_)
    · refine wa_iconst hX 0 ki_0 dX6_fault_30 ?_
      refine wa_sub (lv2 := [(0, .ref (Ad X 36)), (2, .int v2), (3, .int (w.2.1 41 v2.toNatClampNeg))]) [1, 3, 0] rfl ?_
      rw [show (if (w.2.1 41 v2.toNatClampNeg) = 63 then (1 : Int32) else 0) = 0 from if_neg c] at hJ
      exact hJ
    · refine wa_iconst hX 1 ki_1 dX6_fault_26 ?_
      refine wa_goto hX 31 (by decide) dX6_fault_27 ?_
      refine wa_sub (lv2 := [(0, .ref (Ad X 36)), (2, .int v2), (3, .int (w.2.1 41 v2.toNatClampNeg))]) [1, 3, 0] rfl ?_
      rw [show (if (w.2.1 41 v2.toNatClampNeg) = 63 then (1 : Int32) else 0) = 1 from if_pos c] at hJ
      exact hJ
set_option maxRecDepth 100000 in
set_option maxHeartbeats 4000000 in
theorem m_X6_fault {w w1 : Wd} {r : Int32} (h : F_X6_fault w  = some (r, w1)) : Gi yX6_fault cX6_fault 5 (some .int) 1 25 (fun E => [.ref (E.2.1 36)]) w w1 r := by
  refine Gi.of (hy := by decide +kernel) (hlen := fun _ => Nat.le_of_ble_eq_true rfl) (fun X hX hE => ?_)
  · unfold F_X6_fault at h
    refine (show Wa X w 0 [(0, .ref (Ad X 36))] [] from ?_)
    refine wa_iconst hX 0 ki_0 dX6_fault_0 ?_
    refine wa_istore_n hX (lv2 := [(1, .int 0), (0, .ref (Ad X 36))]) rfl (by decide) rfl dX6_fault_1 ?_
    refine wa_iconst hX 0 ki_0 dX6_fault_2 ?_
    refine wa_istore_n hX (lv2 := [(2, .int 0), (1, .int 0), (0, .ref (Ad X 36))]) rfl (by decide) rfl dX6_fault_3 ?_
    refine wa_sub (lv2 := [(0, .ref (Ad X 36)), (1, .int 0), (2, .int 0)]) [2, 1, 0] rfl ?_
    exact t_X6_fault_4 hX hE  _ _ h
set_option maxRecDepth 100000 in
set_option maxHeartbeats 4000000 in
theorem t_X6_marks_4 {X : Fx} (hX : Cx X cX6_marks RX6 3 0 0) {r : Int32} {w1 : Wd} (hE : ∀ pc lv, decode cX6_marks pc = .ok (.ireturn, 1) → narrow .int (.int r) = .int r → Wa X w1 pc lv [.int r])  : ∀ (n : Nat) (a : Wd × Int32 × Int32), L_X6_marks_4  n a = some (r, w1) → Wa X a.1 4 [(0, .ref (Ad X 36)), (1, .int a.2.1), (2, .int a.2.2)] [] := by
  refine it_mach (P := fun (a : Wd × Int32 × Int32) => Wa X a.1 4 [(0, .ref (Ad X 36)), (1, .int a.2.1), (2, .int a.2.2)] []) ?_
  intro k4 hk4 a h
  obtain ⟨w, v1, v2⟩ := a
  have h : F_X6_marks_4 k4 w v1 v2 = some (r, w1) := h
  show Wa X w 4 [(0, .ref (Ad X 36)), (1, .int v1), (2, .int v2)] []
  unfold F_X6_marks_4 at h
  refine wa_iload_n hX 2 rfl rfl dX6_marks_4 ?_
  refine wa_aload_n hX 0 rfl rfl dX6_marks_5 ?_
  refine wg_model_padMany hX fl_X6_82 dX6_marks_6 ?_
  refine wa_icmp_ge hX 37 (by decide) dX6_marks_9 (fun c => ?_) (fun c => ?_)
  · replace h := itp c h
    refine wa_iload_n hX 1 rfl rfl dX6_marks_37 ?_
    exact ret_i hE h dX6_marks_38
  · replace h := itn c h
    refine wa_iload_n hX 1 rfl rfl dX6_marks_12 ?_
    refine wa_aload_n hX 0 rfl rfl dX6_marks_13 ?_
    refine wg_model_pad hX fl_X6_22 dX6_marks_14 ?_
    refine wa_iload_n hX 2 rfl rfl dX6_marks_17 ?_
    obtain ⟨hg, h⟩ := gu_some h
    refine wl_model_pad hX hg dX6_marks_18 ?_
    refine wa_bipush hX 63 kb_63 dX6_marks_19 ?_
    have hJ : Wa X w 29 [(0, .ref (Ad X 36)), (2, .int v2)] [.int (if (w.2.1 41 v2.toNatClampNeg) = 63 then (1 : Int32) else 0), .int v1] := by
      refine wa_iadd hX dX6_marks_29 ?_
      refine wa_let h (fun y1 h => ?_)
      refine wa_istore_n hX (lv2 := [(1, .int y1), (0, .ref (Ad X 36)), (2, .int v2)]) rfl (by decide) rfl dX6_marks_30 ?_
      refine wa_iinc hX (v := (v2 + 1)) (lv2 := [(2, .int (v2 + 1)), (1, .int y1), (0, .ref (Ad X 36))]) 2 rfl rfl (by decide) rfl dX6_marks_31 ?_
      refine wa_goto hX 4 (by decide) dX6_marks_34 ?_
      refine wa_sub (lv2 := [(0, .ref (Ad X 36)), (1, .int y1), (2, .int (v2 + 1))]) [2, 1, 0] rfl ?_
      exact hk4 _ h
    refine wa_icmp_ne hX 28 (by decide) dX6_marks_21 (fun c => ?_) (fun c => ?_)
    · refine wa_iconst hX 0 ki_0 dX6_marks_28 ?_
      refine wa_sub (lv2 := [(0, .ref (Ad X 36)), (2, .int v2)]) [0, 2] rfl ?_
      rw [show (if (w.2.1 41 v2.toNatClampNeg) = 63 then (1 : Int32) else 0) = 0 from if_neg c] at hJ
      exact hJ
    · refine wa_iconst hX 1 ki_1 dX6_marks_24 ?_
      refine wa_goto hX 29 (by decide) dX6_marks_25 ?_
      refine wa_sub (lv2 := [(0, .ref (Ad X 36)), (2, .int v2)]) [0, 2] rfl ?_
      rw [show (if (w.2.1 41 v2.toNatClampNeg) = 63 then (1 : Int32) else 0) = 1 from if_pos c] at hJ
      exact hJ
set_option maxRecDepth 100000 in
set_option maxHeartbeats 4000000 in
theorem m_X6_marks {w w1 : Wd} {r : Int32} (h : F_X6_marks w  = some (r, w1)) : Gi yX6_marks cX6_marks 3 (some .int) 0 0 (fun E => [.ref (E.2.1 36)]) w w1 r := by
  refine Gi.of (hy := by decide +kernel) (hlen := fun _ => Nat.le_of_ble_eq_true rfl) (fun X hX hE => ?_)
  · unfold F_X6_marks at h
    refine (show Wa X w 0 [(0, .ref (Ad X 36))] [] from ?_)
    refine wa_iconst hX 0 ki_0 dX6_marks_0 ?_
    refine wa_istore_n hX (lv2 := [(1, .int 0), (0, .ref (Ad X 36))]) rfl (by decide) rfl dX6_marks_1 ?_
    refine wa_iconst hX 0 ki_0 dX6_marks_2 ?_
    refine wa_istore_n hX (lv2 := [(2, .int 0), (1, .int 0), (0, .ref (Ad X 36))]) rfl (by decide) rfl dX6_marks_3 ?_
    refine wa_sub (lv2 := [(0, .ref (Ad X 36)), (1, .int 0), (2, .int 0)]) [2, 1, 0] rfl ?_
    exact t_X6_marks_4 hX hE  _ _ h
set_option maxRecDepth 100000 in
set_option maxHeartbeats 4000000 in
theorem t_X6_layEvents_2 {X : Fx} (hX : Cx X cX6_layEvents RX6 3 0 0) {w1 : Wd} (hE : ∀ pc lv, decode cX6_layEvents pc = .ok (.return_, 1) → Wa X w1 pc lv [])  : ∀ (n : Nat) (a : Wd × Int32), L_X6_layEvents_2  n a = some w1 → Wa X a.1 2 [(0, .ref (Ad X 36)), (1, .int a.2)] [] := by
  refine it_mach (P := fun (a : Wd × Int32) => Wa X a.1 2 [(0, .ref (Ad X 36)), (1, .int a.2)] []) ?_
  intro k2 hk2 a h
  obtain ⟨w, v1⟩ := a
  have h : F_X6_layEvents_2 k2 w v1 = some w1 := h
  show Wa X w 2 [(0, .ref (Ad X 36)), (1, .int v1)] []
  unfold F_X6_layEvents_2 at h
  refine wa_iload_n hX 1 rfl rfl dX6_layEvents_2 ?_
  refine wa_aload_n hX 0 rfl rfl dX6_layEvents_3 ?_
  refine wg_model_padMany hX fl_X6_82 dX6_layEvents_4 ?_
  refine wa_icmp_ge hX 60 (by decide) dX6_layEvents_7 (fun c => ?_) (fun c => ?_)
  · replace h := itp c h
    exact ret_v hE h dX6_layEvents_60
  · replace h := itn c h
    refine wa_aload_n hX 0 rfl rfl dX6_layEvents_10 ?_
    refine wg_model_pad hX fl_X6_22 dX6_layEvents_11 ?_
    refine wa_iload_n hX 1 rfl rfl dX6_layEvents_14 ?_
    obtain ⟨hg, h⟩ := gu_some h
    refine wl_model_pad hX hg dX6_layEvents_15 ?_
    refine wa_istore_n hX (lv2 := [(2, .int (w.2.1 41 v1.toNatClampNeg)), (0, .ref (Ad X 36)), (1, .int v1)]) rfl (by decide) rfl dX6_layEvents_16 ?_
    refine wa_aload_n hX 1 rfl rfl dX6_layEvents_17 ?_
    refine wg_model_event hX fl_X6_25 dX6_layEvents_18 ?_
    refine wa_iload_n hX 2 rfl rfl dX6_layEvents_21 ?_
    refine wa_iload_n hX 0 rfl rfl dX6_layEvents_22 ?_
    refine wa_bipush hX 46 kb_46 dX6_layEvents_23 ?_
    have hJ : Wa X w 53 [(0, .ref (Ad X 36)), (1, .int v1)] [.int (if (w.2.1 41 v1.toNatClampNeg) = 46 then 32 else (if (w.2.1 41 v1.toNatClampNeg) < 97 then (w.2.1 41 v1.toNatClampNeg - 65) else ((16 + w.2.1 41 v1.toNatClampNeg) - 97))), .int v1, .ref (Ad X 42)] := by
      obtain ⟨hg, h⟩ := gu_some h
      refine ws_model_event hX hg dX6_layEvents_53 ?_
      refine wa_iinc hX (v := (v1 + 1)) (lv2 := [(1, .int (v1 + 1)), (0, .ref (Ad X 36))]) 1 rfl rfl (by decide) rfl dX6_layEvents_54 ?_
      refine wa_goto hX 2 (by decide) dX6_layEvents_57 ?_
      refine wa_sub (lv2 := [(0, .ref (Ad X 36)), (1, .int (v1 + 1))]) [1, 0] rfl ?_
      exact hk2 _ h
    refine wa_icmp_ne hX 33 (by decide) dX6_layEvents_25 (fun c => ?_) (fun c => ?_)
    · refine wa_iload_n hX 0 rfl rfl dX6_layEvents_33 ?_
      refine wa_bipush hX 97 kb_97 dX6_layEvents_34 ?_
      have hI : Wa X w 53 [(0, .ref (Ad X 36)), (1, .int v1)] [.int (if (w.2.1 41 v1.toNatClampNeg) < 97 then (w.2.1 41 v1.toNatClampNeg - 65) else ((16 + w.2.1 41 v1.toNatClampNeg) - 97)), .int v1, .ref (Ad X 42)] := by
        rw [show (if (w.2.1 41 v1.toNatClampNeg) = 46 then 32 else (if (w.2.1 41 v1.toNatClampNeg) < 97 then (w.2.1 41 v1.toNatClampNeg - 65) else ((16 + w.2.1 41 v1.toNatClampNeg) - 97))) = (if (w.2.1 41 v1.toNatClampNeg) < 97 then (w.2.1 41 v1.toNatClampNeg - 65) else ((16 + w.2.1 41 v1.toNatClampNeg) - 97)) from if_neg c] at hJ
        exact hJ
      refine wa_icmp_lt hX 49 (by decide) dX6_layEvents_36 (fun c2 => ?_) (fun c2 => ?_)
      · refine wa_iload_n hX 0 rfl rfl dX6_layEvents_49 ?_
        refine wa_bipush hX 65 kb_65 dX6_layEvents_50 ?_
        refine wa_isub hX dX6_layEvents_52 ?_
        refine wa_sub (lv2 := [(0, .ref (Ad X 36)), (1, .int v1)]) [1, 2] rfl ?_
        rw [show (if (w.2.1 41 v1.toNatClampNeg) < 97 then (w.2.1 41 v1.toNatClampNeg - 65) else ((16 + w.2.1 41 v1.toNatClampNeg) - 97)) = (w.2.1 41 v1.toNatClampNeg - 65) from if_pos c2] at hI
        exact hI
      · refine wa_bipush hX 16 kb_16 dX6_layEvents_39 ?_
        refine wa_iload_n hX 0 rfl rfl dX6_layEvents_41 ?_
        refine wa_iadd hX dX6_layEvents_42 ?_
        refine wa_bipush hX 97 kb_97 dX6_layEvents_43 ?_
        refine wa_isub hX dX6_layEvents_45 ?_
        refine wa_goto hX 53 (by decide) dX6_layEvents_46 ?_
        refine wa_sub (lv2 := [(0, .ref (Ad X 36)), (1, .int v1)]) [1, 2] rfl ?_
        rw [show (if (w.2.1 41 v1.toNatClampNeg) < 97 then (w.2.1 41 v1.toNatClampNeg - 65) else ((16 + w.2.1 41 v1.toNatClampNeg) - 97)) = ((16 + w.2.1 41 v1.toNatClampNeg) - 97) from if_neg c2] at hI
        exact hI
    · refine wa_bipush hX 32 kb_32 dX6_layEvents_28 ?_
      refine wa_goto hX 53 (by decide) dX6_layEvents_30 ?_
      refine wa_sub (lv2 := [(0, .ref (Ad X 36)), (1, .int v1)]) [1, 2] rfl ?_
      rw [show (if (w.2.1 41 v1.toNatClampNeg) = 46 then 32 else (if (w.2.1 41 v1.toNatClampNeg) < 97 then (w.2.1 41 v1.toNatClampNeg - 65) else ((16 + w.2.1 41 v1.toNatClampNeg) - 97))) = 32 from if_pos c] at hJ
      exact hJ
set_option maxRecDepth 100000 in
set_option maxHeartbeats 4000000 in
theorem m_X6_layEvents {w w1 : Wd} (h : F_X6_layEvents w  = some w1) : Gv yX6_layEvents cX6_layEvents 3 none 0 0 (fun E => [.ref (E.2.1 36)]) w w1 := by
  refine Gv.of (hy := by decide +kernel) (hlen := fun _ => Nat.le_of_ble_eq_true rfl) (fun X hX hE => ?_)
  · unfold F_X6_layEvents at h
    refine (show Wa X w 0 [(0, .ref (Ad X 36))] [] from ?_)
    refine wa_iconst hX 0 ki_0 dX6_layEvents_0 ?_
    refine wa_istore_n hX (lv2 := [(1, .int 0), (0, .ref (Ad X 36))]) rfl (by decide) rfl dX6_layEvents_1 ?_
    refine wa_sub (lv2 := [(0, .ref (Ad X 36)), (1, .int 0)]) [1, 0] rfl ?_
    exact t_X6_layEvents_2 hX hE  _ _ h
set_option maxRecDepth 100000 in
set_option maxHeartbeats 4000000 in
theorem t_X6_go_207 {X : Fx} (hX : Cx X cX6_go RX6 7 0 0) {r : Int32} {w1 : Wd} (hE : ∀ pc lv, decode cX6_go pc = .ok (.ireturn, 1) → narrow .boolean (.int r) = .int r → Wa X w1 pc lv [.int r])  {w : Wd} (h : F_X6_go_207 w = some (r, w1)) : Wa X w 207 [(0, .ref (Ad X 36))] [] := by
  unfold F_X6_go_207 at h
  refine wa_aload_n hX 0 rfl rfl dX6_go_207 ?_
  refine wg_model_badEvent hX fl_X6_99 dX6_go_208 ?_
  have hJ : Wa X w 219 [] [.int (if 0 ≤ (w.1 37) then (0 : Int32) else 1)] := by
    obtain ⟨hg, h⟩ := gu_some h
    exact ret_z hE h (isB_or hg) dX6_go_219
  refine wa_if_ge hX 218 (by decide) dX6_go_211 (fun c => ?_) (fun c => ?_)
  · refine wa_iconst hX 0 ki_0 dX6_go_218 ?_
    refine wa_sub (lv2 := []) [] rfl ?_
    rw [show (if 0 ≤ (w.1 37) then (0 : Int32) else 1) = 0 from if_pos c] at hJ
    exact hJ
  · refine wa_iconst hX 1 ki_1 dX6_go_214 ?_
    refine wa_goto hX 219 (by decide) dX6_go_215 ?_
    refine wa_sub (lv2 := []) [] rfl ?_
    rw [show (if 0 ≤ (w.1 37) then (0 : Int32) else 1) = 1 from if_neg c] at hJ
    exact hJ
set_option maxRecDepth 100000 in
set_option maxHeartbeats 4000000 in
theorem t_X6_go_201 {X : Fx} (hX : Cx X cX6_go RX6 7 0 0) {r : Int32} {w1 : Wd} (hE : ∀ pc lv, decode cX6_go pc = .ok (.ireturn, 1) → narrow .boolean (.int r) = .int r → Wa X w1 pc lv [.int r]) {k26 : Wd × Int32 × Int32 → Option (Int32 × Wd)} (hk26 : ∀ a, k26 a = some (r, w1) → Wa X a.1 26 [(0, .ref (Ad X 36)), (1, .int a.2.1), (2, .int a.2.2)] []) {w : Wd} {v1 : Int32} {v2 : Int32} (h : F_X6_go_201 k26 w v1 v2 = some (r, w1)) : Wa X w 201 [(0, .ref (Ad X 36)), (1, .int v1), (2, .int v2)] [] := by
  unfold F_X6_go_201 at h
  refine wa_iinc hX (v := (v2 + 1)) (lv2 := [(2, .int (v2 + 1)), (0, .ref (Ad X 36)), (1, .int v1)]) 2 rfl rfl (by decide) rfl dX6_go_201 ?_
  refine wa_goto hX 26 (by decide) dX6_go_204 ?_
  refine wa_sub (lv2 := [(0, .ref (Ad X 36)), (1, .int v1), (2, .int (v2 + 1))]) [1, 2, 0] rfl ?_
  exact hk26 _ h
set_option maxRecDepth 100000 in
set_option maxHeartbeats 4000000 in
theorem t_X6_go_26 {X : Fx} (hX : Cx X cX6_go RX6 7 0 0) {r : Int32} {w1 : Wd} (hE : ∀ pc lv, decode cX6_go pc = .ok (.ireturn, 1) → narrow .boolean (.int r) = .int r → Wa X w1 pc lv [.int r])  : ∀ (n : Nat) (a : Wd × Int32 × Int32), L_X6_go_26  n a = some (r, w1) → Wa X a.1 26 [(0, .ref (Ad X 36)), (1, .int a.2.1), (2, .int a.2.2)] [] := by
  refine it_mach (P := fun (a : Wd × Int32 × Int32) => Wa X a.1 26 [(0, .ref (Ad X 36)), (1, .int a.2.1), (2, .int a.2.2)] []) ?_
  intro k26 hk26 a h
  obtain ⟨w, v1, v2⟩ := a
  have h : F_X6_go_26 k26 w v1 v2 = some (r, w1) := h
  show Wa X w 26 [(0, .ref (Ad X 36)), (1, .int v1), (2, .int v2)] []
  unfold F_X6_go_26 at h
  refine wa_iload_n hX 2 rfl rfl dX6_go_26 ?_
  refine wa_aload_n hX 0 rfl rfl dX6_go_27 ?_
  refine wg_model_padMany hX fl_X6_82 dX6_go_28 ?_
  refine wa_icmp_ge hX 207 (by decide) dX6_go_31 (fun c => ?_) (fun c => ?_)
  · replace h := itp c h
    refine wa_sub (lv2 := [(0, .ref (Ad X 36))]) [0] rfl ?_
    exact t_X6_go_207 hX hE  h
  · replace h := itn c h
    refine wa_aload_n hX 0 rfl rfl dX6_go_34 ?_
    refine wg_model_badEvent hX fl_X6_99 dX6_go_35 ?_
    refine wa_if_ge hX 207 (by decide) dX6_go_38 (fun c => ?_) (fun c => ?_)
    · replace h := itp c h
      refine wa_sub (lv2 := [(0, .ref (Ad X 36))]) [0] rfl ?_
      exact t_X6_go_207 hX hE  h
    · replace h := itn c h
      refine wa_aload_n hX 0 rfl rfl dX6_go_41 ?_
      refine wg_model_event hX fl_X6_25 dX6_go_42 ?_
      refine wa_iload_n hX 2 rfl rfl dX6_go_45 ?_
      obtain ⟨hg, h⟩ := gu_some h
      refine wl_model_event hX hg dX6_go_46 ?_
      refine wa_istore_n hX (lv2 := [(3, .int (w.2.1 42 v2.toNatClampNeg)), (0, .ref (Ad X 36)), (1, .int v1), (2, .int v2)]) rfl (by decide) rfl dX6_go_47 ?_
      refine wa_iload_n hX 0 rfl rfl dX6_go_48 ?_
      refine wa_bipush hX 32 kb_32 dX6_go_49 ?_
      refine wa_icmp_ne hX 77 (by decide) dX6_go_51 (fun c => ?_) (fun c => ?_)
      · replace h := itn c h
        refine wa_iconst hX 1 ki_1 dX6_go_77 ?_
        refine wa_iload_n hX 0 rfl rfl dX6_go_78 ?_
        refine wa_bipush hX 16 kb_16 dX6_go_79 ?_
        refine wa_irem hX (by decide) dX6_go_81 ?_
        refine wa_ishl hX dX6_go_82 ?_
        refine wa_let h (fun y1 h => ?_)
        refine wa_istore hX (lv2 := [(4, .int y1), (3, .int (w.2.1 42 v2.toNatClampNeg)), (0, .ref (Ad X 36)), (1, .int v1), (2, .int v2)]) (by decide) rfl dX6_go_83 ?_
        refine wa_iload_n hX 3 rfl rfl dX6_go_85 ?_
        refine wa_iload hX 0 rfl dX6_go_86 ?_
        refine wa_iand hX dX6_go_88 ?_
        have hJ : Wa X w 97 [(0, .ref (Ad X 36)), (1, .int v1), (2, .int v2), (3, .int (w.2.1 42 v2.toNatClampNeg)), (4, .int y1)] [.int (if (v1 &&& y1) = 0 then (0 : Int32) else 1)] := by
          refine wa_let h (fun y2 h => ?_)
          refine wa_istore hX (lv2 := [(5, .int y2), (0, .ref (Ad X 36)), (1, .int v1), (2, .int v2), (3, .int (w.2.1 42 v2.toNatClampNeg)), (4, .int y1)]) (by decide) rfl dX6_go_97 ?_
          refine wa_iload_n hX 4 rfl rfl dX6_go_99 ?_
          refine wa_bipush hX 16 kb_16 dX6_go_100 ?_
          have hJ : Wa X w 120 [(0, .ref (Ad X 36)), (1, .int v1), (2, .int v2), (3, .int (w.2.1 42 v2.toNatClampNeg)), (4, .int y1)] [.int (if 16 ≤ (w.2.1 42 v2.toNatClampNeg) then y2 else (if y2 = 0 then (1 : Int32) else 0))] := by
            refine wa_let h (fun y3 h => ?_)
            refine wa_istore hX (lv2 := [(6, .int y3), (0, .ref (Ad X 36)), (1, .int v1), (2, .int v2), (3, .int (w.2.1 42 v2.toNatClampNeg)), (4, .int y1)]) (by decide) rfl dX6_go_120 ?_
            refine wa_aload_n hX 1 rfl rfl dX6_go_122 ?_
            refine wa_iload hX 0 rfl dX6_go_123 ?_
            have hJ : Wa X w 134 [(0, .ref (Ad X 36)), (1, .int v1), (2, .int v2), (3, .int (w.2.1 42 v2.toNatClampNeg)), (4, .int y1), (6, .int y3)] [.int (if y3 = 0 then v2 else (-6)), .ref (Ad X 36)] := by
              refine wp_model_badEvent hX fl_X6_99 dX6_go_134 ?_
              refine wa_aload_n hX 0 rfl rfl dX6_go_137 ?_
              refine wa_iload hX 5 rfl dX6_go_138 ?_
              have hJ : Wa X (wI w 37 (if y3 = 0 then v2 else (-6))) 159 [(0, .ref (Ad X 36)), (1, .int v1), (2, .int v2), (3, .int (w.2.1 42 v2.toNatClampNeg)), (4, .int y1), (6, .int y3)] [.int (if y3 = 0 then (if 16 ≤ (w.2.1 42 v2.toNatClampNeg) then (2 : Int32) else 1) else (-6)), .ref (Ad X 36)] := by
                refine wp_model_badWhy hX fl_X6_102 dX6_go_159 ?_
                refine wa_aload_n hX 0 rfl rfl dX6_go_162 ?_
                refine wa_dup hX rfl dX6_go_163 ?_
                refine wg_model_comings hX fl_X6_96 dX6_go_164 ?_
                refine (show Wa X (wI (wI w 37 (if y3 = 0 then v2 else (-6))) 38 (if y3 = 0 then (if 16 ≤ (w.2.1 42 v2.toNatClampNeg) then (2 : Int32) else 1) else (-6))) 167 [(0, .ref (Ad X 36)), (1, .int v1), (2, .int v2), (3, .int (w.2.1 42 v2.toNatClampNeg)), (4, .int y1), (6, .int y3)] [.int (w.1 36), .ref (Ad X 36)] from ?_)
                refine wa_iload hX 5 rfl dX6_go_167 ?_
                have hJ : Wa X (wI (wI w 37 (if y3 = 0 then v2 else (-6))) 38 (if y3 = 0 then (if 16 ≤ (w.2.1 42 v2.toNatClampNeg) then (2 : Int32) else 1) else (-6))) 183 [(0, .ref (Ad X 36)), (1, .int v1), (2, .int v2), (4, .int y1), (6, .int y3)] [.int (if y3 = 0 then 0 else (if 16 ≤ (w.2.1 42 v2.toNatClampNeg) then (0 : Int32) else 1)), .int (w.1 36), .ref (Ad X 36)] := by
                  refine wa_iadd hX dX6_go_183 ?_
                  refine wp_model_comings hX fl_X6_96 dX6_go_184 ?_
                  refine wa_iload hX 4 rfl dX6_go_187 ?_
                  have hJ : Wa X (wI (wI (wI w 37 (if y3 = 0 then v2 else (-6))) 38 (if y3 = 0 then (if 16 ≤ (w.2.1 42 v2.toNatClampNeg) then (2 : Int32) else 1) else (-6))) 36 (w.1 36 + (if y3 = 0 then 0 else (if 16 ≤ (w.2.1 42 v2.toNatClampNeg) then (0 : Int32) else 1)))) 200 [(0, .ref (Ad X 36)), (2, .int v2)] [.int (if y3 = 0 then v1 else (v1 ^^^ y1))] := by
                    refine wa_istore_n hX (lv2 := [(1, .int (if y3 = 0 then v1 else (v1 ^^^ y1))), (0, .ref (Ad X 36)), (2, .int v2)]) rfl (by decide) rfl dX6_go_200 ?_
                    refine wa_sub (lv2 := [(0, .ref (Ad X 36)), (1, .int (if y3 = 0 then v1 else (v1 ^^^ y1))), (2, .int v2)]) [1, 0, 2] rfl ?_
                    exact t_X6_go_201 hX hE hk26 h
                  refine wa_if_eq hX 199 (by decide) dX6_go_189 (fun c => ?_) (fun c => ?_)
                  · refine wa_iload_n hX 1 rfl rfl dX6_go_199 ?_
                    refine wa_sub (lv2 := [(0, .ref (Ad X 36)), (2, .int v2)]) [0, 2] rfl ?_
                    rw [show (if y3 = 0 then v1 else (v1 ^^^ y1)) = v1 from if_pos c] at hJ
                    exact hJ
                  · refine wa_iload_n hX 1 rfl rfl dX6_go_192 ?_
                    refine wa_iload hX 3 rfl dX6_go_193 ?_
                    refine wa_ixor hX dX6_go_195 ?_
                    refine wa_goto hX 200 (by decide) dX6_go_196 ?_
                    refine wa_sub (lv2 := [(0, .ref (Ad X 36)), (2, .int v2)]) [0, 2] rfl ?_
                    rw [show (if y3 = 0 then v1 else (v1 ^^^ y1)) = (v1 ^^^ y1) from if_neg c] at hJ
                    exact hJ
                refine wa_if_eq hX 182 (by decide) dX6_go_169 (fun c => ?_) (fun c => ?_)
                · refine wa_iconst hX 0 ki_0 dX6_go_182 ?_
                  refine wa_sub (lv2 := [(0, .ref (Ad X 36)), (1, .int v1), (2, .int v2), (4, .int y1), (6, .int y3)]) [0, 1, 2, 4, 5] rfl ?_
                  rw [show (if y3 = 0 then 0 else (if 16 ≤ (w.2.1 42 v2.toNatClampNeg) then (0 : Int32) else 1)) = 0 from if_pos c] at hJ
                  exact hJ
                · refine wa_iload_n hX 3 rfl rfl dX6_go_172 ?_
                  refine wa_bipush hX 16 kb_16 dX6_go_173 ?_
                  have hI : Wa X (wI (wI w 37 (if y3 = 0 then v2 else (-6))) 38 (if y3 = 0 then (if 16 ≤ (w.2.1 42 v2.toNatClampNeg) then (2 : Int32) else 1) else (-6))) 183 [(0, .ref (Ad X 36)), (1, .int v1), (2, .int v2), (4, .int y1), (6, .int y3)] [.int (if 16 ≤ (w.2.1 42 v2.toNatClampNeg) then (0 : Int32) else 1), .int (w.1 36), .ref (Ad X 36)] := by
                    rw [show (if y3 = 0 then 0 else (if 16 ≤ (w.2.1 42 v2.toNatClampNeg) then (0 : Int32) else 1)) = (if 16 ≤ (w.2.1 42 v2.toNatClampNeg) then (0 : Int32) else 1) from if_neg c] at hJ
                    exact hJ
                  refine wa_icmp_ge hX 182 (by decide) dX6_go_175 (fun c2 => ?_) (fun c2 => ?_)
                  · refine wa_iconst hX 0 ki_0 dX6_go_182 ?_
                    refine wa_sub (lv2 := [(0, .ref (Ad X 36)), (1, .int v1), (2, .int v2), (4, .int y1), (6, .int y3)]) [0, 1, 2, 4, 5] rfl ?_
                    rw [show (if 16 ≤ (w.2.1 42 v2.toNatClampNeg) then (0 : Int32) else 1) = 0 from if_pos c2] at hI
                    exact hI
                  · refine wa_iconst hX 1 ki_1 dX6_go_178 ?_
                    refine wa_goto hX 183 (by decide) dX6_go_179 ?_
                    refine wa_sub (lv2 := [(0, .ref (Ad X 36)), (1, .int v1), (2, .int v2), (4, .int y1), (6, .int y3)]) [0, 1, 2, 4, 5] rfl ?_
                    rw [show (if 16 ≤ (w.2.1 42 v2.toNatClampNeg) then (0 : Int32) else 1) = 1 from if_neg c2] at hI
                    exact hI
              refine wa_if_eq hX 148 (by decide) dX6_go_140 (fun c => ?_) (fun c => ?_)
              · refine wa_iload_n hX 3 rfl rfl dX6_go_148 ?_
                refine wa_bipush hX 16 kb_16 dX6_go_149 ?_
                have hI : Wa X (wI w 37 (if y3 = 0 then v2 else (-6))) 159 [(0, .ref (Ad X 36)), (1, .int v1), (2, .int v2), (3, .int (w.2.1 42 v2.toNatClampNeg)), (4, .int y1), (6, .int y3)] [.int (if 16 ≤ (w.2.1 42 v2.toNatClampNeg) then (2 : Int32) else 1), .ref (Ad X 36)] := by
                  rw [show (if y3 = 0 then (if 16 ≤ (w.2.1 42 v2.toNatClampNeg) then (2 : Int32) else 1) else (-6)) = (if 16 ≤ (w.2.1 42 v2.toNatClampNeg) then (2 : Int32) else 1) from if_pos c] at hJ
                  exact hJ
                refine wa_icmp_ge hX 158 (by decide) dX6_go_151 (fun c2 => ?_) (fun c2 => ?_)
                · refine wa_iconst hX 2 ki_2 dX6_go_158 ?_
                  rw [show (if 16 ≤ (w.2.1 42 v2.toNatClampNeg) then (2 : Int32) else 1) = 2 from if_pos c2] at hI
                  exact hI
                · refine wa_iconst hX 1 ki_1 dX6_go_154 ?_
                  refine wa_goto hX 159 (by decide) dX6_go_155 ?_
                  rw [show (if 16 ≤ (w.2.1 42 v2.toNatClampNeg) then (2 : Int32) else 1) = 1 from if_neg c2] at hI
                  exact hI
              · refine wa_bipush hX (-6) kb_m6 dX6_go_143 ?_
                refine wa_goto hX 159 (by decide) dX6_go_145 ?_
                rw [show (if y3 = 0 then (if 16 ≤ (w.2.1 42 v2.toNatClampNeg) then (2 : Int32) else 1) else (-6)) = (-6) from if_neg c] at hJ
                exact hJ
            refine wa_if_eq hX 133 (by decide) dX6_go_125 (fun c => ?_) (fun c => ?_)
            · refine wa_iload_n hX 3 rfl rfl dX6_go_133 ?_
              refine wa_sub (lv2 := [(0, .ref (Ad X 36)), (1, .int v1), (2, .int v2), (3, .int (w.2.1 42 v2.toNatClampNeg)), (4, .int y1), (6, .int y3)]) [1, 2, 3, 4, 5, 0] rfl ?_
              rw [show (if y3 = 0 then v2 else (-6)) = v2 from if_pos c] at hJ
              exact hJ
            · refine wa_bipush hX (-6) kb_m6 dX6_go_128 ?_
              refine wa_goto hX 134 (by decide) dX6_go_130 ?_
              refine wa_sub (lv2 := [(0, .ref (Ad X 36)), (1, .int v1), (2, .int v2), (3, .int (w.2.1 42 v2.toNatClampNeg)), (4, .int y1), (6, .int y3)]) [1, 2, 3, 4, 5, 0] rfl ?_
              rw [show (if y3 = 0 then v2 else (-6)) = (-6) from if_neg c] at hJ
              exact hJ
          refine wa_icmp_ge hX 118 (by decide) dX6_go_102 (fun c => ?_) (fun c => ?_)
          · refine wa_iload hX 0 rfl dX6_go_118 ?_
            refine wa_sub (lv2 := [(0, .ref (Ad X 36)), (1, .int v1), (2, .int v2), (3, .int (w.2.1 42 v2.toNatClampNeg)), (4, .int y1)]) [1, 2, 3, 4, 5] rfl ?_
            rw [show (if 16 ≤ (w.2.1 42 v2.toNatClampNeg) then y2 else (if y2 = 0 then (1 : Int32) else 0)) = y2 from if_pos c] at hJ
            exact hJ
          · refine wa_iload hX 0 rfl dX6_go_105 ?_
            have hI : Wa X w 120 [(0, .ref (Ad X 36)), (1, .int v1), (2, .int v2), (3, .int (w.2.1 42 v2.toNatClampNeg)), (4, .int y1)] [.int (if y2 = 0 then (1 : Int32) else 0)] := by
              rw [show (if 16 ≤ (w.2.1 42 v2.toNatClampNeg) then y2 else (if y2 = 0 then (1 : Int32) else 0)) = (if y2 = 0 then (1 : Int32) else 0) from if_neg c] at hJ
              exact hJ
            refine wa_if_ne hX 114 (by decide) dX6_go_107 (fun c2 => ?_) (fun c2 => ?_)
            · refine wa_iconst hX 0 ki_0 dX6_go_114 ?_
              refine wa_goto hX 120 (by decide) dX6_go_115 ?_
              refine wa_sub (lv2 := [(0, .ref (Ad X 36)), (1, .int v1), (2, .int v2), (3, .int (w.2.1 42 v2.toNatClampNeg)), (4, .int y1)]) [1, 2, 3, 4, 5] rfl ?_
              rw [show (if y2 = 0 then (1 : Int32) else 0) = 0 from if_neg c2] at hI
              exact hI
            · refine wa_iconst hX 1 ki_1 dX6_go_110 ?_
              refine wa_goto hX 120 (by decide) dX6_go_111 ?_
              refine wa_sub (lv2 := [(0, .ref (Ad X 36)), (1, .int v1), (2, .int v2), (3, .int (w.2.1 42 v2.toNatClampNeg)), (4, .int y1)]) [1, 2, 3, 4, 5] rfl ?_
              rw [show (if y2 = 0 then (1 : Int32) else 0) = 1 from if_pos c2] at hI
              exact hI
        refine wa_if_eq hX 96 (by decide) dX6_go_89 (fun c => ?_) (fun c => ?_)
        · refine wa_iconst hX 0 ki_0 dX6_go_96 ?_
          refine wa_sub (lv2 := [(0, .ref (Ad X 36)), (1, .int v1), (2, .int v2), (3, .int (w.2.1 42 v2.toNatClampNeg)), (4, .int y1)]) [2, 3, 4, 1, 0] rfl ?_
          rw [show (if (v1 &&& y1) = 0 then (0 : Int32) else 1) = 0 from if_pos c] at hJ
          exact hJ
        · refine wa_iconst hX 1 ki_1 dX6_go_92 ?_
          refine wa_goto hX 97 (by decide) dX6_go_93 ?_
          refine wa_sub (lv2 := [(0, .ref (Ad X 36)), (1, .int v1), (2, .int v2), (3, .int (w.2.1 42 v2.toNatClampNeg)), (4, .int y1)]) [2, 3, 4, 1, 0] rfl ?_
          rw [show (if (v1 &&& y1) = 0 then (0 : Int32) else 1) = 1 from if_neg c] at hJ
          exact hJ
      · replace h := itp c h
        refine wa_aload_n hX 1 rfl rfl dX6_go_54 ?_
        refine wg_model_on hX fl_X6_28 dX6_go_55 ?_
        refine wa_aload_n hX 1 rfl rfl dX6_go_58 ?_
        refine wg_model_lines hX fl_X6_93 dX6_go_59 ?_
        refine wa_iload_n hX 2 rfl rfl dX6_go_62 ?_
        obtain ⟨hg, h⟩ := gu_some h
        refine ws_model_on hX hg dX6_go_63 ?_
        refine wa_aload_n hX 1 rfl rfl dX6_go_64 ?_
        refine wa_dup hX rfl dX6_go_65 ?_
        refine wg_model_lines hX fl_X6_93 dX6_go_66 ?_
        refine (show Wa X (wA w 43 (w.1 35) v1) 69 [(3, .int (w.2.1 42 v2.toNatClampNeg)), (0, .ref (Ad X 36)), (1, .int v1), (2, .int v2)] [.int (w.1 35), .ref (Ad X 36)] from ?_)
        refine wa_iconst hX 1 ki_1 dX6_go_69 ?_
        refine wa_iadd hX dX6_go_70 ?_
        refine wp_model_lines hX fl_X6_93 dX6_go_71 ?_
        refine wa_goto hX 201 (by decide) dX6_go_74 ?_
        refine wa_sub (lv2 := [(0, .ref (Ad X 36)), (1, .int v1), (2, .int v2)]) [1, 2, 3] rfl ?_
        exact t_X6_go_201 hX hE hk26 h
set_option maxRecDepth 100000 in
set_option maxHeartbeats 4000000 in
theorem m_X6_go {w w1 : Wd} {r : Int32} (h : F_X6_go w  = some (r, w1)) : Gi yX6_go cX6_go 7 (some .boolean) 0 0 (fun E => [.ref (E.2.1 36)]) w w1 r := by
  refine Gi.of (hy := by decide +kernel) (hlen := fun _ => Nat.le_of_ble_eq_true rfl) (fun X hX hE => ?_)
  · unfold F_X6_go at h
    refine (show Wa X w 0 [(0, .ref (Ad X 36))] [] from ?_)
    refine wa_iconst hX 0 ki_0 dX6_go_0 ?_
    refine wa_istore_n hX (lv2 := [(1, .int 0), (0, .ref (Ad X 36))]) rfl (by decide) rfl dX6_go_1 ?_
    refine wa_aload_n hX 1 rfl rfl dX6_go_2 ?_
    refine wa_iconst hX 0 ki_0 dX6_go_3 ?_
    refine wp_model_lines hX fl_X6_93 dX6_go_4 ?_
    refine wa_aload_n hX 1 rfl rfl dX6_go_7 ?_
    refine wa_iconst hX 0 ki_0 dX6_go_8 ?_
    refine wp_model_comings hX fl_X6_96 dX6_go_9 ?_
    refine wa_aload_n hX 1 rfl rfl dX6_go_12 ?_
    refine wa_bipush hX (-6) kb_m6 dX6_go_13 ?_
    refine wp_model_badEvent hX fl_X6_99 dX6_go_15 ?_
    refine wa_aload_n hX 1 rfl rfl dX6_go_18 ?_
    refine wa_bipush hX (-6) kb_m6 dX6_go_19 ?_
    refine wp_model_badWhy hX fl_X6_102 dX6_go_21 ?_
    refine wa_iconst hX 0 ki_0 dX6_go_24 ?_
    refine wa_istore_n hX (lv2 := [(2, .int 0), (1, .int 0), (0, .ref (Ad X 36))]) rfl (by decide) rfl dX6_go_25 ?_
    refine wa_sub (lv2 := [(0, .ref (Ad X 36)), (1, .int 0), (2, .int 0)]) [2, 1, 0] rfl ?_
    exact t_X6_go_26 hX hE  _ _ h
set_option maxRecDepth 100000 in
set_option maxHeartbeats 4000000 in
theorem t_X6_ones_4 {X : Fx} (hX : Cx X cX6_ones RX6 3 0 0) {r : Int32} {w1 : Wd} (hE : ∀ pc lv, decode cX6_ones pc = .ok (.ireturn, 1) → narrow .int (.int r) = .int r → Wa X w1 pc lv [.int r])  : ∀ (n : Nat) (a : Wd × Int32 × Int32), L_X6_ones_4  n a = some (r, w1) → Wa X a.1 4 [(1, .int a.2.1), (2, .int a.2.2)] [] := by
  refine it_mach (P := fun (a : Wd × Int32 × Int32) => Wa X a.1 4 [(1, .int a.2.1), (2, .int a.2.2)] []) ?_
  intro k4 hk4 a h
  obtain ⟨w, v1, v2⟩ := a
  have h : F_X6_ones_4 k4 w v1 v2 = some (r, w1) := h
  show Wa X w 4 [(1, .int v1), (2, .int v2)] []
  unfold F_X6_ones_4 at h
  refine wa_iload_n hX 1 rfl rfl dX6_ones_4 ?_
  refine wa_if_eq hX 20 (by decide) dX6_ones_5 (fun c => ?_) (fun c => ?_)
  · replace h := itp c h
    refine wa_iload_n hX 0 rfl rfl dX6_ones_20 ?_
    exact ret_i hE h dX6_ones_21
  · replace h := itn c h
    refine wa_iinc hX (v := (v1 + 1)) (lv2 := [(1, .int (v1 + 1)), (2, .int v2)]) 0 rfl rfl (by decide) rfl dX6_ones_8 ?_
    refine wa_iload_n hX 1 rfl rfl dX6_ones_11 ?_
    refine wa_iload_n hX 1 rfl rfl dX6_ones_12 ?_
    refine wa_iconst hX 1 ki_1 dX6_ones_13 ?_
    refine wa_isub hX dX6_ones_14 ?_
    refine wa_iand hX dX6_ones_15 ?_
    refine wa_istore_n hX (lv2 := [(2, .int (v2 &&& (v2 - 1))), (1, .int (v1 + 1))]) rfl (by decide) rfl dX6_ones_16 ?_
    refine wa_goto hX 4 (by decide) dX6_ones_17 ?_
    refine wa_sub (lv2 := [(1, .int (v1 + 1)), (2, .int (v2 &&& (v2 - 1)))]) [1, 0] rfl ?_
    exact hk4 _ h
set_option maxRecDepth 100000 in
set_option maxHeartbeats 4000000 in
theorem m_X6_ones {w w1 : Wd} {p0 : Int32} {r : Int32} (h : F_X6_ones w p0 = some (r, w1)) : Gi yX6_ones cX6_ones 3 (some .int) 0 0 (fun E => [.int p0]) w w1 r := by
  refine Gi.of (hy := by decide +kernel) (hlen := fun _ => Nat.le_of_ble_eq_true rfl) (fun X hX hE => ?_)
  · unfold F_X6_ones at h
    refine (show Wa X w 0 [(0, .int p0)] [] from ?_)
    refine wa_iconst hX 0 ki_0 dX6_ones_0 ?_
    refine wa_istore_n hX (lv2 := [(1, .int 0), (0, .int p0)]) rfl (by decide) rfl dX6_ones_1 ?_
    refine wa_iload_n hX 1 rfl rfl dX6_ones_2 ?_
    refine wa_istore_n hX (lv2 := [(2, .int p0), (1, .int 0), (0, .int p0)]) rfl (by decide) rfl dX6_ones_3 ?_
    refine wa_sub (lv2 := [(1, .int 0), (2, .int p0)]) [1, 0] rfl ?_
    exact t_X6_ones_4 hX hE  _ _ h
set_option maxRecDepth 100000 in
set_option maxHeartbeats 4000000 in
theorem m_X6_holds {w w1 : Wd} {p1 : Int32} {p2 : Int32} {r : Int32} (h : F_X6_holds w p1 p2 = some (r, w1)) : Gi yX6_holds cX6_holds 3 (some .boolean) 0 0 (fun E => [.ref (E.2.1 36), .int p1, .int p2]) w w1 r := by
  refine Gi.of (hy := by decide +kernel) (hlen := fun _ => Nat.le_of_ble_eq_true rfl) (fun X hX hE => ?_)
  · unfold F_X6_holds at h
    refine (show Wa X w 0 [(0, .ref (Ad X 36)), (1, .int p1), (2, .int p2)] [] from ?_)
    refine wa_aload_n hX 0 rfl rfl dX6_holds_0 ?_
    refine wg_model_law hX fl_X6_72 dX6_holds_1 ?_
    have hJ : Wa X w 67 [] [.int (if (w.1 29) = 0 then (if p1 = (w.1 30) then (1 : Int32) else 0) else (if (w.1 29) = 1 then (if (p1 - p1 / 2 * 2) = 1 then (1 : Int32) else 0) else (if p1 < (if 0 ≤ p2 then p2 else w.1 30) then (0 : Int32) else 1)))] := by
      obtain ⟨hg, h⟩ := gu_some h
      exact ret_z hE h (isB_or hg) dX6_holds_67
    refine wa_if_ne hX 23 (by decide) dX6_holds_4 (fun c => ?_) (fun c => ?_)
    · refine wa_aload_n hX 0 rfl rfl dX6_holds_23 ?_
      refine wg_model_law hX fl_X6_72 dX6_holds_24 ?_
      refine wa_iconst hX 1 ki_1 dX6_holds_27 ?_
      have hI : Wa X w 67 [] [.int (if (w.1 29) = 1 then (if (p1 - p1 / 2 * 2) = 1 then (1 : Int32) else 0) else (if p1 < (if 0 ≤ p2 then p2 else w.1 30) then (0 : Int32) else 1))] := by
        rw [show (if (w.1 29) = 0 then (if p1 = (w.1 30) then (1 : Int32) else 0) else (if (w.1 29) = 1 then (if (p1 - p1 / 2 * 2) = 1 then (1 : Int32) else 0) else (if p1 < (if 0 ≤ p2 then p2 else w.1 30) then (0 : Int32) else 1))) = (if (w.1 29) = 1 then (if (p1 - p1 / 2 * 2) = 1 then (1 : Int32) else 0) else (if p1 < (if 0 ≤ p2 then p2 else w.1 30) then (0 : Int32) else 1)) from if_neg c] at hJ
        exact hJ
      refine wa_icmp_ne hX 46 (by decide) dX6_holds_28 (fun c2 => ?_) (fun c2 => ?_)
      · refine wa_iload_n hX 1 rfl rfl dX6_holds_46 ?_
        refine wa_iload_n hX 2 rfl rfl dX6_holds_47 ?_
        have hK4 : Wa X w 59 [] [.int (if 0 ≤ p2 then p2 else w.1 30), .int p1] := by
          have hK5 : Wa X w 67 [] [.int (if p1 < (if 0 ≤ p2 then p2 else w.1 30) then (0 : Int32) else 1)] := by
            rw [show (if (w.1 29) = 1 then (if (p1 - p1 / 2 * 2) = 1 then (1 : Int32) else 0) else (if p1 < (if 0 ≤ p2 then p2 else w.1 30) then (0 : Int32) else 1)) = (if p1 < (if 0 ≤ p2 then p2 else w.1 30) then (0 : Int32) else 1) from if_neg c2] at hI
            exact hI
          refine wa_icmp_lt hX 66 (by decide) dX6_holds_59 (fun c15 => ?_) (fun c15 => ?_)
          · refine wa_iconst hX 0 ki_0 dX6_holds_66 ?_
            rw [show (if p1 < (if 0 ≤ p2 then p2 else w.1 30) then (0 : Int32) else 1) = 0 from if_pos c15] at hK5
            exact hK5
          · refine wa_iconst hX 1 ki_1 dX6_holds_62 ?_
            refine wa_goto hX 67 (by decide) dX6_holds_63 ?_
            rw [show (if p1 < (if 0 ≤ p2 then p2 else w.1 30) then (0 : Int32) else 1) = 1 from if_neg c15] at hK5
            exact hK5
        refine wa_if_ge hX 58 (by decide) dX6_holds_48 (fun c14 => ?_) (fun c14 => ?_)
        · refine wa_iload_n hX 2 rfl rfl dX6_holds_58 ?_
          refine wa_sub (lv2 := []) [] rfl ?_
          rw [show (if 0 ≤ p2 then p2 else w.1 30) = p2 from if_pos c14] at hK4
          exact hK4
        · refine wa_aload_n hX 0 rfl rfl dX6_holds_51 ?_
          refine wg_model_just hX fl_X6_56 dX6_holds_52 ?_
          refine wa_goto hX 59 (by decide) dX6_holds_55 ?_
          refine wa_sub (lv2 := []) [] rfl ?_
          rw [show (if 0 ≤ p2 then p2 else w.1 30) = w.1 30 from if_neg c14] at hK4
          exact hK4
      · refine wa_iload_n hX 1 rfl rfl dX6_holds_31 ?_
        refine wa_iconst hX 2 ki_2 dX6_holds_32 ?_
        refine wa_irem hX (by decide) dX6_holds_33 ?_
        refine wa_iconst hX 1 ki_1 dX6_holds_34 ?_
        have hK4 : Wa X w 67 [] [.int (if (p1 - p1 / 2 * 2) = 1 then (1 : Int32) else 0)] := by
          rw [show (if (w.1 29) = 1 then (if (p1 - p1 / 2 * 2) = 1 then (1 : Int32) else 0) else (if p1 < (if 0 ≤ p2 then p2 else w.1 30) then (0 : Int32) else 1)) = (if (p1 - p1 / 2 * 2) = 1 then (1 : Int32) else 0) from if_pos c2] at hI
          exact hI
        refine wa_icmp_ne hX 42 (by decide) dX6_holds_35 (fun c14 => ?_) (fun c14 => ?_)
        · refine wa_iconst hX 0 ki_0 dX6_holds_42 ?_
          refine wa_goto hX 67 (by decide) dX6_holds_43 ?_
          refine wa_sub (lv2 := []) [] rfl ?_
          rw [show (if (p1 - p1 / 2 * 2) = 1 then (1 : Int32) else 0) = 0 from if_neg c14] at hK4
          exact hK4
        · refine wa_iconst hX 1 ki_1 dX6_holds_38 ?_
          refine wa_goto hX 67 (by decide) dX6_holds_39 ?_
          refine wa_sub (lv2 := []) [] rfl ?_
          rw [show (if (p1 - p1 / 2 * 2) = 1 then (1 : Int32) else 0) = 1 from if_pos c14] at hK4
          exact hK4
    · refine wa_iload_n hX 1 rfl rfl dX6_holds_7 ?_
      refine wa_aload_n hX 0 rfl rfl dX6_holds_8 ?_
      refine wg_model_just hX fl_X6_56 dX6_holds_9 ?_
      have hI : Wa X w 67 [] [.int (if p1 = (w.1 30) then (1 : Int32) else 0)] := by
        rw [show (if (w.1 29) = 0 then (if p1 = (w.1 30) then (1 : Int32) else 0) else (if (w.1 29) = 1 then (if (p1 - p1 / 2 * 2) = 1 then (1 : Int32) else 0) else (if p1 < (if 0 ≤ p2 then p2 else w.1 30) then (0 : Int32) else 1))) = (if p1 = (w.1 30) then (1 : Int32) else 0) from if_pos c] at hJ
        exact hJ
      refine wa_icmp_ne hX 19 (by decide) dX6_holds_12 (fun c2 => ?_) (fun c2 => ?_)
      · refine wa_iconst hX 0 ki_0 dX6_holds_19 ?_
        refine wa_goto hX 67 (by decide) dX6_holds_20 ?_
        refine wa_sub (lv2 := []) [] rfl ?_
        rw [show (if p1 = (w.1 30) then (1 : Int32) else 0) = 0 from if_neg c2] at hI
        exact hI
      · refine wa_iconst hX 1 ki_1 dX6_holds_15 ?_
        refine wa_goto hX 67 (by decide) dX6_holds_16 ?_
        refine wa_sub (lv2 := []) [] rfl ?_
        rw [show (if p1 = (w.1 30) then (1 : Int32) else 0) = 1 from if_pos c2] at hI
        exact hI
set_option maxRecDepth 100000 in
set_option maxHeartbeats 4000000 in
theorem t_X6_breaking_40 {X : Fx} (hX : Cx X cX6_breaking RX6 2 1 22) {r : Int32} {w1 : Wd} (hE : ∀ pc lv, decode cX6_breaking pc = .ok (.ireturn, 1) → narrow .int (.int r) = .int r → Wa X w1 pc lv [.int r]) {k2 : Wd × Int32 → Option (Int32 × Wd)} (hk2 : ∀ a, k2 a = some (r, w1) → Wa X a.1 2 [(0, .ref (Ad X 36)), (1, .int a.2)] []) {w : Wd} {v1 : Int32} {s0 : Int32} {s1 : Int32} (h : F_X6_breaking_40 k2 w v1 s0 s1 = some (r, w1)) : Wa X w 40 [(0, .ref (Ad X 36)), (1, .int v1)] [.int s0, .int s1, .ref (Ad X 36)] := by
  unfold F_X6_breaking_40 at h
  obtain ⟨x3, h2, h⟩ := obind h
  refine wa_callVi hX (m_X6_holds h2) cx_X6_holds ml_X6_123 (As := [.int s1, .int s0]) (rest := []) 36 (ce_model _ _) rfl rfl rfl rfl ⟨Nat.le_of_ble_eq_true rfl, Nat.le_of_ble_eq_true rfl⟩ (Nat.le_of_ble_eq_true rfl) dX6_breaking_40 ?_
  refine wa_if_ne hX 48 (by decide) dX6_breaking_43 (fun c => ?_) (fun c => ?_)
  · replace h := itn c h
    refine wa_iinc hX (v := (v1 + 1)) (lv2 := [(1, .int (v1 + 1)), (0, .ref (Ad X 36))]) 1 rfl rfl (by decide) rfl dX6_breaking_48 ?_
    refine wa_goto hX 2 (by decide) dX6_breaking_51 ?_
    refine wa_sub (lv2 := [(0, .ref (Ad X 36)), (1, .int (v1 + 1))]) [1, 0] rfl ?_
    exact hk2 _ h
  · replace h := itp c h
    refine wa_iload_n hX 1 rfl rfl dX6_breaking_46 ?_
    exact ret_i hE h dX6_breaking_47
set_option maxRecDepth 100000 in
set_option maxHeartbeats 4000000 in
theorem t_X6_breaking_2 {X : Fx} (hX : Cx X cX6_breaking RX6 2 1 22) {r : Int32} {w1 : Wd} (hE : ∀ pc lv, decode cX6_breaking pc = .ok (.ireturn, 1) → narrow .int (.int r) = .int r → Wa X w1 pc lv [.int r])  : ∀ (n : Nat) (a : Wd × Int32), L_X6_breaking_2  n a = some (r, w1) → Wa X a.1 2 [(0, .ref (Ad X 36)), (1, .int a.2)] [] := by
  refine it_mach (P := fun (a : Wd × Int32) => Wa X a.1 2 [(0, .ref (Ad X 36)), (1, .int a.2)] []) ?_
  intro k2 hk2 a h
  obtain ⟨w, v1⟩ := a
  have h : F_X6_breaking_2 k2 w v1 = some (r, w1) := h
  show Wa X w 2 [(0, .ref (Ad X 36)), (1, .int v1)] []
  unfold F_X6_breaking_2 at h
  refine wa_iload_n hX 1 rfl rfl dX6_breaking_2 ?_
  refine wa_aload_n hX 0 rfl rfl dX6_breaking_3 ?_
  refine wg_model_lines hX fl_X6_93 dX6_breaking_4 ?_
  refine wa_icmp_ge hX 54 (by decide) dX6_breaking_7 (fun c => ?_) (fun c => ?_)
  · replace h := itp c h
    refine wa_bipush hX (-6) kb_m6 dX6_breaking_54 ?_
    exact ret_i hE h dX6_breaking_56
  · replace h := itn c h
    refine wa_aload_n hX 0 rfl rfl dX6_breaking_10 ?_
    refine wa_aload_n hX 0 rfl rfl dX6_breaking_11 ?_
    refine wg_model_on hX fl_X6_28 dX6_breaking_12 ?_
    refine wa_iload_n hX 1 rfl rfl dX6_breaking_15 ?_
    obtain ⟨hg, h⟩ := gu_some h
    refine wl_model_on hX hg dX6_breaking_16 ?_
    obtain ⟨x1, h2, h⟩ := obind h
    refine wa_callSi hX (m_X6_ones h2) cx_X6_ones ml_X6_119 (As := [.int (w.2.1 43 v1.toNatClampNeg)]) (rest := [.ref (Ad X 36)]) rfl rfl rfl ⟨Nat.le_of_ble_eq_true rfl, Nat.le_of_ble_eq_true rfl⟩ (Nat.le_of_ble_eq_true rfl) dX6_breaking_17 ?_
    refine wa_iload_n hX 1 rfl rfl dX6_breaking_20 ?_
    refine wa_if_ne hX 29 (by decide) dX6_breaking_21 (fun c => ?_) (fun c => ?_)
    · replace h := itn c h
      refine wa_aload_n hX 0 rfl rfl dX6_breaking_29 ?_
      refine wg_model_on hX fl_X6_28 dX6_breaking_30 ?_
      refine wa_iload_n hX 1 rfl rfl dX6_breaking_33 ?_
      refine wa_iconst hX 1 ki_1 dX6_breaking_34 ?_
      refine wa_isub hX dX6_breaking_35 ?_
      obtain ⟨hg, h⟩ := gu_some h
      refine wl_model_on hX hg dX6_breaking_36 ?_
      obtain ⟨x2, h2, h⟩ := obind h
      refine wa_callSi hX (m_X6_ones h2) cx_X6_ones ml_X6_119 (As := [.int (x1.2.2.1 43 (v1 - 1).toNatClampNeg)]) (rest := [.int x1.1, .ref (Ad X 36)]) rfl rfl rfl ⟨Nat.le_of_ble_eq_true rfl, Nat.le_of_ble_eq_true rfl⟩ (Nat.le_of_ble_eq_true rfl) dX6_breaking_37 ?_
      exact t_X6_breaking_40 hX hE hk2 h
    · replace h := itp c h
      refine wa_bipush hX (-6) kb_m6 dX6_breaking_24 ?_
      refine wa_goto hX 40 (by decide) dX6_breaking_26 ?_
      exact t_X6_breaking_40 hX hE hk2 h
set_option maxRecDepth 100000 in
set_option maxHeartbeats 4000000 in
theorem m_X6_breaking {w w1 : Wd} {r : Int32} (h : F_X6_breaking w  = some (r, w1)) : Gi yX6_breaking cX6_breaking 2 (some .int) 1 22 (fun E => [.ref (E.2.1 36)]) w w1 r := by
  refine Gi.of (hy := by decide +kernel) (hlen := fun _ => Nat.le_of_ble_eq_true rfl) (fun X hX hE => ?_)
  · unfold F_X6_breaking at h
    refine (show Wa X w 0 [(0, .ref (Ad X 36))] [] from ?_)
    refine wa_iconst hX 0 ki_0 dX6_breaking_0 ?_
    refine wa_istore_n hX (lv2 := [(1, .int 0), (0, .ref (Ad X 36))]) rfl (by decide) rfl dX6_breaking_1 ?_
    refine wa_sub (lv2 := [(0, .ref (Ad X 36)), (1, .int 0)]) [1, 0] rfl ?_
    exact t_X6_breaking_2 hX hE  _ _ h
set_option maxRecDepth 100000 in
set_option maxHeartbeats 4000000 in
theorem t_X6_judge_62 {X : Fx} (hX : Cx X cX6_judge RX6 3 2 49) {r : Int32} {w1 : Wd} (hE : ∀ pc lv, decode cX6_judge pc = .ok (.ireturn, 1) → narrow .int (.int r) = .int r → Wa X w1 pc lv [.int r])  {w : Wd} {s0 : Int32} (h : F_X6_judge_62 w s0 = some (r, w1)) : Wa X w 62 [] [.int s0] := by
  unfold F_X6_judge_62 at h
  exact ret_i hE h dX6_judge_62
set_option maxRecDepth 100000 in
set_option maxHeartbeats 4000000 in
theorem m_X6_judge {w w1 : Wd} {p1 : Int32} {r : Int32} (h : F_X6_judge w p1 = some (r, w1)) : Gi yX6_judge cX6_judge 3 (some .int) 2 49 (fun E => [.ref (E.2.1 36), .int p1]) w w1 r := by
  refine Gi.of (hy := by decide +kernel) (hlen := fun _ => Nat.le_of_ble_eq_true rfl) (fun X hX hE => ?_)
  · unfold F_X6_judge at h
    refine (show Wa X w 0 [(0, .ref (Ad X 36)), (1, .int p1)] [] from ?_)
    refine wa_iload_n hX 1 rfl rfl dX6_judge_0 ?_
    refine wa_i2l hX dX6_judge_1 ?_
    refine wa_lconst hX 0 rfl dX6_judge_2 ?_
    refine wa_ldc2 hX kc_X6_66 dX6_judge_3 ?_
    obtain ⟨x1, h2, h⟩ := obind h
    refine wa_callSi hX (m_X6_in h2) cx_X6_in ml_X6_62 (As := [.long p1.toInt64, .long 0, .long 2]) (rest := []) rfl rfl rfl ⟨Nat.le_of_ble_eq_true rfl, Nat.le_of_ble_eq_true rfl⟩ (Nat.le_of_ble_eq_true rfl) dX6_judge_6 ?_
    refine wa_if_ne hX 15 (by decide) dX6_judge_9 (fun c => ?_) (fun c => ?_)
    · replace h := itn c h
      refine wa_aload_n hX 0 rfl rfl dX6_judge_15 ?_
      obtain ⟨x2, h2, h⟩ := obind h
      refine wa_callVi hX (m_X6_fault h2) cx_X6_fault ml_X6_105 (As := []) (rest := []) 36 (ce_model _ _) rfl rfl rfl rfl ⟨Nat.le_of_ble_eq_true rfl, Nat.le_of_ble_eq_true rfl⟩ (Nat.le_of_ble_eq_true rfl) dX6_judge_16 ?_
      refine wa_if_lt hX 25 (by decide) dX6_judge_19 (fun c => ?_) (fun c => ?_)
      · replace h := itp c h
        refine wa_aload_n hX 0 rfl rfl dX6_judge_25 ?_
        obtain ⟨x3, h2, h⟩ := obind h
        refine wa_callVi hX (m_X6_marks h2) cx_X6_marks ml_X6_109 (As := []) (rest := []) 36 (ce_model _ _) rfl rfl rfl rfl ⟨Nat.le_of_ble_eq_true rfl, Nat.le_of_ble_eq_true rfl⟩ (Nat.le_of_ble_eq_true rfl) dX6_judge_26 ?_
        refine wa_if_le hX 35 (by decide) dX6_judge_29 (fun c => ?_) (fun c => ?_)
        · replace h := itp c h
          refine wa_aload_n hX 0 rfl rfl dX6_judge_35 ?_
          obtain ⟨x4, h2, h⟩ := obind h
          refine wa_callVv hX (m_X6_layEvents h2) cx_X6_layEvents ml_X6_112 (As := []) (rest := []) 36 (ce_model _ _) rfl rfl rfl rfl ⟨Nat.le_of_ble_eq_true rfl, Nat.le_of_ble_eq_true rfl⟩ (Nat.le_of_ble_eq_true rfl) dX6_judge_36 ?_
          refine wa_aload_n hX 0 rfl rfl dX6_judge_39 ?_
          obtain ⟨x5, h2, h⟩ := obind h
          refine wa_callVi hX (m_X6_go h2) cx_X6_go ml_X6_115 (As := []) (rest := []) 36 (ce_model _ _) rfl rfl rfl rfl ⟨Nat.le_of_ble_eq_true rfl, Nat.le_of_ble_eq_true rfl⟩ (Nat.le_of_ble_eq_true rfl) dX6_judge_40 ?_
          refine wa_istore_n hX (lv2 := [(2, .int x5.1), (0, .ref (Ad X 36)), (1, .int p1)]) rfl (by decide) rfl dX6_judge_43 ?_
          refine wa_iload_n hX 2 rfl rfl dX6_judge_44 ?_
          refine wa_iconst hX 2 ki_2 dX6_judge_45 ?_
          refine wa_icmp_ne hX 63 (by decide) dX6_judge_46 (fun c => ?_) (fun c => ?_)
          · replace h := itn c h
            refine wa_iload_n hX 2 rfl rfl dX6_judge_63 ?_
            have hJ : Wa X x5.2 78 [] [.int (if p1 = 0 then x5.2.1 37 else x5.2.1 38)] := by
              exact ret_i hE h dX6_judge_78
            refine wa_if_ne hX 74 (by decide) dX6_judge_64 (fun c => ?_) (fun c => ?_)
            · refine wa_aload_n hX 1 rfl rfl dX6_judge_74 ?_
              refine wg_model_badWhy hX fl_X6_102 dX6_judge_75 ?_
              refine wa_sub (lv2 := []) [] rfl ?_
              rw [show (if p1 = 0 then x5.2.1 37 else x5.2.1 38) = x5.2.1 38 from if_neg c] at hJ
              exact hJ
            · refine wa_aload_n hX 1 rfl rfl dX6_judge_67 ?_
              refine wg_model_badEvent hX fl_X6_99 dX6_judge_68 ?_
              refine wa_goto hX 78 (by decide) dX6_judge_71 ?_
              refine wa_sub (lv2 := []) [] rfl ?_
              rw [show (if p1 = 0 then x5.2.1 37 else x5.2.1 38) = x5.2.1 37 from if_pos c] at hJ
              exact hJ
          · replace h := itp c h
            refine wa_iload_n hX 0 rfl rfl dX6_judge_49 ?_
            refine wa_if_eq hX 60 (by decide) dX6_judge_50 (fun c => ?_) (fun c => ?_)
            · replace h := itp c h
              refine wa_bipush hX (-5) kb_m5 dX6_judge_60 ?_
              refine wa_sub (lv2 := []) [] rfl ?_
              exact t_X6_judge_62 hX hE  h
            · replace h := itn c h
              refine wa_aload_n hX 1 rfl rfl dX6_judge_53 ?_
              obtain ⟨x6, h2, h⟩ := obind h
              refine wa_callVi hX (m_X6_breaking h2) cx_X6_breaking ml_X6_127 (As := []) (rest := []) 36 (ce_model _ _) rfl rfl rfl rfl ⟨Nat.le_of_ble_eq_true rfl, Nat.le_of_ble_eq_true rfl⟩ (Nat.le_of_ble_eq_true rfl) dX6_judge_54 ?_
              refine wa_goto hX 62 (by decide) dX6_judge_57 ?_
              refine wa_sub (lv2 := []) [] rfl ?_
              exact t_X6_judge_62 hX hE  h
        · replace h := itn c h
          refine wa_bipush hX (-3) kb_m3 dX6_judge_32 ?_
          exact ret_i hE h dX6_judge_34
      · replace h := itn c h
        refine wa_bipush hX (-5) kb_m5 dX6_judge_22 ?_
        exact ret_i hE h dX6_judge_24
    · replace h := itp c h
      refine wa_bipush hX (-2) kb_m2 dX6_judge_12 ?_
      exact ret_i hE h dX6_judge_14
set_option maxRecDepth 100000 in
set_option maxHeartbeats 4000000 in
theorem m_X6_refusal {w w1 : Wd} {r : Int32} (h : F_X6_refusal w  = some (r, w1)) : Gi yX6_refusal cX6_refusal 1 (some .int) 2 49 (fun E => [.ref (E.2.1 36)]) w w1 r := by
  refine Gi.of (hy := by decide +kernel) (hlen := fun _ => Nat.le_of_ble_eq_true rfl) (fun X hX hE => ?_)
  · unfold F_X6_refusal at h
    refine (show Wa X w 0 [(0, .ref (Ad X 36))] [] from ?_)
    refine wa_aload_n hX 0 rfl rfl dX6_refusal_0 ?_
    obtain ⟨x1, h2, h⟩ := obind h
    refine wa_callVi hX (m_X6_fault h2) cx_X6_fault ml_X6_105 (As := []) (rest := []) 36 (ce_model _ _) rfl rfl rfl rfl ⟨Nat.le_of_ble_eq_true rfl, Nat.le_of_ble_eq_true rfl⟩ (Nat.le_of_ble_eq_true rfl) dX6_refusal_1 ?_
    refine wa_if_lt hX 10 (by decide) dX6_refusal_4 (fun c => ?_) (fun c => ?_)
    · replace h := itp c h
      refine wa_aload_n hX 0 rfl rfl dX6_refusal_10 ?_
      obtain ⟨x2, h2, h⟩ := obind h
      refine wa_callVi hX (m_X6_marks h2) cx_X6_marks ml_X6_109 (As := []) (rest := []) 36 (ce_model _ _) rfl rfl rfl rfl ⟨Nat.le_of_ble_eq_true rfl, Nat.le_of_ble_eq_true rfl⟩ (Nat.le_of_ble_eq_true rfl) dX6_refusal_11 ?_
      refine wa_if_le hX 20 (by decide) dX6_refusal_14 (fun c => ?_) (fun c => ?_)
      · replace h := itp c h
        refine wa_aload_n hX 0 rfl rfl dX6_refusal_20 ?_
        obtain ⟨x3, h2, h⟩ := obind h
        refine wa_callVv hX (m_X6_layEvents h2) cx_X6_layEvents ml_X6_112 (As := []) (rest := []) 36 (ce_model _ _) rfl rfl rfl rfl ⟨Nat.le_of_ble_eq_true rfl, Nat.le_of_ble_eq_true rfl⟩ (Nat.le_of_ble_eq_true rfl) dX6_refusal_21 ?_
        refine wa_aload_n hX 0 rfl rfl dX6_refusal_24 ?_
        obtain ⟨x4, h2, h⟩ := obind h
        refine wa_callVi hX (m_X6_go h2) cx_X6_go ml_X6_115 (As := []) (rest := []) 36 (ce_model _ _) rfl rfl rfl rfl ⟨Nat.le_of_ble_eq_true rfl, Nat.le_of_ble_eq_true rfl⟩ (Nat.le_of_ble_eq_true rfl) dX6_refusal_25 ?_
        have hJ : Wa X x4.2 38 [] [.int (if x4.1 = 0 then ((-5) : Int32) else (-6))] := by
          exact ret_i hE h dX6_refusal_38
        refine wa_if_eq hX 36 (by decide) dX6_refusal_28 (fun c => ?_) (fun c => ?_)
        · refine wa_bipush hX (-5) kb_m5 dX6_refusal_36 ?_
          refine wa_sub (lv2 := []) [] rfl ?_
          rw [show (if x4.1 = 0 then ((-5) : Int32) else (-6)) = (-5) from if_pos c] at hJ
          exact hJ
        · refine wa_bipush hX (-6) kb_m6 dX6_refusal_31 ?_
          refine wa_goto hX 38 (by decide) dX6_refusal_33 ?_
          refine wa_sub (lv2 := []) [] rfl ?_
          rw [show (if x4.1 = 0 then ((-5) : Int32) else (-6)) = (-6) from if_neg c] at hJ
          exact hJ
      · replace h := itn c h
        refine wa_bipush hX (-3) kb_m3 dX6_refusal_17 ?_
        exact ret_i hE h dX6_refusal_19
    · replace h := itn c h
      refine wa_bipush hX (-5) kb_m5 dX6_refusal_7 ?_
      exact ret_i hE h dX6_refusal_9
set_option maxRecDepth 100000 in
set_option maxHeartbeats 4000000 in
theorem t_X6_on_40 {X : Fx} (hX : Cx X cX6_on RX6 3 3 69) {r : Int32} {w1 : Wd} (hE : ∀ pc lv, decode cX6_on pc = .ok (.ireturn, 1) → narrow .int (.int r) = .int r → Wa X w1 pc lv [.int r])  {w : Wd} {s0 : Int32} (h : F_X6_on_40 w s0 = some (r, w1)) : Wa X w 40 [] [.int s0] := by
  unfold F_X6_on_40 at h
  exact ret_i hE h dX6_on_40
set_option maxRecDepth 100000 in
set_option maxHeartbeats 4000000 in
theorem m_X6_on {w w1 : Wd} {p1 : Int32} {r : Int32} (h : F_X6_on w p1 = some (r, w1)) : Gi yX6_on cX6_on 3 (some .int) 3 69 (fun E => [.ref (E.2.1 36), .int p1]) w w1 r := by
  refine Gi.of (hy := by decide +kernel) (hlen := fun _ => Nat.le_of_ble_eq_true rfl) (fun X hX hE => ?_)
  · unfold F_X6_on at h
    refine (show Wa X w 0 [(0, .ref (Ad X 36)), (1, .int p1)] [] from ?_)
    refine wa_aload_n hX 0 rfl rfl dX6_on_0 ?_
    obtain ⟨x1, h2, h⟩ := obind h
    refine wa_callVi hX (m_X6_refusal h2) cx_X6_refusal ml_X6_130 (As := []) (rest := []) 36 (ce_model _ _) rfl rfl rfl rfl ⟨Nat.le_of_ble_eq_true rfl, Nat.le_of_ble_eq_true rfl⟩ (Nat.le_of_ble_eq_true rfl) dX6_on_1 ?_
    refine wa_istore_n hX (lv2 := [(2, .int x1.1), (0, .ref (Ad X 36)), (1, .int p1)]) rfl (by decide) rfl dX6_on_4 ?_
    refine wa_iload_n hX 0 rfl rfl dX6_on_5 ?_
    refine wa_bipush hX (-6) kb_m6 dX6_on_6 ?_
    refine wa_icmp_eq hX 13 (by decide) dX6_on_8 (fun c => ?_) (fun c => ?_)
    · replace h := itp c h
      refine wa_iload_n hX 2 rfl rfl dX6_on_13 ?_
      refine wa_i2l hX dX6_on_14 ?_
      refine wa_lconst hX 0 rfl dX6_on_15 ?_
      refine wa_aload_n hX 1 rfl rfl dX6_on_16 ?_
      refine wg_model_lines hX fl_X6_93 dX6_on_17 ?_
      refine wa_iconst hX 1 ki_1 dX6_on_20 ?_
      refine wa_isub hX dX6_on_21 ?_
      refine wa_i2l hX dX6_on_22 ?_
      obtain ⟨x2, h2, h⟩ := obind h
      refine wa_callSi hX (m_X6_in h2) cx_X6_in ml_X6_62 (As := [.long p1.toInt64, .long 0, .long ((x1.2.1 35 - 1).toInt64)]) (rest := []) rfl rfl rfl ⟨Nat.le_of_ble_eq_true rfl, Nat.le_of_ble_eq_true rfl⟩ (Nat.le_of_ble_eq_true rfl) dX6_on_23 ?_
      refine wa_if_eq hX 38 (by decide) dX6_on_26 (fun c => ?_) (fun c => ?_)
      · replace h := itp c h
        refine wa_bipush hX (-2) kb_m2 dX6_on_38 ?_
        refine wa_sub (lv2 := []) [] rfl ?_
        exact t_X6_on_40 hX hE  h
      · replace h := itn c h
        refine wa_aload_n hX 1 rfl rfl dX6_on_29 ?_
        refine wg_model_on hX fl_X6_28 dX6_on_30 ?_
        refine wa_iload_n hX 2 rfl rfl dX6_on_33 ?_
        obtain ⟨hg, h⟩ := gu_some h
        refine wl_model_on hX hg dX6_on_34 ?_
        refine wa_goto hX 40 (by decide) dX6_on_35 ?_
        refine wa_sub (lv2 := []) [] rfl ?_
        exact t_X6_on_40 hX hE  h
    · replace h := itn c h
      refine wa_iload_n hX 0 rfl rfl dX6_on_11 ?_
      exact ret_i hE h dX6_on_12
set_option maxRecDepth 100000 in
set_option maxHeartbeats 4000000 in
theorem t_X6_linesOf_4 {X : Fx} (hX : Cx X cX6_linesOf RX6 4 0 0) {r : Int32} {w1 : Wd} (hE : ∀ pc lv, decode cX6_linesOf pc = .ok (.ireturn, 1) → narrow .int (.int r) = .int r → Wa X w1 pc lv [.int r])  : ∀ (n : Nat) (a : Wd × Int32 × Int32 × Int32), L_X6_linesOf_4  n a = some (r, w1) → Wa X a.1 4 [(0, .ref (Ad X 36)), (1, .int a.2.1), (2, .int a.2.2.1), (3, .int a.2.2.2)] [] := by
  refine it_mach (P := fun (a : Wd × Int32 × Int32 × Int32) => Wa X a.1 4 [(0, .ref (Ad X 36)), (1, .int a.2.1), (2, .int a.2.2.1), (3, .int a.2.2.2)] []) ?_
  intro k4 hk4 a h
  obtain ⟨w, v1, v2, v3⟩ := a
  have h : F_X6_linesOf_4 k4 w v1 v2 v3 = some (r, w1) := h
  show Wa X w 4 [(0, .ref (Ad X 36)), (1, .int v1), (2, .int v2), (3, .int v3)] []
  unfold F_X6_linesOf_4 at h
  refine wa_iload_n hX 3 rfl rfl dX6_linesOf_4 ?_
  refine wa_aload_n hX 0 rfl rfl dX6_linesOf_5 ?_
  refine wg_model_lines hX fl_X6_93 dX6_linesOf_6 ?_
  refine wa_icmp_ge hX 31 (by decide) dX6_linesOf_9 (fun c => ?_) (fun c => ?_)
  · replace h := itp c h
    refine wa_iload_n hX 2 rfl rfl dX6_linesOf_31 ?_
    exact ret_i hE h dX6_linesOf_32
  · replace h := itn c h
    refine wa_iload_n hX 2 rfl rfl dX6_linesOf_12 ?_
    refine wa_aload_n hX 0 rfl rfl dX6_linesOf_13 ?_
    refine wg_model_on hX fl_X6_28 dX6_linesOf_14 ?_
    refine wa_iload_n hX 3 rfl rfl dX6_linesOf_17 ?_
    obtain ⟨hg, h⟩ := gu_some h
    refine wl_model_on hX hg dX6_linesOf_18 ?_
    refine wa_iload_n hX 1 rfl rfl dX6_linesOf_19 ?_
    refine wa_ishr hX dX6_linesOf_20 ?_
    refine wa_iconst hX 1 ki_1 dX6_linesOf_21 ?_
    refine wa_iand hX dX6_linesOf_22 ?_
    refine wa_iadd hX dX6_linesOf_23 ?_
    refine wa_let h (fun y1 h => ?_)
    refine wa_istore_n hX (lv2 := [(2, .int y1), (0, .ref (Ad X 36)), (1, .int v1), (3, .int v3)]) rfl (by decide) rfl dX6_linesOf_24 ?_
    refine wa_iinc hX (v := (v3 + 1)) (lv2 := [(3, .int (v3 + 1)), (2, .int y1), (0, .ref (Ad X 36)), (1, .int v1)]) 3 rfl rfl (by decide) rfl dX6_linesOf_25 ?_
    refine wa_goto hX 4 (by decide) dX6_linesOf_28 ?_
    refine wa_sub (lv2 := [(0, .ref (Ad X 36)), (1, .int v1), (2, .int y1), (3, .int (v3 + 1))]) [2, 3, 1, 0] rfl ?_
    exact hk4 _ h
set_option maxRecDepth 100000 in
set_option maxHeartbeats 4000000 in
theorem m_X6_linesOf {w w1 : Wd} {p1 : Int32} {r : Int32} (h : F_X6_linesOf w p1 = some (r, w1)) : Gi yX6_linesOf cX6_linesOf 4 (some .int) 0 0 (fun E => [.ref (E.2.1 36), .int p1]) w w1 r := by
  refine Gi.of (hy := by decide +kernel) (hlen := fun _ => Nat.le_of_ble_eq_true rfl) (fun X hX hE => ?_)
  · unfold F_X6_linesOf at h
    refine (show Wa X w 0 [(0, .ref (Ad X 36)), (1, .int p1)] [] from ?_)
    refine wa_iconst hX 0 ki_0 dX6_linesOf_0 ?_
    refine wa_istore_n hX (lv2 := [(2, .int 0), (0, .ref (Ad X 36)), (1, .int p1)]) rfl (by decide) rfl dX6_linesOf_1 ?_
    refine wa_iconst hX 0 ki_0 dX6_linesOf_2 ?_
    refine wa_istore_n hX (lv2 := [(3, .int 0), (2, .int 0), (0, .ref (Ad X 36)), (1, .int p1)]) rfl (by decide) rfl dX6_linesOf_3 ?_
    refine wa_sub (lv2 := [(0, .ref (Ad X 36)), (1, .int p1), (2, .int 0), (3, .int 0)]) [2, 3, 1, 0] rfl ?_
    exact t_X6_linesOf_4 hX hE  _ _ h
set_option maxRecDepth 100000 in
set_option maxHeartbeats 4000000 in
theorem t_X6_lines_59 {X : Fx} (hX : Cx X cX6_lines RX6 3 3 69) {r : Int32} {w1 : Wd} (hE : ∀ pc lv, decode cX6_lines pc = .ok (.ireturn, 1) → narrow .int (.int r) = .int r → Wa X w1 pc lv [.int r])  {w : Wd} {s0 : Int32} (h : F_X6_lines_59 w s0 = some (r, w1)) : Wa X w 59 [] [.int s0] := by
  unfold F_X6_lines_59 at h
  exact ret_i hE h dX6_lines_59
set_option maxRecDepth 100000 in
set_option maxHeartbeats 4000000 in
theorem m_X6_lines {w w1 : Wd} {p1 : Int32} {r : Int32} (h : F_X6_lines w p1 = some (r, w1)) : Gi yX6_lines cX6_lines 3 (some .int) 3 69 (fun E => [.ref (E.2.1 36), .int p1]) w w1 r := by
  refine Gi.of (hy := by decide +kernel) (hlen := fun _ => Nat.le_of_ble_eq_true rfl) (fun X hX hE => ?_)
  · unfold F_X6_lines at h
    refine (show Wa X w 0 [(0, .ref (Ad X 36)), (1, .int p1)] [] from ?_)
    refine wa_iload_n hX 1 rfl rfl dX6_lines_0 ?_
    refine wa_i2l hX dX6_lines_1 ?_
    refine wa_ldc2 hX kc_X6_133 dX6_lines_2 ?_
    refine wa_ldc2 hX kc_X6_60 dX6_lines_5 ?_
    obtain ⟨x1, h2, h⟩ := obind h
    refine wa_callSi hX (m_X6_in h2) cx_X6_in ml_X6_62 (As := [.long p1.toInt64, .long (-2), .long 7]) (rest := []) rfl rfl rfl ⟨Nat.le_of_ble_eq_true rfl, Nat.le_of_ble_eq_true rfl⟩ (Nat.le_of_ble_eq_true rfl) dX6_lines_8 ?_
    refine wa_if_ne hX 16 (by decide) dX6_lines_11 (fun c => ?_) (fun c => ?_)
    · replace h := itn c h
      refine wa_aload_n hX 0 rfl rfl dX6_lines_16 ?_
      obtain ⟨x2, h2, h⟩ := obind h
      refine wa_callVi hX (m_X6_refusal h2) cx_X6_refusal ml_X6_130 (As := []) (rest := []) 36 (ce_model _ _) rfl rfl rfl rfl ⟨Nat.le_of_ble_eq_true rfl, Nat.le_of_ble_eq_true rfl⟩ (Nat.le_of_ble_eq_true rfl) dX6_lines_17 ?_
      refine wa_istore_n hX (lv2 := [(2, .int x2.1), (0, .ref (Ad X 36)), (1, .int p1)]) rfl (by decide) rfl dX6_lines_20 ?_
      refine wa_iload_n hX 0 rfl rfl dX6_lines_21 ?_
      refine wa_bipush hX (-6) kb_m6 dX6_lines_22 ?_
      refine wa_icmp_eq hX 29 (by decide) dX6_lines_24 (fun c => ?_) (fun c => ?_)
      · replace h := itp c h
        refine wa_iload_n hX 2 rfl rfl dX6_lines_29 ?_
        refine wa_bipush hX (-2) kb_m2 dX6_lines_30 ?_
        refine wa_icmp_ne hX 42 (by decide) dX6_lines_32 (fun c => ?_) (fun c => ?_)
        · replace h := itn c h
          refine wa_iload_n hX 2 rfl rfl dX6_lines_42 ?_
          refine wa_iconst hX (-1) ki_m1 dX6_lines_43 ?_
          refine wa_icmp_ne hX 54 (by decide) dX6_lines_44 (fun c => ?_) (fun c => ?_)
          · replace h := itn c h
            refine wa_aload_n hX 1 rfl rfl dX6_lines_54 ?_
            refine wa_iload_n hX 2 rfl rfl dX6_lines_55 ?_
            obtain ⟨x3, h2, h⟩ := obind h
            refine wa_callVi hX (m_X6_linesOf h2) cx_X6_linesOf ml_X6_135 (As := [.int p1]) (rest := []) 36 (ce_model _ _) rfl rfl rfl rfl ⟨Nat.le_of_ble_eq_true rfl, Nat.le_of_ble_eq_true rfl⟩ (Nat.le_of_ble_eq_true rfl) dX6_lines_56 ?_
            refine wa_sub (lv2 := []) [] rfl ?_
            exact t_X6_lines_59 hX hE  h
          · replace h := itp c h
            refine wa_aload_n hX 1 rfl rfl dX6_lines_47 ?_
            refine wg_model_lines hX fl_X6_93 dX6_lines_48 ?_
            refine wa_goto hX 59 (by decide) dX6_lines_51 ?_
            refine wa_sub (lv2 := []) [] rfl ?_
            exact t_X6_lines_59 hX hE  h
        · replace h := itp c h
          refine wa_aload_n hX 1 rfl rfl dX6_lines_35 ?_
          refine wg_model_comings hX fl_X6_96 dX6_lines_36 ?_
          refine wa_goto hX 59 (by decide) dX6_lines_39 ?_
          refine wa_sub (lv2 := []) [] rfl ?_
          exact t_X6_lines_59 hX hE  h
      · replace h := itn c h
        refine wa_iload_n hX 0 rfl rfl dX6_lines_27 ?_
        exact ret_i hE h dX6_lines_28
    · replace h := itp c h
      refine wa_iconst hX (-1) ki_m1 dX6_lines_14 ?_
      exact ret_i hE h dX6_lines_15
set_option maxRecDepth 100000 in
set_option maxHeartbeats 4000000 in
theorem m_X6_isPart {w w1 : Wd} {p0 : Int32} {r : Int32} (h : F_X6_isPart w p0 = some (r, w1)) : Gi yX6_isPart cX6_isPart 1 (some .boolean) 1 25 (fun E => [.int p0]) w w1 r := by
  refine Gi.of (hy := by decide +kernel) (hlen := fun _ => Nat.le_of_ble_eq_true rfl) (fun X hX hE => ?_)
  · unfold F_X6_isPart at h
    refine (show Wa X w 0 [(0, .int p0)] [] from ?_)
    refine wa_iload_n hX 0 rfl rfl dX6_isPart_0 ?_
    refine wa_i2l hX dX6_isPart_1 ?_
    refine wa_lconst hX 0 rfl dX6_isPart_2 ?_
    refine wa_ldc2 hX kc_X6_60 dX6_isPart_3 ?_
    obtain ⟨x1, h2, h⟩ := obind h
    refine wa_callSi hX (m_X6_in h2) cx_X6_in ml_X6_62 (As := [.long p0.toInt64, .long 0, .long 7]) (rest := []) rfl rfl rfl ⟨Nat.le_of_ble_eq_true rfl, Nat.le_of_ble_eq_true rfl⟩ (Nat.le_of_ble_eq_true rfl) dX6_isPart_6 ?_
    obtain ⟨hg, h⟩ := gu_some h
    exact ret_z hE h (isB_or hg) dX6_isPart_9
set_option maxRecDepth 100000 in
set_option maxHeartbeats 4000000 in
theorem t_X6_may_19 {X : Fx} (hX : Cx X cX6_may RX6 5 2 45) {r : Int32} {w1 : Wd} (hE : ∀ pc lv, decode cX6_may pc = .ok (.ireturn, 1) → narrow .int (.int r) = .int r → Wa X w1 pc lv [.int r])  {w : Wd} (h : F_X6_may_19 w = some (r, w1)) : Wa X w 19 [] [] := by
  unfold F_X6_may_19 at h
  refine wa_iconst hX (-1) ki_m1 dX6_may_19 ?_
  exact ret_i hE h dX6_may_20
set_option maxRecDepth 100000 in
set_option maxHeartbeats 4000000 in
theorem m_X6_may {w w1 : Wd} {p1 : Int32} {p2 : Int32} {p3 : Int32} {r : Int32} (h : F_X6_may w p1 p2 p3 = some (r, w1)) : Gi yX6_may cX6_may 5 (some .int) 2 45 (fun E => [.ref (E.2.1 36), .int p1, .int p2, .int p3]) w w1 r := by
  refine Gi.of (hy := by decide +kernel) (hlen := fun _ => Nat.le_of_ble_eq_true rfl) (fun X hX hE => ?_)
  · unfold F_X6_may at h
    refine (show Wa X w 0 [(0, .ref (Ad X 36)), (1, .int p1), (2, .int p2), (3, .int p3)] [] from ?_)
    refine wa_iload_n hX 1 rfl rfl dX6_may_0 ?_
    obtain ⟨x1, h2, h⟩ := obind h
    refine wa_callSi hX (m_X6_isPart h2) cx_X6_isPart ml_X6_138 (As := [.int p1]) (rest := []) rfl rfl rfl ⟨Nat.le_of_ble_eq_true rfl, Nat.le_of_ble_eq_true rfl⟩ (Nat.le_of_ble_eq_true rfl) dX6_may_1 ?_
    refine wa_if_eq hX 19 (by decide) dX6_may_4 (fun c => ?_) (fun c => ?_)
    · replace h := itp c h
      refine wa_sub (lv2 := []) [] rfl ?_
      exact t_X6_may_19 hX hE  h
    · replace h := itn c h
      refine wa_iload_n hX 2 rfl rfl dX6_may_7 ?_
      obtain ⟨x2, h2, h⟩ := obind h
      refine wa_callSi hX (m_X6_isPart h2) cx_X6_isPart ml_X6_138 (As := [.int p2]) (rest := []) rfl rfl rfl ⟨Nat.le_of_ble_eq_true rfl, Nat.le_of_ble_eq_true rfl⟩ (Nat.le_of_ble_eq_true rfl) dX6_may_8 ?_
      refine wa_if_eq hX 19 (by decide) dX6_may_11 (fun c => ?_) (fun c => ?_)
      · replace h := itp c h
        refine wa_sub (lv2 := []) [] rfl ?_
        exact t_X6_may_19 hX hE  h
      · replace h := itn c h
        refine wa_iload_n hX 1 rfl rfl dX6_may_14 ?_
        refine wa_iload_n hX 2 rfl rfl dX6_may_15 ?_
        refine wa_icmp_ne hX 21 (by decide) dX6_may_16 (fun c => ?_) (fun c => ?_)
        · replace h := itn c h
          refine wa_iload_n hX 3 rfl rfl dX6_may_21 ?_
          refine wa_i2l hX dX6_may_22 ?_
          refine wa_lconst hX 0 rfl dX6_may_23 ?_
          refine wa_ldc2 hX kc_X6_66 dX6_may_24 ?_
          obtain ⟨x3, h2, h⟩ := obind h
          refine wa_callSi hX (m_X6_in h2) cx_X6_in ml_X6_62 (As := [.long p3.toInt64, .long 0, .long 2]) (rest := []) rfl rfl rfl ⟨Nat.le_of_ble_eq_true rfl, Nat.le_of_ble_eq_true rfl⟩ (Nat.le_of_ble_eq_true rfl) dX6_may_27 ?_
          refine wa_if_ne hX 36 (by decide) dX6_may_30 (fun c => ?_) (fun c => ?_)
          · replace h := itn c h
            refine wa_aload_n hX 0 rfl rfl dX6_may_36 ?_
            refine wg_model_may hX fl_X6_7 dX6_may_37 ?_
            refine wa_bipush hX 8 kb_8 dX6_may_40 ?_
            refine wa_iload_n hX 1 rfl rfl dX6_may_42 ?_
            refine wa_imul hX dX6_may_43 ?_
            refine wa_iload_n hX 2 rfl rfl dX6_may_44 ?_
            refine wa_iadd hX dX6_may_45 ?_
            obtain ⟨hg, h⟩ := gu_some h
            refine wl_model_may hX hg dX6_may_46 ?_
            refine wa_let h (fun y4 h => ?_)
            refine wa_istore hX (lv2 := [(4, .int y4), (0, .ref (Ad X 36)), (1, .int p1), (2, .int p2), (3, .int p3)]) (by decide) rfl dX6_may_47 ?_
            refine wa_aload_n hX 1 rfl rfl dX6_may_49 ?_
            refine wg_model_may hX fl_X6_7 dX6_may_50 ?_
            refine wa_bipush hX 8 kb_8 dX6_may_53 ?_
            refine wa_iload_n hX 2 rfl rfl dX6_may_55 ?_
            refine wa_imul hX dX6_may_56 ?_
            refine wa_iload_n hX 3 rfl rfl dX6_may_57 ?_
            refine wa_iadd hX dX6_may_58 ?_
            refine wa_iload_n hX 4 rfl rfl dX6_may_59 ?_
            obtain ⟨hg, h⟩ := gu_some h
            refine ws_model_may hX hg dX6_may_60 ?_
            refine wa_aload_n hX 1 rfl rfl dX6_may_61 ?_
            refine wg_model_may hX fl_X6_7 dX6_may_62 ?_
            refine wa_bipush hX 8 kb_8 dX6_may_65 ?_
            refine wa_iload_n hX 3 rfl rfl dX6_may_67 ?_
            refine wa_imul hX dX6_may_68 ?_
            refine wa_iload_n hX 2 rfl rfl dX6_may_69 ?_
            refine wa_iadd hX dX6_may_70 ?_
            refine wa_iload_n hX 4 rfl rfl dX6_may_71 ?_
            obtain ⟨hg, h⟩ := gu_some h
            refine ws_model_may hX hg dX6_may_72 ?_
            refine wa_iload hX 0 rfl dX6_may_73 ?_
            exact ret_i hE h dX6_may_75
          · replace h := itp c h
            refine wa_bipush hX (-2) kb_m2 dX6_may_33 ?_
            exact ret_i hE h dX6_may_35
        · replace h := itp c h
          refine wa_sub (lv2 := []) [] rfl ?_
          exact t_X6_may_19 hX hE  h
set_option maxRecDepth 100000 in
set_option maxHeartbeats 4000000 in
theorem t_X6_mayBe_13 {X : Fx} (hX : Cx X cX6_mayBe RX6 7 0 0) {r : Int32} {w1 : Wd} (hE : ∀ pc lv, decode cX6_mayBe pc = .ok (.ireturn, 1) → narrow .boolean (.int r) = .int r → Wa X w1 pc lv [.int r]) {k4 : Wd × Int32 × Int32 × Int32 → Option (Int32 × Wd)} (hk4 : ∀ a, k4 a = some (r, w1) → Wa X a.1 4 [(0, .ref (Ad X 36)), (1, .int a.2.1), (2, .int a.2.2.1), (3, .int a.2.2.2)] []) : ∀ (n : Nat) (a : Wd × Int32 × Int32 × Int32 × Int32), L_X6_mayBe_13 k4 n a = some (r, w1) → Wa X a.1 13 [(0, .ref (Ad X 36)), (1, .int a.2.1), (2, .int a.2.2.1), (3, .int a.2.2.2.1), (4, .int a.2.2.2.2)] [] := by
  refine it_mach (P := fun (a : Wd × Int32 × Int32 × Int32 × Int32) => Wa X a.1 13 [(0, .ref (Ad X 36)), (1, .int a.2.1), (2, .int a.2.2.1), (3, .int a.2.2.2.1), (4, .int a.2.2.2.2)] []) ?_
  intro k13 hk13 a h
  obtain ⟨w, v1, v2, v3, v4⟩ := a
  have h : F_X6_mayBe_13 k4 k13 w v1 v2 v3 v4 = some (r, w1) := h
  show Wa X w 13 [(0, .ref (Ad X 36)), (1, .int v1), (2, .int v2), (3, .int v3), (4, .int v4)] []
  unfold F_X6_mayBe_13 at h
  refine wa_iload hX 4 rfl dX6_mayBe_13 ?_
  refine wa_iload_n hX 3 rfl rfl dX6_mayBe_15 ?_
  refine wa_icmp_ge hX 87 (by decide) dX6_mayBe_16 (fun c => ?_) (fun c => ?_)
  · replace h := itp c h
    refine wa_iinc hX (v := (v3 + 1)) (lv2 := [(3, .int (v3 + 1)), (0, .ref (Ad X 36)), (1, .int v1), (2, .int v2), (4, .int v4)]) 3 rfl rfl (by decide) rfl dX6_mayBe_87 ?_
    refine wa_goto hX 4 (by decide) dX6_mayBe_90 ?_
    refine wa_sub (lv2 := [(0, .ref (Ad X 36)), (1, .int v1), (2, .int v2), (3, .int (v3 + 1))]) [1, 2, 3, 0] rfl ?_
    exact hk4 _ h
  · replace h := itn c h
    refine wa_aload_n hX 0 rfl rfl dX6_mayBe_19 ?_
    refine wg_model_may hX fl_X6_7 dX6_mayBe_20 ?_
    refine wa_bipush hX 8 kb_8 dX6_mayBe_23 ?_
    refine wa_iload_n hX 3 rfl rfl dX6_mayBe_25 ?_
    refine wa_imul hX dX6_mayBe_26 ?_
    refine wa_iload hX 4 rfl dX6_mayBe_27 ?_
    refine wa_iadd hX dX6_mayBe_29 ?_
    obtain ⟨hg, h⟩ := gu_some h
    refine wl_model_may hX hg dX6_mayBe_30 ?_
    refine wa_istore hX (lv2 := [(5, .int (w.2.1 37 ((8 * v3) + v4).toNatClampNeg)), (0, .ref (Ad X 36)), (1, .int v1), (2, .int v2), (3, .int v3), (4, .int v4)]) (by decide) rfl dX6_mayBe_31 ?_
    refine wa_iload_n hX 2 rfl rfl dX6_mayBe_33 ?_
    refine wa_iload_n hX 4 rfl rfl dX6_mayBe_34 ?_
    refine wa_ishr hX dX6_mayBe_35 ?_
    refine wa_iconst hX 1 ki_1 dX6_mayBe_36 ?_
    refine wa_iand hX dX6_mayBe_37 ?_
    refine wa_iload_n hX 2 rfl rfl dX6_mayBe_38 ?_
    refine wa_iload hX 5 rfl dX6_mayBe_39 ?_
    refine wa_ishr hX dX6_mayBe_41 ?_
    refine wa_iconst hX 1 ki_1 dX6_mayBe_42 ?_
    refine wa_iand hX dX6_mayBe_43 ?_
    refine wa_iadd hX dX6_mayBe_44 ?_
    refine wa_let h (fun y1 h => ?_)
    refine wa_istore hX (lv2 := [(6, .int y1), (5, .int (w.2.1 37 ((8 * v3) + v4).toNatClampNeg)), (0, .ref (Ad X 36)), (1, .int v1), (2, .int v2), (3, .int v3), (4, .int v4)]) (by decide) rfl dX6_mayBe_45 ?_
    refine wa_iload_n hX 4 rfl rfl dX6_mayBe_47 ?_
    have hJ : Wa X w 80 [(0, .ref (Ad X 36)), (1, .int v1), (3, .int v3), (4, .int v4)] [.int (if v2 = 0 then 0 else (if (w.2.1 37 ((8 * v3) + v4).toNatClampNeg) = 1 then (if 2 ≤ y1 then 0 else (if (w.2.1 37 ((8 * v3) + v4).toNatClampNeg) = 2 then (if y1 = 1 then (0 : Int32) else 1) else 1)) else (if (w.2.1 37 ((8 * v3) + v4).toNatClampNeg) = 2 then (if y1 = 1 then (0 : Int32) else 1) else 1)))] := by
      refine wa_let h (fun y2 h => ?_)
      refine wa_istore_n hX (lv2 := [(2, .int y2), (0, .ref (Ad X 36)), (1, .int v1), (3, .int v3), (4, .int v4)]) rfl (by decide) rfl dX6_mayBe_80 ?_
      refine wa_iinc hX (v := (v4 + 1)) (lv2 := [(4, .int (v4 + 1)), (2, .int y2), (0, .ref (Ad X 36)), (1, .int v1), (3, .int v3)]) 4 rfl rfl (by decide) rfl dX6_mayBe_81 ?_
      refine wa_goto hX 13 (by decide) dX6_mayBe_84 ?_
      refine wa_sub (lv2 := [(0, .ref (Ad X 36)), (1, .int v1), (2, .int y2), (3, .int v3), (4, .int (v4 + 1))]) [2, 3, 1, 4, 0] rfl ?_
      exact hk13 _ h
    refine wa_if_eq hX 79 (by decide) dX6_mayBe_48 (fun c => ?_) (fun c => ?_)
    · refine wa_iconst hX 0 ki_0 dX6_mayBe_79 ?_
      refine wa_sub (lv2 := [(0, .ref (Ad X 36)), (1, .int v1), (3, .int v3), (4, .int v4)]) [2, 3, 5, 6] rfl ?_
      rw [show (if v2 = 0 then 0 else (if (w.2.1 37 ((8 * v3) + v4).toNatClampNeg) = 1 then (if 2 ≤ y1 then 0 else (if (w.2.1 37 ((8 * v3) + v4).toNatClampNeg) = 2 then (if y1 = 1 then (0 : Int32) else 1) else 1)) else (if (w.2.1 37 ((8 * v3) + v4).toNatClampNeg) = 2 then (if y1 = 1 then (0 : Int32) else 1) else 1))) = 0 from if_pos c] at hJ
      exact hJ
    · refine wa_iload hX 1 rfl dX6_mayBe_51 ?_
      refine wa_iconst hX 1 ki_1 dX6_mayBe_53 ?_
      have hI : Wa X w 80 [(0, .ref (Ad X 36)), (1, .int v1), (3, .int v3), (4, .int v4)] [.int (if (w.2.1 37 ((8 * v3) + v4).toNatClampNeg) = 1 then (if 2 ≤ y1 then 0 else (if (w.2.1 37 ((8 * v3) + v4).toNatClampNeg) = 2 then (if y1 = 1 then (0 : Int32) else 1) else 1)) else (if (w.2.1 37 ((8 * v3) + v4).toNatClampNeg) = 2 then (if y1 = 1 then (0 : Int32) else 1) else 1))] := by
        rw [show (if v2 = 0 then 0 else (if (w.2.1 37 ((8 * v3) + v4).toNatClampNeg) = 1 then (if 2 ≤ y1 then 0 else (if (w.2.1 37 ((8 * v3) + v4).toNatClampNeg) = 2 then (if y1 = 1 then (0 : Int32) else 1) else 1)) else (if (w.2.1 37 ((8 * v3) + v4).toNatClampNeg) = 2 then (if y1 = 1 then (0 : Int32) else 1) else 1))) = (if (w.2.1 37 ((8 * v3) + v4).toNatClampNeg) = 1 then (if 2 ≤ y1 then 0 else (if (w.2.1 37 ((8 * v3) + v4).toNatClampNeg) = 2 then (if y1 = 1 then (0 : Int32) else 1) else 1)) else (if (w.2.1 37 ((8 * v3) + v4).toNatClampNeg) = 2 then (if y1 = 1 then (0 : Int32) else 1) else 1)) from if_neg c] at hJ
        exact hJ
      refine wa_icmp_ne hX 63 (by decide) dX6_mayBe_54 (fun c2 => ?_) (fun c2 => ?_)
      · refine wa_iload hX 1 rfl dX6_mayBe_63 ?_
        refine wa_iconst hX 2 ki_2 dX6_mayBe_65 ?_
        have hK4 : Wa X w 80 [(0, .ref (Ad X 36)), (1, .int v1), (3, .int v3), (4, .int v4)] [.int (if (w.2.1 37 ((8 * v3) + v4).toNatClampNeg) = 2 then (if y1 = 1 then (0 : Int32) else 1) else 1)] := by
          rw [show (if (w.2.1 37 ((8 * v3) + v4).toNatClampNeg) = 1 then (if 2 ≤ y1 then 0 else (if (w.2.1 37 ((8 * v3) + v4).toNatClampNeg) = 2 then (if y1 = 1 then (0 : Int32) else 1) else 1)) else (if (w.2.1 37 ((8 * v3) + v4).toNatClampNeg) = 2 then (if y1 = 1 then (0 : Int32) else 1) else 1)) = (if (w.2.1 37 ((8 * v3) + v4).toNatClampNeg) = 2 then (if y1 = 1 then (0 : Int32) else 1) else 1) from if_neg c2] at hI
          exact hI
        refine wa_icmp_ne hX 75 (by decide) dX6_mayBe_66 (fun c14 => ?_) (fun c14 => ?_)
        · refine wa_iconst hX 1 ki_1 dX6_mayBe_75 ?_
          refine wa_goto hX 80 (by decide) dX6_mayBe_76 ?_
          refine wa_sub (lv2 := [(0, .ref (Ad X 36)), (1, .int v1), (3, .int v3), (4, .int v4)]) [2, 3, 5, 6] rfl ?_
          rw [show (if (w.2.1 37 ((8 * v3) + v4).toNatClampNeg) = 2 then (if y1 = 1 then (0 : Int32) else 1) else 1) = 1 from if_neg c14] at hK4
          exact hK4
        · refine wa_iload hX 0 rfl dX6_mayBe_69 ?_
          refine wa_iconst hX 1 ki_1 dX6_mayBe_71 ?_
          have hK5 : Wa X w 80 [(0, .ref (Ad X 36)), (1, .int v1), (3, .int v3), (4, .int v4)] [.int (if y1 = 1 then (0 : Int32) else 1)] := by
            rw [show (if (w.2.1 37 ((8 * v3) + v4).toNatClampNeg) = 2 then (if y1 = 1 then (0 : Int32) else 1) else 1) = (if y1 = 1 then (0 : Int32) else 1) from if_pos c14] at hK4
            exact hK4
          refine wa_icmp_eq hX 79 (by decide) dX6_mayBe_72 (fun c15 => ?_) (fun c15 => ?_)
          · refine wa_iconst hX 0 ki_0 dX6_mayBe_79 ?_
            refine wa_sub (lv2 := [(0, .ref (Ad X 36)), (1, .int v1), (3, .int v3), (4, .int v4)]) [2, 3, 5, 6] rfl ?_
            rw [show (if y1 = 1 then (0 : Int32) else 1) = 0 from if_pos c15] at hK5
            exact hK5
          · refine wa_iconst hX 1 ki_1 dX6_mayBe_75 ?_
            refine wa_goto hX 80 (by decide) dX6_mayBe_76 ?_
            refine wa_sub (lv2 := [(0, .ref (Ad X 36)), (1, .int v1), (3, .int v3), (4, .int v4)]) [2, 3, 5, 6] rfl ?_
            rw [show (if y1 = 1 then (0 : Int32) else 1) = 1 from if_neg c15] at hK5
            exact hK5
      · refine wa_iload hX 0 rfl dX6_mayBe_57 ?_
        refine wa_iconst hX 2 ki_2 dX6_mayBe_59 ?_
        have hK4 : Wa X w 80 [(0, .ref (Ad X 36)), (1, .int v1), (3, .int v3), (4, .int v4)] [.int (if 2 ≤ y1 then 0 else (if (w.2.1 37 ((8 * v3) + v4).toNatClampNeg) = 2 then (if y1 = 1 then (0 : Int32) else 1) else 1))] := by
          rw [show (if (w.2.1 37 ((8 * v3) + v4).toNatClampNeg) = 1 then (if 2 ≤ y1 then 0 else (if (w.2.1 37 ((8 * v3) + v4).toNatClampNeg) = 2 then (if y1 = 1 then (0 : Int32) else 1) else 1)) else (if (w.2.1 37 ((8 * v3) + v4).toNatClampNeg) = 2 then (if y1 = 1 then (0 : Int32) else 1) else 1)) = (if 2 ≤ y1 then 0 else (if (w.2.1 37 ((8 * v3) + v4).toNatClampNeg) = 2 then (if y1 = 1 then (0 : Int32) else 1) else 1)) from if_pos c2] at hI
          exact hI
        refine wa_icmp_ge hX 79 (by decide) dX6_mayBe_60 (fun c14 => ?_) (fun c14 => ?_)
        · refine wa_iconst hX 0 ki_0 dX6_mayBe_79 ?_
          refine wa_sub (lv2 := [(0, .ref (Ad X 36)), (1, .int v1), (3, .int v3), (4, .int v4)]) [2, 3, 5, 6] rfl ?_
          rw [show (if 2 ≤ y1 then 0 else (if (w.2.1 37 ((8 * v3) + v4).toNatClampNeg) = 2 then (if y1 = 1 then (0 : Int32) else 1) else 1)) = 0 from if_pos c14] at hK4
          exact hK4
        · refine wa_iload hX 1 rfl dX6_mayBe_63 ?_
          refine wa_iconst hX 2 ki_2 dX6_mayBe_65 ?_
          have hK5 : Wa X w 80 [(0, .ref (Ad X 36)), (1, .int v1), (3, .int v3), (4, .int v4)] [.int (if (w.2.1 37 ((8 * v3) + v4).toNatClampNeg) = 2 then (if y1 = 1 then (0 : Int32) else 1) else 1)] := by
            rw [show (if 2 ≤ y1 then 0 else (if (w.2.1 37 ((8 * v3) + v4).toNatClampNeg) = 2 then (if y1 = 1 then (0 : Int32) else 1) else 1)) = (if (w.2.1 37 ((8 * v3) + v4).toNatClampNeg) = 2 then (if y1 = 1 then (0 : Int32) else 1) else 1) from if_neg c14] at hK4
            exact hK4
          refine wa_icmp_ne hX 75 (by decide) dX6_mayBe_66 (fun c15 => ?_) (fun c15 => ?_)
          · refine wa_iconst hX 1 ki_1 dX6_mayBe_75 ?_
            refine wa_goto hX 80 (by decide) dX6_mayBe_76 ?_
            refine wa_sub (lv2 := [(0, .ref (Ad X 36)), (1, .int v1), (3, .int v3), (4, .int v4)]) [2, 3, 5, 6] rfl ?_
            rw [show (if (w.2.1 37 ((8 * v3) + v4).toNatClampNeg) = 2 then (if y1 = 1 then (0 : Int32) else 1) else 1) = 1 from if_neg c15] at hK5
            exact hK5
          · refine wa_iload hX 0 rfl dX6_mayBe_69 ?_
            refine wa_iconst hX 1 ki_1 dX6_mayBe_71 ?_
            have hK6 : Wa X w 80 [(0, .ref (Ad X 36)), (1, .int v1), (3, .int v3), (4, .int v4)] [.int (if y1 = 1 then (0 : Int32) else 1)] := by
              rw [show (if (w.2.1 37 ((8 * v3) + v4).toNatClampNeg) = 2 then (if y1 = 1 then (0 : Int32) else 1) else 1) = (if y1 = 1 then (0 : Int32) else 1) from if_pos c15] at hK5
              exact hK5
            refine wa_icmp_eq hX 79 (by decide) dX6_mayBe_72 (fun c16 => ?_) (fun c16 => ?_)
            · refine wa_iconst hX 0 ki_0 dX6_mayBe_79 ?_
              refine wa_sub (lv2 := [(0, .ref (Ad X 36)), (1, .int v1), (3, .int v3), (4, .int v4)]) [2, 3, 5, 6] rfl ?_
              rw [show (if y1 = 1 then (0 : Int32) else 1) = 0 from if_pos c16] at hK6
              exact hK6
            · refine wa_iconst hX 1 ki_1 dX6_mayBe_75 ?_
              refine wa_goto hX 80 (by decide) dX6_mayBe_76 ?_
              refine wa_sub (lv2 := [(0, .ref (Ad X 36)), (1, .int v1), (3, .int v3), (4, .int v4)]) [2, 3, 5, 6] rfl ?_
              rw [show (if y1 = 1 then (0 : Int32) else 1) = 1 from if_neg c16] at hK6
              exact hK6
set_option maxRecDepth 100000 in
set_option maxHeartbeats 4000000 in
theorem t_X6_mayBe_4 {X : Fx} (hX : Cx X cX6_mayBe RX6 7 0 0) {r : Int32} {w1 : Wd} (hE : ∀ pc lv, decode cX6_mayBe pc = .ok (.ireturn, 1) → narrow .boolean (.int r) = .int r → Wa X w1 pc lv [.int r])  : ∀ (n : Nat) (a : Wd × Int32 × Int32 × Int32), L_X6_mayBe_4  n a = some (r, w1) → Wa X a.1 4 [(0, .ref (Ad X 36)), (1, .int a.2.1), (2, .int a.2.2.1), (3, .int a.2.2.2)] [] := by
  refine it_mach (P := fun (a : Wd × Int32 × Int32 × Int32) => Wa X a.1 4 [(0, .ref (Ad X 36)), (1, .int a.2.1), (2, .int a.2.2.1), (3, .int a.2.2.2)] []) ?_
  intro k4 hk4 a h
  obtain ⟨w, v1, v2, v3⟩ := a
  have h : F_X6_mayBe_4 k4 w v1 v2 v3 = some (r, w1) := h
  show Wa X w 4 [(0, .ref (Ad X 36)), (1, .int v1), (2, .int v2), (3, .int v3)] []
  unfold F_X6_mayBe_4 at h
  refine wa_iload_n hX 3 rfl rfl dX6_mayBe_4 ?_
  refine wa_bipush hX 8 kb_8 dX6_mayBe_5 ?_
  refine wa_icmp_ge hX 93 (by decide) dX6_mayBe_7 (fun c => ?_) (fun c => ?_)
  · replace h := itp c h
    refine wa_iload_n hX 2 rfl rfl dX6_mayBe_93 ?_
    obtain ⟨hg, h⟩ := gu_some h
    exact ret_z hE h (isB_or hg) dX6_mayBe_94
  · replace h := itn c h
    refine wa_iconst hX 0 ki_0 dX6_mayBe_10 ?_
    refine wa_istore hX (lv2 := [(4, .int 0), (0, .ref (Ad X 36)), (1, .int v1), (2, .int v2), (3, .int v3)]) (by decide) rfl dX6_mayBe_11 ?_
    refine wa_sub (lv2 := [(0, .ref (Ad X 36)), (1, .int v1), (2, .int v2), (3, .int v3), (4, .int 0)]) [1, 2, 3, 4, 0] rfl ?_
    exact t_X6_mayBe_13 hX hE hk4 _ _ h
set_option maxRecDepth 100000 in
set_option maxHeartbeats 4000000 in
theorem m_X6_mayBe {w w1 : Wd} {p1 : Int32} {r : Int32} (h : F_X6_mayBe w p1 = some (r, w1)) : Gi yX6_mayBe cX6_mayBe 7 (some .boolean) 0 0 (fun E => [.ref (E.2.1 36), .int p1]) w w1 r := by
  refine Gi.of (hy := by decide +kernel) (hlen := fun _ => Nat.le_of_ble_eq_true rfl) (fun X hX hE => ?_)
  · unfold F_X6_mayBe at h
    refine (show Wa X w 0 [(0, .ref (Ad X 36)), (1, .int p1)] [] from ?_)
    refine wa_iconst hX 1 ki_1 dX6_mayBe_0 ?_
    refine wa_istore_n hX (lv2 := [(2, .int 1), (0, .ref (Ad X 36)), (1, .int p1)]) rfl (by decide) rfl dX6_mayBe_1 ?_
    refine wa_iconst hX 0 ki_0 dX6_mayBe_2 ?_
    refine wa_istore_n hX (lv2 := [(3, .int 0), (2, .int 1), (0, .ref (Ad X 36)), (1, .int p1)]) rfl (by decide) rfl dX6_mayBe_3 ?_
    refine wa_sub (lv2 := [(0, .ref (Ad X 36)), (1, .int p1), (2, .int 1), (3, .int 0)]) [2, 3, 1, 0] rfl ?_
    exact t_X6_mayBe_4 hX hE  _ _ h
set_option maxRecDepth 100000 in
set_option maxHeartbeats 4000000 in
theorem t_X6_broken_15 {X : Fx} (hX : Cx X cX6_broken RX6 3 3 69) {r : Int32} {w1 : Wd} (hE : ∀ pc lv, decode cX6_broken pc = .ok (.ireturn, 1) → narrow .int (.int r) = .int r → Wa X w1 pc lv [.int r])  : ∀ (n : Nat) (a : Wd × Int32), L_X6_broken_15  n a = some (r, w1) → Wa X a.1 15 [(0, .ref (Ad X 36)), (2, .int a.2)] [] := by
  refine it_mach (P := fun (a : Wd × Int32) => Wa X a.1 15 [(0, .ref (Ad X 36)), (2, .int a.2)] []) ?_
  intro k15 hk15 a h
  obtain ⟨w, v2⟩ := a
  have h : F_X6_broken_15 k15 w v2 = some (r, w1) := h
  show Wa X w 15 [(0, .ref (Ad X 36)), (2, .int v2)] []
  unfold F_X6_broken_15 at h
  refine wa_iload_n hX 1 rfl rfl dX6_broken_15 ?_
  refine wa_aload_n hX 0 rfl rfl dX6_broken_16 ?_
  refine wg_model_lines hX fl_X6_93 dX6_broken_17 ?_
  refine wa_icmp_ge hX 44 (by decide) dX6_broken_20 (fun c => ?_) (fun c => ?_)
  · replace h := itp c h
    refine wa_bipush hX (-6) kb_m6 dX6_broken_44 ?_
    exact ret_i hE h dX6_broken_46
  · replace h := itn c h
    refine wa_aload_n hX 0 rfl rfl dX6_broken_23 ?_
    refine wa_aload_n hX 0 rfl rfl dX6_broken_24 ?_
    refine wg_model_on hX fl_X6_28 dX6_broken_25 ?_
    refine wa_iload_n hX 1 rfl rfl dX6_broken_28 ?_
    obtain ⟨hg, h⟩ := gu_some h
    refine wl_model_on hX hg dX6_broken_29 ?_
    obtain ⟨x2, h2, h⟩ := obind h
    refine wa_callVi hX (m_X6_mayBe h2) cx_X6_mayBe ml_X6_142 (As := [.int (w.2.1 43 v2.toNatClampNeg)]) (rest := []) 36 (ce_model _ _) rfl rfl rfl rfl ⟨Nat.le_of_ble_eq_true rfl, Nat.le_of_ble_eq_true rfl⟩ (Nat.le_of_ble_eq_true rfl) dX6_broken_30 ?_
    refine wa_if_ne hX 38 (by decide) dX6_broken_33 (fun c => ?_) (fun c => ?_)
    · replace h := itn c h
      refine wa_iinc hX (v := (v2 + 1)) (lv2 := [(2, .int (v2 + 1)), (0, .ref (Ad X 36))]) 1 rfl rfl (by decide) rfl dX6_broken_38 ?_
      refine wa_goto hX 15 (by decide) dX6_broken_41 ?_
      refine wa_sub (lv2 := [(0, .ref (Ad X 36)), (2, .int (v2 + 1))]) [1, 0] rfl ?_
      exact hk15 _ h
    · replace h := itp c h
      refine wa_iload_n hX 1 rfl rfl dX6_broken_36 ?_
      exact ret_i hE h dX6_broken_37
set_option maxRecDepth 100000 in
set_option maxHeartbeats 4000000 in
theorem m_X6_broken {w w1 : Wd} {r : Int32} (h : F_X6_broken w  = some (r, w1)) : Gi yX6_broken cX6_broken 3 (some .int) 3 69 (fun E => [.ref (E.2.1 36)]) w w1 r := by
  refine Gi.of (hy := by decide +kernel) (hlen := fun _ => Nat.le_of_ble_eq_true rfl) (fun X hX hE => ?_)
  · unfold F_X6_broken at h
    refine (show Wa X w 0 [(0, .ref (Ad X 36))] [] from ?_)
    refine wa_aload_n hX 0 rfl rfl dX6_broken_0 ?_
    obtain ⟨x1, h2, h⟩ := obind h
    refine wa_callVi hX (m_X6_refusal h2) cx_X6_refusal ml_X6_130 (As := []) (rest := []) 36 (ce_model _ _) rfl rfl rfl rfl ⟨Nat.le_of_ble_eq_true rfl, Nat.le_of_ble_eq_true rfl⟩ (Nat.le_of_ble_eq_true rfl) dX6_broken_1 ?_
    refine wa_istore_n hX (lv2 := [(1, .int x1.1), (0, .ref (Ad X 36))]) rfl (by decide) rfl dX6_broken_4 ?_
    refine wa_iload_n hX 0 rfl rfl dX6_broken_5 ?_
    refine wa_bipush hX (-6) kb_m6 dX6_broken_6 ?_
    refine wa_icmp_eq hX 13 (by decide) dX6_broken_8 (fun c => ?_) (fun c => ?_)
    · replace h := itp c h
      refine wa_iconst hX 0 ki_0 dX6_broken_13 ?_
      refine wa_istore_n hX (lv2 := [(2, .int 0), (1, .int x1.1), (0, .ref (Ad X 36))]) rfl (by decide) rfl dX6_broken_14 ?_
      refine wa_sub (lv2 := [(0, .ref (Ad X 36)), (2, .int 0)]) [2, 0] rfl ?_
      exact t_X6_broken_15 hX hE  _ _ h
    · replace h := itn c h
      refine wa_iload_n hX 0 rfl rfl dX6_broken_11 ?_
      exact ret_i hE h dX6_broken_12
set_option maxRecDepth 100000 in
set_option maxHeartbeats 4000000 in
theorem t_X6_bar_2 {X : Fx} (hX : Cx X cX6_bar RX6 2 1 22) {r : Int32} {w1 : Wd} (hE : ∀ pc lv, decode cX6_bar pc = .ok (.ireturn, 1) → narrow .int (.int r) = .int r → Wa X w1 pc lv [.int r])  : ∀ (n : Nat) (a : Wd × Int32), L_X6_bar_2  n a = some (r, w1) → Wa X a.1 2 [(0, .ref (Ad X 36)), (1, .int a.2)] [] := by
  refine it_mach (P := fun (a : Wd × Int32) => Wa X a.1 2 [(0, .ref (Ad X 36)), (1, .int a.2)] []) ?_
  intro k2 hk2 a h
  obtain ⟨w, v1⟩ := a
  have h : F_X6_bar_2 k2 w v1 = some (r, w1) := h
  show Wa X w 2 [(0, .ref (Ad X 36)), (1, .int v1)] []
  unfold F_X6_bar_2 at h
  refine wa_iload_n hX 1 rfl rfl dX6_bar_2 ?_
  refine wa_aload_n hX 0 rfl rfl dX6_bar_3 ?_
  refine wg_model_lines hX fl_X6_93 dX6_bar_4 ?_
  refine wa_icmp_ge hX 34 (by decide) dX6_bar_7 (fun c => ?_) (fun c => ?_)
  · replace h := itp c h
    refine wa_bipush hX (-6) kb_m6 dX6_bar_34 ?_
    exact ret_i hE h dX6_bar_36
  · replace h := itn c h
    refine wa_aload_n hX 0 rfl rfl dX6_bar_10 ?_
    refine wg_model_on hX fl_X6_28 dX6_bar_11 ?_
    refine wa_iload_n hX 1 rfl rfl dX6_bar_14 ?_
    obtain ⟨hg, h⟩ := gu_some h
    refine wl_model_on hX hg dX6_bar_15 ?_
    obtain ⟨x1, h2, h⟩ := obind h
    refine wa_callSi hX (m_X6_ones h2) cx_X6_ones ml_X6_119 (As := [.int (w.2.1 43 v1.toNatClampNeg)]) (rest := []) rfl rfl rfl ⟨Nat.le_of_ble_eq_true rfl, Nat.le_of_ble_eq_true rfl⟩ (Nat.le_of_ble_eq_true rfl) dX6_bar_16 ?_
    refine wa_aload_n hX 0 rfl rfl dX6_bar_19 ?_
    refine wg_model_just hX fl_X6_56 dX6_bar_20 ?_
    refine wa_icmp_le hX 28 (by decide) dX6_bar_23 (fun c => ?_) (fun c => ?_)
    · replace h := itp c h
      refine wa_iinc hX (v := (v1 + 1)) (lv2 := [(1, .int (v1 + 1)), (0, .ref (Ad X 36))]) 1 rfl rfl (by decide) rfl dX6_bar_28 ?_
      refine wa_goto hX 2 (by decide) dX6_bar_31 ?_
      refine wa_sub (lv2 := [(0, .ref (Ad X 36)), (1, .int (v1 + 1))]) [1, 0] rfl ?_
      exact hk2 _ h
    · replace h := itn c h
      refine wa_iload_n hX 1 rfl rfl dX6_bar_26 ?_
      exact ret_i hE h dX6_bar_27
set_option maxRecDepth 100000 in
set_option maxHeartbeats 4000000 in
theorem m_X6_bar {w w1 : Wd} {r : Int32} (h : F_X6_bar w  = some (r, w1)) : Gi yX6_bar cX6_bar 2 (some .int) 1 22 (fun E => [.ref (E.2.1 36)]) w w1 r := by
  refine Gi.of (hy := by decide +kernel) (hlen := fun _ => Nat.le_of_ble_eq_true rfl) (fun X hX hE => ?_)
  · unfold F_X6_bar at h
    refine (show Wa X w 0 [(0, .ref (Ad X 36))] [] from ?_)
    refine wa_iconst hX 0 ki_0 dX6_bar_0 ?_
    refine wa_istore_n hX (lv2 := [(1, .int 0), (0, .ref (Ad X 36))]) rfl (by decide) rfl dX6_bar_1 ?_
    refine wa_sub (lv2 := [(0, .ref (Ad X 36)), (1, .int 0)]) [1, 0] rfl ?_
    exact t_X6_bar_2 hX hE  _ _ h
set_option maxRecDepth 100000 in
set_option maxHeartbeats 4000000 in
theorem t_X6_strangers_61 {X : Fx} (hX : Cx X cX6_strangers RX6 9 3 69) {r : Int32} {w1 : Wd} (hE : ∀ pc lv, decode cX6_strangers pc = .ok (.ireturn, 1) → narrow .int (.int r) = .int r → Wa X w1 pc lv [.int r])  {w : Wd} {v1 : Int32} {v3 : Int32} (h : F_X6_strangers_61 w v1 v3 = some (r, w1)) : Wa X w 61 [(1, .int v1), (3, .int v3)] [] := by
  unfold F_X6_strangers_61 at h
  refine wa_iload_n hX 0 rfl rfl dX6_strangers_61 ?_
  refine wa_iconst hX 2 ki_2 dX6_strangers_62 ?_
  have hJ : Wa X w 72 [] [.int (if v1 = 2 then v3 else (-6))] := by
    exact ret_i hE h dX6_strangers_72
  refine wa_icmp_ne hX 70 (by decide) dX6_strangers_63 (fun c => ?_) (fun c => ?_)
  · refine wa_bipush hX (-6) kb_m6 dX6_strangers_70 ?_
    refine wa_sub (lv2 := []) [] rfl ?_
    rw [show (if v1 = 2 then v3 else (-6)) = (-6) from if_neg c] at hJ
    exact hJ
  · refine wa_iload_n hX 1 rfl rfl dX6_strangers_66 ?_
    refine wa_goto hX 72 (by decide) dX6_strangers_67 ?_
    refine wa_sub (lv2 := []) [] rfl ?_
    rw [show (if v1 = 2 then v3 else (-6)) = v3 from if_pos c] at hJ
    exact hJ
set_option maxRecDepth 100000 in
set_option maxHeartbeats 4000000 in
theorem t_X6_strangers_194 {X : Fx} (hX : Cx X cX6_strangers RX6 9 3 69) {r : Int32} {w1 : Wd} (hE : ∀ pc lv, decode cX6_strangers pc = .ok (.ireturn, 1) → narrow .int (.int r) = .int r → Wa X w1 pc lv [.int r])  {w : Wd} {s0 : Int32} (h : F_X6_strangers_194 w s0 = some (r, w1)) : Wa X w 194 [] [.int s0] := by
  unfold F_X6_strangers_194 at h
  exact ret_i hE h dX6_strangers_194
set_option maxRecDepth 100000 in
set_option maxHeartbeats 4000000 in
theorem t_X6_strangers_85 {X : Fx} (hX : Cx X cX6_strangers RX6 9 3 69) {r : Int32} {w1 : Wd} (hE : ∀ pc lv, decode cX6_strangers pc = .ok (.ireturn, 1) → narrow .int (.int r) = .int r → Wa X w1 pc lv [.int r])  : ∀ (n : Nat) (a : Wd × Int32 × Int32 × Int32 × Int32 × Int32), L_X6_strangers_85  n a = some (r, w1) → Wa X a.1 85 [(0, .ref (Ad X 36)), (1, .int a.2.1), (4, .int a.2.2.1), (5, .int a.2.2.2.1), (6, .int a.2.2.2.2.1), (7, .int a.2.2.2.2.2)] [] := by
  refine it_mach (P := fun (a : Wd × Int32 × Int32 × Int32 × Int32 × Int32) => Wa X a.1 85 [(0, .ref (Ad X 36)), (1, .int a.2.1), (4, .int a.2.2.1), (5, .int a.2.2.2.1), (6, .int a.2.2.2.2.1), (7, .int a.2.2.2.2.2)] []) ?_
  intro k85 hk85 a h
  obtain ⟨w, v1, v4, v5, v6, v7⟩ := a
  have h : F_X6_strangers_85 k85 w v1 v4 v5 v6 v7 = some (r, w1) := h
  show Wa X w 85 [(0, .ref (Ad X 36)), (1, .int v1), (4, .int v4), (5, .int v5), (6, .int v6), (7, .int v7)] []
  unfold F_X6_strangers_85 at h
  refine wa_iload hX 5 rfl dX6_strangers_85 ?_
  refine wa_aload_n hX 0 rfl rfl dX6_strangers_87 ?_
  refine wg_model_lines hX fl_X6_93 dX6_strangers_88 ?_
  refine wa_icmp_ge hX 158 (by decide) dX6_strangers_91 (fun c => ?_) (fun c => ?_)
  · replace h := itp c h
    refine wa_iload_n hX 1 rfl rfl dX6_strangers_158 ?_
    refine wa_if_ne hX 167 (by decide) dX6_strangers_159 (fun c => ?_) (fun c => ?_)
    · replace h := itn c h
      refine wa_iload_n hX 1 rfl rfl dX6_strangers_167 ?_
      refine wa_iconst hX 1 ki_1 dX6_strangers_168 ?_
      refine wa_icmp_ne hX 177 (by decide) dX6_strangers_169 (fun c => ?_) (fun c => ?_)
      · replace h := itn c h
        refine wa_aload_n hX 0 rfl rfl dX6_strangers_177 ?_
        refine wg_model_just hX fl_X6_56 dX6_strangers_178 ?_
        refine wa_aload_n hX 0 rfl rfl dX6_strangers_181 ?_
        refine wg_model_on hX fl_X6_28 dX6_strangers_182 ?_
        refine wa_iload_n hX 1 rfl rfl dX6_strangers_185 ?_
        refine wa_bipush hX 10 kb_10 dX6_strangers_186 ?_
        refine wa_isub hX dX6_strangers_188 ?_
        obtain ⟨hg, h⟩ := gu_some h
        refine wl_model_on hX hg dX6_strangers_189 ?_
        obtain ⟨x4, h2, h⟩ := obind h
        refine wa_callSi hX (m_X6_ones h2) cx_X6_ones ml_X6_119 (As := [.int (w.2.1 43 (v1 - 10).toNatClampNeg)]) (rest := [.int (w.1 30)]) rfl rfl rfl ⟨Nat.le_of_ble_eq_true rfl, Nat.le_of_ble_eq_true rfl⟩ (Nat.le_of_ble_eq_true rfl) dX6_strangers_190 ?_
        refine wa_isub hX dX6_strangers_193 ?_
        refine wa_sub (lv2 := []) [] rfl ?_
        exact t_X6_strangers_194 hX hE  h
      · replace h := itp c h
        refine wa_iload hX 3 rfl dX6_strangers_172 ?_
        refine wa_goto hX 194 (by decide) dX6_strangers_174 ?_
        refine wa_sub (lv2 := []) [] rfl ?_
        exact t_X6_strangers_194 hX hE  h
    · replace h := itp c h
      refine wa_iload hX 2 rfl dX6_strangers_162 ?_
      refine wa_goto hX 194 (by decide) dX6_strangers_164 ?_
      refine wa_sub (lv2 := []) [] rfl ?_
      exact t_X6_strangers_194 hX hE  h
  · replace h := itn c h
    refine wa_aload_n hX 0 rfl rfl dX6_strangers_94 ?_
    refine wg_model_just hX fl_X6_56 dX6_strangers_95 ?_
    refine wa_aload_n hX 0 rfl rfl dX6_strangers_98 ?_
    refine wg_model_on hX fl_X6_28 dX6_strangers_99 ?_
    refine wa_iload hX 5 rfl dX6_strangers_102 ?_
    obtain ⟨hg, h⟩ := gu_some h
    refine wl_model_on hX hg dX6_strangers_104 ?_
    obtain ⟨x5, h2, h⟩ := obind h
    refine wa_callSi hX (m_X6_ones h2) cx_X6_ones ml_X6_119 (As := [.int (w.2.1 43 v7.toNatClampNeg)]) (rest := [.int (w.1 30)]) rfl rfl rfl ⟨Nat.le_of_ble_eq_true rfl, Nat.le_of_ble_eq_true rfl⟩ (Nat.le_of_ble_eq_true rfl) dX6_strangers_105 ?_
    refine wa_isub hX dX6_strangers_108 ?_
    refine wa_istore hX (lv2 := [(8, .int (w.1 30 - x5.1)), (0, .ref (Ad X 36)), (1, .int v1), (4, .int v4), (5, .int v5), (6, .int v6), (7, .int v7)]) (by decide) rfl dX6_strangers_109 ?_
    refine wa_iload hX 3 rfl dX6_strangers_111 ?_
    refine wa_iload hX 0 rfl dX6_strangers_113 ?_
    refine wa_iload hX 5 rfl dX6_strangers_115 ?_
    have hJ : Wa X x5.2 129 [(0, .ref (Ad X 36)), (1, .int v1), (5, .int v5), (7, .int v7), (8, .int (w.1 30 - x5.1))] [.int (if (w.1 30 - x5.1) ≤ v6 then 0 else ((w.1 30 - x5.1) - v6)), .int v4] := by
      refine wa_iadd hX dX6_strangers_129 ?_
      refine wa_let h (fun y6 h => ?_)
      refine wa_istore hX (lv2 := [(4, .int y6), (0, .ref (Ad X 36)), (1, .int v1), (5, .int v5), (7, .int v7), (8, .int (w.1 30 - x5.1))]) (by decide) rfl dX6_strangers_130 ?_
      refine wa_iload hX 5 rfl dX6_strangers_132 ?_
      refine wa_iload hX 3 rfl dX6_strangers_134 ?_
      have hJ : Wa X x5.2 146 [(0, .ref (Ad X 36)), (1, .int v1), (4, .int y6), (7, .int v7), (8, .int (w.1 30 - x5.1))] [.int (if (w.1 30 - x5.1) ≤ v5 then v5 else (w.1 30 - x5.1))] := by
        refine wa_let h (fun y7 h => ?_)
        refine wa_istore hX (lv2 := [(5, .int y7), (0, .ref (Ad X 36)), (1, .int v1), (4, .int y6), (7, .int v7), (8, .int (w.1 30 - x5.1))]) (by decide) rfl dX6_strangers_146 ?_
        refine wa_iload hX 5 rfl dX6_strangers_148 ?_
        refine wa_istore hX (lv2 := [(6, .int (w.1 30 - x5.1)), (5, .int y7), (0, .ref (Ad X 36)), (1, .int v1), (4, .int y6), (7, .int v7), (8, .int (w.1 30 - x5.1))]) (by decide) rfl dX6_strangers_150 ?_
        refine wa_iinc hX (v := (v7 + 1)) (lv2 := [(7, .int (v7 + 1)), (6, .int (w.1 30 - x5.1)), (5, .int y7), (0, .ref (Ad X 36)), (1, .int v1), (4, .int y6), (8, .int (w.1 30 - x5.1))]) 5 rfl rfl (by decide) rfl dX6_strangers_152 ?_
        refine wa_goto hX 85 (by decide) dX6_strangers_155 ?_
        refine wa_sub (lv2 := [(0, .ref (Ad X 36)), (1, .int v1), (4, .int y6), (5, .int y7), (6, .int (w.1 30 - x5.1)), (7, .int (v7 + 1))]) [3, 4, 5, 2, 1, 0] rfl ?_
        exact hk85 _ h
      refine wa_icmp_le hX 144 (by decide) dX6_strangers_136 (fun c => ?_) (fun c => ?_)
      · refine wa_iload hX 3 rfl dX6_strangers_144 ?_
        refine wa_sub (lv2 := [(0, .ref (Ad X 36)), (1, .int v1), (4, .int y6), (7, .int v7), (8, .int (w.1 30 - x5.1))]) [1, 2, 0, 4, 5] rfl ?_
        rw [show (if (w.1 30 - x5.1) ≤ v5 then v5 else (w.1 30 - x5.1)) = v5 from if_pos c] at hJ
        exact hJ
      · refine wa_iload hX 5 rfl dX6_strangers_139 ?_
        refine wa_goto hX 146 (by decide) dX6_strangers_141 ?_
        refine wa_sub (lv2 := [(0, .ref (Ad X 36)), (1, .int v1), (4, .int y6), (7, .int v7), (8, .int (w.1 30 - x5.1))]) [1, 2, 0, 4, 5] rfl ?_
        rw [show (if (w.1 30 - x5.1) ≤ v5 then v5 else (w.1 30 - x5.1)) = (w.1 30 - x5.1) from if_neg c] at hJ
        exact hJ
    refine wa_icmp_le hX 128 (by decide) dX6_strangers_117 (fun c => ?_) (fun c => ?_)
    · refine wa_iconst hX 0 ki_0 dX6_strangers_128 ?_
      refine wa_sub (lv2 := [(0, .ref (Ad X 36)), (1, .int v1), (5, .int v5), (7, .int v7), (8, .int (w.1 30 - x5.1))]) [1, 2, 4, 6, 0] rfl ?_
      rw [show (if (w.1 30 - x5.1) ≤ v6 then 0 else ((w.1 30 - x5.1) - v6)) = 0 from if_pos c] at hJ
      exact hJ
    · refine wa_iload hX 0 rfl dX6_strangers_120 ?_
      refine wa_iload hX 5 rfl dX6_strangers_122 ?_
      refine wa_isub hX dX6_strangers_124 ?_
      refine wa_goto hX 129 (by decide) dX6_strangers_125 ?_
      refine wa_sub (lv2 := [(0, .ref (Ad X 36)), (1, .int v1), (5, .int v5), (7, .int v7), (8, .int (w.1 30 - x5.1))]) [1, 2, 4, 6, 0] rfl ?_
      rw [show (if (w.1 30 - x5.1) ≤ v6 then 0 else ((w.1 30 - x5.1) - v6)) = ((w.1 30 - x5.1) - v6) from if_neg c] at hJ
      exact hJ
set_option maxRecDepth 100000 in
set_option maxHeartbeats 4000000 in
theorem t_X6_strangers_47 {X : Fx} (hX : Cx X cX6_strangers RX6 9 3 69) {r : Int32} {w1 : Wd} (hE : ∀ pc lv, decode cX6_strangers pc = .ok (.ireturn, 1) → narrow .int (.int r) = .int r → Wa X w1 pc lv [.int r])  {w : Wd} {v1 : Int32} (h : F_X6_strangers_47 w v1 = some (r, w1)) : Wa X w 47 [(0, .ref (Ad X 36)), (1, .int v1)] [] := by
  unfold F_X6_strangers_47 at h
  refine wa_aload_n hX 0 rfl rfl dX6_strangers_47 ?_
  obtain ⟨x3, h2, h⟩ := obind h
  refine wa_callVi hX (m_X6_bar h2) cx_X6_bar ml_X6_147 (As := []) (rest := []) 36 (ce_model _ _) rfl rfl rfl rfl ⟨Nat.le_of_ble_eq_true rfl, Nat.le_of_ble_eq_true rfl⟩ (Nat.le_of_ble_eq_true rfl) dX6_strangers_48 ?_
  refine wa_istore_n hX (lv2 := [(3, .int x3.1), (0, .ref (Ad X 36)), (1, .int v1)]) rfl (by decide) rfl dX6_strangers_51 ?_
  refine wa_iload_n hX 2 rfl rfl dX6_strangers_52 ?_
  refine wa_iconst hX 2 ki_2 dX6_strangers_53 ?_
  refine wa_icmp_eq hX 61 (by decide) dX6_strangers_54 (fun c => ?_) (fun c => ?_)
  · replace h := itp c h
    refine wa_sub (lv2 := [(1, .int v1), (3, .int x3.1)]) [2, 0] rfl ?_
    exact t_X6_strangers_61 hX hE  h
  · replace h := itn c h
    refine wa_iload_n hX 0 rfl rfl dX6_strangers_57 ?_
    refine wa_if_lt hX 73 (by decide) dX6_strangers_58 (fun c => ?_) (fun c => ?_)
    · replace h := itp c h
      refine wa_iconst hX 0 ki_0 dX6_strangers_73 ?_
      refine wa_istore hX (lv2 := [(4, .int 0), (3, .int x3.1), (0, .ref (Ad X 36)), (1, .int v1)]) (by decide) rfl dX6_strangers_74 ?_
      refine wa_iconst hX 0 ki_0 dX6_strangers_76 ?_
      refine wa_istore hX (lv2 := [(5, .int 0), (4, .int 0), (3, .int x3.1), (0, .ref (Ad X 36)), (1, .int v1)]) (by decide) rfl dX6_strangers_77 ?_
      refine wa_iconst hX 0 ki_0 dX6_strangers_79 ?_
      refine wa_istore hX (lv2 := [(6, .int 0), (5, .int 0), (4, .int 0), (3, .int x3.1), (0, .ref (Ad X 36)), (1, .int v1)]) (by decide) rfl dX6_strangers_80 ?_
      refine wa_iconst hX 0 ki_0 dX6_strangers_82 ?_
      refine wa_istore hX (lv2 := [(7, .int 0), (6, .int 0), (5, .int 0), (4, .int 0), (3, .int x3.1), (0, .ref (Ad X 36)), (1, .int v1)]) (by decide) rfl dX6_strangers_83 ?_
      refine wa_sub (lv2 := [(0, .ref (Ad X 36)), (1, .int v1), (4, .int 0), (5, .int 0), (6, .int 0), (7, .int 0)]) [5, 6, 3, 2, 1, 0] rfl ?_
      exact t_X6_strangers_85 hX hE  _ _ h
    · replace h := itn c h
      refine wa_sub (lv2 := [(1, .int v1), (3, .int x3.1)]) [2, 0] rfl ?_
      exact t_X6_strangers_61 hX hE  h
set_option maxRecDepth 100000 in
set_option maxHeartbeats 4000000 in
theorem m_X6_strangers {w w1 : Wd} {p1 : Int32} {r : Int32} (h : F_X6_strangers w p1 = some (r, w1)) : Gi yX6_strangers cX6_strangers 9 (some .int) 3 69 (fun E => [.ref (E.2.1 36), .int p1]) w w1 r := by
  refine Gi.of (hy := by decide +kernel) (hlen := fun _ => Nat.le_of_ble_eq_true rfl) (fun X hX hE => ?_)
  · unfold F_X6_strangers at h
    refine (show Wa X w 0 [(0, .ref (Ad X 36)), (1, .int p1)] [] from ?_)
    refine wa_aload_n hX 0 rfl rfl dX6_strangers_0 ?_
    obtain ⟨x1, h2, h⟩ := obind h
    refine wa_callVi hX (m_X6_refusal h2) cx_X6_refusal ml_X6_130 (As := []) (rest := []) 36 (ce_model _ _) rfl rfl rfl rfl ⟨Nat.le_of_ble_eq_true rfl, Nat.le_of_ble_eq_true rfl⟩ (Nat.le_of_ble_eq_true rfl) dX6_strangers_1 ?_
    refine wa_istore_n hX (lv2 := [(2, .int x1.1), (0, .ref (Ad X 36)), (1, .int p1)]) rfl (by decide) rfl dX6_strangers_4 ?_
    refine wa_iload_n hX 0 rfl rfl dX6_strangers_5 ?_
    refine wa_bipush hX (-6) kb_m6 dX6_strangers_6 ?_
    refine wa_icmp_eq hX 13 (by decide) dX6_strangers_8 (fun c => ?_) (fun c => ?_)
    · replace h := itp c h
      refine wa_iload_n hX 2 rfl rfl dX6_strangers_13 ?_
      refine wa_i2l hX dX6_strangers_14 ?_
      refine wa_lconst hX 0 rfl dX6_strangers_15 ?_
      refine wa_ldc2 hX kc_X6_66 dX6_strangers_16 ?_
      obtain ⟨x2, h2, h⟩ := obind h
      refine wa_callSi hX (m_X6_in h2) cx_X6_in ml_X6_62 (As := [.long p1.toInt64, .long 0, .long 2]) (rest := []) rfl rfl rfl ⟨Nat.le_of_ble_eq_true rfl, Nat.le_of_ble_eq_true rfl⟩ (Nat.le_of_ble_eq_true rfl) dX6_strangers_19 ?_
      refine wa_if_ne hX 47 (by decide) dX6_strangers_22 (fun c => ?_) (fun c => ?_)
      · replace h := itn c h
        refine wa_sub (lv2 := [(0, .ref (Ad X 36)), (1, .int p1)]) [1, 2] rfl ?_
        exact t_X6_strangers_47 hX hE  h
      · replace h := itp c h
        refine wa_iload_n hX 2 rfl rfl dX6_strangers_25 ?_
        refine wa_i2l hX dX6_strangers_26 ?_
        refine wa_ldc2 hX kc_X6_145 dX6_strangers_27 ?_
        refine wa_bipush hX 9 kb_9 dX6_strangers_30 ?_
        refine wa_aload_n hX 1 rfl rfl dX6_strangers_32 ?_
        refine wg_model_lines hX fl_X6_93 dX6_strangers_33 ?_
        refine wa_iadd hX dX6_strangers_36 ?_
        refine wa_i2l hX dX6_strangers_37 ?_
        obtain ⟨x8, h2, h⟩ := obind h
        refine wa_callSi hX (m_X6_in h2) cx_X6_in ml_X6_62 (As := [.long p1.toInt64, .long 10, .long ((9 + x2.2.1 35).toInt64)]) (rest := []) rfl rfl rfl ⟨Nat.le_of_ble_eq_true rfl, Nat.le_of_ble_eq_true rfl⟩ (Nat.le_of_ble_eq_true rfl) dX6_strangers_38 ?_
        refine wa_if_ne hX 47 (by decide) dX6_strangers_41 (fun c => ?_) (fun c => ?_)
        · replace h := itn c h
          refine wa_sub (lv2 := [(0, .ref (Ad X 36)), (1, .int p1)]) [1, 2] rfl ?_
          exact t_X6_strangers_47 hX hE  h
        · replace h := itp c h
          refine wa_bipush hX (-2) kb_m2 dX6_strangers_44 ?_
          exact ret_i hE h dX6_strangers_46
    · replace h := itn c h
      refine wa_iload_n hX 0 rfl rfl dX6_strangers_11 ?_
      exact ret_i hE h dX6_strangers_12
set_option maxRecDepth 100000 in
set_option maxHeartbeats 4000000 in
theorem t_X6_mostStay_154 {X : Fx} (hX : Cx X cX6_mostStay RX6 6 1 22) {r : Int32} {w1 : Wd} (hE : ∀ pc lv, decode cX6_mostStay pc = .ok (.ireturn, 1) → narrow .int (.int r) = .int r → Wa X w1 pc lv [.int r]) {k4 : Wd × Int32 × Int32 → Option (Int32 × Wd)} (hk4 : ∀ a, k4 a = some (r, w1) → Wa X a.1 4 [(0, .ref (Ad X 36)), (1, .int a.2.1), (2, .int a.2.2)] []) {w : Wd} {v2 : Int32} {s0 : Int32} (h : F_X6_mostStay_154 k4 w v2 s0 = some (r, w1)) : Wa X w 154 [(0, .ref (Ad X 36)), (2, .int v2)] [.int s0] := by
  unfold F_X6_mostStay_154 at h
  refine wa_istore_n hX (lv2 := [(1, .int s0), (0, .ref (Ad X 36)), (2, .int v2)]) rfl (by decide) rfl dX6_mostStay_154 ?_
  refine wa_iinc hX (v := (v2 + 1)) (lv2 := [(2, .int (v2 + 1)), (1, .int s0), (0, .ref (Ad X 36))]) 2 rfl rfl (by decide) rfl dX6_mostStay_155 ?_
  refine wa_goto hX 4 (by decide) dX6_mostStay_158 ?_
  refine wa_sub (lv2 := [(0, .ref (Ad X 36)), (1, .int s0), (2, .int (v2 + 1))]) [2, 1, 0] rfl ?_
  exact hk4 _ h
set_option maxRecDepth 100000 in
set_option maxHeartbeats 4000000 in
theorem t_X6_mostStay_127 {X : Fx} (hX : Cx X cX6_mostStay RX6 6 1 22) {r : Int32} {w1 : Wd} (hE : ∀ pc lv, decode cX6_mostStay pc = .ok (.ireturn, 1) → narrow .int (.int r) = .int r → Wa X w1 pc lv [.int r]) {k4 : Wd × Int32 × Int32 → Option (Int32 × Wd)} (hk4 : ∀ a, k4 a = some (r, w1) → Wa X a.1 4 [(0, .ref (Ad X 36)), (1, .int a.2.1), (2, .int a.2.2)] []) {k44 : Wd × Int32 × Int32 × Int32 × Int32 → Option (Int32 × Wd)} (hk44 : ∀ a, k44 a = some (r, w1) → Wa X a.1 44 [(0, .ref (Ad X 36)), (1, .int a.2.1), (2, .int a.2.2.1), (3, .int a.2.2.2.1), (4, .int a.2.2.2.2)] []) {w : Wd} {v1 : Int32} {v2 : Int32} {v3 : Int32} {v4 : Int32} {s0 : Int32} {s1 : Int32} (h : F_X6_mostStay_127 k4 k44 w v1 v2 v3 v4 s0 s1 = some (r, w1)) : Wa X w 127 [(0, .ref (Ad X 36)), (1, .int v1), (2, .int v2), (3, .int v3), (4, .int v4)] [.int s0, .int s1, .ref (Ad X 44)] := by
  unfold F_X6_mostStay_127 at h
  obtain ⟨hg, h⟩ := gu_some h
  refine ws_model_stay hX hg dX6_mostStay_127 ?_
  refine wa_iinc hX (v := (v4 + 1)) (lv2 := [(4, .int (v4 + 1)), (0, .ref (Ad X 36)), (1, .int v1), (2, .int v2), (3, .int v3)]) 4 rfl rfl (by decide) rfl dX6_mostStay_128 ?_
  refine wa_goto hX 44 (by decide) dX6_mostStay_131 ?_
  refine wa_sub (lv2 := [(0, .ref (Ad X 36)), (1, .int v1), (2, .int v2), (3, .int v3), (4, .int (v4 + 1))]) [1, 2, 3, 4, 0] rfl ?_
  exact hk44 _ h
set_option maxRecDepth 100000 in
set_option maxHeartbeats 4000000 in
theorem t_X6_mostStay_121 {X : Fx} (hX : Cx X cX6_mostStay RX6 6 1 22) {r : Int32} {w1 : Wd} (hE : ∀ pc lv, decode cX6_mostStay pc = .ok (.ireturn, 1) → narrow .int (.int r) = .int r → Wa X w1 pc lv [.int r]) {k4 : Wd × Int32 × Int32 → Option (Int32 × Wd)} (hk4 : ∀ a, k4 a = some (r, w1) → Wa X a.1 4 [(0, .ref (Ad X 36)), (1, .int a.2.1), (2, .int a.2.2)] []) {k44 : Wd × Int32 × Int32 × Int32 × Int32 → Option (Int32 × Wd)} (hk44 : ∀ a, k44 a = some (r, w1) → Wa X a.1 44 [(0, .ref (Ad X 36)), (1, .int a.2.1), (2, .int a.2.2.1), (3, .int a.2.2.2.1), (4, .int a.2.2.2.2)] []) {w : Wd} {v1 : Int32} {v2 : Int32} {v3 : Int32} {v4 : Int32} {s0 : Int32} (h : F_X6_mostStay_121 k4 k44 w v1 v2 v3 v4 s0 = some (r, w1)) : Wa X w 121 [(0, .ref (Ad X 36)), (1, .int v1), (2, .int v2), (3, .int v3), (4, .int v4)] [.int s0, .ref (Ad X 44)] := by
  unfold F_X6_mostStay_121 at h
  refine wa_aload_n hX 0 rfl rfl dX6_mostStay_121 ?_
  refine wg_model_stay hX fl_X6_31 dX6_mostStay_122 ?_
  refine wa_iload_n hX 2 rfl rfl dX6_mostStay_125 ?_
  obtain ⟨hg, h⟩ := gu_some h
  refine wl_model_stay hX hg dX6_mostStay_126 ?_
  exact t_X6_mostStay_127 hX hE hk4 hk44 h
set_option maxRecDepth 100000 in
set_option maxHeartbeats 4000000 in
theorem t_X6_mostStay_79 {X : Fx} (hX : Cx X cX6_mostStay RX6 6 1 22) {r : Int32} {w1 : Wd} (hE : ∀ pc lv, decode cX6_mostStay pc = .ok (.ireturn, 1) → narrow .int (.int r) = .int r → Wa X w1 pc lv [.int r]) {k4 : Wd × Int32 × Int32 → Option (Int32 × Wd)} (hk4 : ∀ a, k4 a = some (r, w1) → Wa X a.1 4 [(0, .ref (Ad X 36)), (1, .int a.2.1), (2, .int a.2.2)] []) {k44 : Wd × Int32 × Int32 × Int32 × Int32 → Option (Int32 × Wd)} (hk44 : ∀ a, k44 a = some (r, w1) → Wa X a.1 44 [(0, .ref (Ad X 36)), (1, .int a.2.1), (2, .int a.2.2.1), (3, .int a.2.2.2.1), (4, .int a.2.2.2.2)] []) {w : Wd} {v1 : Int32} {v2 : Int32} {v3 : Int32} {v4 : Int32} {s0 : Int32} (h : F_X6_mostStay_79 k4 k44 w v1 v2 v3 v4 s0 = some (r, w1)) : Wa X w 79 [(0, .ref (Ad X 36)), (1, .int v1), (2, .int v2), (3, .int v3), (4, .int v4)] [.int s0] := by
  unfold F_X6_mostStay_79 at h
  refine wa_istore hX (lv2 := [(5, .int s0), (0, .ref (Ad X 36)), (1, .int v1), (2, .int v2), (3, .int v3), (4, .int v4)]) (by decide) rfl dX6_mostStay_79 ?_
  refine wa_aload_n hX 1 rfl rfl dX6_mostStay_81 ?_
  refine wg_model_stay hX fl_X6_31 dX6_mostStay_82 ?_
  refine wa_iload_n hX 3 rfl rfl dX6_mostStay_85 ?_
  refine wa_iload hX 0 rfl dX6_mostStay_86 ?_
  refine wa_if_eq hX 121 (by decide) dX6_mostStay_88 (fun c => ?_) (fun c => ?_)
  · replace h := itp c h
    refine wa_sub (lv2 := [(0, .ref (Ad X 36)), (1, .int v1), (2, .int v2), (3, .int v3), (4, .int v4)]) [1, 2, 3, 4, 5] rfl ?_
    exact t_X6_mostStay_121 hX hE hk4 hk44 h
  · replace h := itn c h
    refine wa_aload_n hX 1 rfl rfl dX6_mostStay_91 ?_
    refine wg_model_stay hX fl_X6_31 dX6_mostStay_92 ?_
    refine wa_iload hX 5 rfl dX6_mostStay_95 ?_
    obtain ⟨hg, h⟩ := gu_some h
    refine wl_model_stay hX hg dX6_mostStay_97 ?_
    refine wa_iconst hX 1 ki_1 dX6_mostStay_98 ?_
    refine wa_iadd hX dX6_mostStay_99 ?_
    refine wa_aload_n hX 1 rfl rfl dX6_mostStay_100 ?_
    refine wg_model_stay hX fl_X6_31 dX6_mostStay_101 ?_
    refine wa_iload_n hX 3 rfl rfl dX6_mostStay_104 ?_
    obtain ⟨hg, h⟩ := gu_some h
    refine wl_model_stay hX hg dX6_mostStay_105 ?_
    refine wa_icmp_le hX 121 (by decide) dX6_mostStay_106 (fun c => ?_) (fun c => ?_)
    · replace h := itp c h
      refine wa_sub (lv2 := [(0, .ref (Ad X 36)), (1, .int v1), (2, .int v2), (3, .int v3), (4, .int v4)]) [1, 2, 3, 4, 5] rfl ?_
      exact t_X6_mostStay_121 hX hE hk4 hk44 h
    · replace h := itn c h
      refine wa_aload_n hX 1 rfl rfl dX6_mostStay_109 ?_
      refine wg_model_stay hX fl_X6_31 dX6_mostStay_110 ?_
      refine wa_iload hX 5 rfl dX6_mostStay_113 ?_
      obtain ⟨hg, h⟩ := gu_some h
      refine wl_model_stay hX hg dX6_mostStay_115 ?_
      refine wa_iconst hX 1 ki_1 dX6_mostStay_116 ?_
      refine wa_iadd hX dX6_mostStay_117 ?_
      refine wa_goto hX 127 (by decide) dX6_mostStay_118 ?_
      refine wa_sub (lv2 := [(0, .ref (Ad X 36)), (1, .int v1), (2, .int v2), (3, .int v3), (4, .int v4)]) [1, 2, 3, 4, 5] rfl ?_
      exact t_X6_mostStay_127 hX hE hk4 hk44 h
set_option maxRecDepth 100000 in
set_option maxHeartbeats 4000000 in
theorem t_X6_mostStay_78 {X : Fx} (hX : Cx X cX6_mostStay RX6 6 1 22) {r : Int32} {w1 : Wd} (hE : ∀ pc lv, decode cX6_mostStay pc = .ok (.ireturn, 1) → narrow .int (.int r) = .int r → Wa X w1 pc lv [.int r]) {k4 : Wd × Int32 × Int32 → Option (Int32 × Wd)} (hk4 : ∀ a, k4 a = some (r, w1) → Wa X a.1 4 [(0, .ref (Ad X 36)), (1, .int a.2.1), (2, .int a.2.2)] []) {k44 : Wd × Int32 × Int32 × Int32 × Int32 → Option (Int32 × Wd)} (hk44 : ∀ a, k44 a = some (r, w1) → Wa X a.1 44 [(0, .ref (Ad X 36)), (1, .int a.2.1), (2, .int a.2.2.1), (3, .int a.2.2.2.1), (4, .int a.2.2.2.2)] []) {w : Wd} {v1 : Int32} {v2 : Int32} {v3 : Int32} {v4 : Int32} (h : F_X6_mostStay_78 k4 k44 w v1 v2 v3 v4 = some (r, w1)) : Wa X w 78 [(0, .ref (Ad X 36)), (1, .int v1), (2, .int v2), (3, .int v3), (4, .int v4)] [] := by
  unfold F_X6_mostStay_78 at h
  refine wa_iconst hX 0 ki_0 dX6_mostStay_78 ?_
  exact t_X6_mostStay_79 hX hE hk4 hk44 h
set_option maxRecDepth 100000 in
set_option maxHeartbeats 4000000 in
theorem t_X6_mostStay_44 {X : Fx} (hX : Cx X cX6_mostStay RX6 6 1 22) {r : Int32} {w1 : Wd} (hE : ∀ pc lv, decode cX6_mostStay pc = .ok (.ireturn, 1) → narrow .int (.int r) = .int r → Wa X w1 pc lv [.int r]) {k4 : Wd × Int32 × Int32 → Option (Int32 × Wd)} (hk4 : ∀ a, k4 a = some (r, w1) → Wa X a.1 4 [(0, .ref (Ad X 36)), (1, .int a.2.1), (2, .int a.2.2)] []) : ∀ (n : Nat) (a : Wd × Int32 × Int32 × Int32 × Int32), L_X6_mostStay_44 k4 n a = some (r, w1) → Wa X a.1 44 [(0, .ref (Ad X 36)), (1, .int a.2.1), (2, .int a.2.2.1), (3, .int a.2.2.2.1), (4, .int a.2.2.2.2)] [] := by
  refine it_mach (P := fun (a : Wd × Int32 × Int32 × Int32 × Int32) => Wa X a.1 44 [(0, .ref (Ad X 36)), (1, .int a.2.1), (2, .int a.2.2.1), (3, .int a.2.2.2.1), (4, .int a.2.2.2.2)] []) ?_
  intro k44 hk44 a h
  obtain ⟨w, v1, v2, v3, v4⟩ := a
  have h : F_X6_mostStay_44 k4 k44 w v1 v2 v3 v4 = some (r, w1) := h
  show Wa X w 44 [(0, .ref (Ad X 36)), (1, .int v1), (2, .int v2), (3, .int v3), (4, .int v4)] []
  unfold F_X6_mostStay_44 at h
  refine wa_iload hX 4 rfl dX6_mostStay_44 ?_
  refine wa_iload_n hX 2 rfl rfl dX6_mostStay_46 ?_
  refine wa_icmp_ge hX 134 (by decide) dX6_mostStay_47 (fun c => ?_) (fun c => ?_)
  · replace h := itp c h
    refine wa_aload_n hX 0 rfl rfl dX6_mostStay_134 ?_
    refine wg_model_stay hX fl_X6_31 dX6_mostStay_135 ?_
    refine wa_iload_n hX 2 rfl rfl dX6_mostStay_138 ?_
    obtain ⟨hg, h⟩ := gu_some h
    refine wl_model_stay hX hg dX6_mostStay_139 ?_
    refine wa_iload_n hX 1 rfl rfl dX6_mostStay_140 ?_
    refine wa_icmp_le hX 153 (by decide) dX6_mostStay_141 (fun c => ?_) (fun c => ?_)
    · replace h := itp c h
      refine wa_iload_n hX 1 rfl rfl dX6_mostStay_153 ?_
      refine wa_sub (lv2 := [(0, .ref (Ad X 36)), (2, .int v2)]) [0, 2] rfl ?_
      exact t_X6_mostStay_154 hX hE hk4 h
    · replace h := itn c h
      refine wa_aload_n hX 0 rfl rfl dX6_mostStay_144 ?_
      refine wg_model_stay hX fl_X6_31 dX6_mostStay_145 ?_
      refine wa_iload_n hX 2 rfl rfl dX6_mostStay_148 ?_
      obtain ⟨hg, h⟩ := gu_some h
      refine wl_model_stay hX hg dX6_mostStay_149 ?_
      refine wa_goto hX 154 (by decide) dX6_mostStay_150 ?_
      refine wa_sub (lv2 := [(0, .ref (Ad X 36)), (2, .int v2)]) [0, 2] rfl ?_
      exact t_X6_mostStay_154 hX hE hk4 h
  · replace h := itn c h
    refine wa_aload_n hX 0 rfl rfl dX6_mostStay_50 ?_
    refine wg_model_stay hX fl_X6_31 dX6_mostStay_51 ?_
    refine wa_iload hX 4 rfl dX6_mostStay_54 ?_
    obtain ⟨hg, h⟩ := gu_some h
    refine wl_model_stay hX hg dX6_mostStay_56 ?_
    refine wa_if_le hX 78 (by decide) dX6_mostStay_57 (fun c => ?_) (fun c => ?_)
    · replace h := itp c h
      exact t_X6_mostStay_78 hX hE hk4 hk44 h
    · replace h := itn c h
      refine wa_aload_n hX 0 rfl rfl dX6_mostStay_60 ?_
      refine wg_model_on hX fl_X6_28 dX6_mostStay_61 ?_
      refine wa_iload hX 4 rfl dX6_mostStay_64 ?_
      obtain ⟨hg, h⟩ := gu_some h
      refine wl_model_on hX hg dX6_mostStay_66 ?_
      obtain ⟨x2, h2, h⟩ := obind h
      refine wa_callSi hX (m_X6_ones h2) cx_X6_ones ml_X6_119 (As := [.int (w.2.1 43 v4.toNatClampNeg)]) (rest := []) rfl rfl rfl ⟨Nat.le_of_ble_eq_true rfl, Nat.le_of_ble_eq_true rfl⟩ (Nat.le_of_ble_eq_true rfl) dX6_mostStay_67 ?_
      refine wa_iload_n hX 3 rfl rfl dX6_mostStay_70 ?_
      have hJ : Wa X x2.2 79 [(0, .ref (Ad X 36)), (1, .int v1), (2, .int v2), (3, .int v3), (4, .int v4)] [.int (if v3 < x2.1 then (0 : Int32) else 1)] := by
        refine wa_istore hX (lv2 := [(5, .int (if v3 < x2.1 then (0 : Int32) else 1)), (0, .ref (Ad X 36)), (1, .int v1), (2, .int v2), (3, .int v3), (4, .int v4)]) (by decide) rfl dX6_mostStay_79 ?_
        refine wa_aload_n hX 1 rfl rfl dX6_mostStay_81 ?_
        refine wg_model_stay hX fl_X6_31 dX6_mostStay_82 ?_
        refine wa_iload_n hX 3 rfl rfl dX6_mostStay_85 ?_
        refine wa_iload hX 0 rfl dX6_mostStay_86 ?_
        refine wa_if_eq hX 121 (by decide) dX6_mostStay_88 (fun c => ?_) (fun c => ?_)
        · replace h := itp c h
          refine wa_sub (lv2 := [(0, .ref (Ad X 36)), (1, .int v1), (2, .int v2), (3, .int v3), (4, .int v4)]) [1, 2, 3, 4, 5] rfl ?_
          exact t_X6_mostStay_121 hX hE hk4 hk44 h
        · replace h := itn c h
          refine wa_aload_n hX 1 rfl rfl dX6_mostStay_91 ?_
          refine wg_model_stay hX fl_X6_31 dX6_mostStay_92 ?_
          refine wa_iload hX 5 rfl dX6_mostStay_95 ?_
          obtain ⟨hg, h⟩ := gu_some h
          refine wl_model_stay hX hg dX6_mostStay_97 ?_
          refine wa_iconst hX 1 ki_1 dX6_mostStay_98 ?_
          refine wa_iadd hX dX6_mostStay_99 ?_
          refine wa_aload_n hX 1 rfl rfl dX6_mostStay_100 ?_
          refine wg_model_stay hX fl_X6_31 dX6_mostStay_101 ?_
          refine wa_iload_n hX 3 rfl rfl dX6_mostStay_104 ?_
          obtain ⟨hg, h⟩ := gu_some h
          refine wl_model_stay hX hg dX6_mostStay_105 ?_
          refine wa_icmp_le hX 121 (by decide) dX6_mostStay_106 (fun c => ?_) (fun c => ?_)
          · replace h := itp c h
            refine wa_sub (lv2 := [(0, .ref (Ad X 36)), (1, .int v1), (2, .int v2), (3, .int v3), (4, .int v4)]) [1, 2, 3, 4, 5] rfl ?_
            exact t_X6_mostStay_121 hX hE hk4 hk44 h
          · replace h := itn c h
            refine wa_aload_n hX 1 rfl rfl dX6_mostStay_109 ?_
            refine wg_model_stay hX fl_X6_31 dX6_mostStay_110 ?_
            refine wa_iload hX 5 rfl dX6_mostStay_113 ?_
            obtain ⟨hg, h⟩ := gu_some h
            refine wl_model_stay hX hg dX6_mostStay_115 ?_
            refine wa_iconst hX 1 ki_1 dX6_mostStay_116 ?_
            refine wa_iadd hX dX6_mostStay_117 ?_
            refine wa_goto hX 127 (by decide) dX6_mostStay_118 ?_
            refine wa_sub (lv2 := [(0, .ref (Ad X 36)), (1, .int v1), (2, .int v2), (3, .int v3), (4, .int v4)]) [1, 2, 3, 4, 5] rfl ?_
            exact t_X6_mostStay_127 hX hE hk4 hk44 h
      refine wa_icmp_gt hX 78 (by decide) dX6_mostStay_71 (fun c => ?_) (fun c => ?_)
      · refine wa_iconst hX 0 ki_0 dX6_mostStay_78 ?_
        rw [show (if v3 < x2.1 then (0 : Int32) else 1) = 0 from if_pos c] at hJ
        exact hJ
      · refine wa_iconst hX 1 ki_1 dX6_mostStay_74 ?_
        refine wa_goto hX 79 (by decide) dX6_mostStay_75 ?_
        rw [show (if v3 < x2.1 then (0 : Int32) else 1) = 1 from if_neg c] at hJ
        exact hJ
set_option maxRecDepth 100000 in
set_option maxHeartbeats 4000000 in
theorem t_X6_mostStay_4 {X : Fx} (hX : Cx X cX6_mostStay RX6 6 1 22) {r : Int32} {w1 : Wd} (hE : ∀ pc lv, decode cX6_mostStay pc = .ok (.ireturn, 1) → narrow .int (.int r) = .int r → Wa X w1 pc lv [.int r])  : ∀ (n : Nat) (a : Wd × Int32 × Int32), L_X6_mostStay_4  n a = some (r, w1) → Wa X a.1 4 [(0, .ref (Ad X 36)), (1, .int a.2.1), (2, .int a.2.2)] [] := by
  refine it_mach (P := fun (a : Wd × Int32 × Int32) => Wa X a.1 4 [(0, .ref (Ad X 36)), (1, .int a.2.1), (2, .int a.2.2)] []) ?_
  intro k4 hk4 a h
  obtain ⟨w, v1, v2⟩ := a
  have h : F_X6_mostStay_4 k4 w v1 v2 = some (r, w1) := h
  show Wa X w 4 [(0, .ref (Ad X 36)), (1, .int v1), (2, .int v2)] []
  unfold F_X6_mostStay_4 at h
  refine wa_iload_n hX 2 rfl rfl dX6_mostStay_4 ?_
  refine wa_aload_n hX 0 rfl rfl dX6_mostStay_5 ?_
  refine wg_model_lines hX fl_X6_93 dX6_mostStay_6 ?_
  refine wa_icmp_ge hX 161 (by decide) dX6_mostStay_9 (fun c => ?_) (fun c => ?_)
  · replace h := itp c h
    refine wa_iload_n hX 1 rfl rfl dX6_mostStay_161 ?_
    exact ret_i hE h dX6_mostStay_162
  · replace h := itn c h
    refine wa_aload_n hX 0 rfl rfl dX6_mostStay_12 ?_
    refine wg_model_on hX fl_X6_28 dX6_mostStay_13 ?_
    refine wa_iload_n hX 2 rfl rfl dX6_mostStay_16 ?_
    obtain ⟨hg, h⟩ := gu_some h
    refine wl_model_on hX hg dX6_mostStay_17 ?_
    obtain ⟨x1, h2, h⟩ := obind h
    refine wa_callSi hX (m_X6_ones h2) cx_X6_ones ml_X6_119 (As := [.int (w.2.1 43 v2.toNatClampNeg)]) (rest := []) rfl rfl rfl ⟨Nat.le_of_ble_eq_true rfl, Nat.le_of_ble_eq_true rfl⟩ (Nat.le_of_ble_eq_true rfl) dX6_mostStay_18 ?_
    refine wa_istore_n hX (lv2 := [(3, .int x1.1), (0, .ref (Ad X 36)), (1, .int v1), (2, .int v2)]) rfl (by decide) rfl dX6_mostStay_21 ?_
    refine wa_aload_n hX 1 rfl rfl dX6_mostStay_22 ?_
    refine wg_model_stay hX fl_X6_31 dX6_mostStay_23 ?_
    refine wa_iload_n hX 3 rfl rfl dX6_mostStay_26 ?_
    refine wa_iload_n hX 0 rfl rfl dX6_mostStay_27 ?_
    refine wa_aload_n hX 1 rfl rfl dX6_mostStay_28 ?_
    refine wg_model_just hX fl_X6_56 dX6_mostStay_29 ?_
    have hJ : Wa X x1.2 40 [(0, .ref (Ad X 36)), (1, .int v1), (2, .int v2), (3, .int x1.1)] [.int (if x1.1 < (x1.2.1 30) then (0 : Int32) else 1), .int v2, .ref (Ad X 44)] := by
      obtain ⟨hg, h⟩ := gu_some h
      refine ws_model_stay hX hg dX6_mostStay_40 ?_
      refine wa_iconst hX 0 ki_0 dX6_mostStay_41 ?_
      refine wa_istore hX (lv2 := [(4, .int 0), (0, .ref (Ad X 36)), (1, .int v1), (2, .int v2), (3, .int x1.1)]) (by decide) rfl dX6_mostStay_42 ?_
      refine wa_sub (lv2 := [(0, .ref (Ad X 36)), (1, .int v1), (2, .int v2), (3, .int x1.1), (4, .int 0)]) [1, 2, 3, 4, 0] rfl ?_
      exact t_X6_mostStay_44 hX hE hk4 _ _ h
    refine wa_icmp_lt hX 39 (by decide) dX6_mostStay_32 (fun c => ?_) (fun c => ?_)
    · refine wa_iconst hX 0 ki_0 dX6_mostStay_39 ?_
      refine wa_sub (lv2 := [(0, .ref (Ad X 36)), (1, .int v1), (2, .int v2), (3, .int x1.1)]) [1, 2, 3, 0] rfl ?_
      rw [show (if x1.1 < (x1.2.1 30) then (0 : Int32) else 1) = 0 from if_pos c] at hJ
      exact hJ
    · refine wa_iconst hX 1 ki_1 dX6_mostStay_35 ?_
      refine wa_goto hX 40 (by decide) dX6_mostStay_36 ?_
      refine wa_sub (lv2 := [(0, .ref (Ad X 36)), (1, .int v1), (2, .int v2), (3, .int x1.1)]) [1, 2, 3, 0] rfl ?_
      rw [show (if x1.1 < (x1.2.1 30) then (0 : Int32) else 1) = 1 from if_neg c] at hJ
      exact hJ
set_option maxRecDepth 100000 in
set_option maxHeartbeats 4000000 in
theorem m_X6_mostStay {w w1 : Wd} {r : Int32} (h : F_X6_mostStay w  = some (r, w1)) : Gi yX6_mostStay cX6_mostStay 6 (some .int) 1 22 (fun E => [.ref (E.2.1 36)]) w w1 r := by
  refine Gi.of (hy := by decide +kernel) (hlen := fun _ => Nat.le_of_ble_eq_true rfl) (fun X hX hE => ?_)
  · unfold F_X6_mostStay at h
    refine (show Wa X w 0 [(0, .ref (Ad X 36))] [] from ?_)
    refine wa_iconst hX 0 ki_0 dX6_mostStay_0 ?_
    refine wa_istore_n hX (lv2 := [(1, .int 0), (0, .ref (Ad X 36))]) rfl (by decide) rfl dX6_mostStay_1 ?_
    refine wa_iconst hX 0 ki_0 dX6_mostStay_2 ?_
    refine wa_istore_n hX (lv2 := [(2, .int 0), (1, .int 0), (0, .ref (Ad X 36))]) rfl (by decide) rfl dX6_mostStay_3 ?_
    refine wa_sub (lv2 := [(0, .ref (Ad X 36)), (1, .int 0), (2, .int 0)]) [2, 1, 0] rfl ?_
    exact t_X6_mostStay_4 hX hE  _ _ h
set_option maxRecDepth 100000 in
set_option maxHeartbeats 4000000 in
theorem t_X6_cuts_35 {X : Fx} (hX : Cx X cX6_cuts RX6 4 3 69) {r : Int32} {w1 : Wd} (hE : ∀ pc lv, decode cX6_cuts pc = .ok (.ireturn, 1) → narrow .int (.int r) = .int r → Wa X w1 pc lv [.int r])  : ∀ (n : Nat) (a : Wd × Int32 × Int32), L_X6_cuts_35  n a = some (r, w1) → Wa X a.1 35 [(0, .ref (Ad X 36)), (2, .int a.2.1), (3, .int a.2.2)] [] := by
  refine it_mach (P := fun (a : Wd × Int32 × Int32) => Wa X a.1 35 [(0, .ref (Ad X 36)), (2, .int a.2.1), (3, .int a.2.2)] []) ?_
  intro k35 hk35 a h
  obtain ⟨w, v2, v3⟩ := a
  have h : F_X6_cuts_35 k35 w v2 v3 = some (r, w1) := h
  show Wa X w 35 [(0, .ref (Ad X 36)), (2, .int v2), (3, .int v3)] []
  unfold F_X6_cuts_35 at h
  refine wa_iload_n hX 2 rfl rfl dX6_cuts_35 ?_
  refine wa_aload_n hX 0 rfl rfl dX6_cuts_36 ?_
  refine wg_model_lines hX fl_X6_93 dX6_cuts_37 ?_
  refine wa_icmp_ge hX 75 (by decide) dX6_cuts_40 (fun c => ?_) (fun c => ?_)
  · replace h := itp c h
    refine wa_iload_n hX 1 rfl rfl dX6_cuts_75 ?_
    exact ret_i hE h dX6_cuts_76
  · replace h := itn c h
    refine wa_iload_n hX 1 rfl rfl dX6_cuts_43 ?_
    refine wa_aload_n hX 0 rfl rfl dX6_cuts_44 ?_
    refine wa_aload_n hX 0 rfl rfl dX6_cuts_45 ?_
    refine wg_model_on hX fl_X6_28 dX6_cuts_46 ?_
    refine wa_iload_n hX 2 rfl rfl dX6_cuts_49 ?_
    obtain ⟨hg, h⟩ := gu_some h
    refine wl_model_on hX hg dX6_cuts_50 ?_
    obtain ⟨x2, h2, h⟩ := obind h
    refine wa_callSi hX (m_X6_ones h2) cx_X6_ones ml_X6_119 (As := [.int (w.2.1 43 v3.toNatClampNeg)]) (rest := [.ref (Ad X 36), .int v2]) rfl rfl rfl ⟨Nat.le_of_ble_eq_true rfl, Nat.le_of_ble_eq_true rfl⟩ (Nat.le_of_ble_eq_true rfl) dX6_cuts_51 ?_
    refine wa_bipush hX (-6) kb_m6 dX6_cuts_54 ?_
    obtain ⟨x3, h2, h⟩ := obind h
    refine wa_callVi hX (m_X6_holds h2) cx_X6_holds ml_X6_123 (As := [.int x2.1, .int (-6)]) (rest := [.int v2]) 36 (ce_model _ _) rfl rfl rfl rfl ⟨Nat.le_of_ble_eq_true rfl, Nat.le_of_ble_eq_true rfl⟩ (Nat.le_of_ble_eq_true rfl) dX6_cuts_56 ?_
    have hJ : Wa X x3.2 67 [(0, .ref (Ad X 36)), (3, .int v3)] [.int (if x3.1 = 0 then (1 : Int32) else 0), .int v2] := by
      refine wa_iadd hX dX6_cuts_67 ?_
      refine wa_let h (fun y4 h => ?_)
      refine wa_istore_n hX (lv2 := [(2, .int y4), (0, .ref (Ad X 36)), (3, .int v3)]) rfl (by decide) rfl dX6_cuts_68 ?_
      refine wa_iinc hX (v := (v3 + 1)) (lv2 := [(3, .int (v3 + 1)), (2, .int y4), (0, .ref (Ad X 36))]) 2 rfl rfl (by decide) rfl dX6_cuts_69 ?_
      refine wa_goto hX 35 (by decide) dX6_cuts_72 ?_
      refine wa_sub (lv2 := [(0, .ref (Ad X 36)), (2, .int y4), (3, .int (v3 + 1))]) [2, 1, 0] rfl ?_
      exact hk35 _ h
    refine wa_if_eq hX 66 (by decide) dX6_cuts_59 (fun c => ?_) (fun c => ?_)
    · refine wa_iconst hX 1 ki_1 dX6_cuts_66 ?_
      refine wa_sub (lv2 := [(0, .ref (Ad X 36)), (3, .int v3)]) [0, 2] rfl ?_
      rw [show (if x3.1 = 0 then (1 : Int32) else 0) = 1 from if_pos c] at hJ
      exact hJ
    · refine wa_iconst hX 0 ki_0 dX6_cuts_62 ?_
      refine wa_goto hX 67 (by decide) dX6_cuts_63 ?_
      refine wa_sub (lv2 := [(0, .ref (Ad X 36)), (3, .int v3)]) [0, 2] rfl ?_
      rw [show (if x3.1 = 0 then (1 : Int32) else 0) = 0 from if_neg c] at hJ
      exact hJ
set_option maxRecDepth 100000 in
set_option maxHeartbeats 4000000 in
theorem m_X6_cuts {w w1 : Wd} {r : Int32} (h : F_X6_cuts w  = some (r, w1)) : Gi yX6_cuts cX6_cuts 4 (some .int) 3 69 (fun E => [.ref (E.2.1 36)]) w w1 r := by
  refine Gi.of (hy := by decide +kernel) (hlen := fun _ => Nat.le_of_ble_eq_true rfl) (fun X hX hE => ?_)
  · unfold F_X6_cuts at h
    refine (show Wa X w 0 [(0, .ref (Ad X 36))] [] from ?_)
    refine wa_aload_n hX 0 rfl rfl dX6_cuts_0 ?_
    obtain ⟨x1, h2, h⟩ := obind h
    refine wa_callVi hX (m_X6_refusal h2) cx_X6_refusal ml_X6_130 (As := []) (rest := []) 36 (ce_model _ _) rfl rfl rfl rfl ⟨Nat.le_of_ble_eq_true rfl, Nat.le_of_ble_eq_true rfl⟩ (Nat.le_of_ble_eq_true rfl) dX6_cuts_1 ?_
    refine wa_istore_n hX (lv2 := [(1, .int x1.1), (0, .ref (Ad X 36))]) rfl (by decide) rfl dX6_cuts_4 ?_
    refine wa_iload_n hX 0 rfl rfl dX6_cuts_5 ?_
    refine wa_bipush hX (-6) kb_m6 dX6_cuts_6 ?_
    refine wa_icmp_eq hX 13 (by decide) dX6_cuts_8 (fun c => ?_) (fun c => ?_)
    · replace h := itp c h
      refine wa_aload_n hX 1 rfl rfl dX6_cuts_13 ?_
      refine wg_model_law hX fl_X6_72 dX6_cuts_14 ?_
      refine wa_iconst hX 2 ki_2 dX6_cuts_17 ?_
      refine wa_icmp_ne hX 31 (by decide) dX6_cuts_18 (fun c => ?_) (fun c => ?_)
      · replace h := itn c h
        refine wa_iconst hX 0 ki_0 dX6_cuts_31 ?_
        refine wa_istore_n hX (lv2 := [(2, .int 0), (1, .int x1.1), (0, .ref (Ad X 36))]) rfl (by decide) rfl dX6_cuts_32 ?_
        refine wa_iconst hX 0 ki_0 dX6_cuts_33 ?_
        refine wa_istore_n hX (lv2 := [(3, .int 0), (2, .int 0), (1, .int x1.1), (0, .ref (Ad X 36))]) rfl (by decide) rfl dX6_cuts_34 ?_
        refine wa_sub (lv2 := [(0, .ref (Ad X 36)), (2, .int 0), (3, .int 0)]) [3, 1, 0] rfl ?_
        exact t_X6_cuts_35 hX hE  _ _ h
      · replace h := itp c h
        refine wa_aload_n hX 1 rfl rfl dX6_cuts_21 ?_
        refine wg_model_lines hX fl_X6_93 dX6_cuts_22 ?_
        refine wa_aload_n hX 1 rfl rfl dX6_cuts_25 ?_
        obtain ⟨x5, h2, h⟩ := obind h
        refine wa_callVi hX (m_X6_mostStay h2) cx_X6_mostStay ml_X6_150 (As := []) (rest := [.int (x1.2.1 35)]) 36 (ce_model _ _) rfl rfl rfl rfl ⟨Nat.le_of_ble_eq_true rfl, Nat.le_of_ble_eq_true rfl⟩ (Nat.le_of_ble_eq_true rfl) dX6_cuts_26 ?_
        refine wa_isub hX dX6_cuts_29 ?_
        exact ret_i hE h dX6_cuts_30
    · replace h := itn c h
      refine wa_iload_n hX 0 rfl rfl dX6_cuts_11 ?_
      exact ret_i hE h dX6_cuts_12
set_option maxRecDepth 100000 in
set_option maxHeartbeats 4000000 in
theorem t_X6_highest_37 {X : Fx} (hX : Cx X cX6_highest RX6 4 1 23) {r : Int32} {w1 : Wd} (hE : ∀ pc lv, decode cX6_highest pc = .ok (.ireturn, 1) → narrow .int (.int r) = .int r → Wa X w1 pc lv [.int r]) {k4 : Wd × Int32 × Int32 × Int32 → Option (Int32 × Wd)} (hk4 : ∀ a, k4 a = some (r, w1) → Wa X a.1 4 [(0, .ref (Ad X 36)), (1, .int a.2.1), (2, .int a.2.2.1), (3, .int a.2.2.2)] []) {w : Wd} {v1 : Int32} {v3 : Int32} {s0 : Int32} (h : F_X6_highest_37 k4 w v1 v3 s0 = some (r, w1)) : Wa X w 37 [(0, .ref (Ad X 36)), (1, .int v1), (3, .int v3)] [.int s0] := by
  unfold F_X6_highest_37 at h
  refine wa_istore_n hX (lv2 := [(2, .int s0), (0, .ref (Ad X 36)), (1, .int v1), (3, .int v3)]) rfl (by decide) rfl dX6_highest_37 ?_
  refine wa_iinc hX (v := (v3 + 1)) (lv2 := [(3, .int (v3 + 1)), (2, .int s0), (0, .ref (Ad X 36)), (1, .int v1)]) 3 rfl rfl (by decide) rfl dX6_highest_38 ?_
  refine wa_goto hX 4 (by decide) dX6_highest_41 ?_
  refine wa_sub (lv2 := [(0, .ref (Ad X 36)), (1, .int v1), (2, .int s0), (3, .int (v3 + 1))]) [2, 3, 1, 0] rfl ?_
  exact hk4 _ h
set_option maxRecDepth 100000 in
set_option maxHeartbeats 4000000 in
theorem t_X6_highest_36 {X : Fx} (hX : Cx X cX6_highest RX6 4 1 23) {r : Int32} {w1 : Wd} (hE : ∀ pc lv, decode cX6_highest pc = .ok (.ireturn, 1) → narrow .int (.int r) = .int r → Wa X w1 pc lv [.int r]) {k4 : Wd × Int32 × Int32 × Int32 → Option (Int32 × Wd)} (hk4 : ∀ a, k4 a = some (r, w1) → Wa X a.1 4 [(0, .ref (Ad X 36)), (1, .int a.2.1), (2, .int a.2.2.1), (3, .int a.2.2.2)] []) {w : Wd} {v1 : Int32} {v2 : Int32} {v3 : Int32} (h : F_X6_highest_36 k4 w v1 v2 v3 = some (r, w1)) : Wa X w 36 [(0, .ref (Ad X 36)), (1, .int v1), (2, .int v2), (3, .int v3)] [] := by
  unfold F_X6_highest_36 at h
  refine wa_iload_n hX 2 rfl rfl dX6_highest_36 ?_
  refine wa_sub (lv2 := [(0, .ref (Ad X 36)), (1, .int v1), (3, .int v3)]) [0, 1, 3] rfl ?_
  exact t_X6_highest_37 hX hE hk4 h
set_option maxRecDepth 100000 in
set_option maxHeartbeats 4000000 in
theorem t_X6_highest_4 {X : Fx} (hX : Cx X cX6_highest RX6 4 1 23) {r : Int32} {w1 : Wd} (hE : ∀ pc lv, decode cX6_highest pc = .ok (.ireturn, 1) → narrow .int (.int r) = .int r → Wa X w1 pc lv [.int r])  : ∀ (n : Nat) (a : Wd × Int32 × Int32 × Int32), L_X6_highest_4  n a = some (r, w1) → Wa X a.1 4 [(0, .ref (Ad X 36)), (1, .int a.2.1), (2, .int a.2.2.1), (3, .int a.2.2.2)] [] := by
  refine it_mach (P := fun (a : Wd × Int32 × Int32 × Int32) => Wa X a.1 4 [(0, .ref (Ad X 36)), (1, .int a.2.1), (2, .int a.2.2.1), (3, .int a.2.2.2)] []) ?_
  intro k4 hk4 a h
  obtain ⟨w, v1, v2, v3⟩ := a
  have h : F_X6_highest_4 k4 w v1 v2 v3 = some (r, w1) := h
  show Wa X w 4 [(0, .ref (Ad X 36)), (1, .int v1), (2, .int v2), (3, .int v3)] []
  unfold F_X6_highest_4 at h
  refine wa_iload_n hX 3 rfl rfl dX6_highest_4 ?_
  refine wa_iload_n hX 1 rfl rfl dX6_highest_5 ?_
  refine wa_icmp_ge hX 44 (by decide) dX6_highest_6 (fun c => ?_) (fun c => ?_)
  · replace h := itp c h
    refine wa_iload_n hX 2 rfl rfl dX6_highest_44 ?_
    exact ret_i hE h dX6_highest_45
  · replace h := itn c h
    refine wa_aload_n hX 0 rfl rfl dX6_highest_9 ?_
    refine wa_iload_n hX 3 rfl rfl dX6_highest_10 ?_
    obtain ⟨x1, h2, h⟩ := obind h
    refine wa_callVi hX (m_X6_linesOf h2) cx_X6_linesOf ml_X6_135 (As := [.int v3]) (rest := []) 36 (ce_model _ _) rfl rfl rfl rfl ⟨Nat.le_of_ble_eq_true rfl, Nat.le_of_ble_eq_true rfl⟩ (Nat.le_of_ble_eq_true rfl) dX6_highest_11 ?_
    refine wa_if_le hX 36 (by decide) dX6_highest_14 (fun c => ?_) (fun c => ?_)
    · replace h := itp c h
      exact t_X6_highest_36 hX hE hk4 h
    · replace h := itn c h
      refine wa_aload_n hX 0 rfl rfl dX6_highest_17 ?_
      refine wg_model_player hX fl_X6_34 dX6_highest_18 ?_
      refine wa_iload_n hX 3 rfl rfl dX6_highest_21 ?_
      obtain ⟨hg, h⟩ := gu_some h
      refine wl_model_player hX hg dX6_highest_22 ?_
      refine wa_iload_n hX 2 rfl rfl dX6_highest_23 ?_
      refine wa_icmp_le hX 36 (by decide) dX6_highest_24 (fun c => ?_) (fun c => ?_)
      · replace h := itp c h
        exact t_X6_highest_36 hX hE hk4 h
      · replace h := itn c h
        refine wa_aload_n hX 0 rfl rfl dX6_highest_27 ?_
        refine wg_model_player hX fl_X6_34 dX6_highest_28 ?_
        refine wa_iload_n hX 3 rfl rfl dX6_highest_31 ?_
        obtain ⟨hg, h⟩ := gu_some h
        refine wl_model_player hX hg dX6_highest_32 ?_
        refine wa_goto hX 37 (by decide) dX6_highest_33 ?_
        refine wa_sub (lv2 := [(0, .ref (Ad X 36)), (1, .int v1), (3, .int v3)]) [0, 1, 3] rfl ?_
        exact t_X6_highest_37 hX hE hk4 h
set_option maxRecDepth 100000 in
set_option maxHeartbeats 4000000 in
theorem m_X6_highest {w w1 : Wd} {p1 : Int32} {r : Int32} (h : F_X6_highest w p1 = some (r, w1)) : Gi yX6_highest cX6_highest 4 (some .int) 1 23 (fun E => [.ref (E.2.1 36), .int p1]) w w1 r := by
  refine Gi.of (hy := by decide +kernel) (hlen := fun _ => Nat.le_of_ble_eq_true rfl) (fun X hX hE => ?_)
  · unfold F_X6_highest at h
    refine (show Wa X w 0 [(0, .ref (Ad X 36)), (1, .int p1)] [] from ?_)
    refine wa_iconst hX (-1) ki_m1 dX6_highest_0 ?_
    refine wa_istore_n hX (lv2 := [(2, .int (-1)), (0, .ref (Ad X 36)), (1, .int p1)]) rfl (by decide) rfl dX6_highest_1 ?_
    refine wa_iconst hX 0 ki_0 dX6_highest_2 ?_
    refine wa_istore_n hX (lv2 := [(3, .int 0), (2, .int (-1)), (0, .ref (Ad X 36)), (1, .int p1)]) rfl (by decide) rfl dX6_highest_3 ?_
    refine wa_sub (lv2 := [(0, .ref (Ad X 36)), (1, .int p1), (2, .int (-1)), (3, .int 0)]) [2, 3, 1, 0] rfl ?_
    exact t_X6_highest_4 hX hE  _ _ h
set_option maxRecDepth 100000 in
set_option maxHeartbeats 4000000 in
theorem t_X6_canBoth_84 {X : Fx} (hX : Cx X cX6_canBoth RX6 9 0 0) {r : Int32} {w1 : Wd} (hE : ∀ pc lv, decode cX6_canBoth pc = .ok (.ireturn, 1) → narrow .boolean (.int r) = .int r → Wa X w1 pc lv [.int r]) {k6 : Wd × Int32 × Int32 × Int32 × Int32 × Int32 → Option (Int32 × Wd)} (hk6 : ∀ a, k6 a = some (r, w1) → Wa X a.1 6 [(0, .ref (Ad X 36)), (1, .int a.2.1), (2, .int a.2.2.1), (3, .int a.2.2.2.1), (4, .int a.2.2.2.2.1), (5, .int a.2.2.2.2.2)] []) {k18 : Wd × Int32 × Int32 × Int32 × Int32 × Int32 × Int32 → Option (Int32 × Wd)} (hk18 : ∀ a, k18 a = some (r, w1) → Wa X a.1 18 [(0, .ref (Ad X 36)), (1, .int a.2.1), (2, .int a.2.2.1), (3, .int a.2.2.2.1), (4, .int a.2.2.2.2.1), (5, .int a.2.2.2.2.2.1), (6, .int a.2.2.2.2.2.2)] []) {w : Wd} {v1 : Int32} {v2 : Int32} {v3 : Int32} {v4 : Int32} {v5 : Int32} {v6 : Int32} {v7 : Int32} {s0 : Int32} (h : F_X6_canBoth_84 k6 k18 w v1 v2 v3 v4 v5 v6 v7 s0 = some (r, w1)) : Wa X w 84 [(0, .ref (Ad X 36)), (1, .int v1), (2, .int v2), (3, .int v3), (4, .int v4), (5, .int v5), (6, .int v6), (7, .int v7)] [.int s0] := by
  unfold F_X6_canBoth_84 at h
  refine wa_istore hX (lv2 := [(8, .int s0), (0, .ref (Ad X 36)), (1, .int v1), (2, .int v2), (3, .int v3), (4, .int v4), (5, .int v5), (6, .int v6), (7, .int v7)]) (by decide) rfl dX6_canBoth_84 ?_
  refine wa_iload hX 5 rfl dX6_canBoth_86 ?_
  have hJ : Wa X w 110 [(0, .ref (Ad X 36)), (1, .int v1), (2, .int v2), (3, .int v3), (5, .int v5), (6, .int v6)] [.int (if v4 = 0 then 0 else (if s0 = 0 then 1 else (if v7 ≤ (w.1 31) then (0 : Int32) else 1)))] := by
    refine wa_let h (fun y2 h => ?_)
    refine wa_istore hX (lv2 := [(4, .int y2), (0, .ref (Ad X 36)), (1, .int v1), (2, .int v2), (3, .int v3), (5, .int v5), (6, .int v6)]) (by decide) rfl dX6_canBoth_110 ?_
    refine wa_iinc hX (v := (v6 + 1)) (lv2 := [(6, .int (v6 + 1)), (4, .int y2), (0, .ref (Ad X 36)), (1, .int v1), (2, .int v2), (3, .int v3), (5, .int v5)]) 6 rfl rfl (by decide) rfl dX6_canBoth_112 ?_
    refine wa_goto hX 18 (by decide) dX6_canBoth_115 ?_
    refine wa_sub (lv2 := [(0, .ref (Ad X 36)), (1, .int v1), (2, .int v2), (3, .int v3), (4, .int y2), (5, .int v5), (6, .int (v6 + 1))]) [2, 3, 4, 5, 1, 6, 0] rfl ?_
    exact hk18 _ h
  refine wa_if_eq hX 109 (by decide) dX6_canBoth_88 (fun c => ?_) (fun c => ?_)
  · refine wa_iconst hX 0 ki_0 dX6_canBoth_109 ?_
    refine wa_sub (lv2 := [(0, .ref (Ad X 36)), (1, .int v1), (2, .int v2), (3, .int v3), (5, .int v5), (6, .int v6)]) [1, 2, 3, 4, 6, 7] rfl ?_
    rw [show (if v4 = 0 then 0 else (if s0 = 0 then 1 else (if v7 ≤ (w.1 31) then (0 : Int32) else 1))) = 0 from if_pos c] at hJ
    exact hJ
  · refine wa_iload hX 0 rfl dX6_canBoth_91 ?_
    have hI : Wa X w 110 [(0, .ref (Ad X 36)), (1, .int v1), (2, .int v2), (3, .int v3), (5, .int v5), (6, .int v6)] [.int (if s0 = 0 then 1 else (if v7 ≤ (w.1 31) then (0 : Int32) else 1))] := by
      rw [show (if v4 = 0 then 0 else (if s0 = 0 then 1 else (if v7 ≤ (w.1 31) then (0 : Int32) else 1))) = (if s0 = 0 then 1 else (if v7 ≤ (w.1 31) then (0 : Int32) else 1)) from if_neg c] at hJ
      exact hJ
    refine wa_if_eq hX 105 (by decide) dX6_canBoth_93 (fun c2 => ?_) (fun c2 => ?_)
    · refine wa_iconst hX 1 ki_1 dX6_canBoth_105 ?_
      refine wa_goto hX 110 (by decide) dX6_canBoth_106 ?_
      refine wa_sub (lv2 := [(0, .ref (Ad X 36)), (1, .int v1), (2, .int v2), (3, .int v3), (5, .int v5), (6, .int v6)]) [1, 2, 3, 4, 6, 7] rfl ?_
      rw [show (if s0 = 0 then 1 else (if v7 ≤ (w.1 31) then (0 : Int32) else 1)) = 1 from if_pos c2] at hI
      exact hI
    · refine wa_iload hX 8 rfl dX6_canBoth_96 ?_
      refine wa_aload_n hX 1 rfl rfl dX6_canBoth_98 ?_
      refine wg_model_change hX fl_X6_75 dX6_canBoth_99 ?_
      have hK3 : Wa X w 110 [(0, .ref (Ad X 36)), (1, .int v1), (2, .int v2), (3, .int v3), (5, .int v5), (6, .int v6)] [.int (if v7 ≤ (w.1 31) then (0 : Int32) else 1)] := by
        rw [show (if s0 = 0 then 1 else (if v7 ≤ (w.1 31) then (0 : Int32) else 1)) = (if v7 ≤ (w.1 31) then (0 : Int32) else 1) from if_neg c2] at hI
        exact hI
      refine wa_icmp_le hX 109 (by decide) dX6_canBoth_102 (fun c13 => ?_) (fun c13 => ?_)
      · refine wa_iconst hX 0 ki_0 dX6_canBoth_109 ?_
        refine wa_sub (lv2 := [(0, .ref (Ad X 36)), (1, .int v1), (2, .int v2), (3, .int v3), (5, .int v5), (6, .int v6)]) [1, 2, 3, 4, 6, 7] rfl ?_
        rw [show (if v7 ≤ (w.1 31) then (0 : Int32) else 1) = 0 from if_pos c13] at hK3
        exact hK3
      · refine wa_iconst hX 1 ki_1 dX6_canBoth_105 ?_
        refine wa_goto hX 110 (by decide) dX6_canBoth_106 ?_
        refine wa_sub (lv2 := [(0, .ref (Ad X 36)), (1, .int v1), (2, .int v2), (3, .int v3), (5, .int v5), (6, .int v6)]) [1, 2, 3, 4, 6, 7] rfl ?_
        rw [show (if v7 ≤ (w.1 31) then (0 : Int32) else 1) = 1 from if_neg c13] at hK3
        exact hK3
set_option maxRecDepth 100000 in
set_option maxHeartbeats 4000000 in
theorem t_X6_canBoth_83 {X : Fx} (hX : Cx X cX6_canBoth RX6 9 0 0) {r : Int32} {w1 : Wd} (hE : ∀ pc lv, decode cX6_canBoth pc = .ok (.ireturn, 1) → narrow .boolean (.int r) = .int r → Wa X w1 pc lv [.int r]) {k6 : Wd × Int32 × Int32 × Int32 × Int32 × Int32 → Option (Int32 × Wd)} (hk6 : ∀ a, k6 a = some (r, w1) → Wa X a.1 6 [(0, .ref (Ad X 36)), (1, .int a.2.1), (2, .int a.2.2.1), (3, .int a.2.2.2.1), (4, .int a.2.2.2.2.1), (5, .int a.2.2.2.2.2)] []) {k18 : Wd × Int32 × Int32 × Int32 × Int32 × Int32 × Int32 → Option (Int32 × Wd)} (hk18 : ∀ a, k18 a = some (r, w1) → Wa X a.1 18 [(0, .ref (Ad X 36)), (1, .int a.2.1), (2, .int a.2.2.1), (3, .int a.2.2.2.1), (4, .int a.2.2.2.2.1), (5, .int a.2.2.2.2.2.1), (6, .int a.2.2.2.2.2.2)] []) {w : Wd} {v1 : Int32} {v2 : Int32} {v3 : Int32} {v4 : Int32} {v5 : Int32} {v6 : Int32} {v7 : Int32} (h : F_X6_canBoth_83 k6 k18 w v1 v2 v3 v4 v5 v6 v7 = some (r, w1)) : Wa X w 83 [(0, .ref (Ad X 36)), (1, .int v1), (2, .int v2), (3, .int v3), (4, .int v4), (5, .int v5), (6, .int v6), (7, .int v7)] [] := by
  unfold F_X6_canBoth_83 at h
  refine wa_iconst hX 0 ki_0 dX6_canBoth_83 ?_
  exact t_X6_canBoth_84 hX hE hk6 hk18 h
set_option maxRecDepth 100000 in
set_option maxHeartbeats 4000000 in
theorem t_X6_canBoth_18 {X : Fx} (hX : Cx X cX6_canBoth RX6 9 0 0) {r : Int32} {w1 : Wd} (hE : ∀ pc lv, decode cX6_canBoth pc = .ok (.ireturn, 1) → narrow .boolean (.int r) = .int r → Wa X w1 pc lv [.int r]) {k6 : Wd × Int32 × Int32 × Int32 × Int32 × Int32 → Option (Int32 × Wd)} (hk6 : ∀ a, k6 a = some (r, w1) → Wa X a.1 6 [(0, .ref (Ad X 36)), (1, .int a.2.1), (2, .int a.2.2.1), (3, .int a.2.2.2.1), (4, .int a.2.2.2.2.1), (5, .int a.2.2.2.2.2)] []) : ∀ (n : Nat) (a : Wd × Int32 × Int32 × Int32 × Int32 × Int32 × Int32), L_X6_canBoth_18 k6 n a = some (r, w1) → Wa X a.1 18 [(0, .ref (Ad X 36)), (1, .int a.2.1), (2, .int a.2.2.1), (3, .int a.2.2.2.1), (4, .int a.2.2.2.2.1), (5, .int a.2.2.2.2.2.1), (6, .int a.2.2.2.2.2.2)] [] := by
  refine it_mach (P := fun (a : Wd × Int32 × Int32 × Int32 × Int32 × Int32 × Int32) => Wa X a.1 18 [(0, .ref (Ad X 36)), (1, .int a.2.1), (2, .int a.2.2.1), (3, .int a.2.2.2.1), (4, .int a.2.2.2.2.1), (5, .int a.2.2.2.2.2.1), (6, .int a.2.2.2.2.2.2)] []) ?_
  intro k18 hk18 a h
  obtain ⟨w, v1, v2, v3, v4, v5, v6⟩ := a
  have h : F_X6_canBoth_18 k6 k18 w v1 v2 v3 v4 v5 v6 = some (r, w1) := h
  show Wa X w 18 [(0, .ref (Ad X 36)), (1, .int v1), (2, .int v2), (3, .int v3), (4, .int v4), (5, .int v5), (6, .int v6)] []
  unfold F_X6_canBoth_18 at h
  refine wa_iload hX 6 rfl dX6_canBoth_18 ?_
  refine wa_aload_n hX 0 rfl rfl dX6_canBoth_20 ?_
  refine wg_model_lines hX fl_X6_93 dX6_canBoth_21 ?_
  refine wa_icmp_ge hX 118 (by decide) dX6_canBoth_24 (fun c => ?_) (fun c => ?_)
  · replace h := itp c h
    refine wa_iinc hX (v := (v5 + 1)) (lv2 := [(5, .int (v5 + 1)), (0, .ref (Ad X 36)), (1, .int v1), (2, .int v2), (3, .int v3), (4, .int v4), (6, .int v6)]) 5 rfl rfl (by decide) rfl dX6_canBoth_118 ?_
    refine wa_goto hX 6 (by decide) dX6_canBoth_121 ?_
    refine wa_sub (lv2 := [(0, .ref (Ad X 36)), (1, .int v1), (2, .int v2), (3, .int v3), (4, .int v4), (5, .int (v5 + 1))]) [1, 2, 3, 4, 5, 0] rfl ?_
    exact hk6 _ h
  · replace h := itn c h
    refine wa_iload hX 5 rfl dX6_canBoth_27 ?_
    refine wa_iload hX 6 rfl dX6_canBoth_29 ?_
    have hJ : Wa X w 47 [(0, .ref (Ad X 36)), (1, .int v1), (2, .int v2), (3, .int v3), (4, .int v4), (5, .int v5), (6, .int v6)] [.int (if v6 ≤ v5 then (v5 - v6) else (v6 - v5))] := by
      refine wa_let h (fun y1 h => ?_)
      refine wa_istore hX (lv2 := [(7, .int y1), (0, .ref (Ad X 36)), (1, .int v1), (2, .int v2), (3, .int v3), (4, .int v4), (5, .int v5), (6, .int v6)]) (by decide) rfl dX6_canBoth_47 ?_
      refine wa_aload_n hX 1 rfl rfl dX6_canBoth_49 ?_
      refine wg_model_on hX fl_X6_28 dX6_canBoth_50 ?_
      refine wa_iload hX 6 rfl dX6_canBoth_53 ?_
      obtain ⟨hg, h⟩ := gu_some h
      refine wl_model_on hX hg dX6_canBoth_55 ?_
      refine wa_iload_n hX 2 rfl rfl dX6_canBoth_56 ?_
      refine wa_ishr hX dX6_canBoth_57 ?_
      refine wa_iconst hX 1 ki_1 dX6_canBoth_58 ?_
      refine wa_iand hX dX6_canBoth_59 ?_
      refine wa_iconst hX 1 ki_1 dX6_canBoth_60 ?_
      refine wa_icmp_ne hX 83 (by decide) dX6_canBoth_61 (fun c => ?_) (fun c => ?_)
      · replace h := itn c h
        refine wa_sub (lv2 := [(0, .ref (Ad X 36)), (1, .int v1), (2, .int v2), (3, .int v3), (4, .int v4), (5, .int v5), (6, .int v6), (7, .int y1)]) [1, 2, 3, 4, 5, 6, 7, 0] rfl ?_
        exact t_X6_canBoth_83 hX hE hk6 hk18 h
      · replace h := itp c h
        refine wa_aload_n hX 1 rfl rfl dX6_canBoth_64 ?_
        refine wg_model_on hX fl_X6_28 dX6_canBoth_65 ?_
        refine wa_iload hX 7 rfl dX6_canBoth_68 ?_
        obtain ⟨hg, h⟩ := gu_some h
        refine wl_model_on hX hg dX6_canBoth_70 ?_
        refine wa_iload_n hX 3 rfl rfl dX6_canBoth_71 ?_
        refine wa_ishr hX dX6_canBoth_72 ?_
        refine wa_iconst hX 1 ki_1 dX6_canBoth_73 ?_
        refine wa_iand hX dX6_canBoth_74 ?_
        refine wa_iconst hX 1 ki_1 dX6_canBoth_75 ?_
        have hJ : Wa X w 84 [(0, .ref (Ad X 36)), (1, .int v1), (2, .int v2), (3, .int v3), (4, .int v4), (5, .int v5), (6, .int v6), (7, .int y1)] [.int (if ((w.2.1 43 v6.toNatClampNeg >>> (v2 &&& 31)) &&& 1) = 1 then (1 : Int32) else 0)] := by
          refine wa_let h (fun y3 h => ?_)
          refine wa_istore hX (lv2 := [(8, .int y3), (0, .ref (Ad X 36)), (1, .int v1), (2, .int v2), (3, .int v3), (4, .int v4), (5, .int v5), (6, .int v6), (7, .int y1)]) (by decide) rfl dX6_canBoth_84 ?_
          refine wa_iload hX 5 rfl dX6_canBoth_86 ?_
          have hJ : Wa X w 110 [(0, .ref (Ad X 36)), (1, .int v1), (2, .int v2), (3, .int v3), (5, .int v5), (6, .int v6)] [.int (if v4 = 0 then 0 else (if y3 = 0 then 1 else (if y1 ≤ (w.1 31) then (0 : Int32) else 1)))] := by
            refine wa_let h (fun y4 h => ?_)
            refine wa_istore hX (lv2 := [(4, .int y4), (0, .ref (Ad X 36)), (1, .int v1), (2, .int v2), (3, .int v3), (5, .int v5), (6, .int v6)]) (by decide) rfl dX6_canBoth_110 ?_
            refine wa_iinc hX (v := (v6 + 1)) (lv2 := [(6, .int (v6 + 1)), (4, .int y4), (0, .ref (Ad X 36)), (1, .int v1), (2, .int v2), (3, .int v3), (5, .int v5)]) 6 rfl rfl (by decide) rfl dX6_canBoth_112 ?_
            refine wa_goto hX 18 (by decide) dX6_canBoth_115 ?_
            refine wa_sub (lv2 := [(0, .ref (Ad X 36)), (1, .int v1), (2, .int v2), (3, .int v3), (4, .int y4), (5, .int v5), (6, .int (v6 + 1))]) [2, 3, 4, 5, 1, 6, 0] rfl ?_
            exact hk18 _ h
          refine wa_if_eq hX 109 (by decide) dX6_canBoth_88 (fun c => ?_) (fun c => ?_)
          · refine wa_iconst hX 0 ki_0 dX6_canBoth_109 ?_
            refine wa_sub (lv2 := [(0, .ref (Ad X 36)), (1, .int v1), (2, .int v2), (3, .int v3), (5, .int v5), (6, .int v6)]) [1, 2, 3, 4, 6, 7] rfl ?_
            rw [show (if v4 = 0 then 0 else (if y3 = 0 then 1 else (if y1 ≤ (w.1 31) then (0 : Int32) else 1))) = 0 from if_pos c] at hJ
            exact hJ
          · refine wa_iload hX 0 rfl dX6_canBoth_91 ?_
            have hI : Wa X w 110 [(0, .ref (Ad X 36)), (1, .int v1), (2, .int v2), (3, .int v3), (5, .int v5), (6, .int v6)] [.int (if y3 = 0 then 1 else (if y1 ≤ (w.1 31) then (0 : Int32) else 1))] := by
              rw [show (if v4 = 0 then 0 else (if y3 = 0 then 1 else (if y1 ≤ (w.1 31) then (0 : Int32) else 1))) = (if y3 = 0 then 1 else (if y1 ≤ (w.1 31) then (0 : Int32) else 1)) from if_neg c] at hJ
              exact hJ
            refine wa_if_eq hX 105 (by decide) dX6_canBoth_93 (fun c2 => ?_) (fun c2 => ?_)
            · refine wa_iconst hX 1 ki_1 dX6_canBoth_105 ?_
              refine wa_goto hX 110 (by decide) dX6_canBoth_106 ?_
              refine wa_sub (lv2 := [(0, .ref (Ad X 36)), (1, .int v1), (2, .int v2), (3, .int v3), (5, .int v5), (6, .int v6)]) [1, 2, 3, 4, 6, 7] rfl ?_
              rw [show (if y3 = 0 then 1 else (if y1 ≤ (w.1 31) then (0 : Int32) else 1)) = 1 from if_pos c2] at hI
              exact hI
            · refine wa_iload hX 8 rfl dX6_canBoth_96 ?_
              refine wa_aload_n hX 1 rfl rfl dX6_canBoth_98 ?_
              refine wg_model_change hX fl_X6_75 dX6_canBoth_99 ?_
              have hK7 : Wa X w 110 [(0, .ref (Ad X 36)), (1, .int v1), (2, .int v2), (3, .int v3), (5, .int v5), (6, .int v6)] [.int (if y1 ≤ (w.1 31) then (0 : Int32) else 1)] := by
                rw [show (if y3 = 0 then 1 else (if y1 ≤ (w.1 31) then (0 : Int32) else 1)) = (if y1 ≤ (w.1 31) then (0 : Int32) else 1) from if_neg c2] at hI
                exact hI
              refine wa_icmp_le hX 109 (by decide) dX6_canBoth_102 (fun c17 => ?_) (fun c17 => ?_)
              · refine wa_iconst hX 0 ki_0 dX6_canBoth_109 ?_
                refine wa_sub (lv2 := [(0, .ref (Ad X 36)), (1, .int v1), (2, .int v2), (3, .int v3), (5, .int v5), (6, .int v6)]) [1, 2, 3, 4, 6, 7] rfl ?_
                rw [show (if y1 ≤ (w.1 31) then (0 : Int32) else 1) = 0 from if_pos c17] at hK7
                exact hK7
              · refine wa_iconst hX 1 ki_1 dX6_canBoth_105 ?_
                refine wa_goto hX 110 (by decide) dX6_canBoth_106 ?_
                refine wa_sub (lv2 := [(0, .ref (Ad X 36)), (1, .int v1), (2, .int v2), (3, .int v3), (5, .int v5), (6, .int v6)]) [1, 2, 3, 4, 6, 7] rfl ?_
                rw [show (if y1 ≤ (w.1 31) then (0 : Int32) else 1) = 1 from if_neg c17] at hK7
                exact hK7
        refine wa_icmp_ne hX 83 (by decide) dX6_canBoth_76 (fun c => ?_) (fun c => ?_)
        · refine wa_iconst hX 0 ki_0 dX6_canBoth_83 ?_
          refine wa_sub (lv2 := [(0, .ref (Ad X 36)), (1, .int v1), (2, .int v2), (3, .int v3), (4, .int v4), (5, .int v5), (6, .int v6), (7, .int y1)]) [1, 2, 3, 4, 5, 6, 7, 0] rfl ?_
          rw [show (if ((w.2.1 43 v6.toNatClampNeg >>> (v2 &&& 31)) &&& 1) = 1 then (1 : Int32) else 0) = 0 from if_neg c] at hJ
          exact hJ
        · refine wa_iconst hX 1 ki_1 dX6_canBoth_79 ?_
          refine wa_goto hX 84 (by decide) dX6_canBoth_80 ?_
          refine wa_sub (lv2 := [(0, .ref (Ad X 36)), (1, .int v1), (2, .int v2), (3, .int v3), (4, .int v4), (5, .int v5), (6, .int v6), (7, .int y1)]) [1, 2, 3, 4, 5, 6, 7, 0] rfl ?_
          rw [show (if ((w.2.1 43 v6.toNatClampNeg >>> (v2 &&& 31)) &&& 1) = 1 then (1 : Int32) else 0) = 1 from if_pos c] at hJ
          exact hJ
    refine wa_icmp_ge hX 42 (by decide) dX6_canBoth_31 (fun c => ?_) (fun c => ?_)
    · refine wa_iload hX 5 rfl dX6_canBoth_42 ?_
      refine wa_iload hX 6 rfl dX6_canBoth_44 ?_
      refine wa_isub hX dX6_canBoth_46 ?_
      rw [show (if v6 ≤ v5 then (v5 - v6) else (v6 - v5)) = (v5 - v6) from if_pos c] at hJ
      exact hJ
    · refine wa_iload hX 6 rfl dX6_canBoth_34 ?_
      refine wa_iload hX 5 rfl dX6_canBoth_36 ?_
      refine wa_isub hX dX6_canBoth_38 ?_
      refine wa_goto hX 47 (by decide) dX6_canBoth_39 ?_
      rw [show (if v6 ≤ v5 then (v5 - v6) else (v6 - v5)) = (v6 - v5) from if_neg c] at hJ
      exact hJ
set_option maxRecDepth 100000 in
set_option maxHeartbeats 4000000 in
theorem t_X6_canBoth_6 {X : Fx} (hX : Cx X cX6_canBoth RX6 9 0 0) {r : Int32} {w1 : Wd} (hE : ∀ pc lv, decode cX6_canBoth pc = .ok (.ireturn, 1) → narrow .boolean (.int r) = .int r → Wa X w1 pc lv [.int r])  : ∀ (n : Nat) (a : Wd × Int32 × Int32 × Int32 × Int32 × Int32), L_X6_canBoth_6  n a = some (r, w1) → Wa X a.1 6 [(0, .ref (Ad X 36)), (1, .int a.2.1), (2, .int a.2.2.1), (3, .int a.2.2.2.1), (4, .int a.2.2.2.2.1), (5, .int a.2.2.2.2.2)] [] := by
  refine it_mach (P := fun (a : Wd × Int32 × Int32 × Int32 × Int32 × Int32) => Wa X a.1 6 [(0, .ref (Ad X 36)), (1, .int a.2.1), (2, .int a.2.2.1), (3, .int a.2.2.2.1), (4, .int a.2.2.2.2.1), (5, .int a.2.2.2.2.2)] []) ?_
  intro k6 hk6 a h
  obtain ⟨w, v1, v2, v3, v4, v5⟩ := a
  have h : F_X6_canBoth_6 k6 w v1 v2 v3 v4 v5 = some (r, w1) := h
  show Wa X w 6 [(0, .ref (Ad X 36)), (1, .int v1), (2, .int v2), (3, .int v3), (4, .int v4), (5, .int v5)] []
  unfold F_X6_canBoth_6 at h
  refine wa_iload hX 5 rfl dX6_canBoth_6 ?_
  refine wa_aload_n hX 0 rfl rfl dX6_canBoth_8 ?_
  refine wg_model_lines hX fl_X6_93 dX6_canBoth_9 ?_
  refine wa_icmp_ge hX 124 (by decide) dX6_canBoth_12 (fun c => ?_) (fun c => ?_)
  · replace h := itp c h
    refine wa_iload hX 4 rfl dX6_canBoth_124 ?_
    obtain ⟨hg, h⟩ := gu_some h
    exact ret_z hE h (isB_or hg) dX6_canBoth_126
  · replace h := itn c h
    refine wa_iload_n hX 3 rfl rfl dX6_canBoth_15 ?_
    refine wa_istore hX (lv2 := [(6, .int v3), (0, .ref (Ad X 36)), (1, .int v1), (2, .int v2), (3, .int v3), (4, .int v4), (5, .int v5)]) (by decide) rfl dX6_canBoth_16 ?_
    refine wa_sub (lv2 := [(0, .ref (Ad X 36)), (1, .int v1), (2, .int v2), (3, .int v3), (4, .int v4), (5, .int v5), (6, .int v3)]) [1, 2, 3, 4, 5, 6, 0] rfl ?_
    exact t_X6_canBoth_18 hX hE hk6 _ _ h
set_option maxRecDepth 100000 in
set_option maxHeartbeats 4000000 in
theorem m_X6_canBoth {w w1 : Wd} {p1 : Int32} {p2 : Int32} {p3 : Int32} {r : Int32} (h : F_X6_canBoth w p1 p2 p3 = some (r, w1)) : Gi yX6_canBoth cX6_canBoth 9 (some .boolean) 0 0 (fun E => [.ref (E.2.1 36), .int p1, .int p2, .int p3]) w w1 r := by
  refine Gi.of (hy := by decide +kernel) (hlen := fun _ => Nat.le_of_ble_eq_true rfl) (fun X hX hE => ?_)
  · unfold F_X6_canBoth at h
    refine (show Wa X w 0 [(0, .ref (Ad X 36)), (1, .int p1), (2, .int p2), (3, .int p3)] [] from ?_)
    refine wa_iconst hX 1 ki_1 dX6_canBoth_0 ?_
    refine wa_istore hX (lv2 := [(4, .int 1), (0, .ref (Ad X 36)), (1, .int p1), (2, .int p2), (3, .int p3)]) (by decide) rfl dX6_canBoth_1 ?_
    refine wa_iconst hX 0 ki_0 dX6_canBoth_3 ?_
    refine wa_istore hX (lv2 := [(5, .int 0), (4, .int 1), (0, .ref (Ad X 36)), (1, .int p1), (2, .int p2), (3, .int p3)]) (by decide) rfl dX6_canBoth_4 ?_
    refine wa_sub (lv2 := [(0, .ref (Ad X 36)), (1, .int p1), (2, .int p2), (3, .int p3), (4, .int 1), (5, .int 0)]) [2, 3, 4, 5, 1, 0] rfl ?_
    exact t_X6_canBoth_6 hX hE  _ _ h
set_option maxRecDepth 100000 in
set_option maxHeartbeats 4000000 in
theorem t_X6_canBe_51 {X : Fx} (hX : Cx X cX6_canBe RX6 4 1 28) {r : Int32} {w1 : Wd} (hE : ∀ pc lv, decode cX6_canBe pc = .ok (.ireturn, 1) → narrow .boolean (.int r) = .int r → Wa X w1 pc lv [.int r]) {k4 : Wd × Int32 × Int32 × Int32 → Option (Int32 × Wd)} (hk4 : ∀ a, k4 a = some (r, w1) → Wa X a.1 4 [(0, .ref (Ad X 36)), (1, .int a.2.1), (2, .int a.2.2.1), (3, .int a.2.2.2)] []) {w : Wd} {v1 : Int32} {v3 : Int32} {s0 : Int32} (h : F_X6_canBe_51 k4 w v1 v3 s0 = some (r, w1)) : Wa X w 51 [(0, .ref (Ad X 36)), (1, .int v1), (3, .int v3)] [.int s0] := by
  unfold F_X6_canBe_51 at h
  refine wa_istore_n hX (lv2 := [(2, .int s0), (0, .ref (Ad X 36)), (1, .int v1), (3, .int v3)]) rfl (by decide) rfl dX6_canBe_51 ?_
  refine wa_iinc hX (v := (v3 + 1)) (lv2 := [(3, .int (v3 + 1)), (2, .int s0), (0, .ref (Ad X 36)), (1, .int v1)]) 3 rfl rfl (by decide) rfl dX6_canBe_52 ?_
  refine wa_goto hX 4 (by decide) dX6_canBe_55 ?_
  refine wa_sub (lv2 := [(0, .ref (Ad X 36)), (1, .int v1), (2, .int s0), (3, .int (v3 + 1))]) [2, 3, 1, 0] rfl ?_
  exact hk4 _ h
set_option maxRecDepth 100000 in
set_option maxHeartbeats 4000000 in
theorem t_X6_canBe_50 {X : Fx} (hX : Cx X cX6_canBe RX6 4 1 28) {r : Int32} {w1 : Wd} (hE : ∀ pc lv, decode cX6_canBe pc = .ok (.ireturn, 1) → narrow .boolean (.int r) = .int r → Wa X w1 pc lv [.int r]) {k4 : Wd × Int32 × Int32 × Int32 → Option (Int32 × Wd)} (hk4 : ∀ a, k4 a = some (r, w1) → Wa X a.1 4 [(0, .ref (Ad X 36)), (1, .int a.2.1), (2, .int a.2.2.1), (3, .int a.2.2.2)] []) {w : Wd} {v1 : Int32} {v3 : Int32} (h : F_X6_canBe_50 k4 w v1 v3 = some (r, w1)) : Wa X w 50 [(0, .ref (Ad X 36)), (1, .int v1), (3, .int v3)] [] := by
  unfold F_X6_canBe_50 at h
  refine wa_iconst hX 0 ki_0 dX6_canBe_50 ?_
  exact t_X6_canBe_51 hX hE hk4 h
set_option maxRecDepth 100000 in
set_option maxHeartbeats 4000000 in
theorem t_X6_canBe_46 {X : Fx} (hX : Cx X cX6_canBe RX6 4 1 28) {r : Int32} {w1 : Wd} (hE : ∀ pc lv, decode cX6_canBe pc = .ok (.ireturn, 1) → narrow .boolean (.int r) = .int r → Wa X w1 pc lv [.int r]) {k4 : Wd × Int32 × Int32 × Int32 → Option (Int32 × Wd)} (hk4 : ∀ a, k4 a = some (r, w1) → Wa X a.1 4 [(0, .ref (Ad X 36)), (1, .int a.2.1), (2, .int a.2.2.1), (3, .int a.2.2.2)] []) {w : Wd} {v1 : Int32} {v3 : Int32} (h : F_X6_canBe_46 k4 w v1 v3 = some (r, w1)) : Wa X w 46 [(0, .ref (Ad X 36)), (1, .int v1), (3, .int v3)] [] := by
  unfold F_X6_canBe_46 at h
  refine wa_iconst hX 1 ki_1 dX6_canBe_46 ?_
  refine wa_goto hX 51 (by decide) dX6_canBe_47 ?_
  exact t_X6_canBe_51 hX hE hk4 h
set_option maxRecDepth 100000 in
set_option maxHeartbeats 4000000 in
theorem t_X6_canBe_4 {X : Fx} (hX : Cx X cX6_canBe RX6 4 1 28) {r : Int32} {w1 : Wd} (hE : ∀ pc lv, decode cX6_canBe pc = .ok (.ireturn, 1) → narrow .boolean (.int r) = .int r → Wa X w1 pc lv [.int r])  : ∀ (n : Nat) (a : Wd × Int32 × Int32 × Int32), L_X6_canBe_4  n a = some (r, w1) → Wa X a.1 4 [(0, .ref (Ad X 36)), (1, .int a.2.1), (2, .int a.2.2.1), (3, .int a.2.2.2)] [] := by
  refine it_mach (P := fun (a : Wd × Int32 × Int32 × Int32) => Wa X a.1 4 [(0, .ref (Ad X 36)), (1, .int a.2.1), (2, .int a.2.2.1), (3, .int a.2.2.2)] []) ?_
  intro k4 hk4 a h
  obtain ⟨w, v1, v2, v3⟩ := a
  have h : F_X6_canBe_4 k4 w v1 v2 v3 = some (r, w1) := h
  show Wa X w 4 [(0, .ref (Ad X 36)), (1, .int v1), (2, .int v2), (3, .int v3)] []
  unfold F_X6_canBe_4 at h
  refine wa_iload_n hX 3 rfl rfl dX6_canBe_4 ?_
  refine wa_iload_n hX 1 rfl rfl dX6_canBe_5 ?_
  refine wa_icmp_ge hX 58 (by decide) dX6_canBe_6 (fun c => ?_) (fun c => ?_)
  · replace h := itp c h
    refine wa_iload_n hX 2 rfl rfl dX6_canBe_58 ?_
    obtain ⟨hg, h⟩ := gu_some h
    exact ret_z hE h (isB_or hg) dX6_canBe_59
  · replace h := itn c h
    refine wa_iload_n hX 2 rfl rfl dX6_canBe_9 ?_
    refine wa_if_eq hX 50 (by decide) dX6_canBe_10 (fun c => ?_) (fun c => ?_)
    · replace h := itp c h
      refine wa_sub (lv2 := [(0, .ref (Ad X 36)), (1, .int v1), (3, .int v3)]) [0, 1, 3] rfl ?_
      exact t_X6_canBe_50 hX hE hk4 h
    · replace h := itn c h
      refine wa_aload_n hX 0 rfl rfl dX6_canBe_13 ?_
      refine wg_model_player hX fl_X6_34 dX6_canBe_14 ?_
      refine wa_iload_n hX 3 rfl rfl dX6_canBe_17 ?_
      obtain ⟨hg, h⟩ := gu_some h
      refine wl_model_player hX hg dX6_canBe_18 ?_
      refine wa_aload_n hX 0 rfl rfl dX6_canBe_19 ?_
      refine wg_model_player hX fl_X6_34 dX6_canBe_20 ?_
      refine wa_iload_n hX 1 rfl rfl dX6_canBe_23 ?_
      obtain ⟨hg, h⟩ := gu_some h
      refine wl_model_player hX hg dX6_canBe_24 ?_
      refine wa_icmp_ne hX 46 (by decide) dX6_canBe_25 (fun c => ?_) (fun c => ?_)
      · replace h := itn c h
        refine wa_sub (lv2 := [(0, .ref (Ad X 36)), (1, .int v1), (3, .int v3)]) [0, 1, 3] rfl ?_
        exact t_X6_canBe_46 hX hE hk4 h
      · replace h := itp c h
        refine wa_aload_n hX 0 rfl rfl dX6_canBe_28 ?_
        refine wa_iload_n hX 3 rfl rfl dX6_canBe_29 ?_
        obtain ⟨x1, h2, h⟩ := obind h
        refine wa_callVi hX (m_X6_linesOf h2) cx_X6_linesOf ml_X6_135 (As := [.int v3]) (rest := []) 36 (ce_model _ _) rfl rfl rfl rfl ⟨Nat.le_of_ble_eq_true rfl, Nat.le_of_ble_eq_true rfl⟩ (Nat.le_of_ble_eq_true rfl) dX6_canBe_30 ?_
        refine wa_if_eq hX 46 (by decide) dX6_canBe_33 (fun c => ?_) (fun c => ?_)
        · replace h := itp c h
          refine wa_sub (lv2 := [(0, .ref (Ad X 36)), (1, .int v1), (3, .int v3)]) [0, 1, 3] rfl ?_
          exact t_X6_canBe_46 hX hE hk4 h
        · replace h := itn c h
          refine wa_aload_n hX 0 rfl rfl dX6_canBe_36 ?_
          refine wa_iload_n hX 3 rfl rfl dX6_canBe_37 ?_
          refine wa_iload_n hX 1 rfl rfl dX6_canBe_38 ?_
          refine wa_iconst hX 0 ki_0 dX6_canBe_39 ?_
          obtain ⟨x2, h2, h⟩ := obind h
          refine wa_callVi hX (m_X6_canBoth h2) cx_X6_canBoth ml_X6_153 (As := [.int v3, .int v1, .int 0]) (rest := []) 36 (ce_model _ _) rfl rfl rfl rfl ⟨Nat.le_of_ble_eq_true rfl, Nat.le_of_ble_eq_true rfl⟩ (Nat.le_of_ble_eq_true rfl) dX6_canBe_40 ?_
          have hJ : Wa X x2.2 51 [(0, .ref (Ad X 36)), (1, .int v1), (3, .int v3)] [.int (if x2.1 = 0 then (0 : Int32) else 1)] := by
            refine wa_istore_n hX (lv2 := [(2, .int (if x2.1 = 0 then (0 : Int32) else 1)), (0, .ref (Ad X 36)), (1, .int v1), (3, .int v3)]) rfl (by decide) rfl dX6_canBe_51 ?_
            refine wa_iinc hX (v := (v3 + 1)) (lv2 := [(3, .int (v3 + 1)), (2, .int (if x2.1 = 0 then (0 : Int32) else 1)), (0, .ref (Ad X 36)), (1, .int v1)]) 3 rfl rfl (by decide) rfl dX6_canBe_52 ?_
            refine wa_goto hX 4 (by decide) dX6_canBe_55 ?_
            refine wa_sub (lv2 := [(0, .ref (Ad X 36)), (1, .int v1), (2, .int (if x2.1 = 0 then (0 : Int32) else 1)), (3, .int (v3 + 1))]) [2, 3, 1, 0] rfl ?_
            exact hk4 _ h
          refine wa_if_eq hX 50 (by decide) dX6_canBe_43 (fun c => ?_) (fun c => ?_)
          · refine wa_iconst hX 0 ki_0 dX6_canBe_50 ?_
            refine wa_sub (lv2 := [(0, .ref (Ad X 36)), (1, .int v1), (3, .int v3)]) [0, 1, 3] rfl ?_
            rw [show (if x2.1 = 0 then (0 : Int32) else 1) = 0 from if_pos c] at hJ
            exact hJ
          · refine wa_iconst hX 1 ki_1 dX6_canBe_46 ?_
            refine wa_goto hX 51 (by decide) dX6_canBe_47 ?_
            refine wa_sub (lv2 := [(0, .ref (Ad X 36)), (1, .int v1), (3, .int v3)]) [0, 1, 3] rfl ?_
            rw [show (if x2.1 = 0 then (0 : Int32) else 1) = 1 from if_neg c] at hJ
            exact hJ
set_option maxRecDepth 100000 in
set_option maxHeartbeats 4000000 in
theorem m_X6_canBe {w w1 : Wd} {p1 : Int32} {r : Int32} (h : F_X6_canBe w p1 = some (r, w1)) : Gi yX6_canBe cX6_canBe 4 (some .boolean) 1 28 (fun E => [.ref (E.2.1 36), .int p1]) w w1 r := by
  refine Gi.of (hy := by decide +kernel) (hlen := fun _ => Nat.le_of_ble_eq_true rfl) (fun X hX hE => ?_)
  · unfold F_X6_canBe at h
    refine (show Wa X w 0 [(0, .ref (Ad X 36)), (1, .int p1)] [] from ?_)
    refine wa_iconst hX 1 ki_1 dX6_canBe_0 ?_
    refine wa_istore_n hX (lv2 := [(2, .int 1), (0, .ref (Ad X 36)), (1, .int p1)]) rfl (by decide) rfl dX6_canBe_1 ?_
    refine wa_iconst hX 0 ki_0 dX6_canBe_2 ?_
    refine wa_istore_n hX (lv2 := [(3, .int 0), (2, .int 1), (0, .ref (Ad X 36)), (1, .int p1)]) rfl (by decide) rfl dX6_canBe_3 ?_
    refine wa_sub (lv2 := [(0, .ref (Ad X 36)), (1, .int p1), (2, .int 1), (3, .int 0)]) [2, 3, 1, 0] rfl ?_
    exact t_X6_canBe_4 hX hE  _ _ h
set_option maxRecDepth 100000 in
set_option maxHeartbeats 4000000 in
theorem t_X6_castWith_138 {X : Fx} (hX : Cx X cX6_castWith RX6 6 2 51) {r : Int32} {w1 : Wd} (hE : ∀ pc lv, decode cX6_castWith pc = .ok (.ireturn, 1) → narrow .boolean (.int r) = .int r → Wa X w1 pc lv [.int r])  {w : Wd} {v2 : Int32} (h : F_X6_castWith_138 w v2 = some (r, w1)) : Wa X w 138 [(2, .int v2)] [] := by
  unfold F_X6_castWith_138 at h
  refine wa_iload_n hX 0 rfl rfl dX6_castWith_138 ?_
  refine wa_bipush hX 8 kb_8 dX6_castWith_139 ?_
  have hJ : Wa X w 149 [] [.int (if v2 = 8 then (1 : Int32) else 0)] := by
    obtain ⟨hg, h⟩ := gu_some h
    exact ret_z hE h (isB_or hg) dX6_castWith_149
  refine wa_icmp_ne hX 148 (by decide) dX6_castWith_141 (fun c => ?_) (fun c => ?_)
  · refine wa_iconst hX 0 ki_0 dX6_castWith_148 ?_
    refine wa_sub (lv2 := []) [] rfl ?_
    rw [show (if v2 = 8 then (1 : Int32) else 0) = 0 from if_neg c] at hJ
    exact hJ
  · refine wa_iconst hX 1 ki_1 dX6_castWith_144 ?_
    refine wa_goto hX 149 (by decide) dX6_castWith_145 ?_
    refine wa_sub (lv2 := []) [] rfl ?_
    rw [show (if v2 = 8 then (1 : Int32) else 0) = 1 from if_pos c] at hJ
    exact hJ
set_option maxRecDepth 100000 in
set_option maxHeartbeats 4000000 in
theorem t_X6_castWith_135 {X : Fx} (hX : Cx X cX6_castWith RX6 6 2 51) {r : Int32} {w1 : Wd} (hE : ∀ pc lv, decode cX6_castWith pc = .ok (.ireturn, 1) → narrow .boolean (.int r) = .int r → Wa X w1 pc lv [.int r]) {k9 : Wd × Int32 × Int32 → Option (Int32 × Wd)} (hk9 : ∀ a, k9 a = some (r, w1) → Wa X a.1 9 [(0, .ref (Ad X 36)), (1, .int a.2.1), (2, .int a.2.2)] []) {w : Wd} {v1 : Int32} {v2 : Int32} (h : F_X6_castWith_135 k9 w v1 v2 = some (r, w1)) : Wa X w 135 [(0, .ref (Ad X 36)), (1, .int v1), (2, .int v2)] [] := by
  unfold F_X6_castWith_135 at h
  refine wa_goto hX 9 (by decide) dX6_castWith_135 ?_
  exact hk9 _ h
set_option maxRecDepth 100000 in
set_option maxHeartbeats 4000000 in
theorem t_X6_castWith_119 {X : Fx} (hX : Cx X cX6_castWith RX6 6 2 51) {r : Int32} {w1 : Wd} (hE : ∀ pc lv, decode cX6_castWith pc = .ok (.ireturn, 1) → narrow .boolean (.int r) = .int r → Wa X w1 pc lv [.int r]) {k9 : Wd × Int32 × Int32 → Option (Int32 × Wd)} (hk9 : ∀ a, k9 a = some (r, w1) → Wa X a.1 9 [(0, .ref (Ad X 36)), (1, .int a.2.1), (2, .int a.2.2)] []) {w : Wd} {v1 : Int32} {v2 : Int32} (h : F_X6_castWith_119 k9 w v1 v2 = some (r, w1)) : Wa X w 119 [(0, .ref (Ad X 36)), (1, .int v1), (2, .int v2)] [] := by
  unfold F_X6_castWith_119 at h
  refine wa_iinc hX (v := (v2 + 1)) (lv2 := [(2, .int (v2 + 1)), (0, .ref (Ad X 36)), (1, .int v1)]) 2 rfl rfl (by decide) rfl dX6_castWith_119 ?_
  refine wa_iload_n hX 0 rfl rfl dX6_castWith_122 ?_
  refine wa_bipush hX 8 kb_8 dX6_castWith_123 ?_
  refine wa_icmp_ge hX 135 (by decide) dX6_castWith_125 (fun c => ?_) (fun c => ?_)
  · replace h := itp c h
    refine wa_sub (lv2 := [(0, .ref (Ad X 36)), (1, .int v1), (2, .int (v2 + 1))]) [1, 2, 0] rfl ?_
    exact t_X6_castWith_135 hX hE hk9 h
  · replace h := itn c h
    refine wa_aload_n hX 1 rfl rfl dX6_castWith_128 ?_
    refine wg_model_player hX fl_X6_34 dX6_castWith_129 ?_
    refine wa_iload_n hX 0 rfl rfl dX6_castWith_132 ?_
    refine wa_iconst hX (-1) ki_m1 dX6_castWith_133 ?_
    obtain ⟨hg, h⟩ := gu_some h
    refine ws_model_player hX hg dX6_castWith_134 ?_
    refine wa_sub (lv2 := [(0, .ref (Ad X 36)), (1, .int v1), (2, .int (v2 + 1))]) [1, 2, 0] rfl ?_
    exact t_X6_castWith_135 hX hE hk9 h
set_option maxRecDepth 100000 in
set_option maxHeartbeats 4000000 in
theorem t_X6_castWith_9 {X : Fx} (hX : Cx X cX6_castWith RX6 6 2 51) {r : Int32} {w1 : Wd} (hE : ∀ pc lv, decode cX6_castWith pc = .ok (.ireturn, 1) → narrow .boolean (.int r) = .int r → Wa X w1 pc lv [.int r])  : ∀ (n : Nat) (a : Wd × Int32 × Int32), L_X6_castWith_9  n a = some (r, w1) → Wa X a.1 9 [(0, .ref (Ad X 36)), (1, .int a.2.1), (2, .int a.2.2)] [] := by
  refine it_mach (P := fun (a : Wd × Int32 × Int32) => Wa X a.1 9 [(0, .ref (Ad X 36)), (1, .int a.2.1), (2, .int a.2.2)] []) ?_
  intro k9 hk9 a h
  obtain ⟨w, v1, v2⟩ := a
  have h : F_X6_castWith_9 k9 w v1 v2 = some (r, w1) := h
  show Wa X w 9 [(0, .ref (Ad X 36)), (1, .int v1), (2, .int v2)] []
  unfold F_X6_castWith_9 at h
  refine wa_iload_n hX 2 rfl rfl dX6_castWith_9 ?_
  refine wa_if_lt hX 138 (by decide) dX6_castWith_10 (fun c => ?_) (fun c => ?_)
  · replace h := itp c h
    refine wa_sub (lv2 := [(2, .int v2)]) [2] rfl ?_
    exact t_X6_castWith_138 hX hE  h
  · replace h := itn c h
    refine wa_iload_n hX 2 rfl rfl dX6_castWith_13 ?_
    refine wa_bipush hX 8 kb_8 dX6_castWith_14 ?_
    refine wa_icmp_ge hX 138 (by decide) dX6_castWith_16 (fun c => ?_) (fun c => ?_)
    · replace h := itp c h
      refine wa_sub (lv2 := [(2, .int v2)]) [2] rfl ?_
      exact t_X6_castWith_138 hX hE  h
    · replace h := itn c h
      refine wa_aload_n hX 0 rfl rfl dX6_castWith_19 ?_
      refine wg_model_player hX fl_X6_34 dX6_castWith_20 ?_
      refine wa_iload_n hX 2 rfl rfl dX6_castWith_23 ?_
      refine wa_dup2 hX rfl rfl dX6_castWith_24 ?_
      obtain ⟨hg, h⟩ := gu_some h
      refine wl_model_player hX hg dX6_castWith_25 ?_
      refine wa_iconst hX 1 ki_1 dX6_castWith_26 ?_
      refine wa_iadd hX dX6_castWith_27 ?_
      obtain ⟨hg, h⟩ := gu_some h
      refine ws_model_player hX hg dX6_castWith_28 ?_
      refine wa_aload_n hX 0 rfl rfl dX6_castWith_29 ?_
      refine wa_iload_n hX 2 rfl rfl dX6_castWith_30 ?_
      obtain ⟨x1, h2, h⟩ := obind h
      refine wa_callVi hX (m_X6_linesOf h2) cx_X6_linesOf ml_X6_135 (As := [.int v2]) (rest := []) 36 (ce_model _ _) rfl rfl rfl rfl ⟨Nat.le_of_ble_eq_true rfl, Nat.le_of_ble_eq_true rfl⟩ (Nat.le_of_ble_eq_true rfl) dX6_castWith_31 ?_
      have hJ : Wa X x1.2 42 [(0, .ref (Ad X 36)), (1, .int v1), (2, .int v2)] [.int (if x1.1 ≤ 0 then (0 : Int32) else 1)] := by
        refine wa_istore_n hX (lv2 := [(3, .int (if x1.1 ≤ 0 then (0 : Int32) else 1)), (0, .ref (Ad X 36)), (1, .int v1), (2, .int v2)]) rfl (by decide) rfl dX6_castWith_42 ?_
        refine wa_aload_n hX 1 rfl rfl dX6_castWith_43 ?_
        refine wa_iload_n hX 3 rfl rfl dX6_castWith_44 ?_
        obtain ⟨x2, h2, h⟩ := obind h
        refine wa_callVi hX (m_X6_highest h2) cx_X6_highest ml_X6_157 (As := [.int v2]) (rest := []) 36 (ce_model _ _) rfl rfl rfl rfl ⟨Nat.le_of_ble_eq_true rfl, Nat.le_of_ble_eq_true rfl⟩ (Nat.le_of_ble_eq_true rfl) dX6_castWith_45 ?_
        refine wa_iconst hX 1 ki_1 dX6_castWith_48 ?_
        refine wa_iadd hX dX6_castWith_49 ?_
        refine wa_istore hX (lv2 := [(4, .int (x2.1 + 1)), (3, .int (if x1.1 ≤ 0 then (0 : Int32) else 1)), (0, .ref (Ad X 36)), (1, .int v1), (2, .int v2)]) (by decide) rfl dX6_castWith_50 ?_
        refine wa_iload hX 0 rfl dX6_castWith_52 ?_
        refine wa_iload_n hX 3 rfl rfl dX6_castWith_54 ?_
        refine wa_iconst hX 1 ki_1 dX6_castWith_55 ?_
        refine wa_isub hX dX6_castWith_56 ?_
        have hJ : Wa X x2.2 68 [(0, .ref (Ad X 36)), (1, .int v1), (2, .int v2), (3, .int (if x1.1 ≤ 0 then (0 : Int32) else 1))] [.int (if (v1 - 1) ≤ (x2.1 + 1) then (v1 - 1) else (x2.1 + 1))] := by
          refine wa_let h (fun y3 h => ?_)
          refine wa_istore hX (lv2 := [(4, .int y3), (0, .ref (Ad X 36)), (1, .int v1), (2, .int v2), (3, .int (if x1.1 ≤ 0 then (0 : Int32) else 1))]) (by decide) rfl dX6_castWith_68 ?_
          refine wa_aload_n hX 1 rfl rfl dX6_castWith_70 ?_
          refine wg_model_player hX fl_X6_34 dX6_castWith_71 ?_
          refine wa_iload_n hX 3 rfl rfl dX6_castWith_74 ?_
          obtain ⟨hg, h⟩ := gu_some h
          refine wl_model_player hX hg dX6_castWith_75 ?_
          refine wa_iload_n hX 4 rfl rfl dX6_castWith_76 ?_
          have hJ : Wa X x2.2 86 [(0, .ref (Ad X 36)), (1, .int v1), (2, .int v2), (3, .int (if x1.1 ≤ 0 then (0 : Int32) else 1))] [.int (if (if x1.1 ≤ 0 then (0 : Int32) else 1) = 0 then 0 else y3), .int (x2.2.2.1 45 v2.toNatClampNeg)] := by
            have hJ : Wa X x2.2 94 [(0, .ref (Ad X 36)), (1, .int v1), (2, .int v2), (3, .int (if x1.1 ≤ 0 then (0 : Int32) else 1))] [.int (if (x2.2.2.1 45 v2.toNatClampNeg) ≤ (if (if x1.1 ≤ 0 then (0 : Int32) else 1) = 0 then 0 else y3) then (0 : Int32) else 1)] := by
              refine wa_let h (fun y4 h => ?_)
              refine wa_istore hX (lv2 := [(5, .int y4), (0, .ref (Ad X 36)), (1, .int v1), (2, .int v2), (3, .int (if x1.1 ≤ 0 then (0 : Int32) else 1))]) (by decide) rfl dX6_castWith_94 ?_
              refine wa_iload hX 0 rfl dX6_castWith_96 ?_
              refine wa_if_eq hX 107 (by decide) dX6_castWith_98 (fun c => ?_) (fun c => ?_)
              · replace h := itp c h
                refine wa_iload_n hX 4 rfl rfl dX6_castWith_107 ?_
                refine wa_if_eq hX 119 (by decide) dX6_castWith_108 (fun c => ?_) (fun c => ?_)
                · replace h := itp c h
                  refine wa_sub (lv2 := [(0, .ref (Ad X 36)), (1, .int v1), (2, .int v2)]) [1, 2, 3] rfl ?_
                  exact t_X6_castWith_119 hX hE hk9 h
                · replace h := itn c h
                  refine wa_aload_n hX 1 rfl rfl dX6_castWith_111 ?_
                  refine wa_iload_n hX 3 rfl rfl dX6_castWith_112 ?_
                  obtain ⟨x5, h2, h⟩ := obind h
                  refine wa_callVi hX (m_X6_canBe h2) cx_X6_canBe ml_X6_160 (As := [.int v2]) (rest := []) 36 (ce_model _ _) rfl rfl rfl rfl ⟨Nat.le_of_ble_eq_true rfl, Nat.le_of_ble_eq_true rfl⟩ (Nat.le_of_ble_eq_true rfl) dX6_castWith_113 ?_
                  refine wa_if_eq hX 135 (by decide) dX6_castWith_116 (fun c => ?_) (fun c => ?_)
                  · replace h := itp c h
                    refine wa_sub (lv2 := [(0, .ref (Ad X 36)), (1, .int v1), (2, .int v2)]) [1, 2, 3] rfl ?_
                    exact t_X6_castWith_135 hX hE hk9 h
                  · replace h := itn c h
                    refine wa_sub (lv2 := [(0, .ref (Ad X 36)), (1, .int v1), (2, .int v2)]) [1, 2, 3] rfl ?_
                    exact t_X6_castWith_119 hX hE hk9 h
              · replace h := itn c h
                refine wa_iinc hX (v := (v2 + (-1))) (lv2 := [(2, .int (v2 + (-1))), (5, .int y4), (0, .ref (Ad X 36)), (1, .int v1), (3, .int (if x1.1 ≤ 0 then (0 : Int32) else 1))]) 3 rfl (by rw [ki_m1]) (by decide) rfl dX6_castWith_101 ?_
                refine wa_goto hX 135 (by decide) dX6_castWith_104 ?_
                refine wa_sub (lv2 := [(0, .ref (Ad X 36)), (1, .int v1), (2, .int (v2 + (-1)))]) [2, 3, 0] rfl ?_
                exact t_X6_castWith_135 hX hE hk9 h
            refine wa_icmp_le hX 93 (by decide) dX6_castWith_86 (fun c => ?_) (fun c => ?_)
            · refine wa_iconst hX 0 ki_0 dX6_castWith_93 ?_
              rw [show (if (x2.2.2.1 45 v2.toNatClampNeg) ≤ (if (if x1.1 ≤ 0 then (0 : Int32) else 1) = 0 then 0 else y3) then (0 : Int32) else 1) = 0 from if_pos c] at hJ
              exact hJ
            · refine wa_iconst hX 1 ki_1 dX6_castWith_89 ?_
              refine wa_goto hX 94 (by decide) dX6_castWith_90 ?_
              rw [show (if (x2.2.2.1 45 v2.toNatClampNeg) ≤ (if (if x1.1 ≤ 0 then (0 : Int32) else 1) = 0 then 0 else y3) then (0 : Int32) else 1) = 1 from if_neg c] at hJ
              exact hJ
          refine wa_if_eq hX 85 (by decide) dX6_castWith_77 (fun c => ?_) (fun c => ?_)
          · refine wa_iconst hX 0 ki_0 dX6_castWith_85 ?_
            refine wa_sub (lv2 := [(0, .ref (Ad X 36)), (1, .int v1), (2, .int v2), (3, .int (if x1.1 ≤ 0 then (0 : Int32) else 1))]) [1, 2, 3, 4] rfl ?_
            rw [show (if (if x1.1 ≤ 0 then (0 : Int32) else 1) = 0 then 0 else y3) = 0 from if_pos c] at hJ
            exact hJ
          · refine wa_iload hX 0 rfl dX6_castWith_80 ?_
            refine wa_goto hX 86 (by decide) dX6_castWith_82 ?_
            refine wa_sub (lv2 := [(0, .ref (Ad X 36)), (1, .int v1), (2, .int v2), (3, .int (if x1.1 ≤ 0 then (0 : Int32) else 1))]) [1, 2, 3, 4] rfl ?_
            rw [show (if (if x1.1 ≤ 0 then (0 : Int32) else 1) = 0 then 0 else y3) = y3 from if_neg c] at hJ
            exact hJ
        refine wa_icmp_ge hX 65 (by decide) dX6_castWith_57 (fun c => ?_) (fun c => ?_)
        · refine wa_iload_n hX 3 rfl rfl dX6_castWith_65 ?_
          refine wa_iconst hX 1 ki_1 dX6_castWith_66 ?_
          refine wa_isub hX dX6_castWith_67 ?_
          refine wa_sub (lv2 := [(0, .ref (Ad X 36)), (1, .int v1), (2, .int v2), (3, .int (if x1.1 ≤ 0 then (0 : Int32) else 1))]) [2, 3, 4, 1] rfl ?_
          rw [show (if (v1 - 1) ≤ (x2.1 + 1) then (v1 - 1) else (x2.1 + 1)) = (v1 - 1) from if_pos c] at hJ
          exact hJ
        · refine wa_iload hX 0 rfl dX6_castWith_60 ?_
          refine wa_goto hX 68 (by decide) dX6_castWith_62 ?_
          refine wa_sub (lv2 := [(0, .ref (Ad X 36)), (1, .int v1), (2, .int v2), (3, .int (if x1.1 ≤ 0 then (0 : Int32) else 1))]) [2, 3, 4, 1] rfl ?_
          rw [show (if (v1 - 1) ≤ (x2.1 + 1) then (v1 - 1) else (x2.1 + 1)) = (x2.1 + 1) from if_neg c] at hJ
          exact hJ
      refine wa_if_le hX 41 (by decide) dX6_castWith_34 (fun c => ?_) (fun c => ?_)
      · refine wa_iconst hX 0 ki_0 dX6_castWith_41 ?_
        rw [show (if x1.1 ≤ 0 then (0 : Int32) else 1) = 0 from if_pos c] at hJ
        exact hJ
      · refine wa_iconst hX 1 ki_1 dX6_castWith_37 ?_
        refine wa_goto hX 42 (by decide) dX6_castWith_38 ?_
        rw [show (if x1.1 ≤ 0 then (0 : Int32) else 1) = 1 from if_neg c] at hJ
        exact hJ
set_option maxRecDepth 100000 in
set_option maxHeartbeats 4000000 in
theorem m_X6_castWith {w w1 : Wd} {p1 : Int32} {r : Int32} (h : F_X6_castWith w p1 = some (r, w1)) : Gi yX6_castWith cX6_castWith 6 (some .boolean) 2 51 (fun E => [.ref (E.2.1 36), .int p1]) w w1 r := by
  refine Gi.of (hy := by decide +kernel) (hlen := fun _ => Nat.le_of_ble_eq_true rfl) (fun X hX hE => ?_)
  · unfold F_X6_castWith at h
    refine (show Wa X w 0 [(0, .ref (Ad X 36)), (1, .int p1)] [] from ?_)
    refine wa_iconst hX 0 ki_0 dX6_castWith_0 ?_
    refine wa_istore_n hX (lv2 := [(2, .int 0), (0, .ref (Ad X 36)), (1, .int p1)]) rfl (by decide) rfl dX6_castWith_1 ?_
    refine wa_aload_n hX 1 rfl rfl dX6_castWith_2 ?_
    refine wg_model_player hX fl_X6_34 dX6_castWith_3 ?_
    refine wa_iconst hX 0 ki_0 dX6_castWith_6 ?_
    refine wa_iconst hX (-1) ki_m1 dX6_castWith_7 ?_
    obtain ⟨hg, h⟩ := gu_some h
    refine ws_model_player hX hg dX6_castWith_8 ?_
    refine wa_sub (lv2 := [(0, .ref (Ad X 36)), (1, .int p1), (2, .int 0)]) [1, 2, 0] rfl ?_
    exact t_X6_castWith_9 hX hE  _ _ h
set_option maxRecDepth 100000 in
set_option maxHeartbeats 4000000 in
theorem t_X6_castAll_99 {X : Fx} (hX : Cx X cX6_castAll RX6 5 3 76) {r : Int32} {w1 : Wd} (hE : ∀ pc lv, decode cX6_castAll pc = .ok (.ireturn, 1) → narrow .int (.int r) = .int r → Wa X w1 pc lv [.int r]) {k65 : Wd × Int32 × Int32 → Option (Int32 × Wd)} (hk65 : ∀ a, k65 a = some (r, w1) → Wa X a.1 65 [(0, .ref (Ad X 36)), (1, .int a.2.1), (4, .int a.2.2)] []) {w : Wd} {v1 : Int32} {v4 : Int32} {s0 : Int32} {s1 : Int32} (h : F_X6_castAll_99 k65 w v1 v4 s0 s1 = some (r, w1)) : Wa X w 99 [(0, .ref (Ad X 36)), (1, .int v1), (4, .int v4)] [.int s0, .int s1, .ref (Ad X 46)] := by
  unfold F_X6_castAll_99 at h
  obtain ⟨hg, h⟩ := gu_some h
  refine ws_model_bestPlayer hX hg dX6_castAll_99 ?_
  refine wa_iinc hX (v := (v4 + 1)) (lv2 := [(4, .int (v4 + 1)), (0, .ref (Ad X 36)), (1, .int v1)]) 2 rfl rfl (by decide) rfl dX6_castAll_100 ?_
  refine wa_goto hX 65 (by decide) dX6_castAll_103 ?_
  refine wa_sub (lv2 := [(0, .ref (Ad X 36)), (1, .int v1), (4, .int (v4 + 1))]) [1, 2, 0] rfl ?_
  exact hk65 _ h
set_option maxRecDepth 100000 in
set_option maxHeartbeats 4000000 in
theorem t_X6_castAll_65 {X : Fx} (hX : Cx X cX6_castAll RX6 5 3 76) {r : Int32} {w1 : Wd} (hE : ∀ pc lv, decode cX6_castAll pc = .ok (.ireturn, 1) → narrow .int (.int r) = .int r → Wa X w1 pc lv [.int r])  : ∀ (n : Nat) (a : Wd × Int32 × Int32), L_X6_castAll_65  n a = some (r, w1) → Wa X a.1 65 [(0, .ref (Ad X 36)), (1, .int a.2.1), (4, .int a.2.2)] [] := by
  refine it_mach (P := fun (a : Wd × Int32 × Int32) => Wa X a.1 65 [(0, .ref (Ad X 36)), (1, .int a.2.1), (4, .int a.2.2)] []) ?_
  intro k65 hk65 a h
  obtain ⟨w, v1, v4⟩ := a
  have h : F_X6_castAll_65 k65 w v1 v4 = some (r, w1) := h
  show Wa X w 65 [(0, .ref (Ad X 36)), (1, .int v1), (4, .int v4)] []
  unfold F_X6_castAll_65 at h
  refine wa_iload hX 2 rfl dX6_castAll_65 ?_
  refine wa_bipush hX 8 kb_8 dX6_castAll_67 ?_
  refine wa_icmp_ge hX 106 (by decide) dX6_castAll_69 (fun c => ?_) (fun c => ?_)
  · replace h := itp c h
    refine wa_iload_n hX 1 rfl rfl dX6_castAll_106 ?_
    exact ret_i hE h dX6_castAll_107
  · replace h := itn c h
    refine wa_aload_n hX 0 rfl rfl dX6_castAll_72 ?_
    refine wg_model_bestPlayer hX fl_X6_37 dX6_castAll_73 ?_
    refine wa_iload hX 2 rfl dX6_castAll_76 ?_
    refine wa_aload_n hX 0 rfl rfl dX6_castAll_78 ?_
    refine wa_iload hX 2 rfl dX6_castAll_79 ?_
    obtain ⟨x1, h2, h⟩ := obind h
    refine wa_callVi hX (m_X6_linesOf h2) cx_X6_linesOf ml_X6_135 (As := [.int v4]) (rest := [.int v4, .ref (Ad X 46)]) 36 (ce_model _ _) rfl rfl rfl rfl ⟨Nat.le_of_ble_eq_true rfl, Nat.le_of_ble_eq_true rfl⟩ (Nat.le_of_ble_eq_true rfl) dX6_castAll_81 ?_
    refine wa_if_le hX 97 (by decide) dX6_castAll_84 (fun c => ?_) (fun c => ?_)
    · replace h := itp c h
      refine wa_bipush hX (-6) kb_m6 dX6_castAll_97 ?_
      exact t_X6_castAll_99 hX hE hk65 h
    · replace h := itn c h
      refine wa_aload_n hX 0 rfl rfl dX6_castAll_87 ?_
      refine wg_model_player hX fl_X6_34 dX6_castAll_88 ?_
      refine wa_iload hX 2 rfl dX6_castAll_91 ?_
      obtain ⟨hg, h⟩ := gu_some h
      refine wl_model_player hX hg dX6_castAll_93 ?_
      refine wa_goto hX 99 (by decide) dX6_castAll_94 ?_
      exact t_X6_castAll_99 hX hE hk65 h
set_option maxRecDepth 100000 in
set_option maxHeartbeats 4000000 in
theorem t_X6_castAll_46 {X : Fx} (hX : Cx X cX6_castAll RX6 5 3 76) {r : Int32} {w1 : Wd} (hE : ∀ pc lv, decode cX6_castAll pc = .ok (.ireturn, 1) → narrow .int (.int r) = .int r → Wa X w1 pc lv [.int r])  : ∀ (n : Nat) (a : Wd × Int32 × Int32), L_X6_castAll_46  n a = some (r, w1) → Wa X a.1 46 [(0, .ref (Ad X 36)), (1, .int a.2.1), (3, .int a.2.2)] [] := by
  refine it_mach (P := fun (a : Wd × Int32 × Int32) => Wa X a.1 46 [(0, .ref (Ad X 36)), (1, .int a.2.1), (3, .int a.2.2)] []) ?_
  intro k46 hk46 a h
  obtain ⟨w, v1, v3⟩ := a
  have h : F_X6_castAll_46 k46 w v1 v3 = some (r, w1) := h
  show Wa X w 46 [(0, .ref (Ad X 36)), (1, .int v1), (3, .int v3)] []
  unfold F_X6_castAll_46 at h
  refine wa_iload_n hX 2 rfl rfl dX6_castAll_46 ?_
  refine wa_if_ne hX 62 (by decide) dX6_castAll_47 (fun c => ?_) (fun c => ?_)
  · replace h := itn c h
    refine wa_iconst hX 0 ki_0 dX6_castAll_62 ?_
    refine wa_istore hX (lv2 := [(4, .int 0), (0, .ref (Ad X 36)), (1, .int v1), (3, .int v3)]) (by decide) rfl dX6_castAll_63 ?_
    refine wa_sub (lv2 := [(0, .ref (Ad X 36)), (1, .int v1), (4, .int 0)]) [1, 2, 0] rfl ?_
    exact t_X6_castAll_65 hX hE  _ _ h
  · replace h := itp c h
    refine wa_iinc hX (v := (v1 + 1)) (lv2 := [(1, .int (v1 + 1)), (0, .ref (Ad X 36)), (3, .int v3)]) 1 rfl rfl (by decide) rfl dX6_castAll_50 ?_
    refine wa_aload_n hX 1 rfl rfl dX6_castAll_53 ?_
    refine wa_iload_n hX 0 rfl rfl dX6_castAll_54 ?_
    obtain ⟨x2, h2, h⟩ := obind h
    refine wa_callVi hX (m_X6_castWith h2) cx_X6_castWith ml_X6_163 (As := [.int (v1 + 1)]) (rest := []) 36 (ce_model _ _) rfl rfl rfl rfl ⟨Nat.le_of_ble_eq_true rfl, Nat.le_of_ble_eq_true rfl⟩ (Nat.le_of_ble_eq_true rfl) dX6_castAll_55 ?_
    refine wa_istore_n hX (lv2 := [(3, .int x2.1), (1, .int (v1 + 1)), (0, .ref (Ad X 36))]) rfl (by decide) rfl dX6_castAll_58 ?_
    refine wa_goto hX 46 (by decide) dX6_castAll_59 ?_
    refine wa_sub (lv2 := [(0, .ref (Ad X 36)), (1, .int (v1 + 1)), (3, .int x2.1)]) [2, 1, 0] rfl ?_
    exact hk46 _ h
set_option maxRecDepth 100000 in
set_option maxHeartbeats 4000000 in
theorem t_X6_castAll_29 {X : Fx} (hX : Cx X cX6_castAll RX6 5 3 76) {r : Int32} {w1 : Wd} (hE : ∀ pc lv, decode cX6_castAll pc = .ok (.ireturn, 1) → narrow .int (.int r) = .int r → Wa X w1 pc lv [.int r]) {k6 : Wd × Int32 × Int32 × Int32 → Option (Int32 × Wd)} (hk6 : ∀ a, k6 a = some (r, w1) → Wa X a.1 6 [(0, .ref (Ad X 36)), (1, .int a.2.1), (2, .int a.2.2.1), (3, .int a.2.2.2)] []) {w : Wd} {v1 : Int32} {v3 : Int32} {s0 : Int32} (h : F_X6_castAll_29 k6 w v1 v3 s0 = some (r, w1)) : Wa X w 29 [(0, .ref (Ad X 36)), (1, .int v1), (3, .int v3)] [.int s0] := by
  unfold F_X6_castAll_29 at h
  refine wa_istore_n hX (lv2 := [(2, .int s0), (0, .ref (Ad X 36)), (1, .int v1), (3, .int v3)]) rfl (by decide) rfl dX6_castAll_29 ?_
  refine wa_iinc hX (v := (v3 + 1)) (lv2 := [(3, .int (v3 + 1)), (2, .int s0), (0, .ref (Ad X 36)), (1, .int v1)]) 3 rfl rfl (by decide) rfl dX6_castAll_30 ?_
  refine wa_goto hX 6 (by decide) dX6_castAll_33 ?_
  refine wa_sub (lv2 := [(0, .ref (Ad X 36)), (1, .int v1), (2, .int s0), (3, .int (v3 + 1))]) [2, 3, 1, 0] rfl ?_
  exact hk6 _ h
set_option maxRecDepth 100000 in
set_option maxHeartbeats 4000000 in
theorem t_X6_castAll_24 {X : Fx} (hX : Cx X cX6_castAll RX6 5 3 76) {r : Int32} {w1 : Wd} (hE : ∀ pc lv, decode cX6_castAll pc = .ok (.ireturn, 1) → narrow .int (.int r) = .int r → Wa X w1 pc lv [.int r]) {k6 : Wd × Int32 × Int32 × Int32 → Option (Int32 × Wd)} (hk6 : ∀ a, k6 a = some (r, w1) → Wa X a.1 6 [(0, .ref (Ad X 36)), (1, .int a.2.1), (2, .int a.2.2.1), (3, .int a.2.2.2)] []) {w : Wd} {v1 : Int32} {v3 : Int32} (h : F_X6_castAll_24 k6 w v1 v3 = some (r, w1)) : Wa X w 24 [(0, .ref (Ad X 36)), (1, .int v1), (3, .int v3)] [] := by
  unfold F_X6_castAll_24 at h
  refine wa_iconst hX 1 ki_1 dX6_castAll_24 ?_
  refine wa_goto hX 29 (by decide) dX6_castAll_25 ?_
  exact t_X6_castAll_29 hX hE hk6 h
set_option maxRecDepth 100000 in
set_option maxHeartbeats 4000000 in
theorem t_X6_castAll_6 {X : Fx} (hX : Cx X cX6_castAll RX6 5 3 76) {r : Int32} {w1 : Wd} (hE : ∀ pc lv, decode cX6_castAll pc = .ok (.ireturn, 1) → narrow .int (.int r) = .int r → Wa X w1 pc lv [.int r])  : ∀ (n : Nat) (a : Wd × Int32 × Int32 × Int32), L_X6_castAll_6  n a = some (r, w1) → Wa X a.1 6 [(0, .ref (Ad X 36)), (1, .int a.2.1), (2, .int a.2.2.1), (3, .int a.2.2.2)] [] := by
  refine it_mach (P := fun (a : Wd × Int32 × Int32 × Int32) => Wa X a.1 6 [(0, .ref (Ad X 36)), (1, .int a.2.1), (2, .int a.2.2.1), (3, .int a.2.2.2)] []) ?_
  intro k6 hk6 a h
  obtain ⟨w, v1, v2, v3⟩ := a
  have h : F_X6_castAll_6 k6 w v1 v2 v3 = some (r, w1) := h
  show Wa X w 6 [(0, .ref (Ad X 36)), (1, .int v1), (2, .int v2), (3, .int v3)] []
  unfold F_X6_castAll_6 at h
  refine wa_iload_n hX 3 rfl rfl dX6_castAll_6 ?_
  refine wa_bipush hX 8 kb_8 dX6_castAll_7 ?_
  refine wa_icmp_ge hX 36 (by decide) dX6_castAll_9 (fun c => ?_) (fun c => ?_)
  · replace h := itp c h
    refine wa_iload_n hX 2 rfl rfl dX6_castAll_36 ?_
    have hJ : Wa X w 45 [(0, .ref (Ad X 36)), (1, .int v1)] [.int (if v2 = 0 then (1 : Int32) else 0)] := by
      refine wa_istore_n hX (lv2 := [(3, .int (if v2 = 0 then (1 : Int32) else 0)), (0, .ref (Ad X 36)), (1, .int v1)]) rfl (by decide) rfl dX6_castAll_45 ?_
      refine wa_sub (lv2 := [(0, .ref (Ad X 36)), (1, .int v1), (3, .int (if v2 = 0 then (1 : Int32) else 0))]) [1, 2, 0] rfl ?_
      exact t_X6_castAll_46 hX hE  _ _ h
    refine wa_if_ne hX 44 (by decide) dX6_castAll_37 (fun c => ?_) (fun c => ?_)
    · refine wa_iconst hX 0 ki_0 dX6_castAll_44 ?_
      refine wa_sub (lv2 := [(0, .ref (Ad X 36)), (1, .int v1)]) [0, 1] rfl ?_
      rw [show (if v2 = 0 then (1 : Int32) else 0) = 0 from if_neg c] at hJ
      exact hJ
    · refine wa_iconst hX 1 ki_1 dX6_castAll_40 ?_
      refine wa_goto hX 45 (by decide) dX6_castAll_41 ?_
      refine wa_sub (lv2 := [(0, .ref (Ad X 36)), (1, .int v1)]) [0, 1] rfl ?_
      rw [show (if v2 = 0 then (1 : Int32) else 0) = 1 from if_pos c] at hJ
      exact hJ
  · replace h := itn c h
    refine wa_iload_n hX 2 rfl rfl dX6_castAll_12 ?_
    refine wa_if_ne hX 24 (by decide) dX6_castAll_13 (fun c => ?_) (fun c => ?_)
    · replace h := itn c h
      refine wa_sub (lv2 := [(0, .ref (Ad X 36)), (1, .int v1), (3, .int v3)]) [0, 1, 3] rfl ?_
      exact t_X6_castAll_24 hX hE hk6 h
    · replace h := itp c h
      refine wa_aload_n hX 0 rfl rfl dX6_castAll_16 ?_
      refine wa_iload_n hX 3 rfl rfl dX6_castAll_17 ?_
      obtain ⟨x3, h2, h⟩ := obind h
      refine wa_callVi hX (m_X6_linesOf h2) cx_X6_linesOf ml_X6_135 (As := [.int v3]) (rest := []) 36 (ce_model _ _) rfl rfl rfl rfl ⟨Nat.le_of_ble_eq_true rfl, Nat.le_of_ble_eq_true rfl⟩ (Nat.le_of_ble_eq_true rfl) dX6_castAll_18 ?_
      have hJ : Wa X x3.2 29 [(0, .ref (Ad X 36)), (1, .int v1), (3, .int v3)] [.int (if x3.1 ≤ 0 then (0 : Int32) else 1)] := by
        refine wa_istore_n hX (lv2 := [(2, .int (if x3.1 ≤ 0 then (0 : Int32) else 1)), (0, .ref (Ad X 36)), (1, .int v1), (3, .int v3)]) rfl (by decide) rfl dX6_castAll_29 ?_
        refine wa_iinc hX (v := (v3 + 1)) (lv2 := [(3, .int (v3 + 1)), (2, .int (if x3.1 ≤ 0 then (0 : Int32) else 1)), (0, .ref (Ad X 36)), (1, .int v1)]) 3 rfl rfl (by decide) rfl dX6_castAll_30 ?_
        refine wa_goto hX 6 (by decide) dX6_castAll_33 ?_
        refine wa_sub (lv2 := [(0, .ref (Ad X 36)), (1, .int v1), (2, .int (if x3.1 ≤ 0 then (0 : Int32) else 1)), (3, .int (v3 + 1))]) [2, 3, 1, 0] rfl ?_
        exact hk6 _ h
      refine wa_if_le hX 28 (by decide) dX6_castAll_21 (fun c => ?_) (fun c => ?_)
      · refine wa_iconst hX 0 ki_0 dX6_castAll_28 ?_
        refine wa_sub (lv2 := [(0, .ref (Ad X 36)), (1, .int v1), (3, .int v3)]) [0, 1, 3] rfl ?_
        rw [show (if x3.1 ≤ 0 then (0 : Int32) else 1) = 0 from if_pos c] at hJ
        exact hJ
      · refine wa_iconst hX 1 ki_1 dX6_castAll_24 ?_
        refine wa_goto hX 29 (by decide) dX6_castAll_25 ?_
        refine wa_sub (lv2 := [(0, .ref (Ad X 36)), (1, .int v1), (3, .int v3)]) [0, 1, 3] rfl ?_
        rw [show (if x3.1 ≤ 0 then (0 : Int32) else 1) = 1 from if_neg c] at hJ
        exact hJ
set_option maxRecDepth 100000 in
set_option maxHeartbeats 4000000 in
theorem m_X6_castAll {w w1 : Wd} {r : Int32} (h : F_X6_castAll w  = some (r, w1)) : Gi yX6_castAll cX6_castAll 5 (some .int) 3 76 (fun E => [.ref (E.2.1 36)]) w w1 r := by
  refine Gi.of (hy := by decide +kernel) (hlen := fun _ => Nat.le_of_ble_eq_true rfl) (fun X hX hE => ?_)
  · unfold F_X6_castAll at h
    refine (show Wa X w 0 [(0, .ref (Ad X 36))] [] from ?_)
    refine wa_iconst hX 0 ki_0 dX6_castAll_0 ?_
    refine wa_istore_n hX (lv2 := [(1, .int 0), (0, .ref (Ad X 36))]) rfl (by decide) rfl dX6_castAll_1 ?_
    refine wa_iconst hX 0 ki_0 dX6_castAll_2 ?_
    refine wa_istore_n hX (lv2 := [(2, .int 0), (1, .int 0), (0, .ref (Ad X 36))]) rfl (by decide) rfl dX6_castAll_3 ?_
    refine wa_iconst hX 0 ki_0 dX6_castAll_4 ?_
    refine wa_istore_n hX (lv2 := [(3, .int 0), (2, .int 0), (1, .int 0), (0, .ref (Ad X 36))]) rfl (by decide) rfl dX6_castAll_5 ?_
    refine wa_sub (lv2 := [(0, .ref (Ad X 36)), (1, .int 0), (2, .int 0), (3, .int 0)]) [3, 2, 1, 0] rfl ?_
    exact t_X6_castAll_6 hX hE  _ _ h
set_option maxRecDepth 100000 in
set_option maxHeartbeats 4000000 in
theorem t_X6_cast_49 {X : Fx} (hX : Cx X cX6_cast RX6 4 4 100) {r : Int32} {w1 : Wd} (hE : ∀ pc lv, decode cX6_cast pc = .ok (.ireturn, 1) → narrow .int (.int r) = .int r → Wa X w1 pc lv [.int r])  {w : Wd} {s0 : Int32} (h : F_X6_cast_49 w s0 = some (r, w1)) : Wa X w 49 [] [.int s0] := by
  unfold F_X6_cast_49 at h
  exact ret_i hE h dX6_cast_49
set_option maxRecDepth 100000 in
set_option maxHeartbeats 4000000 in
theorem m_X6_cast {w w1 : Wd} {p1 : Int32} {r : Int32} (h : F_X6_cast w p1 = some (r, w1)) : Gi yX6_cast cX6_cast 4 (some .int) 4 100 (fun E => [.ref (E.2.1 36), .int p1]) w w1 r := by
  refine Gi.of (hy := by decide +kernel) (hlen := fun _ => Nat.le_of_ble_eq_true rfl) (fun X hX hE => ?_)
  · unfold F_X6_cast at h
    refine (show Wa X w 0 [(0, .ref (Ad X 36)), (1, .int p1)] [] from ?_)
    refine wa_iload_n hX 1 rfl rfl dX6_cast_0 ?_
    refine wa_i2l hX dX6_cast_1 ?_
    refine wa_ldc2 hX kc_X6_166 dX6_cast_2 ?_
    refine wa_ldc2 hX kc_X6_60 dX6_cast_5 ?_
    obtain ⟨x1, h2, h⟩ := obind h
    refine wa_callSi hX (m_X6_in h2) cx_X6_in ml_X6_62 (As := [.long p1.toInt64, .long (-1), .long 7]) (rest := []) rfl rfl rfl ⟨Nat.le_of_ble_eq_true rfl, Nat.le_of_ble_eq_true rfl⟩ (Nat.le_of_ble_eq_true rfl) dX6_cast_8 ?_
    refine wa_if_ne hX 16 (by decide) dX6_cast_11 (fun c => ?_) (fun c => ?_)
    · replace h := itn c h
      refine wa_aload_n hX 0 rfl rfl dX6_cast_16 ?_
      obtain ⟨x2, h2, h⟩ := obind h
      refine wa_callVi hX (m_X6_refusal h2) cx_X6_refusal ml_X6_130 (As := []) (rest := []) 36 (ce_model _ _) rfl rfl rfl rfl ⟨Nat.le_of_ble_eq_true rfl, Nat.le_of_ble_eq_true rfl⟩ (Nat.le_of_ble_eq_true rfl) dX6_cast_17 ?_
      refine wa_istore_n hX (lv2 := [(2, .int x2.1), (0, .ref (Ad X 36)), (1, .int p1)]) rfl (by decide) rfl dX6_cast_20 ?_
      refine wa_iload_n hX 0 rfl rfl dX6_cast_21 ?_
      refine wa_bipush hX (-6) kb_m6 dX6_cast_22 ?_
      refine wa_icmp_eq hX 29 (by decide) dX6_cast_24 (fun c => ?_) (fun c => ?_)
      · replace h := itp c h
        refine wa_aload_n hX 1 rfl rfl dX6_cast_29 ?_
        obtain ⟨x3, h2, h⟩ := obind h
        refine wa_callVi hX (m_X6_castAll h2) cx_X6_castAll ml_X6_168 (As := []) (rest := []) 36 (ce_model _ _) rfl rfl rfl rfl ⟨Nat.le_of_ble_eq_true rfl, Nat.le_of_ble_eq_true rfl⟩ (Nat.le_of_ble_eq_true rfl) dX6_cast_30 ?_
        refine wa_istore_n hX (lv2 := [(3, .int x3.1), (2, .int x2.1), (0, .ref (Ad X 36)), (1, .int p1)]) rfl (by decide) rfl dX6_cast_33 ?_
        refine wa_iload_n hX 3 rfl rfl dX6_cast_34 ?_
        refine wa_iconst hX (-1) ki_m1 dX6_cast_35 ?_
        refine wa_icmp_ne hX 43 (by decide) dX6_cast_36 (fun c => ?_) (fun c => ?_)
        · replace h := itn c h
          refine wa_aload_n hX 2 rfl rfl dX6_cast_43 ?_
          refine wg_model_bestPlayer hX fl_X6_37 dX6_cast_44 ?_
          refine wa_iload_n hX 3 rfl rfl dX6_cast_47 ?_
          obtain ⟨hg, h⟩ := gu_some h
          refine wl_model_bestPlayer hX hg dX6_cast_48 ?_
          refine wa_sub (lv2 := []) [] rfl ?_
          exact t_X6_cast_49 hX hE  h
        · replace h := itp c h
          refine wa_iload_n hX 0 rfl rfl dX6_cast_39 ?_
          refine wa_goto hX 49 (by decide) dX6_cast_40 ?_
          refine wa_sub (lv2 := []) [] rfl ?_
          exact t_X6_cast_49 hX hE  h
      · replace h := itn c h
        refine wa_iload_n hX 0 rfl rfl dX6_cast_27 ?_
        exact ret_i hE h dX6_cast_28
    · replace h := itp c h
      refine wa_iconst hX (-1) ki_m1 dX6_cast_14 ?_
      exact ret_i hE h dX6_cast_15
set_option maxRecDepth 100000 in
set_option maxHeartbeats 4000000 in
theorem t_X6_isTaken_70 {X : Fx} (hX : Cx X cX6_isTaken RX6 7 1 28) {r : Int32} {w1 : Wd} (hE : ∀ pc lv, decode cX6_isTaken pc = .ok (.ireturn, 1) → narrow .boolean (.int r) = .int r → Wa X w1 pc lv [.int r]) {k3 : Wd × Int32 × Int32 × Int32 × Int32 → Option (Int32 × Wd)} (hk3 : ∀ a, k3 a = some (r, w1) → Wa X a.1 3 [(0, .ref (Ad X 36)), (1, .int a.2.1), (2, .int a.2.2.1), (3, .int a.2.2.2.1), (4, .int a.2.2.2.2)] []) {k30 : Wd × Int32 × Int32 × Int32 × Int32 × Int32 × Int32 → Option (Int32 × Wd)} (hk30 : ∀ a, k30 a = some (r, w1) → Wa X a.1 30 [(0, .ref (Ad X 36)), (1, .int a.2.1), (2, .int a.2.2.1), (3, .int a.2.2.2.1), (4, .int a.2.2.2.2.1), (5, .int a.2.2.2.2.2.1), (6, .int a.2.2.2.2.2.2)] []) {w : Wd} {v1 : Int32} {v2 : Int32} {v3 : Int32} {v4 : Int32} {v6 : Int32} {s0 : Int32} (h : F_X6_isTaken_70 k3 k30 w v1 v2 v3 v4 v6 s0 = some (r, w1)) : Wa X w 70 [(0, .ref (Ad X 36)), (1, .int v1), (2, .int v2), (3, .int v3), (4, .int v4), (6, .int v6)] [.int s0] := by
  unfold F_X6_isTaken_70 at h
  refine wa_istore hX (lv2 := [(5, .int s0), (0, .ref (Ad X 36)), (1, .int v1), (2, .int v2), (3, .int v3), (4, .int v4), (6, .int v6)]) (by decide) rfl dX6_isTaken_70 ?_
  refine wa_iinc hX (v := (v6 + 1)) (lv2 := [(6, .int (v6 + 1)), (5, .int s0), (0, .ref (Ad X 36)), (1, .int v1), (2, .int v2), (3, .int v3), (4, .int v4)]) 6 rfl rfl (by decide) rfl dX6_isTaken_72 ?_
  refine wa_goto hX 30 (by decide) dX6_isTaken_75 ?_
  refine wa_sub (lv2 := [(0, .ref (Ad X 36)), (1, .int v1), (2, .int v2), (3, .int v3), (4, .int v4), (5, .int s0), (6, .int (v6 + 1))]) [2, 3, 4, 5, 6, 1, 0] rfl ?_
  exact hk30 _ h
set_option maxRecDepth 100000 in
set_option maxHeartbeats 4000000 in
theorem t_X6_isTaken_69 {X : Fx} (hX : Cx X cX6_isTaken RX6 7 1 28) {r : Int32} {w1 : Wd} (hE : ∀ pc lv, decode cX6_isTaken pc = .ok (.ireturn, 1) → narrow .boolean (.int r) = .int r → Wa X w1 pc lv [.int r]) {k3 : Wd × Int32 × Int32 × Int32 × Int32 → Option (Int32 × Wd)} (hk3 : ∀ a, k3 a = some (r, w1) → Wa X a.1 3 [(0, .ref (Ad X 36)), (1, .int a.2.1), (2, .int a.2.2.1), (3, .int a.2.2.2.1), (4, .int a.2.2.2.2)] []) {k30 : Wd × Int32 × Int32 × Int32 × Int32 × Int32 × Int32 → Option (Int32 × Wd)} (hk30 : ∀ a, k30 a = some (r, w1) → Wa X a.1 30 [(0, .ref (Ad X 36)), (1, .int a.2.1), (2, .int a.2.2.1), (3, .int a.2.2.2.1), (4, .int a.2.2.2.2.1), (5, .int a.2.2.2.2.2.1), (6, .int a.2.2.2.2.2.2)] []) {w : Wd} {v1 : Int32} {v2 : Int32} {v3 : Int32} {v4 : Int32} {v6 : Int32} (h : F_X6_isTaken_69 k3 k30 w v1 v2 v3 v4 v6 = some (r, w1)) : Wa X w 69 [(0, .ref (Ad X 36)), (1, .int v1), (2, .int v2), (3, .int v3), (4, .int v4), (6, .int v6)] [] := by
  unfold F_X6_isTaken_69 at h
  refine wa_iconst hX 0 ki_0 dX6_isTaken_69 ?_
  exact t_X6_isTaken_70 hX hE hk3 hk30 h
set_option maxRecDepth 100000 in
set_option maxHeartbeats 4000000 in
theorem t_X6_isTaken_65 {X : Fx} (hX : Cx X cX6_isTaken RX6 7 1 28) {r : Int32} {w1 : Wd} (hE : ∀ pc lv, decode cX6_isTaken pc = .ok (.ireturn, 1) → narrow .boolean (.int r) = .int r → Wa X w1 pc lv [.int r]) {k3 : Wd × Int32 × Int32 × Int32 × Int32 → Option (Int32 × Wd)} (hk3 : ∀ a, k3 a = some (r, w1) → Wa X a.1 3 [(0, .ref (Ad X 36)), (1, .int a.2.1), (2, .int a.2.2.1), (3, .int a.2.2.2.1), (4, .int a.2.2.2.2)] []) {k30 : Wd × Int32 × Int32 × Int32 × Int32 × Int32 × Int32 → Option (Int32 × Wd)} (hk30 : ∀ a, k30 a = some (r, w1) → Wa X a.1 30 [(0, .ref (Ad X 36)), (1, .int a.2.1), (2, .int a.2.2.1), (3, .int a.2.2.2.1), (4, .int a.2.2.2.2.1), (5, .int a.2.2.2.2.2.1), (6, .int a.2.2.2.2.2.2)] []) {w : Wd} {v1 : Int32} {v2 : Int32} {v3 : Int32} {v4 : Int32} {v6 : Int32} (h : F_X6_isTaken_65 k3 k30 w v1 v2 v3 v4 v6 = some (r, w1)) : Wa X w 65 [(0, .ref (Ad X 36)), (1, .int v1), (2, .int v2), (3, .int v3), (4, .int v4), (6, .int v6)] [] := by
  unfold F_X6_isTaken_65 at h
  refine wa_iconst hX 1 ki_1 dX6_isTaken_65 ?_
  refine wa_goto hX 70 (by decide) dX6_isTaken_66 ?_
  exact t_X6_isTaken_70 hX hE hk3 hk30 h
set_option maxRecDepth 100000 in
set_option maxHeartbeats 4000000 in
theorem t_X6_isTaken_30 {X : Fx} (hX : Cx X cX6_isTaken RX6 7 1 28) {r : Int32} {w1 : Wd} (hE : ∀ pc lv, decode cX6_isTaken pc = .ok (.ireturn, 1) → narrow .boolean (.int r) = .int r → Wa X w1 pc lv [.int r]) {k3 : Wd × Int32 × Int32 × Int32 × Int32 → Option (Int32 × Wd)} (hk3 : ∀ a, k3 a = some (r, w1) → Wa X a.1 3 [(0, .ref (Ad X 36)), (1, .int a.2.1), (2, .int a.2.2.1), (3, .int a.2.2.2.1), (4, .int a.2.2.2.2)] []) : ∀ (n : Nat) (a : Wd × Int32 × Int32 × Int32 × Int32 × Int32 × Int32), L_X6_isTaken_30 k3 n a = some (r, w1) → Wa X a.1 30 [(0, .ref (Ad X 36)), (1, .int a.2.1), (2, .int a.2.2.1), (3, .int a.2.2.2.1), (4, .int a.2.2.2.2.1), (5, .int a.2.2.2.2.2.1), (6, .int a.2.2.2.2.2.2)] [] := by
  refine it_mach (P := fun (a : Wd × Int32 × Int32 × Int32 × Int32 × Int32 × Int32) => Wa X a.1 30 [(0, .ref (Ad X 36)), (1, .int a.2.1), (2, .int a.2.2.1), (3, .int a.2.2.2.1), (4, .int a.2.2.2.2.1), (5, .int a.2.2.2.2.2.1), (6, .int a.2.2.2.2.2.2)] []) ?_
  intro k30 hk30 a h
  obtain ⟨w, v1, v2, v3, v4, v5, v6⟩ := a
  have h : F_X6_isTaken_30 k3 k30 w v1 v2 v3 v4 v5 v6 = some (r, w1) := h
  show Wa X w 30 [(0, .ref (Ad X 36)), (1, .int v1), (2, .int v2), (3, .int v3), (4, .int v4), (5, .int v5), (6, .int v6)] []
  unfold F_X6_isTaken_30 at h
  refine wa_iload hX 6 rfl dX6_isTaken_30 ?_
  refine wa_bipush hX 8 kb_8 dX6_isTaken_32 ?_
  refine wa_icmp_ge hX 78 (by decide) dX6_isTaken_34 (fun c => ?_) (fun c => ?_)
  · replace h := itp c h
    refine wa_iload hX 5 rfl dX6_isTaken_78 ?_
    refine wa_if_eq hX 85 (by decide) dX6_isTaken_80 (fun c => ?_) (fun c => ?_)
    · replace h := itp c h
      refine wa_iinc hX (v := (v4 + 1)) (lv2 := [(4, .int (v4 + 1)), (0, .ref (Ad X 36)), (1, .int v1), (2, .int v2), (3, .int v3), (5, .int v5), (6, .int v6)]) 4 rfl rfl (by decide) rfl dX6_isTaken_85 ?_
      refine wa_goto hX 3 (by decide) dX6_isTaken_88 ?_
      refine wa_sub (lv2 := [(0, .ref (Ad X 36)), (1, .int v1), (2, .int v2), (3, .int v3), (4, .int (v4 + 1))]) [1, 2, 3, 4, 0] rfl ?_
      exact hk3 _ h
    · replace h := itn c h
      refine wa_iconst hX 1 ki_1 dX6_isTaken_83 ?_
      exact ret_z hE h (by decide) dX6_isTaken_84
  · replace h := itn c h
    refine wa_iload hX 5 rfl dX6_isTaken_37 ?_
    refine wa_if_eq hX 69 (by decide) dX6_isTaken_39 (fun c => ?_) (fun c => ?_)
    · replace h := itp c h
      refine wa_sub (lv2 := [(0, .ref (Ad X 36)), (1, .int v1), (2, .int v2), (3, .int v3), (4, .int v4), (6, .int v6)]) [0, 1, 2, 3, 4, 6] rfl ?_
      exact t_X6_isTaken_69 hX hE hk3 hk30 h
    · replace h := itn c h
      refine wa_aload_n hX 0 rfl rfl dX6_isTaken_42 ?_
      refine wg_model_bestPlayer hX fl_X6_37 dX6_isTaken_43 ?_
      refine wa_iload hX 6 rfl dX6_isTaken_46 ?_
      obtain ⟨hg, h⟩ := gu_some h
      refine wl_model_bestPlayer hX hg dX6_isTaken_48 ?_
      refine wa_iload hX 4 rfl dX6_isTaken_49 ?_
      refine wa_icmp_ne hX 65 (by decide) dX6_isTaken_51 (fun c => ?_) (fun c => ?_)
      · replace h := itn c h
        refine wa_sub (lv2 := [(0, .ref (Ad X 36)), (1, .int v1), (2, .int v2), (3, .int v3), (4, .int v4), (6, .int v6)]) [0, 1, 2, 3, 4, 6] rfl ?_
        exact t_X6_isTaken_65 hX hE hk3 hk30 h
      · replace h := itp c h
        refine wa_aload_n hX 0 rfl rfl dX6_isTaken_54 ?_
        refine wa_iload hX 6 rfl dX6_isTaken_55 ?_
        refine wa_iload_n hX 1 rfl rfl dX6_isTaken_57 ?_
        refine wa_iload_n hX 2 rfl rfl dX6_isTaken_58 ?_
        obtain ⟨x2, h2, h⟩ := obind h
        refine wa_callVi hX (m_X6_canBoth h2) cx_X6_canBoth ml_X6_153 (As := [.int v6, .int v1, .int v2]) (rest := []) 36 (ce_model _ _) rfl rfl rfl rfl ⟨Nat.le_of_ble_eq_true rfl, Nat.le_of_ble_eq_true rfl⟩ (Nat.le_of_ble_eq_true rfl) dX6_isTaken_59 ?_
        have hJ : Wa X x2.2 70 [(0, .ref (Ad X 36)), (1, .int v1), (2, .int v2), (3, .int v3), (4, .int v4), (6, .int v6)] [.int (if x2.1 = 0 then (0 : Int32) else 1)] := by
          refine wa_istore hX (lv2 := [(5, .int (if x2.1 = 0 then (0 : Int32) else 1)), (0, .ref (Ad X 36)), (1, .int v1), (2, .int v2), (3, .int v3), (4, .int v4), (6, .int v6)]) (by decide) rfl dX6_isTaken_70 ?_
          refine wa_iinc hX (v := (v6 + 1)) (lv2 := [(6, .int (v6 + 1)), (5, .int (if x2.1 = 0 then (0 : Int32) else 1)), (0, .ref (Ad X 36)), (1, .int v1), (2, .int v2), (3, .int v3), (4, .int v4)]) 6 rfl rfl (by decide) rfl dX6_isTaken_72 ?_
          refine wa_goto hX 30 (by decide) dX6_isTaken_75 ?_
          refine wa_sub (lv2 := [(0, .ref (Ad X 36)), (1, .int v1), (2, .int v2), (3, .int v3), (4, .int v4), (5, .int (if x2.1 = 0 then (0 : Int32) else 1)), (6, .int (v6 + 1))]) [2, 3, 4, 5, 6, 1, 0] rfl ?_
          exact hk30 _ h
        refine wa_if_eq hX 69 (by decide) dX6_isTaken_62 (fun c => ?_) (fun c => ?_)
        · refine wa_iconst hX 0 ki_0 dX6_isTaken_69 ?_
          refine wa_sub (lv2 := [(0, .ref (Ad X 36)), (1, .int v1), (2, .int v2), (3, .int v3), (4, .int v4), (6, .int v6)]) [0, 1, 2, 3, 4, 6] rfl ?_
          rw [show (if x2.1 = 0 then (0 : Int32) else 1) = 0 from if_pos c] at hJ
          exact hJ
        · refine wa_iconst hX 1 ki_1 dX6_isTaken_65 ?_
          refine wa_goto hX 70 (by decide) dX6_isTaken_66 ?_
          refine wa_sub (lv2 := [(0, .ref (Ad X 36)), (1, .int v1), (2, .int v2), (3, .int v3), (4, .int v4), (6, .int v6)]) [0, 1, 2, 3, 4, 6] rfl ?_
          rw [show (if x2.1 = 0 then (0 : Int32) else 1) = 1 from if_neg c] at hJ
          exact hJ
set_option maxRecDepth 100000 in
set_option maxHeartbeats 4000000 in
theorem t_X6_isTaken_3 {X : Fx} (hX : Cx X cX6_isTaken RX6 7 1 28) {r : Int32} {w1 : Wd} (hE : ∀ pc lv, decode cX6_isTaken pc = .ok (.ireturn, 1) → narrow .boolean (.int r) = .int r → Wa X w1 pc lv [.int r])  : ∀ (n : Nat) (a : Wd × Int32 × Int32 × Int32 × Int32), L_X6_isTaken_3  n a = some (r, w1) → Wa X a.1 3 [(0, .ref (Ad X 36)), (1, .int a.2.1), (2, .int a.2.2.1), (3, .int a.2.2.2.1), (4, .int a.2.2.2.2)] [] := by
  refine it_mach (P := fun (a : Wd × Int32 × Int32 × Int32 × Int32) => Wa X a.1 3 [(0, .ref (Ad X 36)), (1, .int a.2.1), (2, .int a.2.2.1), (3, .int a.2.2.2.1), (4, .int a.2.2.2.2)] []) ?_
  intro k3 hk3 a h
  obtain ⟨w, v1, v2, v3, v4⟩ := a
  have h : F_X6_isTaken_3 k3 w v1 v2 v3 v4 = some (r, w1) := h
  show Wa X w 3 [(0, .ref (Ad X 36)), (1, .int v1), (2, .int v2), (3, .int v3), (4, .int v4)] []
  unfold F_X6_isTaken_3 at h
  refine wa_iload hX 4 rfl dX6_isTaken_3 ?_
  refine wa_iload_n hX 3 rfl rfl dX6_isTaken_5 ?_
  refine wa_icmp_ge hX 91 (by decide) dX6_isTaken_6 (fun c => ?_) (fun c => ?_)
  · replace h := itp c h
    refine wa_iconst hX 0 ki_0 dX6_isTaken_91 ?_
    exact ret_z hE h (by decide) dX6_isTaken_92
  · replace h := itn c h
    refine wa_iload hX 4 rfl dX6_isTaken_9 ?_
    refine wa_aload_n hX 0 rfl rfl dX6_isTaken_11 ?_
    refine wg_model_bestPlayer hX fl_X6_37 dX6_isTaken_12 ?_
    refine wa_iload_n hX 1 rfl rfl dX6_isTaken_15 ?_
    obtain ⟨hg, h⟩ := gu_some h
    refine wl_model_bestPlayer hX hg dX6_isTaken_16 ?_
    have hJ : Wa X w 25 [(0, .ref (Ad X 36)), (1, .int v1), (2, .int v2), (3, .int v3), (4, .int v4)] [.int (if v4 = (w.2.1 46 v1.toNatClampNeg) then (0 : Int32) else 1)] := by
      refine wa_let h (fun y1 h => ?_)
      refine wa_istore hX (lv2 := [(5, .int y1), (0, .ref (Ad X 36)), (1, .int v1), (2, .int v2), (3, .int v3), (4, .int v4)]) (by decide) rfl dX6_isTaken_25 ?_
      refine wa_iconst hX 0 ki_0 dX6_isTaken_27 ?_
      refine wa_istore hX (lv2 := [(6, .int 0), (5, .int y1), (0, .ref (Ad X 36)), (1, .int v1), (2, .int v2), (3, .int v3), (4, .int v4)]) (by decide) rfl dX6_isTaken_28 ?_
      refine wa_sub (lv2 := [(0, .ref (Ad X 36)), (1, .int v1), (2, .int v2), (3, .int v3), (4, .int v4), (5, .int y1), (6, .int 0)]) [2, 3, 4, 5, 6, 1, 0] rfl ?_
      exact t_X6_isTaken_30 hX hE hk3 _ _ h
    refine wa_icmp_eq hX 24 (by decide) dX6_isTaken_17 (fun c => ?_) (fun c => ?_)
    · refine wa_iconst hX 0 ki_0 dX6_isTaken_24 ?_
      rw [show (if v4 = (w.2.1 46 v1.toNatClampNeg) then (0 : Int32) else 1) = 0 from if_pos c] at hJ
      exact hJ
    · refine wa_iconst hX 1 ki_1 dX6_isTaken_20 ?_
      refine wa_goto hX 25 (by decide) dX6_isTaken_21 ?_
      rw [show (if v4 = (w.2.1 46 v1.toNatClampNeg) then (0 : Int32) else 1) = 1 from if_neg c] at hJ
      exact hJ
set_option maxRecDepth 100000 in
set_option maxHeartbeats 4000000 in
theorem m_X6_isTaken {w w1 : Wd} {p1 : Int32} {p2 : Int32} {p3 : Int32} {r : Int32} (h : F_X6_isTaken w p1 p2 p3 = some (r, w1)) : Gi yX6_isTaken cX6_isTaken 7 (some .boolean) 1 28 (fun E => [.ref (E.2.1 36), .int p1, .int p2, .int p3]) w w1 r := by
  refine Gi.of (hy := by decide +kernel) (hlen := fun _ => Nat.le_of_ble_eq_true rfl) (fun X hX hE => ?_)
  · unfold F_X6_isTaken at h
    refine (show Wa X w 0 [(0, .ref (Ad X 36)), (1, .int p1), (2, .int p2), (3, .int p3)] [] from ?_)
    refine wa_iconst hX 0 ki_0 dX6_isTaken_0 ?_
    refine wa_istore hX (lv2 := [(4, .int 0), (0, .ref (Ad X 36)), (1, .int p1), (2, .int p2), (3, .int p3)]) (by decide) rfl dX6_isTaken_1 ?_
    refine wa_sub (lv2 := [(0, .ref (Ad X 36)), (1, .int p1), (2, .int p2), (3, .int p3), (4, .int 0)]) [1, 2, 3, 4, 0] rfl ?_
    exact t_X6_isTaken_3 hX hE  _ _ h
set_option maxRecDepth 100000 in
set_option maxHeartbeats 4000000 in
theorem t_X6_hasFrom_38 {X : Fx} (hX : Cx X cX6_hasFrom RX6 5 0 0) {r : Int32} {w1 : Wd} (hE : ∀ pc lv, decode cX6_hasFrom pc = .ok (.ireturn, 1) → narrow .boolean (.int r) = .int r → Wa X w1 pc lv [.int r]) {k5 : Wd × Int32 × Int32 × Int32 → Option (Int32 × Wd)} (hk5 : ∀ a, k5 a = some (r, w1) → Wa X a.1 5 [(0, .ref (Ad X 36)), (1, .int a.2.1), (3, .int a.2.2.1), (4, .int a.2.2.2)] []) {w : Wd} {v1 : Int32} {v4 : Int32} {s0 : Int32} (h : F_X6_hasFrom_38 k5 w v1 v4 s0 = some (r, w1)) : Wa X w 38 [(0, .ref (Ad X 36)), (1, .int v1), (4, .int v4)] [.int s0] := by
  unfold F_X6_hasFrom_38 at h
  refine wa_istore_n hX (lv2 := [(3, .int s0), (0, .ref (Ad X 36)), (1, .int v1), (4, .int v4)]) rfl (by decide) rfl dX6_hasFrom_38 ?_
  refine wa_iinc hX (v := (v4 + 1)) (lv2 := [(4, .int (v4 + 1)), (3, .int s0), (0, .ref (Ad X 36)), (1, .int v1)]) 3 rfl rfl (by decide) rfl dX6_hasFrom_39 ?_
  refine wa_goto hX 5 (by decide) dX6_hasFrom_42 ?_
  refine wa_sub (lv2 := [(0, .ref (Ad X 36)), (1, .int v1), (3, .int s0), (4, .int (v4 + 1))]) [2, 3, 1, 0] rfl ?_
  exact hk5 _ h
set_option maxRecDepth 100000 in
set_option maxHeartbeats 4000000 in
theorem t_X6_hasFrom_33 {X : Fx} (hX : Cx X cX6_hasFrom RX6 5 0 0) {r : Int32} {w1 : Wd} (hE : ∀ pc lv, decode cX6_hasFrom pc = .ok (.ireturn, 1) → narrow .boolean (.int r) = .int r → Wa X w1 pc lv [.int r]) {k5 : Wd × Int32 × Int32 × Int32 → Option (Int32 × Wd)} (hk5 : ∀ a, k5 a = some (r, w1) → Wa X a.1 5 [(0, .ref (Ad X 36)), (1, .int a.2.1), (3, .int a.2.2.1), (4, .int a.2.2.2)] []) {w : Wd} {v1 : Int32} {v4 : Int32} (h : F_X6_hasFrom_33 k5 w v1 v4 = some (r, w1)) : Wa X w 33 [(0, .ref (Ad X 36)), (1, .int v1), (4, .int v4)] [] := by
  unfold F_X6_hasFrom_33 at h
  refine wa_iconst hX 1 ki_1 dX6_hasFrom_33 ?_
  refine wa_goto hX 38 (by decide) dX6_hasFrom_34 ?_
  exact t_X6_hasFrom_38 hX hE hk5 h
set_option maxRecDepth 100000 in
set_option maxHeartbeats 4000000 in
theorem t_X6_hasFrom_5 {X : Fx} (hX : Cx X cX6_hasFrom RX6 5 0 0) {r : Int32} {w1 : Wd} (hE : ∀ pc lv, decode cX6_hasFrom pc = .ok (.ireturn, 1) → narrow .boolean (.int r) = .int r → Wa X w1 pc lv [.int r])  : ∀ (n : Nat) (a : Wd × Int32 × Int32 × Int32), L_X6_hasFrom_5  n a = some (r, w1) → Wa X a.1 5 [(0, .ref (Ad X 36)), (1, .int a.2.1), (3, .int a.2.2.1), (4, .int a.2.2.2)] [] := by
  refine it_mach (P := fun (a : Wd × Int32 × Int32 × Int32) => Wa X a.1 5 [(0, .ref (Ad X 36)), (1, .int a.2.1), (3, .int a.2.2.1), (4, .int a.2.2.2)] []) ?_
  intro k5 hk5 a h
  obtain ⟨w, v1, v3, v4⟩ := a
  have h : F_X6_hasFrom_5 k5 w v1 v3 v4 = some (r, w1) := h
  show Wa X w 5 [(0, .ref (Ad X 36)), (1, .int v1), (3, .int v3), (4, .int v4)] []
  unfold F_X6_hasFrom_5 at h
  refine wa_iload hX 3 rfl dX6_hasFrom_5 ?_
  refine wa_aload_n hX 0 rfl rfl dX6_hasFrom_7 ?_
  refine wg_model_lines hX fl_X6_93 dX6_hasFrom_8 ?_
  refine wa_icmp_ge hX 45 (by decide) dX6_hasFrom_11 (fun c => ?_) (fun c => ?_)
  · replace h := itp c h
    refine wa_iload_n hX 2 rfl rfl dX6_hasFrom_45 ?_
    obtain ⟨hg, h⟩ := gu_some h
    exact ret_z hE h (isB_or hg) dX6_hasFrom_46
  · replace h := itn c h
    refine wa_iload_n hX 2 rfl rfl dX6_hasFrom_14 ?_
    refine wa_if_ne hX 33 (by decide) dX6_hasFrom_15 (fun c => ?_) (fun c => ?_)
    · replace h := itn c h
      refine wa_sub (lv2 := [(0, .ref (Ad X 36)), (1, .int v1), (4, .int v4)]) [0, 1, 3] rfl ?_
      exact t_X6_hasFrom_33 hX hE hk5 h
    · replace h := itp c h
      refine wa_aload_n hX 0 rfl rfl dX6_hasFrom_18 ?_
      refine wg_model_on hX fl_X6_28 dX6_hasFrom_19 ?_
      refine wa_iload hX 3 rfl dX6_hasFrom_22 ?_
      obtain ⟨hg, h⟩ := gu_some h
      refine wl_model_on hX hg dX6_hasFrom_24 ?_
      refine wa_iload_n hX 1 rfl rfl dX6_hasFrom_25 ?_
      refine wa_ishr hX dX6_hasFrom_26 ?_
      refine wa_iconst hX 1 ki_1 dX6_hasFrom_27 ?_
      refine wa_iand hX dX6_hasFrom_28 ?_
      refine wa_iconst hX 1 ki_1 dX6_hasFrom_29 ?_
      have hJ : Wa X w 38 [(0, .ref (Ad X 36)), (1, .int v1), (4, .int v4)] [.int (if ((w.2.1 43 v4.toNatClampNeg >>> (v1 &&& 31)) &&& 1) = 1 then (1 : Int32) else 0)] := by
        refine wa_let h (fun y1 h => ?_)
        refine wa_istore_n hX (lv2 := [(3, .int y1), (0, .ref (Ad X 36)), (1, .int v1), (4, .int v4)]) rfl (by decide) rfl dX6_hasFrom_38 ?_
        refine wa_iinc hX (v := (v4 + 1)) (lv2 := [(4, .int (v4 + 1)), (3, .int y1), (0, .ref (Ad X 36)), (1, .int v1)]) 3 rfl rfl (by decide) rfl dX6_hasFrom_39 ?_
        refine wa_goto hX 5 (by decide) dX6_hasFrom_42 ?_
        refine wa_sub (lv2 := [(0, .ref (Ad X 36)), (1, .int v1), (3, .int y1), (4, .int (v4 + 1))]) [2, 3, 1, 0] rfl ?_
        exact hk5 _ h
      refine wa_icmp_ne hX 37 (by decide) dX6_hasFrom_30 (fun c => ?_) (fun c => ?_)
      · refine wa_iconst hX 0 ki_0 dX6_hasFrom_37 ?_
        refine wa_sub (lv2 := [(0, .ref (Ad X 36)), (1, .int v1), (4, .int v4)]) [0, 1, 3] rfl ?_
        rw [show (if ((w.2.1 43 v4.toNatClampNeg >>> (v1 &&& 31)) &&& 1) = 1 then (1 : Int32) else 0) = 0 from if_neg c] at hJ
        exact hJ
      · refine wa_iconst hX 1 ki_1 dX6_hasFrom_33 ?_
        refine wa_goto hX 38 (by decide) dX6_hasFrom_34 ?_
        refine wa_sub (lv2 := [(0, .ref (Ad X 36)), (1, .int v1), (4, .int v4)]) [0, 1, 3] rfl ?_
        rw [show (if ((w.2.1 43 v4.toNatClampNeg >>> (v1 &&& 31)) &&& 1) = 1 then (1 : Int32) else 0) = 1 from if_pos c] at hJ
        exact hJ
set_option maxRecDepth 100000 in
set_option maxHeartbeats 4000000 in
theorem m_X6_hasFrom {w w1 : Wd} {p1 : Int32} {p2 : Int32} {r : Int32} (h : F_X6_hasFrom w p1 p2 = some (r, w1)) : Gi yX6_hasFrom cX6_hasFrom 5 (some .boolean) 0 0 (fun E => [.ref (E.2.1 36), .int p1, .int p2]) w w1 r := by
  refine Gi.of (hy := by decide +kernel) (hlen := fun _ => Nat.le_of_ble_eq_true rfl) (fun X hX hE => ?_)
  · unfold F_X6_hasFrom at h
    refine (show Wa X w 0 [(0, .ref (Ad X 36)), (1, .int p1), (2, .int p2)] [] from ?_)
    refine wa_iconst hX 0 ki_0 dX6_hasFrom_0 ?_
    refine wa_istore_n hX (lv2 := [(3, .int 0), (0, .ref (Ad X 36)), (1, .int p1), (2, .int p2)]) rfl (by decide) rfl dX6_hasFrom_1 ?_
    refine wa_iload_n hX 3 rfl rfl dX6_hasFrom_2 ?_
    refine wa_istore hX (lv2 := [(4, .int p2), (3, .int 0), (0, .ref (Ad X 36)), (1, .int p1), (2, .int p2)]) (by decide) rfl dX6_hasFrom_3 ?_
    refine wa_sub (lv2 := [(0, .ref (Ad X 36)), (1, .int p1), (3, .int 0), (4, .int p2)]) [2, 3, 1, 0] rfl ?_
    exact t_X6_hasFrom_5 hX hE  _ _ h
set_option maxRecDepth 100000 in
set_option maxHeartbeats 4000000 in
theorem t_X6_ill_126 {X : Fx} (hX : Cx X cX6_ill RX6 9 4 100) {r : Int32} {w1 : Wd} (hE : ∀ pc lv, decode cX6_ill pc = .ok (.ireturn, 1) → narrow .int (.int r) = .int r → Wa X w1 pc lv [.int r]) {k61 : Wd × Int32 × Int32 × Int32 × Int32 × Int32 → Option (Int32 × Wd)} (hk61 : ∀ a, k61 a = some (r, w1) → Wa X a.1 61 [(0, .ref (Ad X 36)), (2, .int a.2.1), (4, .int a.2.2.1), (5, .int a.2.2.2.1), (6, .int a.2.2.2.2.1), (7, .int a.2.2.2.2.2)] []) {w : Wd} {v2 : Int32} {v4 : Int32} {v5 : Int32} {v7 : Int32} {s0 : Int32} {s1 : Int32} (h : F_X6_ill_126 k61 w v2 v4 v5 v7 s0 s1 = some (r, w1)) : Wa X w 126 [(0, .ref (Ad X 36)), (2, .int v2), (4, .int v4), (5, .int v5), (7, .int v7)] [.int s0, .int s1] := by
  unfold F_X6_ill_126 at h
  refine wa_iadd hX dX6_ill_126 ?_
  refine wa_istore hX (lv2 := [(6, .int (s1 + s0)), (0, .ref (Ad X 36)), (2, .int v2), (4, .int v4), (5, .int v5), (7, .int v7)]) (by decide) rfl dX6_ill_127 ?_
  refine wa_iinc hX (v := (v7 + 1)) (lv2 := [(7, .int (v7 + 1)), (6, .int (s1 + s0)), (0, .ref (Ad X 36)), (2, .int v2), (4, .int v4), (5, .int v5)]) 5 rfl rfl (by decide) rfl dX6_ill_129 ?_
  refine wa_goto hX 61 (by decide) dX6_ill_132 ?_
  refine wa_sub (lv2 := [(0, .ref (Ad X 36)), (2, .int v2), (4, .int v4), (5, .int v5), (6, .int (s1 + s0)), (7, .int (v7 + 1))]) [2, 3, 4, 5, 1, 0] rfl ?_
  exact hk61 _ h
set_option maxRecDepth 100000 in
set_option maxHeartbeats 4000000 in
theorem t_X6_ill_125 {X : Fx} (hX : Cx X cX6_ill RX6 9 4 100) {r : Int32} {w1 : Wd} (hE : ∀ pc lv, decode cX6_ill pc = .ok (.ireturn, 1) → narrow .int (.int r) = .int r → Wa X w1 pc lv [.int r]) {k61 : Wd × Int32 × Int32 × Int32 × Int32 × Int32 → Option (Int32 × Wd)} (hk61 : ∀ a, k61 a = some (r, w1) → Wa X a.1 61 [(0, .ref (Ad X 36)), (2, .int a.2.1), (4, .int a.2.2.1), (5, .int a.2.2.2.1), (6, .int a.2.2.2.2.1), (7, .int a.2.2.2.2.2)] []) {w : Wd} {v2 : Int32} {v4 : Int32} {v5 : Int32} {v7 : Int32} {s0 : Int32} (h : F_X6_ill_125 k61 w v2 v4 v5 v7 s0 = some (r, w1)) : Wa X w 125 [(0, .ref (Ad X 36)), (2, .int v2), (4, .int v4), (5, .int v5), (7, .int v7)] [.int s0] := by
  unfold F_X6_ill_125 at h
  refine wa_iconst hX 0 ki_0 dX6_ill_125 ?_
  exact t_X6_ill_126 hX hE hk61 h
set_option maxRecDepth 100000 in
set_option maxHeartbeats 4000000 in
theorem t_X6_ill_100 {X : Fx} (hX : Cx X cX6_ill RX6 9 4 100) {r : Int32} {w1 : Wd} (hE : ∀ pc lv, decode cX6_ill pc = .ok (.ireturn, 1) → narrow .int (.int r) = .int r → Wa X w1 pc lv [.int r]) {k61 : Wd × Int32 × Int32 × Int32 × Int32 × Int32 → Option (Int32 × Wd)} (hk61 : ∀ a, k61 a = some (r, w1) → Wa X a.1 61 [(0, .ref (Ad X 36)), (2, .int a.2.1), (4, .int a.2.2.1), (5, .int a.2.2.2.1), (6, .int a.2.2.2.2.1), (7, .int a.2.2.2.2.2)] []) {w : Wd} {v2 : Int32} {v4 : Int32} {v5 : Int32} {v6 : Int32} {v7 : Int32} {s0 : Int32} (h : F_X6_ill_100 k61 w v2 v4 v5 v6 v7 s0 = some (r, w1)) : Wa X w 100 [(0, .ref (Ad X 36)), (2, .int v2), (4, .int v4), (5, .int v5), (6, .int v6), (7, .int v7)] [.int s0] := by
  unfold F_X6_ill_100 at h
  refine wa_istore hX (lv2 := [(8, .int s0), (0, .ref (Ad X 36)), (2, .int v2), (4, .int v4), (5, .int v5), (6, .int v6), (7, .int v7)]) (by decide) rfl dX6_ill_100 ?_
  refine wa_iload hX 5 rfl dX6_ill_102 ?_
  refine wa_iload hX 0 rfl dX6_ill_104 ?_
  refine wa_if_eq hX 125 (by decide) dX6_ill_106 (fun c => ?_) (fun c => ?_)
  · replace h := itp c h
    refine wa_sub (lv2 := [(0, .ref (Ad X 36)), (2, .int v2), (4, .int v4), (5, .int v5), (7, .int v7)]) [1, 2, 3, 4, 6] rfl ?_
    exact t_X6_ill_125 hX hE hk61 h
  · replace h := itn c h
    refine wa_aload_n hX 1 rfl rfl dX6_ill_109 ?_
    refine wa_iload hX 6 rfl dX6_ill_110 ?_
    refine wa_iload_n hX 2 rfl rfl dX6_ill_112 ?_
    refine wa_iload hX 3 rfl dX6_ill_113 ?_
    obtain ⟨x5, h2, h⟩ := obind h
    refine wa_callVi hX (m_X6_isTaken h2) cx_X6_isTaken ml_X6_174 (As := [.int v7, .int v2, .int v4]) (rest := [.int v6]) 36 (ce_model _ _) rfl rfl rfl rfl ⟨Nat.le_of_ble_eq_true rfl, Nat.le_of_ble_eq_true rfl⟩ (Nat.le_of_ble_eq_true rfl) dX6_ill_115 ?_
    have hJ : Wa X x5.2 126 [(0, .ref (Ad X 36)), (2, .int v2), (4, .int v4), (5, .int v5), (7, .int v7)] [.int (if x5.1 = 0 then (1 : Int32) else 0), .int v6] := by
      refine wa_iadd hX dX6_ill_126 ?_
      refine wa_let h (fun y6 h => ?_)
      refine wa_istore hX (lv2 := [(6, .int y6), (0, .ref (Ad X 36)), (2, .int v2), (4, .int v4), (5, .int v5), (7, .int v7)]) (by decide) rfl dX6_ill_127 ?_
      refine wa_iinc hX (v := (v7 + 1)) (lv2 := [(7, .int (v7 + 1)), (6, .int y6), (0, .ref (Ad X 36)), (2, .int v2), (4, .int v4), (5, .int v5)]) 5 rfl rfl (by decide) rfl dX6_ill_129 ?_
      refine wa_goto hX 61 (by decide) dX6_ill_132 ?_
      refine wa_sub (lv2 := [(0, .ref (Ad X 36)), (2, .int v2), (4, .int v4), (5, .int v5), (6, .int y6), (7, .int (v7 + 1))]) [2, 3, 4, 5, 1, 0] rfl ?_
      exact hk61 _ h
    refine wa_if_ne hX 125 (by decide) dX6_ill_118 (fun c => ?_) (fun c => ?_)
    · refine wa_iconst hX 0 ki_0 dX6_ill_125 ?_
      refine wa_sub (lv2 := [(0, .ref (Ad X 36)), (2, .int v2), (4, .int v4), (5, .int v5), (7, .int v7)]) [1, 2, 3, 4, 6] rfl ?_
      rw [show (if x5.1 = 0 then (1 : Int32) else 0) = 0 from if_neg c] at hJ
      exact hJ
    · refine wa_iconst hX 1 ki_1 dX6_ill_121 ?_
      refine wa_goto hX 126 (by decide) dX6_ill_122 ?_
      refine wa_sub (lv2 := [(0, .ref (Ad X 36)), (2, .int v2), (4, .int v4), (5, .int v5), (7, .int v7)]) [1, 2, 3, 4, 6] rfl ?_
      rw [show (if x5.1 = 0 then (1 : Int32) else 0) = 1 from if_pos c] at hJ
      exact hJ
set_option maxRecDepth 100000 in
set_option maxHeartbeats 4000000 in
theorem t_X6_ill_99 {X : Fx} (hX : Cx X cX6_ill RX6 9 4 100) {r : Int32} {w1 : Wd} (hE : ∀ pc lv, decode cX6_ill pc = .ok (.ireturn, 1) → narrow .int (.int r) = .int r → Wa X w1 pc lv [.int r]) {k61 : Wd × Int32 × Int32 × Int32 × Int32 × Int32 → Option (Int32 × Wd)} (hk61 : ∀ a, k61 a = some (r, w1) → Wa X a.1 61 [(0, .ref (Ad X 36)), (2, .int a.2.1), (4, .int a.2.2.1), (5, .int a.2.2.2.1), (6, .int a.2.2.2.2.1), (7, .int a.2.2.2.2.2)] []) {w : Wd} {v2 : Int32} {v4 : Int32} {v5 : Int32} {v6 : Int32} {v7 : Int32} (h : F_X6_ill_99 k61 w v2 v4 v5 v6 v7 = some (r, w1)) : Wa X w 99 [(0, .ref (Ad X 36)), (2, .int v2), (4, .int v4), (5, .int v5), (6, .int v6), (7, .int v7)] [] := by
  unfold F_X6_ill_99 at h
  refine wa_iconst hX 0 ki_0 dX6_ill_99 ?_
  exact t_X6_ill_100 hX hE hk61 h
set_option maxRecDepth 100000 in
set_option maxHeartbeats 4000000 in
theorem t_X6_ill_61 {X : Fx} (hX : Cx X cX6_ill RX6 9 4 100) {r : Int32} {w1 : Wd} (hE : ∀ pc lv, decode cX6_ill pc = .ok (.ireturn, 1) → narrow .int (.int r) = .int r → Wa X w1 pc lv [.int r])  : ∀ (n : Nat) (a : Wd × Int32 × Int32 × Int32 × Int32 × Int32), L_X6_ill_61  n a = some (r, w1) → Wa X a.1 61 [(0, .ref (Ad X 36)), (2, .int a.2.1), (4, .int a.2.2.1), (5, .int a.2.2.2.1), (6, .int a.2.2.2.2.1), (7, .int a.2.2.2.2.2)] [] := by
  refine it_mach (P := fun (a : Wd × Int32 × Int32 × Int32 × Int32 × Int32) => Wa X a.1 61 [(0, .ref (Ad X 36)), (2, .int a.2.1), (4, .int a.2.2.1), (5, .int a.2.2.2.1), (6, .int a.2.2.2.2.1), (7, .int a.2.2.2.2.2)] []) ?_
  intro k61 hk61 a h
  obtain ⟨w, v2, v4, v5, v6, v7⟩ := a
  have h : F_X6_ill_61 k61 w v2 v4 v5 v6 v7 = some (r, w1) := h
  show Wa X w 61 [(0, .ref (Ad X 36)), (2, .int v2), (4, .int v4), (5, .int v5), (6, .int v6), (7, .int v7)] []
  unfold F_X6_ill_61 at h
  refine wa_iload hX 5 rfl dX6_ill_61 ?_
  refine wa_bipush hX 8 kb_8 dX6_ill_63 ?_
  refine wa_icmp_ge hX 135 (by decide) dX6_ill_65 (fun c => ?_) (fun c => ?_)
  · replace h := itp c h
    refine wa_iload hX 4 rfl dX6_ill_135 ?_
    exact ret_i hE h dX6_ill_137
  · replace h := itn c h
    refine wa_iload hX 3 rfl dX6_ill_68 ?_
    refine wa_if_lt hX 99 (by decide) dX6_ill_70 (fun c => ?_) (fun c => ?_)
    · replace h := itp c h
      exact t_X6_ill_99 hX hE hk61 h
    · replace h := itn c h
      refine wa_aload_n hX 0 rfl rfl dX6_ill_73 ?_
      refine wg_model_bestPlayer hX fl_X6_37 dX6_ill_74 ?_
      refine wa_iload hX 5 rfl dX6_ill_77 ?_
      obtain ⟨hg, h⟩ := gu_some h
      refine wl_model_bestPlayer hX hg dX6_ill_79 ?_
      refine wa_iload hX 3 rfl dX6_ill_80 ?_
      refine wa_icmp_ne hX 99 (by decide) dX6_ill_82 (fun c => ?_) (fun c => ?_)
      · replace h := itn c h
        exact t_X6_ill_99 hX hE hk61 h
      · replace h := itp c h
        refine wa_aload_n hX 0 rfl rfl dX6_ill_85 ?_
        refine wa_iload hX 5 rfl dX6_ill_86 ?_
        refine wa_iload_n hX 1 rfl rfl dX6_ill_88 ?_
        obtain ⟨x7, h2, h⟩ := obind h
        refine wa_callVi hX (m_X6_hasFrom h2) cx_X6_hasFrom ml_X6_171 (As := [.int v7, .int v2]) (rest := []) 36 (ce_model _ _) rfl rfl rfl rfl ⟨Nat.le_of_ble_eq_true rfl, Nat.le_of_ble_eq_true rfl⟩ (Nat.le_of_ble_eq_true rfl) dX6_ill_89 ?_
        have hJ : Wa X x7.2 100 [(0, .ref (Ad X 36)), (2, .int v2), (4, .int v4), (5, .int v5), (6, .int v6), (7, .int v7)] [.int (if x7.1 = 0 then (0 : Int32) else 1)] := by
          refine wa_istore hX (lv2 := [(8, .int (if x7.1 = 0 then (0 : Int32) else 1)), (0, .ref (Ad X 36)), (2, .int v2), (4, .int v4), (5, .int v5), (6, .int v6), (7, .int v7)]) (by decide) rfl dX6_ill_100 ?_
          refine wa_iload hX 5 rfl dX6_ill_102 ?_
          refine wa_iload hX 0 rfl dX6_ill_104 ?_
          refine wa_if_eq hX 125 (by decide) dX6_ill_106 (fun c => ?_) (fun c => ?_)
          · replace h := itp c h
            refine wa_sub (lv2 := [(0, .ref (Ad X 36)), (2, .int v2), (4, .int v4), (5, .int v5), (7, .int v7)]) [1, 2, 3, 4, 6] rfl ?_
            exact t_X6_ill_125 hX hE hk61 h
          · replace h := itn c h
            refine wa_aload_n hX 1 rfl rfl dX6_ill_109 ?_
            refine wa_iload hX 6 rfl dX6_ill_110 ?_
            refine wa_iload_n hX 2 rfl rfl dX6_ill_112 ?_
            refine wa_iload hX 3 rfl dX6_ill_113 ?_
            obtain ⟨x8, h2, h⟩ := obind h
            refine wa_callVi hX (m_X6_isTaken h2) cx_X6_isTaken ml_X6_174 (As := [.int v7, .int v2, .int v4]) (rest := [.int v6]) 36 (ce_model _ _) rfl rfl rfl rfl ⟨Nat.le_of_ble_eq_true rfl, Nat.le_of_ble_eq_true rfl⟩ (Nat.le_of_ble_eq_true rfl) dX6_ill_115 ?_
            have hJ : Wa X x8.2 126 [(0, .ref (Ad X 36)), (2, .int v2), (4, .int v4), (5, .int v5), (7, .int v7)] [.int (if x8.1 = 0 then (1 : Int32) else 0), .int v6] := by
              refine wa_iadd hX dX6_ill_126 ?_
              refine wa_let h (fun y9 h => ?_)
              refine wa_istore hX (lv2 := [(6, .int y9), (0, .ref (Ad X 36)), (2, .int v2), (4, .int v4), (5, .int v5), (7, .int v7)]) (by decide) rfl dX6_ill_127 ?_
              refine wa_iinc hX (v := (v7 + 1)) (lv2 := [(7, .int (v7 + 1)), (6, .int y9), (0, .ref (Ad X 36)), (2, .int v2), (4, .int v4), (5, .int v5)]) 5 rfl rfl (by decide) rfl dX6_ill_129 ?_
              refine wa_goto hX 61 (by decide) dX6_ill_132 ?_
              refine wa_sub (lv2 := [(0, .ref (Ad X 36)), (2, .int v2), (4, .int v4), (5, .int v5), (6, .int y9), (7, .int (v7 + 1))]) [2, 3, 4, 5, 1, 0] rfl ?_
              exact hk61 _ h
            refine wa_if_ne hX 125 (by decide) dX6_ill_118 (fun c => ?_) (fun c => ?_)
            · refine wa_iconst hX 0 ki_0 dX6_ill_125 ?_
              refine wa_sub (lv2 := [(0, .ref (Ad X 36)), (2, .int v2), (4, .int v4), (5, .int v5), (7, .int v7)]) [1, 2, 3, 4, 6] rfl ?_
              rw [show (if x8.1 = 0 then (1 : Int32) else 0) = 0 from if_neg c] at hJ
              exact hJ
            · refine wa_iconst hX 1 ki_1 dX6_ill_121 ?_
              refine wa_goto hX 126 (by decide) dX6_ill_122 ?_
              refine wa_sub (lv2 := [(0, .ref (Ad X 36)), (2, .int v2), (4, .int v4), (5, .int v5), (7, .int v7)]) [1, 2, 3, 4, 6] rfl ?_
              rw [show (if x8.1 = 0 then (1 : Int32) else 0) = 1 from if_pos c] at hJ
              exact hJ
        refine wa_if_eq hX 99 (by decide) dX6_ill_92 (fun c => ?_) (fun c => ?_)
        · refine wa_iconst hX 0 ki_0 dX6_ill_99 ?_
          rw [show (if x7.1 = 0 then (0 : Int32) else 1) = 0 from if_pos c] at hJ
          exact hJ
        · refine wa_iconst hX 1 ki_1 dX6_ill_95 ?_
          refine wa_goto hX 100 (by decide) dX6_ill_96 ?_
          rw [show (if x7.1 = 0 then (0 : Int32) else 1) = 1 from if_neg c] at hJ
          exact hJ
set_option maxRecDepth 100000 in
set_option maxHeartbeats 4000000 in
theorem m_X6_ill {w w1 : Wd} {p1 : Int32} {p2 : Int32} {r : Int32} (h : F_X6_ill w p1 p2 = some (r, w1)) : Gi yX6_ill cX6_ill 9 (some .int) 4 100 (fun E => [.ref (E.2.1 36), .int p1, .int p2]) w w1 r := by
  refine Gi.of (hy := by decide +kernel) (hlen := fun _ => Nat.le_of_ble_eq_true rfl) (fun X hX hE => ?_)
  · unfold F_X6_ill at h
    refine (show Wa X w 0 [(0, .ref (Ad X 36)), (1, .int p1), (2, .int p2)] [] from ?_)
    refine wa_iload_n hX 1 rfl rfl dX6_ill_0 ?_
    obtain ⟨x1, h2, h⟩ := obind h
    refine wa_callSi hX (m_X6_isPart h2) cx_X6_isPart ml_X6_138 (As := [.int p1]) (rest := []) rfl rfl rfl ⟨Nat.le_of_ble_eq_true rfl, Nat.le_of_ble_eq_true rfl⟩ (Nat.le_of_ble_eq_true rfl) dX6_ill_1 ?_
    refine wa_if_ne hX 9 (by decide) dX6_ill_4 (fun c => ?_) (fun c => ?_)
    · replace h := itn c h
      refine wa_aload_n hX 0 rfl rfl dX6_ill_9 ?_
      obtain ⟨x2, h2, h⟩ := obind h
      refine wa_callVi hX (m_X6_refusal h2) cx_X6_refusal ml_X6_130 (As := []) (rest := []) 36 (ce_model _ _) rfl rfl rfl rfl ⟨Nat.le_of_ble_eq_true rfl, Nat.le_of_ble_eq_true rfl⟩ (Nat.le_of_ble_eq_true rfl) dX6_ill_10 ?_
      refine wa_istore_n hX (lv2 := [(3, .int x2.1), (0, .ref (Ad X 36)), (1, .int p1), (2, .int p2)]) rfl (by decide) rfl dX6_ill_13 ?_
      refine wa_iload_n hX 0 rfl rfl dX6_ill_14 ?_
      refine wa_bipush hX (-6) kb_m6 dX6_ill_15 ?_
      refine wa_icmp_eq hX 22 (by decide) dX6_ill_17 (fun c => ?_) (fun c => ?_)
      · replace h := itp c h
        refine wa_iload_n hX 3 rfl rfl dX6_ill_22 ?_
        refine wa_i2l hX dX6_ill_23 ?_
        refine wa_lconst hX 0 rfl dX6_ill_24 ?_
        refine wa_aload_n hX 1 rfl rfl dX6_ill_25 ?_
        refine wg_model_lines hX fl_X6_93 dX6_ill_26 ?_
        refine wa_iconst hX 1 ki_1 dX6_ill_29 ?_
        refine wa_isub hX dX6_ill_30 ?_
        refine wa_i2l hX dX6_ill_31 ?_
        obtain ⟨x3, h2, h⟩ := obind h
        refine wa_callSi hX (m_X6_in h2) cx_X6_in ml_X6_62 (As := [.long p2.toInt64, .long 0, .long ((x2.2.1 35 - 1).toInt64)]) (rest := []) rfl rfl rfl ⟨Nat.le_of_ble_eq_true rfl, Nat.le_of_ble_eq_true rfl⟩ (Nat.le_of_ble_eq_true rfl) dX6_ill_32 ?_
        refine wa_if_ne hX 41 (by decide) dX6_ill_35 (fun c => ?_) (fun c => ?_)
        · replace h := itn c h
          refine wa_aload_n hX 1 rfl rfl dX6_ill_41 ?_
          obtain ⟨x4, h2, h⟩ := obind h
          refine wa_callVi hX (m_X6_castAll h2) cx_X6_castAll ml_X6_168 (As := []) (rest := []) 36 (ce_model _ _) rfl rfl rfl rfl ⟨Nat.le_of_ble_eq_true rfl, Nat.le_of_ble_eq_true rfl⟩ (Nat.le_of_ble_eq_true rfl) dX6_ill_42 ?_
          refine wa_istore hX (lv2 := [(4, .int x4.1), (3, .int x2.1), (0, .ref (Ad X 36)), (1, .int p1), (2, .int p2)]) (by decide) rfl dX6_ill_45 ?_
          refine wa_aload_n hX 2 rfl rfl dX6_ill_47 ?_
          refine wg_model_bestPlayer hX fl_X6_37 dX6_ill_48 ?_
          refine wa_iload_n hX 3 rfl rfl dX6_ill_51 ?_
          obtain ⟨hg, h⟩ := gu_some h
          refine wl_model_bestPlayer hX hg dX6_ill_52 ?_
          refine wa_istore hX (lv2 := [(5, .int (x4.2.2.1 46 p1.toNatClampNeg)), (4, .int x4.1), (3, .int x2.1), (0, .ref (Ad X 36)), (1, .int p1), (2, .int p2)]) (by decide) rfl dX6_ill_53 ?_
          refine wa_iconst hX 0 ki_0 dX6_ill_55 ?_
          refine wa_istore hX (lv2 := [(6, .int 0), (5, .int (x4.2.2.1 46 p1.toNatClampNeg)), (4, .int x4.1), (3, .int x2.1), (0, .ref (Ad X 36)), (1, .int p1), (2, .int p2)]) (by decide) rfl dX6_ill_56 ?_
          refine wa_iconst hX 0 ki_0 dX6_ill_58 ?_
          refine wa_istore hX (lv2 := [(7, .int 0), (6, .int 0), (5, .int (x4.2.2.1 46 p1.toNatClampNeg)), (4, .int x4.1), (3, .int x2.1), (0, .ref (Ad X 36)), (1, .int p1), (2, .int p2)]) (by decide) rfl dX6_ill_59 ?_
          refine wa_sub (lv2 := [(0, .ref (Ad X 36)), (2, .int p2), (4, .int x4.1), (5, .int (x4.2.2.1 46 p1.toNatClampNeg)), (6, .int 0), (7, .int 0)]) [5, 7, 3, 2, 1, 0] rfl ?_
          exact t_X6_ill_61 hX hE  _ _ h
        · replace h := itp c h
          refine wa_bipush hX (-2) kb_m2 dX6_ill_38 ?_
          exact ret_i hE h dX6_ill_40
      · replace h := itn c h
        refine wa_iload_n hX 0 rfl rfl dX6_ill_20 ?_
        exact ret_i hE h dX6_ill_21
    · replace h := itp c h
      refine wa_iconst hX (-1) ki_m1 dX6_ill_7 ?_
      exact ret_i hE h dX6_ill_8
set_option maxRecDepth 100000 in
set_option maxHeartbeats 4000000 in
theorem m_X6_scene {w w1 : Wd} {p1 : Int32} {r : Int32} (h : F_X6_scene w p1 = some (r, w1)) : Gi yX6_scene cX6_scene 2 (some .int) 1 25 (fun E => [.ref (E.2.1 36), .int p1]) w w1 r := by
  refine Gi.of (hy := by decide +kernel) (hlen := fun _ => Nat.le_of_ble_eq_true rfl) (fun X hX hE => ?_)
  · unfold F_X6_scene at h
    refine (show Wa X w 0 [(0, .ref (Ad X 36)), (1, .int p1)] [] from ?_)
    refine wa_iload_n hX 1 rfl rfl dX6_scene_0 ?_
    refine wa_i2l hX dX6_scene_1 ?_
    refine wa_lconst hX 0 rfl dX6_scene_2 ?_
    refine wa_ldc2 hX kc_X6_177 dX6_scene_3 ?_
    obtain ⟨x1, h2, h⟩ := obind h
    refine wa_callSi hX (m_X6_in h2) cx_X6_in ml_X6_62 (As := [.long p1.toInt64, .long 0, .long 255]) (rest := []) rfl rfl rfl ⟨Nat.le_of_ble_eq_true rfl, Nat.le_of_ble_eq_true rfl⟩ (Nat.le_of_ble_eq_true rfl) dX6_scene_6 ?_
    refine wa_if_ne hX 15 (by decide) dX6_scene_9 (fun c => ?_) (fun c => ?_)
    · replace h := itn c h
      refine wa_aload_n hX 0 rfl rfl dX6_scene_15 ?_
      refine wg_model_scenes hX fl_X6_179 dX6_scene_16 ?_
      refine wa_bipush hX 6 kb_6 dX6_scene_19 ?_
      refine wa_icmp_ne hX 27 (by decide) dX6_scene_21 (fun c => ?_) (fun c => ?_)
      · replace h := itn c h
        refine wa_aload_n hX 0 rfl rfl dX6_scene_27 ?_
        refine wg_model_scene hX fl_X6_13 dX6_scene_28 ?_
        refine wa_aload_n hX 0 rfl rfl dX6_scene_31 ?_
        refine wg_model_scenes hX fl_X6_179 dX6_scene_32 ?_
        refine wa_iload_n hX 1 rfl rfl dX6_scene_35 ?_
        obtain ⟨hg, h⟩ := gu_some h
        refine ws_model_scene hX hg dX6_scene_36 ?_
        refine wa_aload_n hX 0 rfl rfl dX6_scene_37 ?_
        refine wa_dup hX rfl dX6_scene_38 ?_
        refine wg_model_scenes hX fl_X6_179 dX6_scene_39 ?_
        refine (show Wa X (wA x1.2 38 (x1.2.1 32) p1) 42 [(0, .ref (Ad X 36)), (1, .int p1)] [.int (x1.2.1 32), .ref (Ad X 36)] from ?_)
        refine wa_iconst hX 1 ki_1 dX6_scene_42 ?_
        refine wa_iadd hX dX6_scene_43 ?_
        refine wp_model_scenes hX fl_X6_179 dX6_scene_44 ?_
        refine wa_aload_n hX 0 rfl rfl dX6_scene_47 ?_
        refine wg_model_scenes hX fl_X6_179 dX6_scene_48 ?_
        refine (show Wa X (wI (wA x1.2 38 (x1.2.1 32) p1) 32 (x1.2.1 32 + 1)) 51 [(0, .ref (Ad X 36)), (1, .int p1)] [.int (x1.2.1 32 + 1)] from ?_)
        exact ret_i hE h dX6_scene_51
      · replace h := itp c h
        refine wa_bipush hX (-4) kb_m4 dX6_scene_24 ?_
        exact ret_i hE h dX6_scene_26
    · replace h := itp c h
      refine wa_bipush hX (-2) kb_m2 dX6_scene_12 ?_
      exact ret_i hE h dX6_scene_14
set_option maxRecDepth 100000 in
set_option maxHeartbeats 4000000 in
theorem m_X6_strike {w w1 : Wd} {r : Int32} (h : F_X6_strike w  = some (r, w1)) : Gi yX6_strike cX6_strike 2 (some .int) 0 0 (fun E => [.ref (E.2.1 36)]) w w1 r := by
  refine Gi.of (hy := by decide +kernel) (hlen := fun _ => Nat.le_of_ble_eq_true rfl) (fun X hX hE => ?_)
  · unfold F_X6_strike at h
    refine (show Wa X w 0 [(0, .ref (Ad X 36))] [] from ?_)
    refine wa_aload_n hX 0 rfl rfl dX6_strike_0 ?_
    refine wg_model_scenes hX fl_X6_179 dX6_strike_1 ?_
    refine wa_istore_n hX (lv2 := [(1, .int (w.1 32)), (0, .ref (Ad X 36))]) rfl (by decide) rfl dX6_strike_4 ?_
    refine wa_aload_n hX 1 rfl rfl dX6_strike_5 ?_
    refine wa_iconst hX 0 ki_0 dX6_strike_6 ?_
    refine wp_model_scenes hX fl_X6_179 dX6_strike_7 ?_
    refine wa_iload_n hX 0 rfl rfl dX6_strike_10 ?_
    exact ret_i hE h dX6_strike_11
set_option maxRecDepth 100000 in
set_option maxHeartbeats 4000000 in
theorem t_X6_layRow_12 {X : Fx} (hX : Cx X cX6_layRow RX6 5 0 0) {r : Int32} {w1 : Wd} (hE : ∀ pc lv, decode cX6_layRow pc = .ok (.ireturn, 1) → narrow .boolean (.int r) = .int r → Wa X w1 pc lv [.int r])  : ∀ (n : Nat) (a : Wd × Int32 × Int32 × Int32), L_X6_layRow_12  n a = some (r, w1) → Wa X a.1 12 [(0, .ref (Ad X 36)), (2, .int a.2.1), (3, .int a.2.2.1), (4, .int a.2.2.2)] [] := by
  refine it_mach (P := fun (a : Wd × Int32 × Int32 × Int32) => Wa X a.1 12 [(0, .ref (Ad X 36)), (2, .int a.2.1), (3, .int a.2.2.1), (4, .int a.2.2.2)] []) ?_
  intro k12 hk12 a h
  obtain ⟨w, v2, v3, v4⟩ := a
  have h : F_X6_layRow_12 k12 w v2 v3 v4 = some (r, w1) := h
  show Wa X w 12 [(0, .ref (Ad X 36)), (2, .int v2), (3, .int v3), (4, .int v4)] []
  unfold F_X6_layRow_12 at h
  refine wa_iload hX 3 rfl dX6_layRow_12 ?_
  refine wa_if_lt hX 55 (by decide) dX6_layRow_14 (fun c => ?_) (fun c => ?_)
  · replace h := itp c h
    refine wa_iload_n hX 2 rfl rfl dX6_layRow_55 ?_
    refine wa_iconst hX 1 ki_1 dX6_layRow_56 ?_
    refine wa_aload_n hX 0 rfl rfl dX6_layRow_57 ?_
    refine wg_model_scenes hX fl_X6_179 dX6_layRow_58 ?_
    refine wa_ishl hX dX6_layRow_61 ?_
    refine wa_iconst hX 1 ki_1 dX6_layRow_62 ?_
    refine wa_isub hX dX6_layRow_63 ?_
    have hJ : Wa X w 72 [] [.int (if v3 = ((1 <<< (w.1 32 &&& 31)) - 1) then (1 : Int32) else 0)] := by
      obtain ⟨hg, h⟩ := gu_some h
      exact ret_z hE h (isB_or hg) dX6_layRow_72
    refine wa_icmp_ne hX 71 (by decide) dX6_layRow_64 (fun c => ?_) (fun c => ?_)
    · refine wa_iconst hX 0 ki_0 dX6_layRow_71 ?_
      refine wa_sub (lv2 := []) [] rfl ?_
      rw [show (if v3 = ((1 <<< (w.1 32 &&& 31)) - 1) then (1 : Int32) else 0) = 0 from if_neg c] at hJ
      exact hJ
    · refine wa_iconst hX 1 ki_1 dX6_layRow_67 ?_
      refine wa_goto hX 72 (by decide) dX6_layRow_68 ?_
      refine wa_sub (lv2 := []) [] rfl ?_
      rw [show (if v3 = ((1 <<< (w.1 32 &&& 31)) - 1) then (1 : Int32) else 0) = 1 from if_pos c] at hJ
      exact hJ
  · replace h := itn c h
    refine wa_aload_n hX 0 rfl rfl dX6_layRow_17 ?_
    refine wg_model_row hX fl_X6_40 dX6_layRow_18 ?_
    refine wa_iload hX 3 rfl dX6_layRow_21 ?_
    refine wa_iload_n hX 1 rfl rfl dX6_layRow_23 ?_
    refine wa_aload_n hX 0 rfl rfl dX6_layRow_24 ?_
    refine wg_model_scenes hX fl_X6_179 dX6_layRow_25 ?_
    obtain ⟨hg, h⟩ := gu_some h
    refine wa_irem hX (of_decide_eq_true hg) dX6_layRow_28 ?_
    obtain ⟨hg, h⟩ := gu_some h
    refine ws_model_row hX hg dX6_layRow_29 ?_
    refine wa_iload_n hX 2 rfl rfl dX6_layRow_30 ?_
    refine wa_iconst hX 1 ki_1 dX6_layRow_31 ?_
    refine wa_aload_n hX 0 rfl rfl dX6_layRow_32 ?_
    refine wg_model_row hX fl_X6_40 dX6_layRow_33 ?_
    refine wa_iload hX 3 rfl dX6_layRow_36 ?_
    obtain ⟨hg, h⟩ := gu_some h
    refine wl_model_row hX hg dX6_layRow_38 ?_
    refine wa_ishl hX dX6_layRow_39 ?_
    refine wa_ior hX dX6_layRow_40 ?_
    refine wa_let h (fun y1 h => ?_)
    refine wa_istore_n hX (lv2 := [(3, .int y1), (0, .ref (Ad X 36)), (2, .int v2), (4, .int v4)]) rfl (by decide) rfl dX6_layRow_41 ?_
    refine wa_iload_n hX 2 rfl rfl dX6_layRow_42 ?_
    refine wa_aload_n hX 1 rfl rfl dX6_layRow_43 ?_
    refine wg_model_scenes hX fl_X6_179 dX6_layRow_44 ?_
    refine (show Wa X (wA w 47 v4 (v2 - v2 / w.1 32 * w.1 32)) 47 [(3, .int y1), (0, .ref (Ad X 36)), (2, .int v2), (4, .int v4)] [.int (w.1 32), .int v2] from ?_)
    obtain ⟨hg, h⟩ := gu_some h
    refine wa_idiv hX (of_decide_eq_true hg) dX6_layRow_47 ?_
    refine wa_istore_n hX (lv2 := [(2, .int (v2 / w.1 32)), (3, .int y1), (0, .ref (Ad X 36)), (4, .int v4)]) rfl (by decide) rfl dX6_layRow_48 ?_
    refine wa_iinc hX (v := (v4 + (-1))) (lv2 := [(4, .int (v4 + (-1))), (2, .int (v2 / w.1 32)), (3, .int y1), (0, .ref (Ad X 36))]) 3 rfl (by rw [ki_m1]) (by decide) rfl dX6_layRow_49 ?_
    refine wa_goto hX 12 (by decide) dX6_layRow_52 ?_
    refine wa_sub (lv2 := [(0, .ref (Ad X 36)), (2, .int (v2 / w.1 32)), (3, .int y1), (4, .int (v4 + (-1)))]) [3, 1, 2, 0] rfl ?_
    exact hk12 _ h
set_option maxRecDepth 100000 in
set_option maxHeartbeats 4000000 in
theorem m_X6_layRow {w w1 : Wd} {p1 : Int32} {r : Int32} (h : F_X6_layRow w p1 = some (r, w1)) : Gi yX6_layRow cX6_layRow 5 (some .boolean) 0 0 (fun E => [.ref (E.2.1 36), .int p1]) w w1 r := by
  refine Gi.of (hy := by decide +kernel) (hlen := fun _ => Nat.le_of_ble_eq_true rfl) (fun X hX hE => ?_)
  · unfold F_X6_layRow at h
    refine (show Wa X w 0 [(0, .ref (Ad X 36)), (1, .int p1)] [] from ?_)
    refine wa_iload_n hX 1 rfl rfl dX6_layRow_0 ?_
    refine wa_istore_n hX (lv2 := [(2, .int p1), (0, .ref (Ad X 36)), (1, .int p1)]) rfl (by decide) rfl dX6_layRow_1 ?_
    refine wa_iconst hX 0 ki_0 dX6_layRow_2 ?_
    refine wa_istore_n hX (lv2 := [(3, .int 0), (2, .int p1), (0, .ref (Ad X 36)), (1, .int p1)]) rfl (by decide) rfl dX6_layRow_3 ?_
    refine wa_aload_n hX 2 rfl rfl dX6_layRow_4 ?_
    refine wg_model_scenes hX fl_X6_179 dX6_layRow_5 ?_
    refine wa_iconst hX 1 ki_1 dX6_layRow_8 ?_
    refine wa_isub hX dX6_layRow_9 ?_
    refine wa_istore hX (lv2 := [(4, .int (w.1 32 - 1)), (3, .int 0), (2, .int p1), (0, .ref (Ad X 36)), (1, .int p1)]) (by decide) rfl dX6_layRow_10 ?_
    refine wa_sub (lv2 := [(0, .ref (Ad X 36)), (2, .int p1), (3, .int 0), (4, .int (w.1 32 - 1))]) [3, 2, 1, 0] rfl ?_
    exact t_X6_layRow_12 hX hE  _ _ h
set_option maxRecDepth 100000 in
set_option maxHeartbeats 4000000 in
theorem t_X6_movesOfRow_6 {X : Fx} (hX : Cx X cX6_movesOfRow RX6 4 1 22) {r : Int32} {w1 : Wd} (hE : ∀ pc lv, decode cX6_movesOfRow pc = .ok (.ireturn, 1) → narrow .int (.int r) = .int r → Wa X w1 pc lv [.int r])  : ∀ (n : Nat) (a : Wd × Int32 × Int32 × Int32), L_X6_movesOfRow_6  n a = some (r, w1) → Wa X a.1 6 [(0, .ref (Ad X 36)), (1, .int a.2.1), (2, .int a.2.2.1), (3, .int a.2.2.2)] [] := by
  refine it_mach (P := fun (a : Wd × Int32 × Int32 × Int32) => Wa X a.1 6 [(0, .ref (Ad X 36)), (1, .int a.2.1), (2, .int a.2.2.1), (3, .int a.2.2.2)] []) ?_
  intro k6 hk6 a h
  obtain ⟨w, v1, v2, v3⟩ := a
  have h : F_X6_movesOfRow_6 k6 w v1 v2 v3 = some (r, w1) := h
  show Wa X w 6 [(0, .ref (Ad X 36)), (1, .int v1), (2, .int v2), (3, .int v3)] []
  unfold F_X6_movesOfRow_6 at h
  refine wa_iload_n hX 3 rfl rfl dX6_movesOfRow_6 ?_
  refine wa_aload_n hX 0 rfl rfl dX6_movesOfRow_7 ?_
  refine wg_model_scenes hX fl_X6_179 dX6_movesOfRow_8 ?_
  refine wa_icmp_ge hX 51 (by decide) dX6_movesOfRow_11 (fun c => ?_) (fun c => ?_)
  · replace h := itp c h
    refine wa_iload_n hX 1 rfl rfl dX6_movesOfRow_51 ?_
    refine wa_iload_n hX 2 rfl rfl dX6_movesOfRow_52 ?_
    obtain ⟨x1, h2, h⟩ := obind h
    refine wa_callSi hX (m_X6_ones h2) cx_X6_ones ml_X6_119 (As := [.int v2]) (rest := [.int v1]) rfl rfl rfl ⟨Nat.le_of_ble_eq_true rfl, Nat.le_of_ble_eq_true rfl⟩ (Nat.le_of_ble_eq_true rfl) dX6_movesOfRow_53 ?_
    refine wa_iadd hX dX6_movesOfRow_56 ?_
    exact ret_i hE h dX6_movesOfRow_57
  · replace h := itn c h
    refine wa_iload_n hX 1 rfl rfl dX6_movesOfRow_14 ?_
    refine wa_iload_n hX 2 rfl rfl dX6_movesOfRow_15 ?_
    refine wa_aload_n hX 0 rfl rfl dX6_movesOfRow_16 ?_
    refine wg_model_scene hX fl_X6_13 dX6_movesOfRow_17 ?_
    refine wa_aload_n hX 0 rfl rfl dX6_movesOfRow_20 ?_
    refine wg_model_row hX fl_X6_40 dX6_movesOfRow_21 ?_
    refine wa_iload_n hX 3 rfl rfl dX6_movesOfRow_24 ?_
    obtain ⟨hg, h⟩ := gu_some h
    refine wl_model_row hX hg dX6_movesOfRow_25 ?_
    obtain ⟨hg, h⟩ := gu_some h
    refine wl_model_scene hX hg dX6_movesOfRow_26 ?_
    refine wa_ixor hX dX6_movesOfRow_27 ?_
    obtain ⟨x2, h2, h⟩ := obind h
    refine wa_callSi hX (m_X6_ones h2) cx_X6_ones ml_X6_119 (As := [.int (v2 ^^^ w.2.1 38 (w.2.1 47 v3.toNatClampNeg).toNatClampNeg)]) (rest := [.int v1]) rfl rfl rfl ⟨Nat.le_of_ble_eq_true rfl, Nat.le_of_ble_eq_true rfl⟩ (Nat.le_of_ble_eq_true rfl) dX6_movesOfRow_28 ?_
    refine wa_iadd hX dX6_movesOfRow_31 ?_
    refine wa_istore_n hX (lv2 := [(1, .int (v1 + x2.1)), (0, .ref (Ad X 36)), (2, .int v2), (3, .int v3)]) rfl (by decide) rfl dX6_movesOfRow_32 ?_
    refine wa_aload_n hX 1 rfl rfl dX6_movesOfRow_33 ?_
    refine wg_model_scene hX fl_X6_13 dX6_movesOfRow_34 ?_
    refine wa_aload_n hX 1 rfl rfl dX6_movesOfRow_37 ?_
    refine wg_model_row hX fl_X6_40 dX6_movesOfRow_38 ?_
    refine wa_iload_n hX 3 rfl rfl dX6_movesOfRow_41 ?_
    obtain ⟨hg, h⟩ := gu_some h
    refine wl_model_row hX hg dX6_movesOfRow_42 ?_
    obtain ⟨hg, h⟩ := gu_some h
    refine wl_model_scene hX hg dX6_movesOfRow_43 ?_
    refine wa_let h (fun y3 h => ?_)
    refine wa_istore_n hX (lv2 := [(2, .int y3), (1, .int (v1 + x2.1)), (0, .ref (Ad X 36)), (3, .int v3)]) rfl (by decide) rfl dX6_movesOfRow_44 ?_
    refine wa_iinc hX (v := (v3 + 1)) (lv2 := [(3, .int (v3 + 1)), (2, .int y3), (1, .int (v1 + x2.1)), (0, .ref (Ad X 36))]) 3 rfl rfl (by decide) rfl dX6_movesOfRow_45 ?_
    refine wa_goto hX 6 (by decide) dX6_movesOfRow_48 ?_
    refine wa_sub (lv2 := [(0, .ref (Ad X 36)), (1, .int (v1 + x2.1)), (2, .int y3), (3, .int (v3 + 1))]) [3, 2, 1, 0] rfl ?_
    exact hk6 _ h
set_option maxRecDepth 100000 in
set_option maxHeartbeats 4000000 in
theorem m_X6_movesOfRow {w w1 : Wd} {r : Int32} (h : F_X6_movesOfRow w  = some (r, w1)) : Gi yX6_movesOfRow cX6_movesOfRow 4 (some .int) 1 22 (fun E => [.ref (E.2.1 36)]) w w1 r := by
  refine Gi.of (hy := by decide +kernel) (hlen := fun _ => Nat.le_of_ble_eq_true rfl) (fun X hX hE => ?_)
  · unfold F_X6_movesOfRow at h
    refine (show Wa X w 0 [(0, .ref (Ad X 36))] [] from ?_)
    refine wa_iconst hX 0 ki_0 dX6_movesOfRow_0 ?_
    refine wa_istore_n hX (lv2 := [(1, .int 0), (0, .ref (Ad X 36))]) rfl (by decide) rfl dX6_movesOfRow_1 ?_
    refine wa_iconst hX 0 ki_0 dX6_movesOfRow_2 ?_
    refine wa_istore_n hX (lv2 := [(2, .int 0), (1, .int 0), (0, .ref (Ad X 36))]) rfl (by decide) rfl dX6_movesOfRow_3 ?_
    refine wa_iconst hX 0 ki_0 dX6_movesOfRow_4 ?_
    refine wa_istore_n hX (lv2 := [(3, .int 0), (2, .int 0), (1, .int 0), (0, .ref (Ad X 36))]) rfl (by decide) rfl dX6_movesOfRow_5 ?_
    refine wa_sub (lv2 := [(0, .ref (Ad X 36)), (1, .int 0), (2, .int 0), (3, .int 0)]) [3, 2, 1, 0] rfl ?_
    exact t_X6_movesOfRow_6 hX hE  _ _ h
set_option maxRecDepth 100000 in
set_option maxHeartbeats 4000000 in
theorem t_X6_order_136 {X : Fx} (hX : Cx X cX6_order RX6 7 2 45) {r : Int32} {w1 : Wd} (hE : ∀ pc lv, decode cX6_order pc = .ok (.ireturn, 1) → narrow .int (.int r) = .int r → Wa X w1 pc lv [.int r])  {w : Wd} {s0 : Int32} (h : F_X6_order_136 w s0 = some (r, w1)) : Wa X w 136 [] [.int s0] := by
  unfold F_X6_order_136 at h
  exact ret_i hE h dX6_order_136
set_option maxRecDepth 100000 in
set_option maxHeartbeats 4000000 in
theorem t_X6_order_94 {X : Fx} (hX : Cx X cX6_order RX6 7 2 45) {r : Int32} {w1 : Wd} (hE : ∀ pc lv, decode cX6_order pc = .ok (.ireturn, 1) → narrow .int (.int r) = .int r → Wa X w1 pc lv [.int r]) {k32 : Wd × Int32 × Int32 × Int32 × Int32 → Option (Int32 × Wd)} (hk32 : ∀ a, k32 a = some (r, w1) → Wa X a.1 32 [(0, .ref (Ad X 36)), (1, .int a.2.1), (2, .int a.2.2.1), (3, .int a.2.2.2.1), (4, .int a.2.2.2.2)] []) {w : Wd} {v1 : Int32} {v2 : Int32} {v3 : Int32} {v4 : Int32} (h : F_X6_order_94 k32 w v1 v2 v3 v4 = some (r, w1)) : Wa X w 94 [(0, .ref (Ad X 36)), (1, .int v1), (2, .int v2), (3, .int v3), (4, .int v4)] [] := by
  unfold F_X6_order_94 at h
  refine wa_iinc hX (v := (v4 + 1)) (lv2 := [(4, .int (v4 + 1)), (0, .ref (Ad X 36)), (1, .int v1), (2, .int v2), (3, .int v3)]) 4 rfl rfl (by decide) rfl dX6_order_94 ?_
  refine wa_goto hX 32 (by decide) dX6_order_97 ?_
  refine wa_sub (lv2 := [(0, .ref (Ad X 36)), (1, .int v1), (2, .int v2), (3, .int v3), (4, .int (v4 + 1))]) [1, 2, 3, 4, 0] rfl ?_
  exact hk32 _ h
set_option maxRecDepth 100000 in
set_option maxHeartbeats 4000000 in
theorem t_X6_order_65 {X : Fx} (hX : Cx X cX6_order RX6 7 2 45) {r : Int32} {w1 : Wd} (hE : ∀ pc lv, decode cX6_order pc = .ok (.ireturn, 1) → narrow .int (.int r) = .int r → Wa X w1 pc lv [.int r]) {k32 : Wd × Int32 × Int32 × Int32 × Int32 → Option (Int32 × Wd)} (hk32 : ∀ a, k32 a = some (r, w1) → Wa X a.1 32 [(0, .ref (Ad X 36)), (1, .int a.2.1), (2, .int a.2.2.1), (3, .int a.2.2.2.1), (4, .int a.2.2.2.2)] []) : ∀ (n : Nat) (a : Wd × Int32 × Int32 × Int32 × Int32 × Int32), L_X6_order_65 k32 n a = some (r, w1) → Wa X a.1 65 [(0, .ref (Ad X 36)), (1, .int a.2.1), (2, .int a.2.2.1), (3, .int a.2.2.2.1), (4, .int a.2.2.2.2.1), (6, .int a.2.2.2.2.2)] [] := by
  refine it_mach (P := fun (a : Wd × Int32 × Int32 × Int32 × Int32 × Int32) => Wa X a.1 65 [(0, .ref (Ad X 36)), (1, .int a.2.1), (2, .int a.2.2.1), (3, .int a.2.2.2.1), (4, .int a.2.2.2.2.1), (6, .int a.2.2.2.2.2)] []) ?_
  intro k65 hk65 a h
  obtain ⟨w, v1, v2, v3, v4, v6⟩ := a
  have h : F_X6_order_65 k32 k65 w v1 v2 v3 v4 v6 = some (r, w1) := h
  show Wa X w 65 [(0, .ref (Ad X 36)), (1, .int v1), (2, .int v2), (3, .int v3), (4, .int v4), (6, .int v6)] []
  unfold F_X6_order_65 at h
  refine wa_iload hX 5 rfl dX6_order_65 ?_
  refine wa_aload_n hX 0 rfl rfl dX6_order_67 ?_
  refine wg_model_scenes hX fl_X6_179 dX6_order_68 ?_
  refine wa_icmp_ge hX 94 (by decide) dX6_order_71 (fun c => ?_) (fun c => ?_)
  · replace h := itp c h
    refine wa_sub (lv2 := [(0, .ref (Ad X 36)), (1, .int v1), (2, .int v2), (3, .int v3), (4, .int v4)]) [0, 1, 2, 3, 4] rfl ?_
    exact t_X6_order_94 hX hE hk32 h
  · replace h := itn c h
    refine wa_aload_n hX 0 rfl rfl dX6_order_74 ?_
    refine wg_model_bestRow hX fl_X6_43 dX6_order_75 ?_
    refine wa_iload hX 5 rfl dX6_order_78 ?_
    refine wa_aload_n hX 0 rfl rfl dX6_order_80 ?_
    refine wg_model_row hX fl_X6_40 dX6_order_81 ?_
    refine wa_iload hX 5 rfl dX6_order_84 ?_
    obtain ⟨hg, h⟩ := gu_some h
    refine wl_model_row hX hg dX6_order_86 ?_
    obtain ⟨hg, h⟩ := gu_some h
    refine ws_model_bestRow hX hg dX6_order_87 ?_
    refine wa_iinc hX (v := (v6 + 1)) (lv2 := [(6, .int (v6 + 1)), (0, .ref (Ad X 36)), (1, .int v1), (2, .int v2), (3, .int v3), (4, .int v4)]) 5 rfl rfl (by decide) rfl dX6_order_88 ?_
    refine wa_goto hX 65 (by decide) dX6_order_91 ?_
    refine wa_sub (lv2 := [(0, .ref (Ad X 36)), (1, .int v1), (2, .int v2), (3, .int v3), (4, .int v4), (6, .int (v6 + 1))]) [1, 2, 3, 4, 5, 0] rfl ?_
    exact hk65 _ h
set_option maxRecDepth 100000 in
set_option maxHeartbeats 4000000 in
theorem t_X6_order_32 {X : Fx} (hX : Cx X cX6_order RX6 7 2 45) {r : Int32} {w1 : Wd} (hE : ∀ pc lv, decode cX6_order pc = .ok (.ireturn, 1) → narrow .int (.int r) = .int r → Wa X w1 pc lv [.int r])  : ∀ (n : Nat) (a : Wd × Int32 × Int32 × Int32 × Int32), L_X6_order_32  n a = some (r, w1) → Wa X a.1 32 [(0, .ref (Ad X 36)), (1, .int a.2.1), (2, .int a.2.2.1), (3, .int a.2.2.2.1), (4, .int a.2.2.2.2)] [] := by
  refine it_mach (P := fun (a : Wd × Int32 × Int32 × Int32 × Int32) => Wa X a.1 32 [(0, .ref (Ad X 36)), (1, .int a.2.1), (2, .int a.2.2.1), (3, .int a.2.2.2.1), (4, .int a.2.2.2.2)] []) ?_
  intro k32 hk32 a h
  obtain ⟨w, v1, v2, v3, v4⟩ := a
  have h : F_X6_order_32 k32 w v1 v2 v3 v4 = some (r, w1) := h
  show Wa X w 32 [(0, .ref (Ad X 36)), (1, .int v1), (2, .int v2), (3, .int v3), (4, .int v4)] []
  unfold F_X6_order_32 at h
  refine wa_iload hX 4 rfl dX6_order_32 ?_
  refine wa_iload_n hX 2 rfl rfl dX6_order_34 ?_
  refine wa_icmp_ge hX 100 (by decide) dX6_order_35 (fun c => ?_) (fun c => ?_)
  · replace h := itp c h
    refine wa_iload_n hX 1 rfl rfl dX6_order_100 ?_
    refine wa_iconst hX (-1) ki_m1 dX6_order_101 ?_
    refine wa_icmp_ne hX 109 (by decide) dX6_order_102 (fun c => ?_) (fun c => ?_)
    · replace h := itn c h
      refine wa_iload_n hX 1 rfl rfl dX6_order_109 ?_
      refine wa_i2l hX dX6_order_110 ?_
      refine wa_lconst hX 0 rfl dX6_order_111 ?_
      refine wa_aload_n hX 0 rfl rfl dX6_order_112 ?_
      refine wg_model_scenes hX fl_X6_179 dX6_order_113 ?_
      refine wa_iconst hX 1 ki_1 dX6_order_116 ?_
      refine wa_isub hX dX6_order_117 ?_
      refine wa_i2l hX dX6_order_118 ?_
      obtain ⟨x1, h2, h⟩ := obind h
      refine wa_callSi hX (m_X6_in h2) cx_X6_in ml_X6_62 (As := [.long v1.toInt64, .long 0, .long ((w.1 32 - 1).toInt64)]) (rest := []) rfl rfl rfl ⟨Nat.le_of_ble_eq_true rfl, Nat.le_of_ble_eq_true rfl⟩ (Nat.le_of_ble_eq_true rfl) dX6_order_119 ?_
      refine wa_if_eq hX 134 (by decide) dX6_order_122 (fun c => ?_) (fun c => ?_)
      · replace h := itp c h
        refine wa_bipush hX (-6) kb_m6 dX6_order_134 ?_
        refine wa_sub (lv2 := []) [] rfl ?_
        exact t_X6_order_136 hX hE  h
      · replace h := itn c h
        refine wa_aload_n hX 0 rfl rfl dX6_order_125 ?_
        refine wg_model_bestRow hX fl_X6_43 dX6_order_126 ?_
        refine wa_iload_n hX 1 rfl rfl dX6_order_129 ?_
        obtain ⟨hg, h⟩ := gu_some h
        refine wl_model_bestRow hX hg dX6_order_130 ?_
        refine wa_goto hX 136 (by decide) dX6_order_131 ?_
        refine wa_sub (lv2 := []) [] rfl ?_
        exact t_X6_order_136 hX hE  h
    · replace h := itp c h
      refine wa_iload_n hX 3 rfl rfl dX6_order_105 ?_
      refine wa_goto hX 136 (by decide) dX6_order_106 ?_
      refine wa_sub (lv2 := []) [] rfl ?_
      exact t_X6_order_136 hX hE  h
  · replace h := itn c h
    refine wa_aload_n hX 0 rfl rfl dX6_order_38 ?_
    refine wa_iload hX 4 rfl dX6_order_39 ?_
    obtain ⟨x2, h2, h⟩ := obind h
    refine wa_callVi hX (m_X6_layRow h2) cx_X6_layRow ml_X6_182 (As := [.int v4]) (rest := []) 36 (ce_model _ _) rfl rfl rfl rfl ⟨Nat.le_of_ble_eq_true rfl, Nat.le_of_ble_eq_true rfl⟩ (Nat.le_of_ble_eq_true rfl) dX6_order_41 ?_
    refine wa_if_eq hX 94 (by decide) dX6_order_44 (fun c => ?_) (fun c => ?_)
    · replace h := itp c h
      exact t_X6_order_94 hX hE hk32 h
    · replace h := itn c h
      refine wa_aload_n hX 0 rfl rfl dX6_order_47 ?_
      obtain ⟨x3, h2, h⟩ := obind h
      refine wa_callVi hX (m_X6_movesOfRow h2) cx_X6_movesOfRow ml_X6_185 (As := []) (rest := []) 36 (ce_model _ _) rfl rfl rfl rfl ⟨Nat.le_of_ble_eq_true rfl, Nat.le_of_ble_eq_true rfl⟩ (Nat.le_of_ble_eq_true rfl) dX6_order_48 ?_
      refine wa_istore hX (lv2 := [(5, .int x3.1), (0, .ref (Ad X 36)), (1, .int v1), (2, .int v2), (3, .int v3), (4, .int v4)]) (by decide) rfl dX6_order_51 ?_
      refine wa_iload hX 0 rfl dX6_order_53 ?_
      refine wa_iload_n hX 4 rfl rfl dX6_order_55 ?_
      refine wa_icmp_ge hX 94 (by decide) dX6_order_56 (fun c => ?_) (fun c => ?_)
      · replace h := itp c h
        refine wa_sub (lv2 := [(0, .ref (Ad X 36)), (1, .int v1), (2, .int v2), (3, .int v3), (4, .int v4)]) [1, 2, 3, 4, 5] rfl ?_
        exact t_X6_order_94 hX hE hk32 h
      · replace h := itn c h
        refine wa_iload hX 0 rfl dX6_order_59 ?_
        refine wa_istore_n hX (lv2 := [(3, .int x3.1), (5, .int x3.1), (0, .ref (Ad X 36)), (1, .int v1), (2, .int v2), (4, .int v4)]) rfl (by decide) rfl dX6_order_61 ?_
        refine wa_iconst hX 0 ki_0 dX6_order_62 ?_
        refine wa_istore hX (lv2 := [(6, .int 0), (3, .int x3.1), (5, .int x3.1), (0, .ref (Ad X 36)), (1, .int v1), (2, .int v2), (4, .int v4)]) (by decide) rfl dX6_order_63 ?_
        refine wa_sub (lv2 := [(0, .ref (Ad X 36)), (1, .int v1), (2, .int v2), (3, .int x3.1), (4, .int v4), (6, .int 0)]) [3, 4, 5, 1, 6, 0] rfl ?_
        exact t_X6_order_65 hX hE hk32 _ _ h
set_option maxRecDepth 100000 in
set_option maxHeartbeats 4000000 in
theorem t_X6_order_4 {X : Fx} (hX : Cx X cX6_order RX6 7 2 45) {r : Int32} {w1 : Wd} (hE : ∀ pc lv, decode cX6_order pc = .ok (.ireturn, 1) → narrow .int (.int r) = .int r → Wa X w1 pc lv [.int r])  : ∀ (n : Nat) (a : Wd × Int32 × Int32 × Int32), L_X6_order_4  n a = some (r, w1) → Wa X a.1 4 [(0, .ref (Ad X 36)), (1, .int a.2.1), (2, .int a.2.2.1), (3, .int a.2.2.2)] [] := by
  refine it_mach (P := fun (a : Wd × Int32 × Int32 × Int32) => Wa X a.1 4 [(0, .ref (Ad X 36)), (1, .int a.2.1), (2, .int a.2.2.1), (3, .int a.2.2.2)] []) ?_
  intro k4 hk4 a h
  obtain ⟨w, v1, v2, v3⟩ := a
  have h : F_X6_order_4 k4 w v1 v2 v3 = some (r, w1) := h
  show Wa X w 4 [(0, .ref (Ad X 36)), (1, .int v1), (2, .int v2), (3, .int v3)] []
  unfold F_X6_order_4 at h
  refine wa_iload_n hX 3 rfl rfl dX6_order_4 ?_
  refine wa_aload_n hX 0 rfl rfl dX6_order_5 ?_
  refine wg_model_scenes hX fl_X6_179 dX6_order_6 ?_
  refine wa_icmp_ge hX 25 (by decide) dX6_order_9 (fun c => ?_) (fun c => ?_)
  · replace h := itp c h
    refine wa_sipush hX 1000 ks_1000 dX6_order_25 ?_
    refine wa_istore_n hX (lv2 := [(3, .int 1000), (0, .ref (Ad X 36)), (1, .int v1), (2, .int v2)]) rfl (by decide) rfl dX6_order_28 ?_
    refine wa_iconst hX 0 ki_0 dX6_order_29 ?_
    refine wa_istore hX (lv2 := [(4, .int 0), (3, .int 1000), (0, .ref (Ad X 36)), (1, .int v1), (2, .int v2)]) (by decide) rfl dX6_order_30 ?_
    refine wa_sub (lv2 := [(0, .ref (Ad X 36)), (1, .int v1), (2, .int v2), (3, .int 1000), (4, .int 0)]) [2, 3, 4, 1, 0] rfl ?_
    exact t_X6_order_32 hX hE  _ _ h
  · replace h := itn c h
    refine wa_iload_n hX 2 rfl rfl dX6_order_12 ?_
    refine wa_aload_n hX 0 rfl rfl dX6_order_13 ?_
    refine wg_model_scenes hX fl_X6_179 dX6_order_14 ?_
    refine wa_imul hX dX6_order_17 ?_
    refine wa_istore_n hX (lv2 := [(2, .int (v2 * w.1 32)), (0, .ref (Ad X 36)), (1, .int v1), (3, .int v3)]) rfl (by decide) rfl dX6_order_18 ?_
    refine wa_iinc hX (v := (v3 + 1)) (lv2 := [(3, .int (v3 + 1)), (2, .int (v2 * w.1 32)), (0, .ref (Ad X 36)), (1, .int v1)]) 3 rfl rfl (by decide) rfl dX6_order_19 ?_
    refine wa_goto hX 4 (by decide) dX6_order_22 ?_
    refine wa_sub (lv2 := [(0, .ref (Ad X 36)), (1, .int v1), (2, .int (v2 * w.1 32)), (3, .int (v3 + 1))]) [2, 3, 1, 0] rfl ?_
    exact hk4 _ h
set_option maxRecDepth 100000 in
set_option maxHeartbeats 4000000 in
theorem m_X6_order {w w1 : Wd} {p1 : Int32} {r : Int32} (h : F_X6_order w p1 = some (r, w1)) : Gi yX6_order cX6_order 7 (some .int) 2 45 (fun E => [.ref (E.2.1 36), .int p1]) w w1 r := by
  refine Gi.of (hy := by decide +kernel) (hlen := fun _ => Nat.le_of_ble_eq_true rfl) (fun X hX hE => ?_)
  · unfold F_X6_order at h
    refine (show Wa X w 0 [(0, .ref (Ad X 36)), (1, .int p1)] [] from ?_)
    refine wa_iconst hX 1 ki_1 dX6_order_0 ?_
    refine wa_istore_n hX (lv2 := [(2, .int 1), (0, .ref (Ad X 36)), (1, .int p1)]) rfl (by decide) rfl dX6_order_1 ?_
    refine wa_iconst hX 0 ki_0 dX6_order_2 ?_
    refine wa_istore_n hX (lv2 := [(3, .int 0), (2, .int 1), (0, .ref (Ad X 36)), (1, .int p1)]) rfl (by decide) rfl dX6_order_3 ?_
    refine wa_sub (lv2 := [(0, .ref (Ad X 36)), (1, .int p1), (2, .int 1), (3, .int 0)]) [2, 3, 1, 0] rfl ?_
    exact t_X6_order_4 hX hE  _ _ h
set_option maxRecDepth 100000 in
set_option maxHeartbeats 4000000 in
theorem t_X6_seen_24 {X : Fx} (hX : Cx X cX6_seen RX6 3 1 25) {r : Int32} {w1 : Wd} (hE : ∀ pc lv, decode cX6_seen pc = .ok (.ireturn, 1) → narrow .int (.int r) = .int r → Wa X w1 pc lv [.int r])  {w : Wd} (h : F_X6_seen_24 w = some (r, w1)) : Wa X w 24 [] [] := by
  unfold F_X6_seen_24 at h
  refine wa_bipush hX (-2) kb_m2 dX6_seen_24 ?_
  exact ret_i hE h dX6_seen_26
set_option maxRecDepth 100000 in
set_option maxHeartbeats 4000000 in
theorem m_X6_seen {w w1 : Wd} {p1 : Int32} {p2 : Int32} {r : Int32} (h : F_X6_seen w p1 p2 = some (r, w1)) : Gi yX6_seen cX6_seen 3 (some .int) 1 25 (fun E => [.ref (E.2.1 36), .int p1, .int p2]) w w1 r := by
  refine Gi.of (hy := by decide +kernel) (hlen := fun _ => Nat.le_of_ble_eq_true rfl) (fun X hX hE => ?_)
  · unfold F_X6_seen at h
    refine (show Wa X w 0 [(0, .ref (Ad X 36)), (1, .int p1), (2, .int p2)] [] from ?_)
    refine wa_iload_n hX 1 rfl rfl dX6_seen_0 ?_
    refine wa_i2l hX dX6_seen_1 ?_
    refine wa_lconst hX 0 rfl dX6_seen_2 ?_
    refine wa_ldc2 hX kc_X6_188 dX6_seen_3 ?_
    obtain ⟨x1, h2, h⟩ := obind h
    refine wa_callSi hX (m_X6_in h2) cx_X6_in ml_X6_62 (As := [.long p1.toInt64, .long 0, .long 39]) (rest := []) rfl rfl rfl ⟨Nat.le_of_ble_eq_true rfl, Nat.le_of_ble_eq_true rfl⟩ (Nat.le_of_ble_eq_true rfl) dX6_seen_6 ?_
    refine wa_if_eq hX 24 (by decide) dX6_seen_9 (fun c => ?_) (fun c => ?_)
    · replace h := itp c h
      refine wa_sub (lv2 := []) [] rfl ?_
      exact t_X6_seen_24 hX hE  h
    · replace h := itn c h
      refine wa_iload_n hX 2 rfl rfl dX6_seen_12 ?_
      refine wa_i2l hX dX6_seen_13 ?_
      refine wa_lconst hX 0 rfl dX6_seen_14 ?_
      refine wa_ldc2 hX kc_X6_68 dX6_seen_15 ?_
      obtain ⟨x2, h2, h⟩ := obind h
      refine wa_callSi hX (m_X6_in h2) cx_X6_in ml_X6_62 (As := [.long p2.toInt64, .long 0, .long 8]) (rest := []) rfl rfl rfl ⟨Nat.le_of_ble_eq_true rfl, Nat.le_of_ble_eq_true rfl⟩ (Nat.le_of_ble_eq_true rfl) dX6_seen_18 ?_
      refine wa_if_ne hX 27 (by decide) dX6_seen_21 (fun c => ?_) (fun c => ?_)
      · replace h := itn c h
        refine wa_aload_n hX 0 rfl rfl dX6_seen_27 ?_
        refine wg_model_sights hX fl_X6_190 dX6_seen_28 ?_
        refine wa_bipush hX 6 kb_6 dX6_seen_31 ?_
        refine wa_icmp_ne hX 39 (by decide) dX6_seen_33 (fun c => ?_) (fun c => ?_)
        · replace h := itn c h
          refine wa_aload_n hX 0 rfl rfl dX6_seen_39 ?_
          refine wg_model_sightLine hX fl_X6_16 dX6_seen_40 ?_
          refine wa_aload_n hX 0 rfl rfl dX6_seen_43 ?_
          refine wg_model_sights hX fl_X6_190 dX6_seen_44 ?_
          refine wa_iload_n hX 1 rfl rfl dX6_seen_47 ?_
          obtain ⟨hg, h⟩ := gu_some h
          refine ws_model_sightLine hX hg dX6_seen_48 ?_
          refine wa_aload_n hX 0 rfl rfl dX6_seen_49 ?_
          refine wg_model_sightMany hX fl_X6_19 dX6_seen_50 ?_
          refine wa_aload_n hX 0 rfl rfl dX6_seen_53 ?_
          refine wg_model_sights hX fl_X6_190 dX6_seen_54 ?_
          refine (show Wa X (wA x2.2 39 (x2.2.1 33) p1) 57 [(0, .ref (Ad X 36)), (1, .int p1), (2, .int p2)] [.int (x2.2.1 33), .ref (Ad X 40)] from ?_)
          refine wa_iload_n hX 2 rfl rfl dX6_seen_57 ?_
          obtain ⟨hg, h⟩ := gu_some h
          refine ws_model_sightMany hX hg dX6_seen_58 ?_
          refine wa_aload_n hX 0 rfl rfl dX6_seen_59 ?_
          refine wa_dup hX rfl dX6_seen_60 ?_
          refine wg_model_sights hX fl_X6_190 dX6_seen_61 ?_
          refine (show Wa X (wA (wA x2.2 39 (x2.2.1 33) p1) 40 (x2.2.1 33) p2) 64 [(0, .ref (Ad X 36)), (1, .int p1), (2, .int p2)] [.int (x2.2.1 33), .ref (Ad X 36)] from ?_)
          refine wa_iconst hX 1 ki_1 dX6_seen_64 ?_
          refine wa_iadd hX dX6_seen_65 ?_
          refine wp_model_sights hX fl_X6_190 dX6_seen_66 ?_
          refine wa_aload_n hX 0 rfl rfl dX6_seen_69 ?_
          refine wg_model_sights hX fl_X6_190 dX6_seen_70 ?_
          refine (show Wa X (wI (wA (wA x2.2 39 (x2.2.1 33) p1) 40 (x2.2.1 33) p2) 33 (x2.2.1 33 + 1)) 73 [(0, .ref (Ad X 36)), (1, .int p1), (2, .int p2)] [.int (x2.2.1 33 + 1)] from ?_)
          exact ret_i hE h dX6_seen_73
        · replace h := itp c h
          refine wa_bipush hX (-4) kb_m4 dX6_seen_36 ?_
          exact ret_i hE h dX6_seen_38
      · replace h := itp c h
        refine wa_sub (lv2 := []) [] rfl ?_
        exact t_X6_seen_24 hX hE  h
set_option maxRecDepth 100000 in
set_option maxHeartbeats 4000000 in
theorem m_X6_forget {w w1 : Wd} {r : Int32} (h : F_X6_forget w  = some (r, w1)) : Gi yX6_forget cX6_forget 2 (some .int) 0 0 (fun E => [.ref (E.2.1 36)]) w w1 r := by
  refine Gi.of (hy := by decide +kernel) (hlen := fun _ => Nat.le_of_ble_eq_true rfl) (fun X hX hE => ?_)
  · unfold F_X6_forget at h
    refine (show Wa X w 0 [(0, .ref (Ad X 36))] [] from ?_)
    refine wa_aload_n hX 0 rfl rfl dX6_forget_0 ?_
    refine wg_model_sights hX fl_X6_190 dX6_forget_1 ?_
    refine wa_istore_n hX (lv2 := [(1, .int (w.1 33)), (0, .ref (Ad X 36))]) rfl (by decide) rfl dX6_forget_4 ?_
    refine wa_aload_n hX 1 rfl rfl dX6_forget_5 ?_
    refine wa_iconst hX 0 ki_0 dX6_forget_6 ?_
    refine wp_model_sights hX fl_X6_190 dX6_forget_7 ?_
    refine wa_iload_n hX 0 rfl rfl dX6_forget_10 ?_
    exact ret_i hE h dX6_forget_11
set_option maxRecDepth 100000 in
set_option maxHeartbeats 4000000 in
theorem m_X6_ways {w w1 : Wd} {r : Int32} (h : F_X6_ways w  = some (r, w1)) : Gi yX6_ways cX6_ways 1 (some .int) 1 22 (fun E => [.ref (E.2.1 36)]) w w1 r := by
  refine Gi.of (hy := by decide +kernel) (hlen := fun _ => Nat.le_of_ble_eq_true rfl) (fun X hX hE => ?_)
  · unfold F_X6_ways at h
    refine (show Wa X w 0 [(0, .ref (Ad X 36))] [] from ?_)
    refine wa_iconst hX 1 ki_1 dX6_ways_0 ?_
    refine wa_iconst hX 3 ki_3 dX6_ways_1 ?_
    refine wa_aload_n hX 0 rfl rfl dX6_ways_2 ?_
    obtain ⟨x1, h2, h⟩ := obind h
    refine wa_callVi hX (m_X6_marks h2) cx_X6_marks ml_X6_109 (As := []) (rest := [.int 3, .int 1]) 36 (ce_model _ _) rfl rfl rfl rfl ⟨Nat.le_of_ble_eq_true rfl, Nat.le_of_ble_eq_true rfl⟩ (Nat.le_of_ble_eq_true rfl) dX6_ways_3 ?_
    refine wa_imul hX dX6_ways_6 ?_
    refine wa_ishl hX dX6_ways_7 ?_
    exact ret_i hE h dX6_ways_8
set_option maxRecDepth 100000 in
set_option maxHeartbeats 4000000 in
theorem t_X6_fills_149 {X : Fx} (hX : Cx X cX6_fills RX6 6 1 26) {r : Int32} {w1 : Wd} (hE : ∀ pc lv, decode cX6_fills pc = .ok (.ireturn, 1) → narrow .boolean (.int r) = .int r → Wa X w1 pc lv [.int r])  {w : Wd} {v4 : Int32} (h : F_X6_fills_149 w v4 = some (r, w1)) : Wa X w 149 [(4, .int v4)] [] := by
  unfold F_X6_fills_149 at h
  refine wa_iload hX 0 rfl dX6_fills_149 ?_
  obtain ⟨hg, h⟩ := gu_some h
  exact ret_z hE h (isB_or hg) dX6_fills_151
set_option maxRecDepth 100000 in
set_option maxHeartbeats 4000000 in
theorem t_X6_fills_141 {X : Fx} (hX : Cx X cX6_fills RX6 6 1 26) {r : Int32} {w1 : Wd} (hE : ∀ pc lv, decode cX6_fills pc = .ok (.ireturn, 1) → narrow .boolean (.int r) = .int r → Wa X w1 pc lv [.int r]) {k83 : Wd × Int32 × Int32 → Option (Int32 × Wd)} (hk83 : ∀ a, k83 a = some (r, w1) → Wa X a.1 83 [(0, .ref (Ad X 36)), (4, .int a.2.1), (5, .int a.2.2)] []) {w : Wd} {v5 : Int32} {s0 : Int32} (h : F_X6_fills_141 k83 w v5 s0 = some (r, w1)) : Wa X w 141 [(0, .ref (Ad X 36)), (5, .int v5)] [.int s0] := by
  unfold F_X6_fills_141 at h
  refine wa_istore hX (lv2 := [(4, .int s0), (0, .ref (Ad X 36)), (5, .int v5)]) (by decide) rfl dX6_fills_141 ?_
  refine wa_iinc hX (v := (v5 + 1)) (lv2 := [(5, .int (v5 + 1)), (4, .int s0), (0, .ref (Ad X 36))]) 2 rfl rfl (by decide) rfl dX6_fills_143 ?_
  refine wa_goto hX 83 (by decide) dX6_fills_146 ?_
  refine wa_sub (lv2 := [(0, .ref (Ad X 36)), (4, .int s0), (5, .int (v5 + 1))]) [2, 1, 0] rfl ?_
  exact hk83 _ h
set_option maxRecDepth 100000 in
set_option maxHeartbeats 4000000 in
theorem t_X6_fills_140 {X : Fx} (hX : Cx X cX6_fills RX6 6 1 26) {r : Int32} {w1 : Wd} (hE : ∀ pc lv, decode cX6_fills pc = .ok (.ireturn, 1) → narrow .boolean (.int r) = .int r → Wa X w1 pc lv [.int r]) {k83 : Wd × Int32 × Int32 → Option (Int32 × Wd)} (hk83 : ∀ a, k83 a = some (r, w1) → Wa X a.1 83 [(0, .ref (Ad X 36)), (4, .int a.2.1), (5, .int a.2.2)] []) {w : Wd} {v5 : Int32} (h : F_X6_fills_140 k83 w v5 = some (r, w1)) : Wa X w 140 [(0, .ref (Ad X 36)), (5, .int v5)] [] := by
  unfold F_X6_fills_140 at h
  refine wa_iconst hX 0 ki_0 dX6_fills_140 ?_
  exact t_X6_fills_141 hX hE hk83 h
set_option maxRecDepth 100000 in
set_option maxHeartbeats 4000000 in
theorem t_X6_fills_83 {X : Fx} (hX : Cx X cX6_fills RX6 6 1 26) {r : Int32} {w1 : Wd} (hE : ∀ pc lv, decode cX6_fills pc = .ok (.ireturn, 1) → narrow .boolean (.int r) = .int r → Wa X w1 pc lv [.int r])  : ∀ (n : Nat) (a : Wd × Int32 × Int32), L_X6_fills_83  n a = some (r, w1) → Wa X a.1 83 [(0, .ref (Ad X 36)), (4, .int a.2.1), (5, .int a.2.2)] [] := by
  refine it_mach (P := fun (a : Wd × Int32 × Int32) => Wa X a.1 83 [(0, .ref (Ad X 36)), (4, .int a.2.1), (5, .int a.2.2)] []) ?_
  intro k83 hk83 a h
  obtain ⟨w, v4, v5⟩ := a
  have h : F_X6_fills_83 k83 w v4 v5 = some (r, w1) := h
  show Wa X w 83 [(0, .ref (Ad X 36)), (4, .int v4), (5, .int v5)] []
  unfold F_X6_fills_83 at h
  refine wa_iload hX 2 rfl dX6_fills_83 ?_
  refine wa_aload_n hX 0 rfl rfl dX6_fills_85 ?_
  refine wg_model_sights hX fl_X6_190 dX6_fills_86 ?_
  refine wa_icmp_ge hX 149 (by decide) dX6_fills_89 (fun c => ?_) (fun c => ?_)
  · replace h := itp c h
    refine wa_sub (lv2 := [(4, .int v4)]) [1] rfl ?_
    exact t_X6_fills_149 hX hE  h
  · replace h := itn c h
    refine wa_iload hX 1 rfl dX6_fills_92 ?_
    refine wa_if_eq hX 149 (by decide) dX6_fills_94 (fun c => ?_) (fun c => ?_)
    · replace h := itp c h
      refine wa_sub (lv2 := [(4, .int v4)]) [1] rfl ?_
      exact t_X6_fills_149 hX hE  h
    · replace h := itn c h
      refine wa_aload_n hX 0 rfl rfl dX6_fills_97 ?_
      refine wg_model_sightLine hX fl_X6_16 dX6_fills_98 ?_
      refine wa_iload hX 2 rfl dX6_fills_101 ?_
      obtain ⟨hg, h⟩ := gu_some h
      refine wl_model_sightLine hX hg dX6_fills_103 ?_
      refine wa_aload_n hX 0 rfl rfl dX6_fills_104 ?_
      refine wg_model_lines hX fl_X6_93 dX6_fills_105 ?_
      refine wa_icmp_ge hX 140 (by decide) dX6_fills_108 (fun c => ?_) (fun c => ?_)
      · replace h := itp c h
        refine wa_sub (lv2 := [(0, .ref (Ad X 36)), (5, .int v5)]) [0, 2] rfl ?_
        exact t_X6_fills_140 hX hE hk83 h
      · replace h := itn c h
        refine wa_aload_n hX 0 rfl rfl dX6_fills_111 ?_
        refine wg_model_on hX fl_X6_28 dX6_fills_112 ?_
        refine wa_aload_n hX 0 rfl rfl dX6_fills_115 ?_
        refine wg_model_sightLine hX fl_X6_16 dX6_fills_116 ?_
        refine wa_iload hX 2 rfl dX6_fills_119 ?_
        obtain ⟨hg, h⟩ := gu_some h
        refine wl_model_sightLine hX hg dX6_fills_121 ?_
        obtain ⟨hg, h⟩ := gu_some h
        refine wl_model_on hX hg dX6_fills_122 ?_
        obtain ⟨x4, h2, h⟩ := obind h
        refine wa_callSi hX (m_X6_ones h2) cx_X6_ones ml_X6_119 (As := [.int (w.2.1 43 (w.2.1 39 v5.toNatClampNeg).toNatClampNeg)]) (rest := []) rfl rfl rfl ⟨Nat.le_of_ble_eq_true rfl, Nat.le_of_ble_eq_true rfl⟩ (Nat.le_of_ble_eq_true rfl) dX6_fills_123 ?_
        refine wa_aload_n hX 0 rfl rfl dX6_fills_126 ?_
        refine wg_model_sightMany hX fl_X6_19 dX6_fills_127 ?_
        refine wa_iload hX 2 rfl dX6_fills_130 ?_
        obtain ⟨hg, h⟩ := gu_some h
        refine wl_model_sightMany hX hg dX6_fills_132 ?_
        have hJ : Wa X x4.2 141 [(0, .ref (Ad X 36)), (5, .int v5)] [.int (if x4.1 = (x4.2.2.1 40 v5.toNatClampNeg) then (1 : Int32) else 0)] := by
          refine wa_let h (fun y5 h => ?_)
          refine wa_istore hX (lv2 := [(4, .int y5), (0, .ref (Ad X 36)), (5, .int v5)]) (by decide) rfl dX6_fills_141 ?_
          refine wa_iinc hX (v := (v5 + 1)) (lv2 := [(5, .int (v5 + 1)), (4, .int y5), (0, .ref (Ad X 36))]) 2 rfl rfl (by decide) rfl dX6_fills_143 ?_
          refine wa_goto hX 83 (by decide) dX6_fills_146 ?_
          refine wa_sub (lv2 := [(0, .ref (Ad X 36)), (4, .int y5), (5, .int (v5 + 1))]) [2, 1, 0] rfl ?_
          exact hk83 _ h
        refine wa_icmp_ne hX 140 (by decide) dX6_fills_133 (fun c => ?_) (fun c => ?_)
        · refine wa_iconst hX 0 ki_0 dX6_fills_140 ?_
          refine wa_sub (lv2 := [(0, .ref (Ad X 36)), (5, .int v5)]) [0, 2] rfl ?_
          rw [show (if x4.1 = (x4.2.2.1 40 v5.toNatClampNeg) then (1 : Int32) else 0) = 0 from if_neg c] at hJ
          exact hJ
        · refine wa_iconst hX 1 ki_1 dX6_fills_136 ?_
          refine wa_goto hX 141 (by decide) dX6_fills_137 ?_
          refine wa_sub (lv2 := [(0, .ref (Ad X 36)), (5, .int v5)]) [0, 2] rfl ?_
          rw [show (if x4.1 = (x4.2.2.1 40 v5.toNatClampNeg) then (1 : Int32) else 0) = 1 from if_pos c] at hJ
          exact hJ
set_option maxRecDepth 100000 in
set_option maxHeartbeats 4000000 in
theorem t_X6_fills_68 {X : Fx} (hX : Cx X cX6_fills RX6 6 1 26) {r : Int32} {w1 : Wd} (hE : ∀ pc lv, decode cX6_fills pc = .ok (.ireturn, 1) → narrow .boolean (.int r) = .int r → Wa X w1 pc lv [.int r]) {k19 : Wd × Int32 × Int32 × Int32 → Option (Int32 × Wd)} (hk19 : ∀ a, k19 a = some (r, w1) → Wa X a.1 19 [(0, .ref (Ad X 36)), (2, .int a.2.1), (3, .int a.2.2.1), (4, .int a.2.2.2)] []) {w : Wd} {v2 : Int32} {v3 : Int32} {v4 : Int32} (h : F_X6_fills_68 k19 w v2 v3 v4 = some (r, w1)) : Wa X w 68 [(0, .ref (Ad X 36)), (2, .int v2), (3, .int v3), (4, .int v4)] [] := by
  unfold F_X6_fills_68 at h
  refine wa_iinc hX (v := (v4 + (-1))) (lv2 := [(4, .int (v4 + (-1))), (0, .ref (Ad X 36)), (2, .int v2), (3, .int v3)]) 3 rfl (by rw [ki_m1]) (by decide) rfl dX6_fills_68 ?_
  refine wa_goto hX 19 (by decide) dX6_fills_71 ?_
  refine wa_sub (lv2 := [(0, .ref (Ad X 36)), (2, .int v2), (3, .int v3), (4, .int (v4 + (-1)))]) [1, 2, 3, 0] rfl ?_
  exact hk19 _ h
set_option maxRecDepth 100000 in
set_option maxHeartbeats 4000000 in
theorem t_X6_fills_19 {X : Fx} (hX : Cx X cX6_fills RX6 6 1 26) {r : Int32} {w1 : Wd} (hE : ∀ pc lv, decode cX6_fills pc = .ok (.ireturn, 1) → narrow .boolean (.int r) = .int r → Wa X w1 pc lv [.int r])  : ∀ (n : Nat) (a : Wd × Int32 × Int32 × Int32), L_X6_fills_19  n a = some (r, w1) → Wa X a.1 19 [(0, .ref (Ad X 36)), (2, .int a.2.1), (3, .int a.2.2.1), (4, .int a.2.2.2)] [] := by
  refine it_mach (P := fun (a : Wd × Int32 × Int32 × Int32) => Wa X a.1 19 [(0, .ref (Ad X 36)), (2, .int a.2.1), (3, .int a.2.2.1), (4, .int a.2.2.2)] []) ?_
  intro k19 hk19 a h
  obtain ⟨w, v2, v3, v4⟩ := a
  have h : F_X6_fills_19 k19 w v2 v3 v4 = some (r, w1) := h
  show Wa X w 19 [(0, .ref (Ad X 36)), (2, .int v2), (3, .int v3), (4, .int v4)] []
  unfold F_X6_fills_19 at h
  refine wa_iload hX 3 rfl dX6_fills_19 ?_
  refine wa_if_lt hX 74 (by decide) dX6_fills_21 (fun c => ?_) (fun c => ?_)
  · replace h := itp c h
    refine wa_aload_n hX 0 rfl rfl dX6_fills_74 ?_
    obtain ⟨x3, h2, h⟩ := obind h
    refine wa_callVi hX (m_X6_go h2) cx_X6_go ml_X6_115 (As := []) (rest := []) 36 (ce_model _ _) rfl rfl rfl rfl ⟨Nat.le_of_ble_eq_true rfl, Nat.le_of_ble_eq_true rfl⟩ (Nat.le_of_ble_eq_true rfl) dX6_fills_75 ?_
    refine wa_istore hX (lv2 := [(4, .int x3.1), (0, .ref (Ad X 36)), (2, .int v2), (3, .int v3)]) (by decide) rfl dX6_fills_78 ?_
    refine wa_iconst hX 0 ki_0 dX6_fills_80 ?_
    refine wa_istore hX (lv2 := [(5, .int 0), (4, .int x3.1), (0, .ref (Ad X 36)), (2, .int v2), (3, .int v3)]) (by decide) rfl dX6_fills_81 ?_
    refine wa_sub (lv2 := [(0, .ref (Ad X 36)), (4, .int x3.1), (5, .int 0)]) [2, 1, 0] rfl ?_
    exact t_X6_fills_83 hX hE  _ _ h
  · replace h := itn c h
    refine wa_aload_n hX 0 rfl rfl dX6_fills_24 ?_
    refine wg_model_pad hX fl_X6_22 dX6_fills_25 ?_
    refine wa_iload hX 3 rfl dX6_fills_28 ?_
    obtain ⟨hg, h⟩ := gu_some h
    refine wl_model_pad hX hg dX6_fills_30 ?_
    refine wa_bipush hX 63 kb_63 dX6_fills_31 ?_
    refine wa_icmp_ne hX 68 (by decide) dX6_fills_33 (fun c => ?_) (fun c => ?_)
    · replace h := itn c h
      exact t_X6_fills_68 hX hE hk19 h
    · replace h := itp c h
      refine wa_iinc hX (v := (v3 + (-1))) (lv2 := [(3, .int (v3 + (-1))), (0, .ref (Ad X 36)), (2, .int v2), (4, .int v4)]) 2 rfl (by rw [ki_m1]) (by decide) rfl dX6_fills_36 ?_
      refine wa_aload_n hX 1 rfl rfl dX6_fills_39 ?_
      refine wg_model_event hX fl_X6_25 dX6_fills_40 ?_
      refine wa_iload hX 3 rfl dX6_fills_43 ?_
      refine wa_iload_n hX 2 rfl rfl dX6_fills_45 ?_
      refine wa_bipush hX 8 kb_8 dX6_fills_46 ?_
      refine wa_irem hX (by decide) dX6_fills_48 ?_
      obtain ⟨hg, h⟩ := gu_some h
      refine ws_model_event hX hg dX6_fills_49 ?_
      refine wa_aload_n hX 1 rfl rfl dX6_fills_50 ?_
      refine wg_model_filler hX fl_X6_46 dX6_fills_51 ?_
      refine wa_iload_n hX 0 rfl rfl dX6_fills_54 ?_
      refine wa_aload_n hX 1 rfl rfl dX6_fills_55 ?_
      refine wg_model_event hX fl_X6_25 dX6_fills_56 ?_
      refine wa_iload hX 3 rfl dX6_fills_59 ?_
      obtain ⟨hg, h⟩ := gu_some h
      refine wl_model_event hX hg dX6_fills_61 ?_
      obtain ⟨hg, h⟩ := gu_some h
      refine ws_model_filler hX hg dX6_fills_62 ?_
      refine wa_iload_n hX 2 rfl rfl dX6_fills_63 ?_
      refine wa_bipush hX 8 kb_8 dX6_fills_64 ?_
      refine wa_idiv hX (by decide) dX6_fills_66 ?_
      refine wa_istore_n hX (lv2 := [(2, .int (v2 / 8)), (3, .int (v3 + (-1))), (0, .ref (Ad X 36)), (4, .int v4)]) rfl (by decide) rfl dX6_fills_67 ?_
      refine wa_sub (lv2 := [(0, .ref (Ad X 36)), (2, .int (v2 / 8)), (3, .int (v3 + (-1))), (4, .int v4)]) [2, 0, 1, 3] rfl ?_
      exact t_X6_fills_68 hX hE hk19 h
set_option maxRecDepth 100000 in
set_option maxHeartbeats 4000000 in
theorem m_X6_fills {w w1 : Wd} {p1 : Int32} {r : Int32} (h : F_X6_fills w p1 = some (r, w1)) : Gi yX6_fills cX6_fills 6 (some .boolean) 1 26 (fun E => [.ref (E.2.1 36), .int p1]) w w1 r := by
  refine Gi.of (hy := by decide +kernel) (hlen := fun _ => Nat.le_of_ble_eq_true rfl) (fun X hX hE => ?_)
  · unfold F_X6_fills at h
    refine (show Wa X w 0 [(0, .ref (Ad X 36)), (1, .int p1)] [] from ?_)
    refine wa_aload_n hX 0 rfl rfl dX6_fills_0 ?_
    obtain ⟨x1, h2, h⟩ := obind h
    refine wa_callVv hX (m_X6_layEvents h2) cx_X6_layEvents ml_X6_112 (As := []) (rest := []) 36 (ce_model _ _) rfl rfl rfl rfl ⟨Nat.le_of_ble_eq_true rfl, Nat.le_of_ble_eq_true rfl⟩ (Nat.le_of_ble_eq_true rfl) dX6_fills_1 ?_
    refine wa_iload_n hX 1 rfl rfl dX6_fills_4 ?_
    refine wa_istore_n hX (lv2 := [(2, .int p1), (0, .ref (Ad X 36)), (1, .int p1)]) rfl (by decide) rfl dX6_fills_5 ?_
    refine wa_aload_n hX 1 rfl rfl dX6_fills_6 ?_
    obtain ⟨x2, h2, h⟩ := obind h
    refine wa_callVi hX (m_X6_marks h2) cx_X6_marks ml_X6_109 (As := []) (rest := []) 36 (ce_model _ _) rfl rfl rfl rfl ⟨Nat.le_of_ble_eq_true rfl, Nat.le_of_ble_eq_true rfl⟩ (Nat.le_of_ble_eq_true rfl) dX6_fills_7 ?_
    refine wa_istore_n hX (lv2 := [(3, .int x2.1), (2, .int p1), (0, .ref (Ad X 36)), (1, .int p1)]) rfl (by decide) rfl dX6_fills_10 ?_
    refine wa_aload_n hX 2 rfl rfl dX6_fills_11 ?_
    refine wg_model_padMany hX fl_X6_82 dX6_fills_12 ?_
    refine wa_iconst hX 1 ki_1 dX6_fills_15 ?_
    refine wa_isub hX dX6_fills_16 ?_
    refine wa_istore hX (lv2 := [(4, .int (x2.2.1 34 - 1)), (3, .int x2.1), (2, .int p1), (0, .ref (Ad X 36)), (1, .int p1)]) (by decide) rfl dX6_fills_17 ?_
    refine wa_sub (lv2 := [(0, .ref (Ad X 36)), (2, .int p1), (3, .int x2.1), (4, .int (x2.2.1 34 - 1))]) [3, 2, 1, 0] rfl ?_
    exact t_X6_fills_19 hX hE  _ _ h
set_option maxRecDepth 100000 in
set_option maxHeartbeats 4000000 in
theorem t_X6_fits_71 {X : Fx} (hX : Cx X cX6_fits RX6 5 2 51) {r : Int32} {w1 : Wd} (hE : ∀ pc lv, decode cX6_fits pc = .ok (.ireturn, 1) → narrow .int (.int r) = .int r → Wa X w1 pc lv [.int r]) {k20 : Wd × Int32 × Int32 × Int32 × Int32 → Option (Int32 × Wd)} (hk20 : ∀ a, k20 a = some (r, w1) → Wa X a.1 20 [(0, .ref (Ad X 36)), (1, .int a.2.1), (2, .int a.2.2.1), (3, .int a.2.2.2.1), (4, .int a.2.2.2.2)] []) {w : Wd} {v1 : Int32} {v2 : Int32} {v3 : Int32} {v4 : Int32} (h : F_X6_fits_71 k20 w v1 v2 v3 v4 = some (r, w1)) : Wa X w 71 [(0, .ref (Ad X 36)), (1, .int v1), (2, .int v2), (3, .int v3), (4, .int v4)] [] := by
  unfold F_X6_fits_71 at h
  refine wa_iinc hX (v := (v4 + 1)) (lv2 := [(4, .int (v4 + 1)), (0, .ref (Ad X 36)), (1, .int v1), (2, .int v2), (3, .int v3)]) 4 rfl rfl (by decide) rfl dX6_fits_71 ?_
  refine wa_goto hX 20 (by decide) dX6_fits_74 ?_
  refine wa_sub (lv2 := [(0, .ref (Ad X 36)), (1, .int v1), (2, .int v2), (3, .int v3), (4, .int (v4 + 1))]) [1, 2, 3, 4, 0] rfl ?_
  exact hk20 _ h
set_option maxRecDepth 100000 in
set_option maxHeartbeats 4000000 in
theorem t_X6_fits_67 {X : Fx} (hX : Cx X cX6_fits RX6 5 2 51) {r : Int32} {w1 : Wd} (hE : ∀ pc lv, decode cX6_fits pc = .ok (.ireturn, 1) → narrow .int (.int r) = .int r → Wa X w1 pc lv [.int r])  {w : Wd} {s0 : Int32} (h : F_X6_fits_67 w s0 = some (r, w1)) : Wa X w 67 [] [.int s0] := by
  unfold F_X6_fits_67 at h
  exact ret_i hE h dX6_fits_67
set_option maxRecDepth 100000 in
set_option maxHeartbeats 4000000 in
theorem t_X6_fits_20 {X : Fx} (hX : Cx X cX6_fits RX6 5 2 51) {r : Int32} {w1 : Wd} (hE : ∀ pc lv, decode cX6_fits pc = .ok (.ireturn, 1) → narrow .int (.int r) = .int r → Wa X w1 pc lv [.int r])  : ∀ (n : Nat) (a : Wd × Int32 × Int32 × Int32 × Int32), L_X6_fits_20  n a = some (r, w1) → Wa X a.1 20 [(0, .ref (Ad X 36)), (1, .int a.2.1), (2, .int a.2.2.1), (3, .int a.2.2.2.1), (4, .int a.2.2.2.2)] [] := by
  refine it_mach (P := fun (a : Wd × Int32 × Int32 × Int32 × Int32) => Wa X a.1 20 [(0, .ref (Ad X 36)), (1, .int a.2.1), (2, .int a.2.2.1), (3, .int a.2.2.2.1), (4, .int a.2.2.2.2)] []) ?_
  intro k20 hk20 a h
  obtain ⟨w, v1, v2, v3, v4⟩ := a
  have h : F_X6_fits_20 k20 w v1 v2 v3 v4 = some (r, w1) := h
  show Wa X w 20 [(0, .ref (Ad X 36)), (1, .int v1), (2, .int v2), (3, .int v3), (4, .int v4)] []
  unfold F_X6_fits_20 at h
  refine wa_iload hX 4 rfl dX6_fits_20 ?_
  refine wa_iload_n hX 3 rfl rfl dX6_fits_22 ?_
  refine wa_icmp_ge hX 77 (by decide) dX6_fits_23 (fun c => ?_) (fun c => ?_)
  · replace h := itp c h
    refine wa_iload_n hX 1 rfl rfl dX6_fits_77 ?_
    refine wa_iconst hX (-1) ki_m1 dX6_fits_78 ?_
    have hJ : Wa X w 88 [] [.int (if v1 = (-1) then v2 else (-6))] := by
      exact ret_i hE h dX6_fits_88
    refine wa_icmp_ne hX 86 (by decide) dX6_fits_79 (fun c => ?_) (fun c => ?_)
    · refine wa_bipush hX (-6) kb_m6 dX6_fits_86 ?_
      refine wa_sub (lv2 := []) [] rfl ?_
      rw [show (if v1 = (-1) then v2 else (-6)) = (-6) from if_neg c] at hJ
      exact hJ
    · refine wa_iload_n hX 2 rfl rfl dX6_fits_82 ?_
      refine wa_goto hX 88 (by decide) dX6_fits_83 ?_
      refine wa_sub (lv2 := []) [] rfl ?_
      rw [show (if v1 = (-1) then v2 else (-6)) = v2 from if_pos c] at hJ
      exact hJ
  · replace h := itn c h
    refine wa_aload_n hX 0 rfl rfl dX6_fits_26 ?_
    refine wa_iload hX 4 rfl dX6_fits_27 ?_
    obtain ⟨x3, h2, h⟩ := obind h
    refine wa_callVi hX (m_X6_fills h2) cx_X6_fills ml_X6_196 (As := [.int v4]) (rest := []) 36 (ce_model _ _) rfl rfl rfl rfl ⟨Nat.le_of_ble_eq_true rfl, Nat.le_of_ble_eq_true rfl⟩ (Nat.le_of_ble_eq_true rfl) dX6_fits_29 ?_
    refine wa_if_eq hX 71 (by decide) dX6_fits_32 (fun c => ?_) (fun c => ?_)
    · replace h := itp c h
      exact t_X6_fits_71 hX hE hk20 h
    · replace h := itn c h
      refine wa_iload_n hX 1 rfl rfl dX6_fits_35 ?_
      refine wa_iconst hX (-1) ki_m1 dX6_fits_36 ?_
      refine wa_icmp_eq hX 68 (by decide) dX6_fits_37 (fun c => ?_) (fun c => ?_)
      · replace h := itp c h
        refine wa_iinc hX (v := (v2 + 1)) (lv2 := [(2, .int (v2 + 1)), (0, .ref (Ad X 36)), (1, .int v1), (3, .int v3), (4, .int v4)]) 2 rfl rfl (by decide) rfl dX6_fits_68 ?_
        refine wa_sub (lv2 := [(0, .ref (Ad X 36)), (1, .int v1), (2, .int (v2 + 1)), (3, .int v3), (4, .int v4)]) [1, 2, 0, 3, 4] rfl ?_
        exact t_X6_fits_71 hX hE hk20 h
      · replace h := itn c h
        refine wa_iload_n hX 1 rfl rfl dX6_fits_40 ?_
        refine wa_i2l hX dX6_fits_41 ?_
        refine wa_lconst hX 0 rfl dX6_fits_42 ?_
        refine wa_aload_n hX 0 rfl rfl dX6_fits_43 ?_
        obtain ⟨x4, h2, h⟩ := obind h
        refine wa_callVi hX (m_X6_marks h2) cx_X6_marks ml_X6_109 (As := []) (rest := [.long 0, .long v1.toInt64]) 36 (ce_model _ _) rfl rfl rfl rfl ⟨Nat.le_of_ble_eq_true rfl, Nat.le_of_ble_eq_true rfl⟩ (Nat.le_of_ble_eq_true rfl) dX6_fits_44 ?_
        refine wa_iconst hX 1 ki_1 dX6_fits_47 ?_
        refine wa_isub hX dX6_fits_48 ?_
        refine wa_i2l hX dX6_fits_49 ?_
        obtain ⟨x5, h2, h⟩ := obind h
        refine wa_callSi hX (m_X6_in h2) cx_X6_in ml_X6_62 (As := [.long v1.toInt64, .long 0, .long ((x4.1 - 1).toInt64)]) (rest := []) rfl rfl rfl ⟨Nat.le_of_ble_eq_true rfl, Nat.le_of_ble_eq_true rfl⟩ (Nat.le_of_ble_eq_true rfl) dX6_fits_50 ?_
        refine wa_if_eq hX 65 (by decide) dX6_fits_53 (fun c => ?_) (fun c => ?_)
        · replace h := itp c h
          refine wa_bipush hX (-6) kb_m6 dX6_fits_65 ?_
          refine wa_sub (lv2 := []) [] rfl ?_
          exact t_X6_fits_67 hX hE  h
        · replace h := itn c h
          refine wa_aload_n hX 0 rfl rfl dX6_fits_56 ?_
          refine wg_model_filler hX fl_X6_46 dX6_fits_57 ?_
          refine wa_iload_n hX 1 rfl rfl dX6_fits_60 ?_
          obtain ⟨hg, h⟩ := gu_some h
          refine wl_model_filler hX hg dX6_fits_61 ?_
          refine wa_goto hX 67 (by decide) dX6_fits_62 ?_
          refine wa_sub (lv2 := []) [] rfl ?_
          exact t_X6_fits_67 hX hE  h
set_option maxRecDepth 100000 in
set_option maxHeartbeats 4000000 in
theorem m_X6_fits {w w1 : Wd} {p1 : Int32} {r : Int32} (h : F_X6_fits w p1 = some (r, w1)) : Gi yX6_fits cX6_fits 5 (some .int) 2 51 (fun E => [.ref (E.2.1 36), .int p1]) w w1 r := by
  refine Gi.of (hy := by decide +kernel) (hlen := fun _ => Nat.le_of_ble_eq_true rfl) (fun X hX hE => ?_)
  · unfold F_X6_fits at h
    refine (show Wa X w 0 [(0, .ref (Ad X 36)), (1, .int p1)] [] from ?_)
    refine wa_aload_n hX 0 rfl rfl dX6_fits_0 ?_
    obtain ⟨x1, h2, h⟩ := obind h
    refine wa_callVi hX (m_X6_fault h2) cx_X6_fault ml_X6_105 (As := []) (rest := []) 36 (ce_model _ _) rfl rfl rfl rfl ⟨Nat.le_of_ble_eq_true rfl, Nat.le_of_ble_eq_true rfl⟩ (Nat.le_of_ble_eq_true rfl) dX6_fits_1 ?_
    refine wa_if_lt hX 10 (by decide) dX6_fits_4 (fun c => ?_) (fun c => ?_)
    · replace h := itp c h
      refine wa_iconst hX 0 ki_0 dX6_fits_10 ?_
      refine wa_istore_n hX (lv2 := [(2, .int 0), (0, .ref (Ad X 36)), (1, .int p1)]) rfl (by decide) rfl dX6_fits_11 ?_
      refine wa_aload_n hX 1 rfl rfl dX6_fits_12 ?_
      obtain ⟨x2, h2, h⟩ := obind h
      refine wa_callVi hX (m_X6_ways h2) cx_X6_ways ml_X6_193 (As := []) (rest := []) 36 (ce_model _ _) rfl rfl rfl rfl ⟨Nat.le_of_ble_eq_true rfl, Nat.le_of_ble_eq_true rfl⟩ (Nat.le_of_ble_eq_true rfl) dX6_fits_13 ?_
      refine wa_istore_n hX (lv2 := [(3, .int x2.1), (2, .int 0), (0, .ref (Ad X 36)), (1, .int p1)]) rfl (by decide) rfl dX6_fits_16 ?_
      refine wa_iconst hX 0 ki_0 dX6_fits_17 ?_
      refine wa_istore hX (lv2 := [(4, .int 0), (3, .int x2.1), (2, .int 0), (0, .ref (Ad X 36)), (1, .int p1)]) (by decide) rfl dX6_fits_18 ?_
      refine wa_sub (lv2 := [(0, .ref (Ad X 36)), (1, .int p1), (2, .int 0), (3, .int x2.1), (4, .int 0)]) [3, 4, 2, 1, 0] rfl ?_
      exact t_X6_fits_20 hX hE  _ _ h
    · replace h := itn c h
      refine wa_bipush hX (-5) kb_m5 dX6_fits_7 ?_
      exact ret_i hE h dX6_fits_9
set_option maxRecDepth 100000 in
set_option maxHeartbeats 4000000 in
theorem t_X6_could_67 {X : Fx} (hX : Cx X cX6_could RX6 5 2 51) {r : Int32} {w1 : Wd} (hE : ∀ pc lv, decode cX6_could pc = .ok (.ireturn, 1) → narrow .int (.int r) = .int r → Wa X w1 pc lv [.int r]) {k39 : Wd × Int32 × Int32 × Int32 × Int32 → Option (Int32 × Wd)} (hk39 : ∀ a, k39 a = some (r, w1) → Wa X a.1 39 [(0, .ref (Ad X 36)), (1, .int a.2.1), (2, .int a.2.2.1), (3, .int a.2.2.2.1), (4, .int a.2.2.2.2)] []) {w : Wd} {v1 : Int32} {v3 : Int32} {v4 : Int32} {s0 : Int32} {s1 : Int32} (h : F_X6_could_67 k39 w v1 v3 v4 s0 s1 = some (r, w1)) : Wa X w 67 [(0, .ref (Ad X 36)), (1, .int v1), (3, .int v3), (4, .int v4)] [.int s0, .int s1] := by
  unfold F_X6_could_67 at h
  refine wa_ior hX dX6_could_67 ?_
  refine wa_istore_n hX (lv2 := [(2, .int (s1 ||| s0)), (0, .ref (Ad X 36)), (1, .int v1), (3, .int v3), (4, .int v4)]) rfl (by decide) rfl dX6_could_68 ?_
  refine wa_iinc hX (v := (v4 + 1)) (lv2 := [(4, .int (v4 + 1)), (2, .int (s1 ||| s0)), (0, .ref (Ad X 36)), (1, .int v1), (3, .int v3)]) 4 rfl rfl (by decide) rfl dX6_could_69 ?_
  refine wa_goto hX 39 (by decide) dX6_could_72 ?_
  refine wa_sub (lv2 := [(0, .ref (Ad X 36)), (1, .int v1), (2, .int (s1 ||| s0)), (3, .int v3), (4, .int (v4 + 1))]) [2, 3, 1, 4, 0] rfl ?_
  exact hk39 _ h
set_option maxRecDepth 100000 in
set_option maxHeartbeats 4000000 in
theorem t_X6_could_39 {X : Fx} (hX : Cx X cX6_could RX6 5 2 51) {r : Int32} {w1 : Wd} (hE : ∀ pc lv, decode cX6_could pc = .ok (.ireturn, 1) → narrow .int (.int r) = .int r → Wa X w1 pc lv [.int r])  : ∀ (n : Nat) (a : Wd × Int32 × Int32 × Int32 × Int32), L_X6_could_39  n a = some (r, w1) → Wa X a.1 39 [(0, .ref (Ad X 36)), (1, .int a.2.1), (2, .int a.2.2.1), (3, .int a.2.2.2.1), (4, .int a.2.2.2.2)] [] := by
  refine it_mach (P := fun (a : Wd × Int32 × Int32 × Int32 × Int32) => Wa X a.1 39 [(0, .ref (Ad X 36)), (1, .int a.2.1), (2, .int a.2.2.1), (3, .int a.2.2.2.1), (4, .int a.2.2.2.2)] []) ?_
  intro k39 hk39 a h
  obtain ⟨w, v1, v2, v3, v4⟩ := a
  have h : F_X6_could_39 k39 w v1 v2 v3 v4 = some (r, w1) := h
  show Wa X w 39 [(0, .ref (Ad X 36)), (1, .int v1), (2, .int v2), (3, .int v3), (4, .int v4)] []
  unfold F_X6_could_39 at h
  refine wa_iload hX 4 rfl dX6_could_39 ?_
  refine wa_iload_n hX 3 rfl rfl dX6_could_41 ?_
  refine wa_icmp_ge hX 75 (by decide) dX6_could_42 (fun c => ?_) (fun c => ?_)
  · replace h := itp c h
    refine wa_iload_n hX 2 rfl rfl dX6_could_75 ?_
    exact ret_i hE h dX6_could_76
  · replace h := itn c h
    refine wa_iload_n hX 2 rfl rfl dX6_could_45 ?_
    refine wa_aload_n hX 0 rfl rfl dX6_could_46 ?_
    refine wa_iload hX 4 rfl dX6_could_47 ?_
    obtain ⟨x5, h2, h⟩ := obind h
    refine wa_callVi hX (m_X6_fills h2) cx_X6_fills ml_X6_196 (As := [.int v4]) (rest := [.int v2]) 36 (ce_model _ _) rfl rfl rfl rfl ⟨Nat.le_of_ble_eq_true rfl, Nat.le_of_ble_eq_true rfl⟩ (Nat.le_of_ble_eq_true rfl) dX6_could_49 ?_
    refine wa_if_eq hX 66 (by decide) dX6_could_52 (fun c => ?_) (fun c => ?_)
    · replace h := itp c h
      refine wa_iconst hX 0 ki_0 dX6_could_66 ?_
      refine wa_sub (lv2 := [(0, .ref (Ad X 36)), (1, .int v1), (3, .int v3), (4, .int v4)]) [0, 1, 3, 4] rfl ?_
      exact t_X6_could_67 hX hE hk39 h
    · replace h := itn c h
      refine wa_iconst hX 1 ki_1 dX6_could_55 ?_
      refine wa_aload_n hX 0 rfl rfl dX6_could_56 ?_
      refine wg_model_filler hX fl_X6_46 dX6_could_57 ?_
      refine wa_iload_n hX 1 rfl rfl dX6_could_60 ?_
      obtain ⟨hg, h⟩ := gu_some h
      refine wl_model_filler hX hg dX6_could_61 ?_
      refine wa_ishl hX dX6_could_62 ?_
      refine wa_goto hX 67 (by decide) dX6_could_63 ?_
      refine wa_sub (lv2 := [(0, .ref (Ad X 36)), (1, .int v1), (3, .int v3), (4, .int v4)]) [0, 1, 3, 4] rfl ?_
      exact t_X6_could_67 hX hE hk39 h
set_option maxRecDepth 100000 in
set_option maxHeartbeats 4000000 in
theorem m_X6_could {w w1 : Wd} {p1 : Int32} {r : Int32} (h : F_X6_could w p1 = some (r, w1)) : Gi yX6_could cX6_could 5 (some .int) 2 51 (fun E => [.ref (E.2.1 36), .int p1]) w w1 r := by
  refine Gi.of (hy := by decide +kernel) (hlen := fun _ => Nat.le_of_ble_eq_true rfl) (fun X hX hE => ?_)
  · unfold F_X6_could at h
    refine (show Wa X w 0 [(0, .ref (Ad X 36)), (1, .int p1)] [] from ?_)
    refine wa_aload_n hX 0 rfl rfl dX6_could_0 ?_
    obtain ⟨x1, h2, h⟩ := obind h
    refine wa_callVi hX (m_X6_fault h2) cx_X6_fault ml_X6_105 (As := []) (rest := []) 36 (ce_model _ _) rfl rfl rfl rfl ⟨Nat.le_of_ble_eq_true rfl, Nat.le_of_ble_eq_true rfl⟩ (Nat.le_of_ble_eq_true rfl) dX6_could_1 ?_
    refine wa_if_lt hX 10 (by decide) dX6_could_4 (fun c => ?_) (fun c => ?_)
    · replace h := itp c h
      refine wa_iload_n hX 1 rfl rfl dX6_could_10 ?_
      refine wa_i2l hX dX6_could_11 ?_
      refine wa_lconst hX 0 rfl dX6_could_12 ?_
      refine wa_aload_n hX 0 rfl rfl dX6_could_13 ?_
      obtain ⟨x2, h2, h⟩ := obind h
      refine wa_callVi hX (m_X6_marks h2) cx_X6_marks ml_X6_109 (As := []) (rest := [.long 0, .long p1.toInt64]) 36 (ce_model _ _) rfl rfl rfl rfl ⟨Nat.le_of_ble_eq_true rfl, Nat.le_of_ble_eq_true rfl⟩ (Nat.le_of_ble_eq_true rfl) dX6_could_14 ?_
      refine wa_iconst hX 1 ki_1 dX6_could_17 ?_
      refine wa_isub hX dX6_could_18 ?_
      refine wa_i2l hX dX6_could_19 ?_
      obtain ⟨x3, h2, h⟩ := obind h
      refine wa_callSi hX (m_X6_in h2) cx_X6_in ml_X6_62 (As := [.long p1.toInt64, .long 0, .long ((x2.1 - 1).toInt64)]) (rest := []) rfl rfl rfl ⟨Nat.le_of_ble_eq_true rfl, Nat.le_of_ble_eq_true rfl⟩ (Nat.le_of_ble_eq_true rfl) dX6_could_20 ?_
      refine wa_if_ne hX 29 (by decide) dX6_could_23 (fun c => ?_) (fun c => ?_)
      · replace h := itn c h
        refine wa_iconst hX 0 ki_0 dX6_could_29 ?_
        refine wa_istore_n hX (lv2 := [(2, .int 0), (0, .ref (Ad X 36)), (1, .int p1)]) rfl (by decide) rfl dX6_could_30 ?_
        refine wa_aload_n hX 1 rfl rfl dX6_could_31 ?_
        obtain ⟨x4, h2, h⟩ := obind h
        refine wa_callVi hX (m_X6_ways h2) cx_X6_ways ml_X6_193 (As := []) (rest := []) 36 (ce_model _ _) rfl rfl rfl rfl ⟨Nat.le_of_ble_eq_true rfl, Nat.le_of_ble_eq_true rfl⟩ (Nat.le_of_ble_eq_true rfl) dX6_could_32 ?_
        refine wa_istore_n hX (lv2 := [(3, .int x4.1), (2, .int 0), (0, .ref (Ad X 36)), (1, .int p1)]) rfl (by decide) rfl dX6_could_35 ?_
        refine wa_iconst hX 0 ki_0 dX6_could_36 ?_
        refine wa_istore hX (lv2 := [(4, .int 0), (3, .int x4.1), (2, .int 0), (0, .ref (Ad X 36)), (1, .int p1)]) (by decide) rfl dX6_could_37 ?_
        refine wa_sub (lv2 := [(0, .ref (Ad X 36)), (1, .int p1), (2, .int 0), (3, .int x4.1), (4, .int 0)]) [3, 4, 2, 1, 0] rfl ?_
        exact t_X6_could_39 hX hE  _ _ h
      · replace h := itp c h
        refine wa_bipush hX (-6) kb_m6 dX6_could_26 ?_
        exact ret_i hE h dX6_could_28
    · replace h := itn c h
      refine wa_bipush hX (-5) kb_m5 dX6_could_7 ?_
      exact ret_i hE h dX6_could_9
set_option maxRecDepth 100000 in
set_option maxHeartbeats 4000000 in
theorem t_X6_evening_36 {X : Fx} (hX : Cx X cX6_evening RX6 11 1 25) {r : Int32} {w1 : Wd} (hE : ∀ pc lv, decode cX6_evening pc = .ok (.ireturn, 1) → narrow .int (.int r) = .int r → Wa X w1 pc lv [.int r])  {w : Wd} (h : F_X6_evening_36 w = some (r, w1)) : Wa X w 36 [] [] := by
  unfold F_X6_evening_36 at h
  refine wa_bipush hX (-2) kb_m2 dX6_evening_36 ?_
  exact ret_i hE h dX6_evening_38
set_option maxRecDepth 100000 in
set_option maxHeartbeats 4000000 in
theorem t_X6_evening_172 {X : Fx} (hX : Cx X cX6_evening RX6 11 1 25) {r : Int32} {w1 : Wd} (hE : ∀ pc lv, decode cX6_evening pc = .ok (.ireturn, 1) → narrow .int (.int r) = .int r → Wa X w1 pc lv [.int r])  {w : Wd} {s0 : Int32} (h : F_X6_evening_172 w s0 = some (r, w1)) : Wa X w 172 [] [.int s0] := by
  unfold F_X6_evening_172 at h
  exact ret_i hE h dX6_evening_172
set_option maxRecDepth 100000 in
set_option maxHeartbeats 4000000 in
theorem t_X6_evening_58 {X : Fx} (hX : Cx X cX6_evening RX6 11 1 25) {r : Int32} {w1 : Wd} (hE : ∀ pc lv, decode cX6_evening pc = .ok (.ireturn, 1) → narrow .int (.int r) = .int r → Wa X w1 pc lv [.int r])  : ∀ (n : Nat) (a : Wd × Int32 × Int32 × Int32 × Int32 × Int32 × Int32 × Int32 × Int32), L_X6_evening_58  n a = some (r, w1) → Wa X a.1 58 [(0, .ref (Ad X 36)), (2, .int a.2.1), (3, .int a.2.2.1), (4, .int a.2.2.2.1), (5, .int a.2.2.2.2.1), (6, .int a.2.2.2.2.2.1), (7, .int a.2.2.2.2.2.2.1), (8, .int a.2.2.2.2.2.2.2.1), (9, .int a.2.2.2.2.2.2.2.2)] [] := by
  refine it_mach (P := fun (a : Wd × Int32 × Int32 × Int32 × Int32 × Int32 × Int32 × Int32 × Int32) => Wa X a.1 58 [(0, .ref (Ad X 36)), (2, .int a.2.1), (3, .int a.2.2.1), (4, .int a.2.2.2.1), (5, .int a.2.2.2.2.1), (6, .int a.2.2.2.2.2.1), (7, .int a.2.2.2.2.2.2.1), (8, .int a.2.2.2.2.2.2.2.1), (9, .int a.2.2.2.2.2.2.2.2)] []) ?_
  intro k58 hk58 a h
  obtain ⟨w, v2, v3, v4, v5, v6, v7, v8, v9⟩ := a
  have h : F_X6_evening_58 k58 w v2 v3 v4 v5 v6 v7 v8 v9 = some (r, w1) := h
  show Wa X w 58 [(0, .ref (Ad X 36)), (2, .int v2), (3, .int v3), (4, .int v4), (5, .int v5), (6, .int v6), (7, .int v7), (8, .int v8), (9, .int v9)] []
  unfold F_X6_evening_58 at h
  refine wa_iload hX 8 rfl dX6_evening_58 ?_
  refine wa_iload_n hX 1 rfl rfl dX6_evening_60 ?_
  refine wa_icmp_ge hX 148 (by decide) dX6_evening_61 (fun c => ?_) (fun c => ?_)
  · replace h := itp c h
    refine wa_iload_n hX 2 rfl rfl dX6_evening_148 ?_
    refine wa_if_ne hX 157 (by decide) dX6_evening_149 (fun c => ?_) (fun c => ?_)
    · replace h := itn c h
      refine wa_iload_n hX 2 rfl rfl dX6_evening_157 ?_
      refine wa_iconst hX 1 ki_1 dX6_evening_158 ?_
      refine wa_icmp_ne hX 170 (by decide) dX6_evening_159 (fun c => ?_) (fun c => ?_)
      · replace h := itn c h
        refine wa_iload hX 6 rfl dX6_evening_170 ?_
        refine wa_sub (lv2 := []) [] rfl ?_
        exact t_X6_evening_172 hX hE  h
      · replace h := itp c h
        refine wa_iload hX 4 rfl dX6_evening_162 ?_
        obtain ⟨x4, h2, h⟩ := obind h
        refine wa_callSi hX (m_X6_ones h2) cx_X6_ones ml_X6_119 (As := [.int v5]) (rest := []) rfl rfl rfl ⟨Nat.le_of_ble_eq_true rfl, Nat.le_of_ble_eq_true rfl⟩ (Nat.le_of_ble_eq_true rfl) dX6_evening_164 ?_
        refine wa_goto hX 172 (by decide) dX6_evening_167 ?_
        refine wa_sub (lv2 := []) [] rfl ?_
        exact t_X6_evening_172 hX hE  h
    · replace h := itp c h
      refine wa_iload hX 5 rfl dX6_evening_152 ?_
      refine wa_goto hX 172 (by decide) dX6_evening_154 ?_
      refine wa_sub (lv2 := []) [] rfl ?_
      exact t_X6_evening_172 hX hE  h
  · replace h := itn c h
    refine wa_ldc2 hX kc_X6_203 dX6_evening_64 ?_
    refine wa_iload hX 3 rfl dX6_evening_67 ?_
    refine wa_i2l hX dX6_evening_69 ?_
    refine wa_lmul hX dX6_evening_70 ?_
    refine wa_ldc2 hX kc_X6_205 dX6_evening_71 ?_
    refine wa_ladd hX dX6_evening_74 ?_
    refine wa_ldc2 hX kc_X6_207 dX6_evening_75 ?_
    refine wa_lrem hX (by decide) dX6_evening_78 ?_
    refine wa_l2i hX dX6_evening_79 ?_
    refine wa_let h (fun y5 h => ?_)
    refine wa_istore hX (lv2 := [(4, .int y5), (0, .ref (Ad X 36)), (2, .int v2), (3, .int v3), (5, .int v5), (6, .int v6), (7, .int v7), (8, .int v8), (9, .int v9)]) (by decide) rfl dX6_evening_80 ?_
    refine wa_iload hX 4 rfl dX6_evening_82 ?_
    refine wa_iconst hX 1 ki_1 dX6_evening_84 ?_
    refine wa_iload hX 0 rfl dX6_evening_85 ?_
    refine wa_bipush hX 8 kb_8 dX6_evening_87 ?_
    refine wa_irem hX (by decide) dX6_evening_89 ?_
    refine wa_ishl hX dX6_evening_90 ?_
    refine wa_ixor hX dX6_evening_91 ?_
    refine wa_let h (fun y6 h => ?_)
    refine wa_istore hX (lv2 := [(5, .int y6), (4, .int y5), (0, .ref (Ad X 36)), (2, .int v2), (3, .int v3), (6, .int v6), (7, .int v7), (8, .int v8), (9, .int v9)]) (by decide) rfl dX6_evening_92 ?_
    refine wa_iload hX 0 rfl dX6_evening_94 ?_
    obtain ⟨x7, h2, h⟩ := obind h
    refine wa_callSi hX (m_X6_ones h2) cx_X6_ones ml_X6_119 (As := [.int y6]) (rest := []) rfl rfl rfl ⟨Nat.le_of_ble_eq_true rfl, Nat.le_of_ble_eq_true rfl⟩ (Nat.le_of_ble_eq_true rfl) dX6_evening_96 ?_
    refine wa_istore hX (lv2 := [(10, .int x7.1), (5, .int y6), (4, .int y5), (0, .ref (Ad X 36)), (2, .int v2), (3, .int v3), (6, .int v6), (7, .int v7), (8, .int v8), (9, .int v9)]) (by decide) rfl dX6_evening_99 ?_
    refine wa_iload hX 6 rfl dX6_evening_101 ?_
    refine wa_aload_n hX 3 rfl rfl dX6_evening_103 ?_
    refine wa_iload hX 0 rfl dX6_evening_104 ?_
    refine wa_iload hX 8 rfl dX6_evening_106 ?_
    obtain ⟨x8, h2, h⟩ := obind h
    refine wa_callVi hX (m_X6_holds h2) cx_X6_holds ml_X6_123 (As := [.int x7.1, .int v8]) (rest := [.int v6]) 36 (ce_model _ _) rfl rfl rfl rfl ⟨Nat.le_of_ble_eq_true rfl, Nat.le_of_ble_eq_true rfl⟩ (Nat.le_of_ble_eq_true rfl) dX6_evening_108 ?_
    have hJ : Wa X x8.2 119 [(0, .ref (Ad X 36)), (2, .int v2), (3, .int v3), (4, .int y5), (5, .int y6), (7, .int v7), (9, .int v9), (10, .int x7.1)] [.int (if x8.1 = 0 then (0 : Int32) else 1), .int v6] := by
      refine wa_iadd hX dX6_evening_119 ?_
      refine wa_let h (fun y9 h => ?_)
      refine wa_istore hX (lv2 := [(6, .int y9), (0, .ref (Ad X 36)), (2, .int v2), (3, .int v3), (4, .int y5), (5, .int y6), (7, .int v7), (9, .int v9), (10, .int x7.1)]) (by decide) rfl dX6_evening_120 ?_
      refine wa_iload hX 8 rfl dX6_evening_122 ?_
      refine wa_iload hX 6 rfl dX6_evening_124 ?_
      have hJ : Wa X x8.2 136 [(0, .ref (Ad X 36)), (2, .int v2), (3, .int v3), (4, .int y5), (5, .int y6), (6, .int y9), (9, .int v9), (10, .int x7.1)] [.int (if x7.1 ≤ v7 then v7 else x7.1)] := by
        refine wa_istore hX (lv2 := [(7, .int (if x7.1 ≤ v7 then v7 else x7.1)), (0, .ref (Ad X 36)), (2, .int v2), (3, .int v3), (4, .int y5), (5, .int y6), (6, .int y9), (9, .int v9), (10, .int x7.1)]) (by decide) rfl dX6_evening_136 ?_
        refine wa_iload hX 8 rfl dX6_evening_138 ?_
        refine wa_istore hX (lv2 := [(8, .int x7.1), (7, .int (if x7.1 ≤ v7 then v7 else x7.1)), (0, .ref (Ad X 36)), (2, .int v2), (3, .int v3), (4, .int y5), (5, .int y6), (6, .int y9), (9, .int v9), (10, .int x7.1)]) (by decide) rfl dX6_evening_140 ?_
        refine wa_iinc hX (v := (v9 + 1)) (lv2 := [(9, .int (v9 + 1)), (8, .int x7.1), (7, .int (if x7.1 ≤ v7 then v7 else x7.1)), (0, .ref (Ad X 36)), (2, .int v2), (3, .int v3), (4, .int y5), (5, .int y6), (6, .int y9), (10, .int x7.1)]) 8 rfl rfl (by decide) rfl dX6_evening_142 ?_
        refine wa_goto hX 58 (by decide) dX6_evening_145 ?_
        refine wa_sub (lv2 := [(0, .ref (Ad X 36)), (2, .int v2), (3, .int v3), (4, .int y5), (5, .int y6), (6, .int y9), (7, .int (if x7.1 ≤ v7 then v7 else x7.1)), (8, .int x7.1), (9, .int (v9 + 1))]) [3, 4, 5, 6, 7, 8, 2, 1, 0] rfl ?_
        exact hk58 _ h
      refine wa_icmp_le hX 134 (by decide) dX6_evening_126 (fun c => ?_) (fun c => ?_)
      · refine wa_iload hX 6 rfl dX6_evening_134 ?_
        refine wa_sub (lv2 := [(0, .ref (Ad X 36)), (2, .int v2), (3, .int v3), (4, .int y5), (5, .int y6), (6, .int y9), (9, .int v9), (10, .int x7.1)]) [1, 2, 3, 4, 5, 0, 7, 8] rfl ?_
        rw [show (if x7.1 ≤ v7 then v7 else x7.1) = v7 from if_pos c] at hJ
        exact hJ
      · refine wa_iload hX 8 rfl dX6_evening_129 ?_
        refine wa_goto hX 136 (by decide) dX6_evening_131 ?_
        refine wa_sub (lv2 := [(0, .ref (Ad X 36)), (2, .int v2), (3, .int v3), (4, .int y5), (5, .int y6), (6, .int y9), (9, .int v9), (10, .int x7.1)]) [1, 2, 3, 4, 5, 0, 7, 8] rfl ?_
        rw [show (if x7.1 ≤ v7 then v7 else x7.1) = x7.1 from if_neg c] at hJ
        exact hJ
    refine wa_if_eq hX 118 (by decide) dX6_evening_111 (fun c => ?_) (fun c => ?_)
    · refine wa_iconst hX 0 ki_0 dX6_evening_118 ?_
      refine wa_sub (lv2 := [(0, .ref (Ad X 36)), (2, .int v2), (3, .int v3), (4, .int y5), (5, .int y6), (7, .int v7), (9, .int v9), (10, .int x7.1)]) [3, 4, 5, 2, 1, 7, 9, 0] rfl ?_
      rw [show (if x8.1 = 0 then (0 : Int32) else 1) = 0 from if_pos c] at hJ
      exact hJ
    · refine wa_iconst hX 1 ki_1 dX6_evening_114 ?_
      refine wa_goto hX 119 (by decide) dX6_evening_115 ?_
      refine wa_sub (lv2 := [(0, .ref (Ad X 36)), (2, .int v2), (3, .int v3), (4, .int y5), (5, .int y6), (7, .int v7), (9, .int v9), (10, .int x7.1)]) [3, 4, 5, 2, 1, 7, 9, 0] rfl ?_
      rw [show (if x8.1 = 0 then (0 : Int32) else 1) = 1 from if_neg c] at hJ
      exact hJ
set_option maxRecDepth 100000 in
set_option maxHeartbeats 4000000 in
theorem m_X6_evening {w w1 : Wd} {p1 : Int32} {p2 : Int32} {p3 : Int32} {r : Int32} (h : F_X6_evening w p1 p2 p3 = some (r, w1)) : Gi yX6_evening cX6_evening 11 (some .int) 1 25 (fun E => [.ref (E.2.1 36), .int p1, .int p2, .int p3]) w w1 r := by
  refine Gi.of (hy := by decide +kernel) (hlen := fun _ => Nat.le_of_ble_eq_true rfl) (fun X hX hE => ?_)
  · unfold F_X6_evening at h
    refine (show Wa X w 0 [(0, .ref (Ad X 36)), (1, .int p1), (2, .int p2), (3, .int p3)] [] from ?_)
    refine wa_iload_n hX 1 rfl rfl dX6_evening_0 ?_
    refine wa_i2l hX dX6_evening_1 ?_
    refine wa_lconst hX 0 rfl dX6_evening_2 ?_
    refine wa_ldc2 hX kc_X6_199 dX6_evening_3 ?_
    obtain ⟨x1, h2, h⟩ := obind h
    refine wa_callSi hX (m_X6_in h2) cx_X6_in ml_X6_62 (As := [.long p1.toInt64, .long 0, .long 9999]) (rest := []) rfl rfl rfl ⟨Nat.le_of_ble_eq_true rfl, Nat.le_of_ble_eq_true rfl⟩ (Nat.le_of_ble_eq_true rfl) dX6_evening_6 ?_
    refine wa_if_eq hX 36 (by decide) dX6_evening_9 (fun c => ?_) (fun c => ?_)
    · replace h := itp c h
      refine wa_sub (lv2 := []) [] rfl ?_
      exact t_X6_evening_36 hX hE  h
    · replace h := itn c h
      refine wa_iload_n hX 2 rfl rfl dX6_evening_12 ?_
      refine wa_i2l hX dX6_evening_13 ?_
      refine wa_lconst hX 1 rfl dX6_evening_14 ?_
      refine wa_ldc2 hX kc_X6_201 dX6_evening_15 ?_
      obtain ⟨x2, h2, h⟩ := obind h
      refine wa_callSi hX (m_X6_in h2) cx_X6_in ml_X6_62 (As := [.long p2.toInt64, .long 1, .long 99]) (rest := []) rfl rfl rfl ⟨Nat.le_of_ble_eq_true rfl, Nat.le_of_ble_eq_true rfl⟩ (Nat.le_of_ble_eq_true rfl) dX6_evening_18 ?_
      refine wa_if_eq hX 36 (by decide) dX6_evening_21 (fun c => ?_) (fun c => ?_)
      · replace h := itp c h
        refine wa_sub (lv2 := []) [] rfl ?_
        exact t_X6_evening_36 hX hE  h
      · replace h := itn c h
        refine wa_iload_n hX 3 rfl rfl dX6_evening_24 ?_
        refine wa_i2l hX dX6_evening_25 ?_
        refine wa_lconst hX 0 rfl dX6_evening_26 ?_
        refine wa_ldc2 hX kc_X6_66 dX6_evening_27 ?_
        obtain ⟨x3, h2, h⟩ := obind h
        refine wa_callSi hX (m_X6_in h2) cx_X6_in ml_X6_62 (As := [.long p3.toInt64, .long 0, .long 2]) (rest := []) rfl rfl rfl ⟨Nat.le_of_ble_eq_true rfl, Nat.le_of_ble_eq_true rfl⟩ (Nat.le_of_ble_eq_true rfl) dX6_evening_30 ?_
        refine wa_if_ne hX 39 (by decide) dX6_evening_33 (fun c => ?_) (fun c => ?_)
        · replace h := itn c h
          refine wa_iload_n hX 1 rfl rfl dX6_evening_39 ?_
          refine wa_istore hX (lv2 := [(4, .int p1), (0, .ref (Ad X 36)), (1, .int p1), (2, .int p2), (3, .int p3)]) (by decide) rfl dX6_evening_40 ?_
          refine wa_iconst hX 0 ki_0 dX6_evening_42 ?_
          refine wa_istore hX (lv2 := [(5, .int 0), (4, .int p1), (0, .ref (Ad X 36)), (1, .int p1), (2, .int p2), (3, .int p3)]) (by decide) rfl dX6_evening_43 ?_
          refine wa_iconst hX 0 ki_0 dX6_evening_45 ?_
          refine wa_istore hX (lv2 := [(6, .int 0), (5, .int 0), (4, .int p1), (0, .ref (Ad X 36)), (1, .int p1), (2, .int p2), (3, .int p3)]) (by decide) rfl dX6_evening_46 ?_
          refine wa_iconst hX 0 ki_0 dX6_evening_48 ?_
          refine wa_istore hX (lv2 := [(7, .int 0), (6, .int 0), (5, .int 0), (4, .int p1), (0, .ref (Ad X 36)), (1, .int p1), (2, .int p2), (3, .int p3)]) (by decide) rfl dX6_evening_49 ?_
          refine wa_bipush hX (-6) kb_m6 dX6_evening_51 ?_
          refine wa_istore hX (lv2 := [(8, .int (-6)), (7, .int 0), (6, .int 0), (5, .int 0), (4, .int p1), (0, .ref (Ad X 36)), (1, .int p1), (2, .int p2), (3, .int p3)]) (by decide) rfl dX6_evening_53 ?_
          refine wa_iconst hX 0 ki_0 dX6_evening_55 ?_
          refine wa_istore hX (lv2 := [(9, .int 0), (8, .int (-6)), (7, .int 0), (6, .int 0), (5, .int 0), (4, .int p1), (0, .ref (Ad X 36)), (1, .int p1), (2, .int p2), (3, .int p3)]) (by decide) rfl dX6_evening_56 ?_
          refine wa_sub (lv2 := [(0, .ref (Ad X 36)), (2, .int p2), (3, .int p3), (4, .int p1), (5, .int 0), (6, .int 0), (7, .int 0), (8, .int (-6)), (9, .int 0)]) [6, 8, 9, 5, 4, 3, 2, 1, 0] rfl ?_
          exact t_X6_evening_58 hX hE  _ _ h
        · replace h := itp c h
          refine wa_sub (lv2 := []) [] rfl ?_
          exact t_X6_evening_36 hX hE  h
set_option maxRecDepth 100000 in
set_option maxHeartbeats 4000000 in
theorem t_X6_pass_20 {X : Fx} (hX : Cx X cX6_pass RX6 3 0 0) {r : Int32} {w1 : Wd} (hE : ∀ pc lv, decode cX6_pass pc = .ok (.ireturn, 1) → narrow .int (.int r) = .int r → Wa X w1 pc lv [.int r])  {w : Wd} {s0 : Int32} (h : F_X6_pass_20 w s0 = some (r, w1)) : Wa X w 20 [(0, .ref (Ad X 36))] [.int s0] := by
  unfold F_X6_pass_20 at h
  refine wa_istore_n hX (lv2 := [(2, .int s0), (0, .ref (Ad X 36))]) rfl (by decide) rfl dX6_pass_20 ?_
  refine wa_aload_n hX 1 rfl rfl dX6_pass_21 ?_
  refine wg_model_kept hX fl_X6_49 dX6_pass_22 ?_
  refine wa_aload_n hX 1 rfl rfl dX6_pass_25 ?_
  refine wg_model_keptAt hX fl_X6_213 dX6_pass_26 ?_
  refine wa_iload_n hX 0 rfl rfl dX6_pass_29 ?_
  obtain ⟨hg, h⟩ := gu_some h
  refine ws_model_kept hX hg dX6_pass_30 ?_
  refine wa_aload_n hX 1 rfl rfl dX6_pass_31 ?_
  refine wa_dup hX rfl dX6_pass_32 ?_
  refine wg_model_keptAt hX fl_X6_213 dX6_pass_33 ?_
  refine (show Wa X (wA w 50 (w.1 39) s0) 36 [(2, .int s0), (0, .ref (Ad X 36))] [.int (w.1 39), .ref (Ad X 36)] from ?_)
  refine wa_iconst hX 1 ki_1 dX6_pass_36 ?_
  refine wa_iadd hX dX6_pass_37 ?_
  refine wp_model_keptAt hX fl_X6_213 dX6_pass_38 ?_
  refine wa_iload_n hX 0 rfl rfl dX6_pass_41 ?_
  exact ret_i hE h dX6_pass_42
set_option maxRecDepth 100000 in
set_option maxHeartbeats 4000000 in
theorem m_X6_pass {w w1 : Wd} {p1 : Int32} {r : Int32} (h : F_X6_pass w p1 = some (r, w1)) : Gi yX6_pass cX6_pass 3 (some .int) 0 0 (fun E => [.ref (E.2.1 36), .int p1]) w w1 r := by
  refine Gi.of (hy := by decide +kernel) (hlen := fun _ => Nat.le_of_ble_eq_true rfl) (fun X hX hE => ?_)
  · unfold F_X6_pass at h
    refine (show Wa X w 0 [(0, .ref (Ad X 36)), (1, .int p1)] [] from ?_)
    refine wa_aload_n hX 0 rfl rfl dX6_pass_0 ?_
    refine wg_model_isWriting hX fl_X6_209 dX6_pass_1 ?_
    refine wa_if_eq hX 11 (by decide) dX6_pass_4 (fun c => ?_) (fun c => ?_)
    · replace h := itp c h
      refine wa_aload_n hX 0 rfl rfl dX6_pass_11 ?_
      refine wg_model_kept hX fl_X6_49 dX6_pass_12 ?_
      refine wa_aload_n hX 0 rfl rfl dX6_pass_15 ?_
      refine wg_model_keptAt hX fl_X6_213 dX6_pass_16 ?_
      obtain ⟨hg, h⟩ := gu_some h
      refine wl_model_kept hX hg dX6_pass_19 ?_
      refine wa_sub (lv2 := [(0, .ref (Ad X 36))]) [0] rfl ?_
      exact t_X6_pass_20 hX hE  h
    · replace h := itn c h
      refine wa_iload_n hX 1 rfl rfl dX6_pass_7 ?_
      refine wa_goto hX 20 (by decide) dX6_pass_8 ?_
      refine wa_sub (lv2 := [(0, .ref (Ad X 36))]) [0] rfl ?_
      exact t_X6_pass_20 hX hE  h
set_option maxRecDepth 100000 in
set_option maxHeartbeats 4000000 in
theorem t_X6_passAll_92 {X : Fx} (hX : Cx X cX6_passAll RX6 2 1 22) {w1 : Wd} (hE : ∀ pc lv, decode cX6_passAll pc = .ok (.return_, 1) → Wa X w1 pc lv [])  : ∀ (n : Nat) (a : Wd × Int32), L_X6_passAll_92  n a = some w1 → Wa X a.1 92 [(0, .ref (Ad X 36)), (1, .int a.2)] [] := by
  refine it_mach (P := fun (a : Wd × Int32) => Wa X a.1 92 [(0, .ref (Ad X 36)), (1, .int a.2)] []) ?_
  intro k92 hk92 a h
  obtain ⟨w, v1⟩ := a
  have h : F_X6_passAll_92 k92 w v1 = some w1 := h
  show Wa X w 92 [(0, .ref (Ad X 36)), (1, .int v1)] []
  unfold F_X6_passAll_92 at h
  refine wa_iload_n hX 1 rfl rfl dX6_passAll_92 ?_
  refine wa_bipush hX 6 kb_6 dX6_passAll_93 ?_
  refine wa_icmp_ge hX 152 (by decide) dX6_passAll_95 (fun c => ?_) (fun c => ?_)
  · replace h := itp c h
    exact ret_v hE h dX6_passAll_152
  · replace h := itn c h
    refine wa_aload_n hX 0 rfl rfl dX6_passAll_98 ?_
    refine wg_model_scene hX fl_X6_13 dX6_passAll_99 ?_
    refine wa_iload_n hX 1 rfl rfl dX6_passAll_102 ?_
    refine wa_aload_n hX 0 rfl rfl dX6_passAll_103 ?_
    refine wa_aload_n hX 0 rfl rfl dX6_passAll_104 ?_
    refine wg_model_scene hX fl_X6_13 dX6_passAll_105 ?_
    refine wa_iload_n hX 1 rfl rfl dX6_passAll_108 ?_
    obtain ⟨hg, h⟩ := gu_some h
    refine wl_model_scene hX hg dX6_passAll_109 ?_
    obtain ⟨x6, h2, h⟩ := obind h
    refine wa_callVi hX (m_X6_pass h2) cx_X6_pass ml_X6_216 (As := [.int (w.2.1 38 v1.toNatClampNeg)]) (rest := [.int v1, .ref (Ad X 38)]) 36 (ce_model _ _) rfl rfl rfl rfl ⟨Nat.le_of_ble_eq_true rfl, Nat.le_of_ble_eq_true rfl⟩ (Nat.le_of_ble_eq_true rfl) dX6_passAll_110 ?_
    obtain ⟨hg, h⟩ := gu_some h
    refine ws_model_scene hX hg dX6_passAll_113 ?_
    refine wa_aload_n hX 0 rfl rfl dX6_passAll_114 ?_
    refine wg_model_sightLine hX fl_X6_16 dX6_passAll_115 ?_
    refine wa_iload_n hX 1 rfl rfl dX6_passAll_118 ?_
    refine wa_aload_n hX 0 rfl rfl dX6_passAll_119 ?_
    refine wa_aload_n hX 0 rfl rfl dX6_passAll_120 ?_
    refine wg_model_sightLine hX fl_X6_16 dX6_passAll_121 ?_
    refine wa_iload_n hX 1 rfl rfl dX6_passAll_124 ?_
    obtain ⟨hg, h⟩ := gu_some h
    refine wl_model_sightLine hX hg dX6_passAll_125 ?_
    refine (show Wa X (wA x6.2 38 v1 x6.1) 126 [(0, .ref (Ad X 36)), (1, .int v1)] [.int (x6.2.2.1 39 v1.toNatClampNeg), .ref (Ad X 36), .int v1, .ref (Ad X 39)] from ?_)
    obtain ⟨x7, h2, h⟩ := obind h
    refine wa_callVi hX (m_X6_pass h2) cx_X6_pass ml_X6_216 (As := [.int (x6.2.2.1 39 v1.toNatClampNeg)]) (rest := [.int v1, .ref (Ad X 39)]) 36 (ce_model _ _) rfl rfl rfl rfl ⟨Nat.le_of_ble_eq_true rfl, Nat.le_of_ble_eq_true rfl⟩ (Nat.le_of_ble_eq_true rfl) dX6_passAll_126 ?_
    obtain ⟨hg, h⟩ := gu_some h
    refine ws_model_sightLine hX hg dX6_passAll_129 ?_
    refine wa_aload_n hX 0 rfl rfl dX6_passAll_130 ?_
    refine wg_model_sightMany hX fl_X6_19 dX6_passAll_131 ?_
    refine wa_iload_n hX 1 rfl rfl dX6_passAll_134 ?_
    refine wa_aload_n hX 0 rfl rfl dX6_passAll_135 ?_
    refine wa_aload_n hX 0 rfl rfl dX6_passAll_136 ?_
    refine wg_model_sightMany hX fl_X6_19 dX6_passAll_137 ?_
    refine wa_iload_n hX 1 rfl rfl dX6_passAll_140 ?_
    obtain ⟨hg, h⟩ := gu_some h
    refine wl_model_sightMany hX hg dX6_passAll_141 ?_
    refine (show Wa X (wA x7.2 39 v1 x7.1) 142 [(0, .ref (Ad X 36)), (1, .int v1)] [.int (x7.2.2.1 40 v1.toNatClampNeg), .ref (Ad X 36), .int v1, .ref (Ad X 40)] from ?_)
    obtain ⟨x8, h2, h⟩ := obind h
    refine wa_callVi hX (m_X6_pass h2) cx_X6_pass ml_X6_216 (As := [.int (x7.2.2.1 40 v1.toNatClampNeg)]) (rest := [.int v1, .ref (Ad X 40)]) 36 (ce_model _ _) rfl rfl rfl rfl ⟨Nat.le_of_ble_eq_true rfl, Nat.le_of_ble_eq_true rfl⟩ (Nat.le_of_ble_eq_true rfl) dX6_passAll_142 ?_
    obtain ⟨hg, h⟩ := gu_some h
    refine ws_model_sightMany hX hg dX6_passAll_145 ?_
    refine wa_iinc hX (v := (v1 + 1)) (lv2 := [(1, .int (v1 + 1)), (0, .ref (Ad X 36))]) 1 rfl rfl (by decide) rfl dX6_passAll_146 ?_
    refine wa_goto hX 92 (by decide) dX6_passAll_149 ?_
    refine wa_sub (lv2 := [(0, .ref (Ad X 36)), (1, .int (v1 + 1))]) [1, 0] rfl ?_
    exact hk92 _ h
set_option maxRecDepth 100000 in
set_option maxHeartbeats 4000000 in
theorem t_X6_passAll_62 {X : Fx} (hX : Cx X cX6_passAll RX6 2 1 22) {w1 : Wd} (hE : ∀ pc lv, decode cX6_passAll pc = .ok (.return_, 1) → Wa X w1 pc lv [])  : ∀ (n : Nat) (a : Wd × Int32), L_X6_passAll_62  n a = some w1 → Wa X a.1 62 [(0, .ref (Ad X 36)), (1, .int a.2)] [] := by
  refine it_mach (P := fun (a : Wd × Int32) => Wa X a.1 62 [(0, .ref (Ad X 36)), (1, .int a.2)] []) ?_
  intro k62 hk62 a h
  obtain ⟨w, v1⟩ := a
  have h : F_X6_passAll_62 k62 w v1 = some w1 := h
  show Wa X w 62 [(0, .ref (Ad X 36)), (1, .int v1)] []
  unfold F_X6_passAll_62 at h
  refine wa_iload_n hX 1 rfl rfl dX6_passAll_62 ?_
  refine wa_bipush hX 64 kb_64 dX6_passAll_63 ?_
  refine wa_icmp_ge hX 90 (by decide) dX6_passAll_65 (fun c => ?_) (fun c => ?_)
  · replace h := itp c h
    refine wa_iconst hX 0 ki_0 dX6_passAll_90 ?_
    refine wa_istore_n hX (lv2 := [(1, .int 0), (0, .ref (Ad X 36))]) rfl (by decide) rfl dX6_passAll_91 ?_
    refine wa_sub (lv2 := [(0, .ref (Ad X 36)), (1, .int 0)]) [1, 0] rfl ?_
    exact t_X6_passAll_92 hX hE  _ _ h
  · replace h := itn c h
    refine wa_aload_n hX 0 rfl rfl dX6_passAll_68 ?_
    refine wg_model_may hX fl_X6_7 dX6_passAll_69 ?_
    refine wa_iload_n hX 1 rfl rfl dX6_passAll_72 ?_
    refine wa_aload_n hX 0 rfl rfl dX6_passAll_73 ?_
    refine wa_aload_n hX 0 rfl rfl dX6_passAll_74 ?_
    refine wg_model_may hX fl_X6_7 dX6_passAll_75 ?_
    refine wa_iload_n hX 1 rfl rfl dX6_passAll_78 ?_
    obtain ⟨hg, h⟩ := gu_some h
    refine wl_model_may hX hg dX6_passAll_79 ?_
    obtain ⟨x9, h2, h⟩ := obind h
    refine wa_callVi hX (m_X6_pass h2) cx_X6_pass ml_X6_216 (As := [.int (w.2.1 37 v1.toNatClampNeg)]) (rest := [.int v1, .ref (Ad X 37)]) 36 (ce_model _ _) rfl rfl rfl rfl ⟨Nat.le_of_ble_eq_true rfl, Nat.le_of_ble_eq_true rfl⟩ (Nat.le_of_ble_eq_true rfl) dX6_passAll_80 ?_
    obtain ⟨hg, h⟩ := gu_some h
    refine ws_model_may hX hg dX6_passAll_83 ?_
    refine wa_iinc hX (v := (v1 + 1)) (lv2 := [(1, .int (v1 + 1)), (0, .ref (Ad X 36))]) 1 rfl rfl (by decide) rfl dX6_passAll_84 ?_
    refine wa_goto hX 62 (by decide) dX6_passAll_87 ?_
    refine wa_sub (lv2 := [(0, .ref (Ad X 36)), (1, .int (v1 + 1))]) [1, 0] rfl ?_
    exact hk62 _ h
set_option maxRecDepth 100000 in
set_option maxHeartbeats 4000000 in
theorem m_X6_passAll {w w1 : Wd} (h : F_X6_passAll w  = some w1) : Gv yX6_passAll cX6_passAll 2 none 1 22 (fun E => [.ref (E.2.1 36)]) w w1 := by
  refine Gv.of (hy := by decide +kernel) (hlen := fun _ => Nat.le_of_ble_eq_true rfl) (fun X hX hE => ?_)
  · unfold F_X6_passAll at h
    refine (show Wa X w 0 [(0, .ref (Ad X 36))] [] from ?_)
    refine wa_aload_n hX 0 rfl rfl dX6_passAll_0 ?_
    refine wa_aload_n hX 0 rfl rfl dX6_passAll_1 ?_
    refine wa_aload_n hX 0 rfl rfl dX6_passAll_2 ?_
    refine wg_model_law hX fl_X6_72 dX6_passAll_3 ?_
    obtain ⟨x1, h2, h⟩ := obind h
    refine wa_callVi hX (m_X6_pass h2) cx_X6_pass ml_X6_216 (As := [.int (w.1 29)]) (rest := [.ref (Ad X 36)]) 36 (ce_model _ _) rfl rfl rfl rfl ⟨Nat.le_of_ble_eq_true rfl, Nat.le_of_ble_eq_true rfl⟩ (Nat.le_of_ble_eq_true rfl) dX6_passAll_6 ?_
    refine wp_model_law hX fl_X6_72 dX6_passAll_9 ?_
    refine wa_aload_n hX 0 rfl rfl dX6_passAll_12 ?_
    refine wa_aload_n hX 0 rfl rfl dX6_passAll_13 ?_
    refine wa_aload_n hX 0 rfl rfl dX6_passAll_14 ?_
    refine wg_model_just hX fl_X6_56 dX6_passAll_15 ?_
    refine (show Wa X (wI x1.2 29 x1.1) 18 [(0, .ref (Ad X 36))] [.int (x1.2.1 30), .ref (Ad X 36), .ref (Ad X 36)] from ?_)
    obtain ⟨x2, h2, h⟩ := obind h
    refine wa_callVi hX (m_X6_pass h2) cx_X6_pass ml_X6_216 (As := [.int (x1.2.1 30)]) (rest := [.ref (Ad X 36)]) 36 (ce_model _ _) rfl rfl rfl rfl ⟨Nat.le_of_ble_eq_true rfl, Nat.le_of_ble_eq_true rfl⟩ (Nat.le_of_ble_eq_true rfl) dX6_passAll_18 ?_
    refine wp_model_just hX fl_X6_56 dX6_passAll_21 ?_
    refine wa_aload_n hX 0 rfl rfl dX6_passAll_24 ?_
    refine wa_aload_n hX 0 rfl rfl dX6_passAll_25 ?_
    refine wa_aload_n hX 0 rfl rfl dX6_passAll_26 ?_
    refine wg_model_change hX fl_X6_75 dX6_passAll_27 ?_
    refine (show Wa X (wI x2.2 30 x2.1) 30 [(0, .ref (Ad X 36))] [.int (x2.2.1 31), .ref (Ad X 36), .ref (Ad X 36)] from ?_)
    obtain ⟨x3, h2, h⟩ := obind h
    refine wa_callVi hX (m_X6_pass h2) cx_X6_pass ml_X6_216 (As := [.int (x2.2.1 31)]) (rest := [.ref (Ad X 36)]) 36 (ce_model _ _) rfl rfl rfl rfl ⟨Nat.le_of_ble_eq_true rfl, Nat.le_of_ble_eq_true rfl⟩ (Nat.le_of_ble_eq_true rfl) dX6_passAll_30 ?_
    refine wp_model_change hX fl_X6_75 dX6_passAll_33 ?_
    refine wa_aload_n hX 0 rfl rfl dX6_passAll_36 ?_
    refine wa_aload_n hX 0 rfl rfl dX6_passAll_37 ?_
    refine wa_aload_n hX 0 rfl rfl dX6_passAll_38 ?_
    refine wg_model_scenes hX fl_X6_179 dX6_passAll_39 ?_
    refine (show Wa X (wI x3.2 31 x3.1) 42 [(0, .ref (Ad X 36))] [.int (x3.2.1 32), .ref (Ad X 36), .ref (Ad X 36)] from ?_)
    obtain ⟨x4, h2, h⟩ := obind h
    refine wa_callVi hX (m_X6_pass h2) cx_X6_pass ml_X6_216 (As := [.int (x3.2.1 32)]) (rest := [.ref (Ad X 36)]) 36 (ce_model _ _) rfl rfl rfl rfl ⟨Nat.le_of_ble_eq_true rfl, Nat.le_of_ble_eq_true rfl⟩ (Nat.le_of_ble_eq_true rfl) dX6_passAll_42 ?_
    refine wp_model_scenes hX fl_X6_179 dX6_passAll_45 ?_
    refine wa_aload_n hX 0 rfl rfl dX6_passAll_48 ?_
    refine wa_aload_n hX 0 rfl rfl dX6_passAll_49 ?_
    refine wa_aload_n hX 0 rfl rfl dX6_passAll_50 ?_
    refine wg_model_sights hX fl_X6_190 dX6_passAll_51 ?_
    refine (show Wa X (wI x4.2 32 x4.1) 54 [(0, .ref (Ad X 36))] [.int (x4.2.1 33), .ref (Ad X 36), .ref (Ad X 36)] from ?_)
    obtain ⟨x5, h2, h⟩ := obind h
    refine wa_callVi hX (m_X6_pass h2) cx_X6_pass ml_X6_216 (As := [.int (x4.2.1 33)]) (rest := [.ref (Ad X 36)]) 36 (ce_model _ _) rfl rfl rfl rfl ⟨Nat.le_of_ble_eq_true rfl, Nat.le_of_ble_eq_true rfl⟩ (Nat.le_of_ble_eq_true rfl) dX6_passAll_54 ?_
    refine wp_model_sights hX fl_X6_190 dX6_passAll_57 ?_
    refine wa_iconst hX 0 ki_0 dX6_passAll_60 ?_
    refine wa_istore_n hX (lv2 := [(1, .int 0), (0, .ref (Ad X 36))]) rfl (by decide) rfl dX6_passAll_61 ?_
    refine wa_sub (lv2 := [(0, .ref (Ad X 36)), (1, .int 0)]) [1, 0] rfl ?_
    exact t_X6_passAll_62 hX hE  _ _ h
set_option maxRecDepth 100000 in
set_option maxHeartbeats 4000000 in
theorem m_X6_image {w w1 : Wd} {p1 : Int32} {r : Int32} (h : F_X6_image w p1 = some (r, w1)) : Gi yX6_image cX6_image 2 (some .int) 2 43 (fun E => [.ref (E.2.1 36), .int p1]) w w1 r := by
  refine Gi.of (hy := by decide +kernel) (hlen := fun _ => Nat.le_of_ble_eq_true rfl) (fun X hX hE => ?_)
  · unfold F_X6_image at h
    refine (show Wa X w 0 [(0, .ref (Ad X 36)), (1, .int p1)] [] from ?_)
    refine wa_iload_n hX 1 rfl rfl dX6_image_0 ?_
    refine wa_i2l hX dX6_image_1 ?_
    refine wa_lconst hX 0 rfl dX6_image_2 ?_
    refine wa_lconst hX 1 rfl dX6_image_3 ?_
    obtain ⟨x1, h2, h⟩ := obind h
    refine wa_callSi hX (m_X6_in h2) cx_X6_in ml_X6_62 (As := [.long p1.toInt64, .long 0, .long 1]) (rest := []) rfl rfl rfl ⟨Nat.le_of_ble_eq_true rfl, Nat.le_of_ble_eq_true rfl⟩ (Nat.le_of_ble_eq_true rfl) dX6_image_4 ?_
    refine wa_if_ne hX 13 (by decide) dX6_image_7 (fun c => ?_) (fun c => ?_)
    · replace h := itn c h
      refine wa_aload_n hX 0 rfl rfl dX6_image_13 ?_
      refine wa_bipush hX 100 kb_100 dX6_image_14 ?_
      refine wa_iload_n hX 1 rfl rfl dX6_image_16 ?_
      refine wa_imul hX dX6_image_17 ?_
      refine wp_model_keptAt hX fl_X6_213 dX6_image_18 ?_
      refine wa_aload_n hX 0 rfl rfl dX6_image_21 ?_
      refine wa_iconst hX 1 ki_1 dX6_image_22 ?_
      refine wp_model_isWriting hX fl_X6_209 (by decide) dX6_image_23 ?_
      refine wa_aload_n hX 0 rfl rfl dX6_image_26 ?_
      obtain ⟨x2, h2, h⟩ := obind h
      refine wa_callVv hX (m_X6_passAll h2) cx_X6_passAll ml_X6_219 (As := []) (rest := []) 36 (ce_model _ _) rfl rfl rfl rfl ⟨Nat.le_of_ble_eq_true rfl, Nat.le_of_ble_eq_true rfl⟩ (Nat.le_of_ble_eq_true rfl) dX6_image_27 ?_
      refine wa_aload_n hX 0 rfl rfl dX6_image_30 ?_
      refine wg_model_isKept hX fl_X6_52 dX6_image_31 ?_
      refine wa_iload_n hX 1 rfl rfl dX6_image_34 ?_
      refine wa_iconst hX 1 ki_1 dX6_image_35 ?_
      obtain ⟨hg, h⟩ := gu_some h
      refine ws_model_isKept hX hg (by decide) dX6_image_36 ?_
      refine wa_iconst hX 1 ki_1 dX6_image_37 ?_
      exact ret_i hE h dX6_image_38
    · replace h := itp c h
      refine wa_bipush hX (-2) kb_m2 dX6_image_10 ?_
      exact ret_i hE h dX6_image_12
set_option maxRecDepth 100000 in
set_option maxHeartbeats 4000000 in
theorem m_X6_restore {w w1 : Wd} {p1 : Int32} {r : Int32} (h : F_X6_restore w p1 = some (r, w1)) : Gi yX6_restore cX6_restore 2 (some .int) 2 43 (fun E => [.ref (E.2.1 36), .int p1]) w w1 r := by
  refine Gi.of (hy := by decide +kernel) (hlen := fun _ => Nat.le_of_ble_eq_true rfl) (fun X hX hE => ?_)
  · unfold F_X6_restore at h
    refine (show Wa X w 0 [(0, .ref (Ad X 36)), (1, .int p1)] [] from ?_)
    refine wa_iload_n hX 1 rfl rfl dX6_restore_0 ?_
    refine wa_i2l hX dX6_restore_1 ?_
    refine wa_lconst hX 0 rfl dX6_restore_2 ?_
    refine wa_lconst hX 1 rfl dX6_restore_3 ?_
    obtain ⟨x1, h2, h⟩ := obind h
    refine wa_callSi hX (m_X6_in h2) cx_X6_in ml_X6_62 (As := [.long p1.toInt64, .long 0, .long 1]) (rest := []) rfl rfl rfl ⟨Nat.le_of_ble_eq_true rfl, Nat.le_of_ble_eq_true rfl⟩ (Nat.le_of_ble_eq_true rfl) dX6_restore_4 ?_
    refine wa_if_ne hX 13 (by decide) dX6_restore_7 (fun c => ?_) (fun c => ?_)
    · replace h := itn c h
      refine wa_aload_n hX 0 rfl rfl dX6_restore_13 ?_
      refine wg_model_isKept hX fl_X6_52 dX6_restore_14 ?_
      refine wa_iload_n hX 1 rfl rfl dX6_restore_17 ?_
      obtain ⟨hg, h⟩ := gu_some h
      refine wl_model_isKept hX hg dX6_restore_18 ?_
      refine wa_if_ne hX 25 (by decide) dX6_restore_19 (fun c => ?_) (fun c => ?_)
      · replace h := itn c h
        refine wa_aload_n hX 0 rfl rfl dX6_restore_25 ?_
        refine wa_bipush hX 100 kb_100 dX6_restore_26 ?_
        refine wa_iload_n hX 1 rfl rfl dX6_restore_28 ?_
        refine wa_imul hX dX6_restore_29 ?_
        refine wp_model_keptAt hX fl_X6_213 dX6_restore_30 ?_
        refine wa_aload_n hX 0 rfl rfl dX6_restore_33 ?_
        refine wa_iconst hX 0 ki_0 dX6_restore_34 ?_
        refine wp_model_isWriting hX fl_X6_209 (by decide) dX6_restore_35 ?_
        refine wa_aload_n hX 0 rfl rfl dX6_restore_38 ?_
        obtain ⟨x2, h2, h⟩ := obind h
        refine wa_callVv hX (m_X6_passAll h2) cx_X6_passAll ml_X6_219 (As := []) (rest := []) 36 (ce_model _ _) rfl rfl rfl rfl ⟨Nat.le_of_ble_eq_true rfl, Nat.le_of_ble_eq_true rfl⟩ (Nat.le_of_ble_eq_true rfl) dX6_restore_39 ?_
        refine wa_iconst hX 1 ki_1 dX6_restore_42 ?_
        exact ret_i hE h dX6_restore_43
      · replace h := itp c h
        refine wa_bipush hX (-3) kb_m3 dX6_restore_22 ?_
        exact ret_i hE h dX6_restore_24
    · replace h := itp c h
      refine wa_bipush hX (-2) kb_m2 dX6_restore_10 ?_
      exact ret_i hE h dX6_restore_12
set_option maxRecDepth 100000 in
set_option maxHeartbeats 4000000 in
theorem m_X6_told {w w1 : Wd} {p1 : Int32} {r : Int32} (h : F_X6_told w p1 = some (r, w1)) : Gi yX6_told cX6_told 2 (some .int) 1 25 (fun E => [.ref (E.2.1 36), .int p1]) w w1 r := by
  refine Gi.of (hy := by decide +kernel) (hlen := fun _ => Nat.le_of_ble_eq_true rfl) (fun X hX hE => ?_)
  · unfold F_X6_told at h
    refine (show Wa X w 0 [(0, .ref (Ad X 36)), (1, .int p1)] [] from ?_)
    refine wa_iload_n hX 1 rfl rfl dX6_told_0 ?_
    refine wa_i2l hX dX6_told_1 ?_
    refine wa_ldc2 hX kc_X6_145 dX6_told_2 ?_
    refine wa_bipush hX 9 kb_9 dX6_told_5 ?_
    refine wa_aload_n hX 0 rfl rfl dX6_told_7 ?_
    refine wg_model_scenes hX fl_X6_179 dX6_told_8 ?_
    refine wa_iadd hX dX6_told_11 ?_
    refine wa_i2l hX dX6_told_12 ?_
    obtain ⟨x1, h2, h⟩ := obind h
    refine wa_callSi hX (m_X6_in h2) cx_X6_in ml_X6_62 (As := [.long p1.toInt64, .long 10, .long ((9 + w.1 32).toInt64)]) (rest := []) rfl rfl rfl ⟨Nat.le_of_ble_eq_true rfl, Nat.le_of_ble_eq_true rfl⟩ (Nat.le_of_ble_eq_true rfl) dX6_told_13 ?_
    refine wa_if_eq hX 29 (by decide) dX6_told_16 (fun c => ?_) (fun c => ?_)
    · replace h := itp c h
      refine wa_iload_n hX 1 rfl rfl dX6_told_29 ?_
      by_cases c0 : p1 = 0
      · replace h := itp c0 h
        have e : (p1 : Int32).toInt = 0 := by rw [c0]; rfl
        refine wa_tin hX 68 (by rw [e]; decide) (by rw [e]; decide) (by rw [e]; rfl) (by decide) dX6_told_30 ?_
        refine wa_aload_n hX 0 rfl rfl dX6_told_68 ?_
        refine wg_model_padMany hX fl_X6_82 dX6_told_69 ?_
        exact ret_i hE h dX6_told_72
      · replace h := itn c0 h
        by_cases c1 : p1 = 1
        · replace h := itp c1 h
          have e : (p1 : Int32).toInt = 1 := by rw [c1]; rfl
          refine wa_tin hX 73 (by rw [e]; decide) (by rw [e]; decide) (by rw [e]; rfl) (by decide) dX6_told_30 ?_
          refine wa_aload_n hX 0 rfl rfl dX6_told_73 ?_
          refine wg_model_law hX fl_X6_72 dX6_told_74 ?_
          exact ret_i hE h dX6_told_77
        · replace h := itn c1 h
          by_cases c2 : p1 = 2
          · replace h := itp c2 h
            have e : (p1 : Int32).toInt = 2 := by rw [c2]; rfl
            refine wa_tin hX 78 (by rw [e]; decide) (by rw [e]; decide) (by rw [e]; rfl) (by decide) dX6_told_30 ?_
            refine wa_aload_n hX 0 rfl rfl dX6_told_78 ?_
            refine wg_model_just hX fl_X6_56 dX6_told_79 ?_
            exact ret_i hE h dX6_told_82
          · replace h := itn c2 h
            by_cases c3 : p1 = 3
            · replace h := itp c3 h
              have e : (p1 : Int32).toInt = 3 := by rw [c3]; rfl
              refine wa_tin hX 83 (by rw [e]; decide) (by rw [e]; decide) (by rw [e]; rfl) (by decide) dX6_told_30 ?_
              refine wa_aload_n hX 0 rfl rfl dX6_told_83 ?_
              refine wg_model_change hX fl_X6_75 dX6_told_84 ?_
              exact ret_i hE h dX6_told_87
            · replace h := itn c3 h
              by_cases c4 : p1 = 4
              · replace h := itp c4 h
                have e : (p1 : Int32).toInt = 4 := by rw [c4]; rfl
                refine wa_tin hX 88 (by rw [e]; decide) (by rw [e]; decide) (by rw [e]; rfl) (by decide) dX6_told_30 ?_
                refine wa_aload_n hX 0 rfl rfl dX6_told_88 ?_
                refine wg_model_scenes hX fl_X6_179 dX6_told_89 ?_
                exact ret_i hE h dX6_told_92
              · replace h := itn c4 h
                by_cases c5 : p1 = 5
                · replace h := itp c5 h
                  have e : (p1 : Int32).toInt = 5 := by rw [c5]; rfl
                  refine wa_tin hX 93 (by rw [e]; decide) (by rw [e]; decide) (by rw [e]; rfl) (by decide) dX6_told_30 ?_
                  refine wa_aload_n hX 0 rfl rfl dX6_told_93 ?_
                  refine wg_model_sights hX fl_X6_190 dX6_told_94 ?_
                  exact ret_i hE h dX6_told_97
                · replace h := itn c5 h
                  refine wa_tout hX 98 (tsw_out (lo := 0) (hi := 5) (fun q => by
                    have q2 : (p1 : Int32).toInt = 0 ∨ (p1 : Int32).toInt = 1 ∨ (p1 : Int32).toInt = 2 ∨ (p1 : Int32).toInt = 3 ∨ (p1 : Int32).toInt = 4 ∨ (p1 : Int32).toInt = 5 := by omega
                    rcases q2 with q | q | q | q | q | q
                    · exact c0 (toInt_lit q rfl)
                    · exact c1 (toInt_lit q rfl)
                    · exact c2 (toInt_lit q rfl)
                    · exact c3 (toInt_lit q rfl)
                    · exact c4 (toInt_lit q rfl)
                    · exact c5 (toInt_lit q rfl))) (by decide) dX6_told_30 ?_
                  refine wa_bipush hX (-2) kb_m2 dX6_told_98 ?_
                  exact ret_i hE h dX6_told_100
    · replace h := itn c h
      refine wa_aload_n hX 0 rfl rfl dX6_told_19 ?_
      refine wg_model_scene hX fl_X6_13 dX6_told_20 ?_
      refine wa_iload_n hX 1 rfl rfl dX6_told_23 ?_
      refine wa_bipush hX 10 kb_10 dX6_told_24 ?_
      refine wa_isub hX dX6_told_26 ?_
      obtain ⟨hg, h⟩ := gu_some h
      refine wl_model_scene hX hg dX6_told_27 ?_
      exact ret_i hE h dX6_told_28
