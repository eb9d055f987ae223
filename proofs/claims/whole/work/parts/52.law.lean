/-! the law, whole -/
theorem Rel_00 : Rel w00 := by
  have hb : (0 : Nat).testBit 0 = false := rfl
  refine ⟨⟨fun _ => 0, 0, ⟨rfl, by decide, fun i hi => absurd hi (Nat.not_lt_zero _)⟩, ⟨rfl, by decide, fun i hi => absurd hi (Nat.not_lt_zero _)⟩⟩, ?_, Or.inl ⟨rfl, rfl⟩, Or.inl ⟨rfl, rfl⟩⟩
  refine ⟨⟨rfl, rfl, rfl, rfl, rfl⟩, ⟨0, by decide, rfl⟩, ⟨3, by decide, rfl⟩, ⟨0, by decide, rfl⟩, ⟨0, by decide, rfl, fun i hi => absurd hi (Nat.not_lt_zero _)⟩, ⟨0, by decide, rfl, fun i hi => absurd hi (Nat.not_lt_zero _)⟩, ⟨fun _ => 0, fun _ => 0, fun p _ => ⟨rfl, rfl, Nat.zero_lt_succ _, Nat.zero_lt_succ _, Nat.zero_testBit _, Nat.zero_testBit _⟩, fun p _ q _ => ?_⟩⟩
  refine ⟨?_, ?_, ?_, ?_⟩
  · rw [Nat.zero_testBit, if_neg Bool.false_ne_true, if_neg Bool.false_ne_true]
    rfl
  · rw [Nat.zero_testBit, Nat.zero_testBit]
  · rw [Nat.zero_testBit, Nat.zero_testBit]
  · rw [Nat.zero_testBit]
    exact fun h => Bool.false_ne_true h.1
theorem hmath (xs : Nat → Int32) (L : Nat) (hL : L ≤ 2048) : L_L_law_18 xs L fu (w00, 0) = some () := by
  have main : Ok (L_L_law_18 xs L fu (w00, 0)) (fun _ => True) := by
    unfold L_L_law_18
    refine Ok.loop (fun a => ∃ j, j ≤ 2052 ∧ a.2 = nI j ∧ Rel a.1) (fun a => 3000 - a.2.toNatClampNeg) ?_ fu _ ⟨0, Nat.zero_le _, rfl, Rel_00⟩ (fu_big (by show 3000 - _ < _; omega))
    rintro ⟨w, v3⟩ ⟨j, hj, e1, hw⟩ kk hkk
    dsimp only at e1 hw hkk ⊢
    subst e1
    unfold F_L_law_18
    refine Ok.ite (fun _ => Ok.ret trivial) (fun c => ?_)
    have hjL : j + 4 ≤ L := by
      rw [Int32.lt_iff_toInt_lt, show (Int32.ofNat L - 4).toInt = (L : Int) - 4 from pk_sub_toInt (a := L) (b := 4) (by omega) (by decide), nI_toInt (by omega)] at c
      omega
    have g0 : gd (nI j) L = true := gd_nI (by omega) (by omega)
    have g1 : gd (nI j + 1) L = true := by rw [nI_1]; exact gd_nI (by omega) (by omega)
    have g2 : gd (nI j + 2) L = true := by rw [show nI j + 2 = nI (j + 2) from nI_add j 2]; exact gd_nI (by omega) (by omega)
    have g3 : gd (nI j + 3) L = true := by rw [show nI j + 3 = nI (j + 3) from nI_add j 3]; exact gd_nI (by omega) (by omega)
    have next : ∀ w', Rel w' → Ok (F_L_law_706 xs L kk w' (nI j)) (fun _ => True) := by
      intro w' hw'
      unfold F_L_law_706
      rw [show nI j + 4 = nI (j + 4) from nI_add j 4]
      exact hkk _ ⟨j + 4, by omega, rfl, hw'⟩ (by dsimp only; rw [cl_nI (by omega), cl_nI (by omega)]; omega)
    refine Ok.gu g0 (Ok.let (fun y _ => ?_))
    refine Ok.ite (fun _ => (Ok.gu g1 (Ok.gu g2 (Ok.bind (eqv_set _ _ w hw) (fun x hx => (Ok.gu g1 (Ok.gu g2 (Ok.bind hx (fun y hy => Ok.ite (fun _ => next y.2 hy.2) (fun n => absurd hy.1.symm n)))))))))) (fun _ => ?_)
    refine Ok.ite (fun _ => (Ok.gu g1 (Ok.bind (eqv_say _ w hw) (fun x hx => (Ok.gu g1 (Ok.bind hx (fun y hy => Ok.ite (fun _ => next y.2 hy.2) (fun n => absurd hy.1.symm n)))))))) (fun _ => ?_)
    refine Ok.ite (fun _ => (Ok.bind (eqv_wipe w hw) (fun x hx => (Ok.bind hx (fun y hy => Ok.ite (fun _ => next y.2 hy.2) (fun n => absurd hy.1.symm n)))))) (fun _ => ?_)
    refine Ok.ite (fun _ => (Ok.bind (eqv_fault w hw) (fun x hx => (Ok.bind hx (fun y hy => Ok.ite (fun _ => next y.2 hy.2) (fun n => absurd hy.1.symm n)))))) (fun _ => ?_)
    refine Ok.ite (fun _ => (Ok.gu g1 (Ok.bind (eqv_judge _ w hw) (fun x hx => (Ok.gu g1 (Ok.bind hx (fun y hy => Ok.ite (fun _ => next y.2 hy.2) (fun n => absurd hy.1.symm n)))))))) (fun _ => ?_)
    refine Ok.ite (fun _ => (Ok.gu g1 (Ok.bind (eqv_on _ w hw) (fun x hx => (Ok.gu g1 (Ok.bind hx (fun y hy => Ok.ite (fun _ => next y.2 hy.2) (fun n => absurd hy.1.symm n)))))))) (fun _ => ?_)
    refine Ok.ite (fun _ => (Ok.gu g1 (Ok.bind (eqv_lines _ w hw) (fun x hx => (Ok.gu g1 (Ok.bind hx (fun y hy => Ok.ite (fun _ => next y.2 hy.2) (fun n => absurd hy.1.symm n)))))))) (fun _ => ?_)
    refine Ok.ite (fun _ => (Ok.gu g1 (Ok.gu g2 (Ok.gu g3 (Ok.bind (eqv_may _ _ _ w hw) (fun x hx => (Ok.gu g1 (Ok.gu g2 (Ok.gu g3 (Ok.bind hx (fun y hy => Ok.ite (fun _ => next y.2 hy.2) (fun n => absurd hy.1.symm n)))))))))))) (fun _ => ?_)
    refine Ok.ite (fun _ => (Ok.bind (eqv_broken w hw) (fun x hx => (Ok.bind hx (fun y hy => Ok.ite (fun _ => next y.2 hy.2) (fun n => absurd hy.1.symm n)))))) (fun _ => ?_)
    refine Ok.ite (fun _ => (Ok.gu g1 (Ok.bind (eqv_strangers _ w hw) (fun x hx => (Ok.gu g1 (Ok.bind hx (fun y hy => Ok.ite (fun _ => next y.2 hy.2) (fun n => absurd hy.1.symm n)))))))) (fun _ => ?_)
    refine Ok.ite (fun _ => (Ok.bind (eqv_cuts w hw) (fun x hx => (Ok.bind hx (fun y hy => Ok.ite (fun _ => next y.2 hy.2) (fun n => absurd hy.1.symm n)))))) (fun _ => ?_)
    refine Ok.ite (fun _ => (Ok.gu g1 (Ok.bind (eqv_cast _ w hw) (fun x hx => (Ok.gu g1 (Ok.bind hx (fun y hy => Ok.ite (fun _ => next y.2 hy.2) (fun n => absurd hy.1.symm n)))))))) (fun _ => ?_)
    refine Ok.ite (fun _ => (Ok.gu g1 (Ok.gu g2 (Ok.bind (eqv_ill _ _ w hw) (fun x hx => (Ok.gu g1 (Ok.gu g2 (Ok.bind hx (fun y hy => Ok.ite (fun _ => next y.2 hy.2) (fun n => absurd hy.1.symm n)))))))))) (fun _ => ?_)
    refine Ok.ite (fun _ => (Ok.gu g1 (Ok.bind (eqv_scene _ w hw) (fun x hx => (Ok.gu g1 (Ok.bind hx (fun y hy => Ok.ite (fun _ => next y.2 hy.2) (fun n => absurd hy.1.symm n)))))))) (fun _ => ?_)
    refine Ok.ite (fun _ => (Ok.bind (eqv_strike w hw) (fun x hx => (Ok.bind hx (fun y hy => Ok.ite (fun _ => next y.2 hy.2) (fun n => absurd hy.1.symm n)))))) (fun _ => ?_)
    refine Ok.ite (fun _ => (Ok.gu g1 (Ok.bind (eqv_order _ w hw) (fun x hx => (Ok.gu g1 (Ok.bind hx (fun y hy => Ok.ite (fun _ => next y.2 hy.2) (fun n => absurd hy.1.symm n)))))))) (fun _ => ?_)
    refine Ok.ite (fun _ => (Ok.gu g1 (Ok.gu g2 (Ok.bind (eqv_seen _ _ w hw) (fun x hx => (Ok.gu g1 (Ok.gu g2 (Ok.bind hx (fun y hy => Ok.ite (fun _ => next y.2 hy.2) (fun n => absurd hy.1.symm n)))))))))) (fun _ => ?_)
    refine Ok.ite (fun _ => (Ok.bind (eqv_forget w hw) (fun x hx => (Ok.bind hx (fun y hy => Ok.ite (fun _ => next y.2 hy.2) (fun n => absurd hy.1.symm n)))))) (fun _ => ?_)
    refine Ok.ite (fun _ => (Ok.gu g1 (Ok.bind (eqv_fits _ w hw) (fun x hx => (Ok.gu g1 (Ok.bind hx (fun y hy => Ok.ite (fun _ => next y.2 hy.2) (fun n => absurd hy.1.symm n)))))))) (fun _ => ?_)
    refine Ok.ite (fun _ => (Ok.gu g1 (Ok.bind (eqv_could _ w hw) (fun x hx => (Ok.gu g1 (Ok.bind hx (fun y hy => Ok.ite (fun _ => next y.2 hy.2) (fun n => absurd hy.1.symm n)))))))) (fun _ => ?_)
    refine Ok.ite (fun _ => (Ok.gu g1 (Ok.gu g2 (Ok.gu g3 (Ok.bind (eqv_evening _ _ _ w hw) (fun x hx => (Ok.gu g1 (Ok.gu g2 (Ok.gu g3 (Ok.bind hx (fun y hy => Ok.ite (fun _ => next y.2 hy.2) (fun n => absurd hy.1.symm n)))))))))))) (fun _ => ?_)
    refine Ok.ite (fun _ => (Ok.gu g1 (Ok.bind (eqv_image _ w hw) (fun x hx => (Ok.gu g1 (Ok.bind hx (fun y hy => Ok.ite (fun _ => next y.2 hy.2) (fun n => absurd hy.1.symm n)))))))) (fun _ => ?_)
    refine Ok.ite (fun _ => (Ok.gu g1 (Ok.bind (eqv_restore _ w hw) (fun x hx => (Ok.gu g1 (Ok.bind hx (fun y hy => Ok.ite (fun _ => next y.2 hy.2) (fun n => absurd hy.1.symm n)))))))) (fun _ => ?_)
    refine Ok.ite (fun _ => (Ok.gu g1 (Ok.bind (eqv_told _ w hw) (fun x hx => (Ok.gu g1 (Ok.bind hx (fun y hy => Ok.ite (fun _ => next y.2 hy.2) (fun n => absurd hy.1.symm n)))))))) (fun _ => ?_)
    exact next w hw
  obtain ⟨⟨⟩, h, -⟩ := main
  exact h
