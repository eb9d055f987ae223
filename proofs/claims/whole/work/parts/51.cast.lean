/-! cast, ill -/
theorem CastP.get (s : Nat → Nat) (N c : Nat) : ∃ hs cl n G, CastP s N c hs cl ∧ n ≤ 8 ∧ isCs hs cl n G ∧ (∀ i, G i ≤ i) ∧ (n = 0 ↔ ∀ p, p < 8 → hs p = false) := by
  obtain ⟨hs, cl, hP⟩ := CastP_ex s N c
  obtain ⟨n, G, h1, h2, h3, h4⟩ := isCs_ex hs cl
  exact ⟨hs, cl, n, G, hP, h1, h2, h3, h4⟩
theorem LinesC.at {w : Wd} {g : Nat → Nat} {n : Nat} (hG : Good g n) (hL : LinesC w g n) : w.1 4 = nI (lnA g n) ∧ ∀ l, l < lnA g n → w.2.1 7 l = nI (onL g n l) ∧ onL g n l < 256 := ⟨hL.1, fun l hl => ⟨hL.2.2.2 l hl, onL_lt hG.1 l hl⟩⟩
theorem LinesM.at {w : Wd} {g : Nat → Nat} {n c : Nat} (hG : Good g n) (hL : LinesM w g n) (h31 : w.1 31 = nI c) : LinM w (onL g n) (lnA g n) c := ⟨hL.1, h31, fun l hl => ⟨hL.2.2 l hl, onL_lt hG.1 l hl⟩⟩
theorem eqv_cast (p1 : Int32) : Eqv (fun w => F_X5_cast w p1) (fun w => F_X6_cast w p1) := by
  apply Eqv.query
  by_cases hp : -1 ≤ p1.toInt ∧ p1.toInt ≤ 7
  · rintro w ⟨⟨g, n, hc, hm⟩, hrr, -⟩
    have hln := lnA_40 hc
    obtain ⟨l, k, c, hl, hk, hch, e8, e9, e10, e29, e30, e31, -⟩ := RR.lk hrr
    have hin : ∀ {w : Wd}, F_X6_in w p1.toInt64 (-1) 7 = some (1, w) := fun {w} => X6_yes (w := w) (v := p1) (b := -1) (c := 7) ⟨hp.1, hp.2⟩
    have hpart : ∀ {w : Wd}, ¬ p1 = -1 → F_X5_isPart w p1 = some (1, w) := by
      intro w h
      rw [← Int32.toInt_inj, show (-1 : Int32).toInt = -1 from rfl] at h
      rw [X5_part, if_pos ⟨by omega, hp.2⟩]
    have hent : ∀ {P : Int32 × Wd → Prop}, ∀ w, Ok (F_X5_cast_14 w p1) P → Ok (F_X5_cast w p1) P := by
      intro P w h
      unfold F_X5_cast
      by_cases q : p1 = -1
      · rw [if_pos q]; exact h
      · rw [if_neg q, hpart q, Option.bind_some, if_neg one0]; exact h
    rcases ref_cases g n with hG | ⟨r, hN, h0, h6⟩
    · obtain ⟨hs, cl, m, G, hP, hm8, hCs, hGi, hm0⟩ := CastP.get (onL g n) (lnA g n) c
      refine ⟨if p1 = -1 then nI m else plS8 hs G 8 p1.toNatClampNeg, ?_, fun w' hw' hs' => ?_⟩
      · apply hent
        unfold F_X5_cast_14
        refine Ok.bind (refL_good w hc hG) ?_
        rintro ⟨r, w1⟩ ⟨hs1, e, hL⟩
        dsimp only at hs1 e hL ⊢
        obtain ⟨h4, h7⟩ := LinesC.at hG hL
        have f10 : w1.1 10 = nI c := by rw [hs1.1 10 (by unfold PI; omega)]; exact e10
        rw [if_pos e, f10]
        refine Ok.bind (chooseC w1 hln hch h4 h7 hP hm8 hCs) ?_
        rintro w2 ⟨hF, a1, a2, a3, a4⟩
        have hSm : Same w w2 := hs1.tr (hF.same rfl rfl)
        by_cases q : p1 = -1
        · rw [if_pos q, if_pos q]
          exact Ok.ret ⟨hSm, a1⟩
        · rw [if_neg q, if_neg q]
          rw [← Int32.toInt_inj, show (-1 : Int32).toInt = -1 from rfl] at q
          obtain ⟨v, hv, rfl, hv2⟩ := i32_nat (show 0 ≤ p1.toInt by omega)
          refine Ok.gu (gd_nI (by omega) (by omega)) ?_
          rw [cl_nI (by omega)]
          exact Ok.ret ⟨hSm, a3 v (by omega)⟩
      · unfold F_X6_cast
        rw [hin, Option.bind_some, if_neg one0]
        refine Ok.bind (refM_good w' (hm.same hs') hG) ?_
        rintro ⟨r, w1⟩ ⟨hs1, e, hL⟩
        dsimp only at hs1 e hL ⊢
        have f31 : w1.1 31 = nI c := by rw [(hs'.tr hs1).1 31 (by unfold PI; omega)]; exact e31
        rw [if_pos e]
        refine Ok.bind (castAllM w1 hln hch (LinesM.at hG hL f31) hP hm8 hCs hm0) ?_
        rintro ⟨r2, w2⟩ ⟨hF, a1, a2⟩
        dsimp only at hF a1 a2 ⊢
        have hSm : Same w' w2 := hs1.tr (hF.same rfl rfl)
        by_cases q : p1 = -1
        · rw [if_pos q, if_pos q]
          exact Ok.ret ⟨hSm, a1⟩
        · rw [if_neg q, if_neg q]
          rw [← Int32.toInt_inj, show (-1 : Int32).toInt = -1 from rfl] at q
          obtain ⟨v, hv, rfl, hv2⟩ := i32_nat (show 0 ≤ p1.toInt by omega)
          refine Ok.gu (gd_nI (by omega) (by omega)) ?_
          rw [cl_nI (by omega)]
          exact Ok.ret ⟨hSm, a2 v (by omega)⟩
    · refine ⟨r, ?_, fun w' hw' hs' => ?_⟩
      · apply hent
        unfold F_X5_cast_14
        refine Ok.bind (refL_no w hc hN) ?_
        rintro ⟨r1, w1⟩ ⟨hs, e⟩
        dsimp only at hs e ⊢
        rw [e, if_neg h0]
        exact Ok.ret ⟨hs, rfl⟩
      · unfold F_X6_cast
        rw [hin, Option.bind_some, if_neg one0]
        refine Ok.bind (refM_no w' (hm.same hs') hN) ?_
        rintro ⟨r1, w1⟩ ⟨hs, e⟩
        dsimp only at hs e ⊢
        rw [e, if_neg h6]
        exact Ok.ret ⟨hs, rfl⟩
  · intro w hw
    refine ⟨-1, ?_, fun w' hw' hs' => ?_⟩
    · unfold F_X5_cast
      rw [if_neg (fun q => by rw [q] at hp; exact hp (by decide)), X5_part, if_neg (by omega), Option.bind_some, if_pos rfl]
      exact Ok.ret ⟨Same.rf w, rfl⟩
    · unfold F_X6_cast
      rw [X6_not (v := p1) (b := -1) (c := 7) (by rw [show (-1 : Int64).toInt = -1 from rfl, show (7 : Int64).toInt = 7 from rfl]; exact hp), Option.bind_some, if_pos rfl]
      exact Ok.ret ⟨Same.rf w', rfl⟩
theorem plS8_who {hs : Nat → Bool} {G : Nat → Nat} (hG : ∀ i, G i ≤ i) {p : Nat} (hp : p < 8) : plS8 hs G 8 p = -6 ∨ ∃ j, j < 100 ∧ plS8 hs G 8 p = nI j := by
  unfold plS8
  have := hG p
  split
  · exact Or.inr ⟨G p, by omega, rfl⟩
  · exact Or.inl rfl
theorem cnt0 {b : Nat → Bool} : ∀ n, (∀ p, p < n → b p = false) → cntW b n = 0 := by
  intro n
  induction n with
  | zero => intro _; rfl
  | succ n ih =>
    intro h
    simp only [cntW]
    rw [ih (fun p hp => h p (by omega)), h n (by omega)]
    rfl
theorem ilP_congr {s : Nat → Nat} {N c fr n : Nat} {a a' : Nat → Int32} {who : Int32} {p : Nat} (hp : p < 8) (h : ∀ q, q < 8 → a q = a' q) : ilP s N c fr a n who p ↔ ilP s N c fr a' n who p := by
  unfold ilP tkP
  rw [h p hp]
  have : (∃ o, o < n ∧ ¬ nI o = who ∧ ∀ q, q < 8 → a q = nI o → apP s N c q p fr) ↔ (∃ o, o < n ∧ ¬ nI o = who ∧ ∀ q, q < 8 → a' q = nI o → apP s N c q p fr) := by
    constructor
    · rintro ⟨o, h1, h2, h3⟩
      exact ⟨o, h1, h2, fun q hq x => h3 q hq ((h q hq).trans x)⟩
    · rintro ⟨o, h1, h2, h3⟩
      exact ⟨o, h1, h2, fun q hq x => h3 q hq ((h q hq).symm.trans x)⟩
  rw [this]
theorem eqv_ill (p1 p2 : Int32) : Eqv (fun w => F_X5_ill w p1 p2) (fun w => F_X6_ill w p1 p2) := by
  apply Eqv.query
  by_cases hp : 0 ≤ p1.toInt ∧ p1.toInt ≤ 7
  · obtain ⟨p, hpp, rfl, hp2⟩ := i32_nat hp.1
    have hp8 : p < 8 := by omega
    rintro w ⟨⟨g, n, hc, hm⟩, hrr, -⟩
    have hln := lnA_40 hc
    obtain ⟨l, k, c, hl, hk, hch, e8, e9, e10, e29, e30, e31, -⟩ := RR.lk hrr
    rcases ref_cases g n with hG | ⟨r, hN, h0, h6⟩
    · by_cases hq : 0 ≤ p2.toInt ∧ p2.toInt < lnA g n
      · obtain ⟨fr, hfr, rfl, hfr2⟩ := i32_nat hq.1
        have hfN : fr < lnA g n := by omega
        obtain ⟨hs, cl, m, G, hP, hm8, hCs, hGi, hm0⟩ := CastP.get (onL g n) (lnA g n) c
        obtain ⟨b, hb⟩ := okW_ex (fun q => ¬ plS8 hs G 8 p = -6 ∧ ilP (onL g n) (lnA g n) c fr (plS8 hs G 8) m (plS8 hs G 8 p) q)
        refine ⟨nI (cntW b 8), ?_, fun w' hw' hs' => ?_⟩
        · unfold F_X5_ill
          rw [X5_part, if_pos hp, Option.bind_some, if_neg one0]
          refine Ok.bind (refL_good w hc hG) ?_
          rintro ⟨r, w1⟩ ⟨hs1, e, hL⟩
          dsimp only at hs1 e hL ⊢
          obtain ⟨h4, h7⟩ := LinesC.at hG hL
          have f10 : w1.1 10 = nI c := by rw [hs1.1 10 (by unfold PI; omega)]; exact e10
          rw [if_pos e, X5_isLine w1 _ h4 hln, Option.bind_some, if_pos hq, if_neg one0]
          dsimp only
          rw [f10]
          refine Ok.bind (chooseC w1 hln hch h4 h7 hP hm8 hCs) ?_
          rintro w2 ⟨hF, a1, a2, a3, a4⟩
          have hSm : Same w w2 := hs1.tr (hF.same rfl rfl)
          refine Ok.gu (gd_nI hp8 (by omega)) ?_
          rw [cl_nI (by omega), a3 p hp8]
          by_cases x : plS8 hs G 8 p = -6
          · have hz : cntW b 8 = 0 := cnt0 8 (fun q hq => by
              cases y : b q
              · rfl
              · exact absurd x ((hb q).mp y).1)
            unfold F_X0_notTakenOver
            rw [if_pos x, Option.bind_some, hz]
            exact Ok.ret ⟨hSm, rfl⟩
          · rw [notTaken_C w2 (b := b) (a := plS8 hs G 8) (who := plS8 hs G 8 p) hln hch hm8 (by omega) ⟨a1, a2, a3, a4⟩ (fun q => (hb q).trans ⟨fun y => y.2, fun y => ⟨x, y⟩⟩), Option.bind_some, if_neg x]
            exact Ok.ret ⟨hSm, rfl⟩
        · unfold F_X6_ill
          rw [X6_part, if_pos hp, Option.bind_some, if_neg one0]
          refine Ok.bind (refM_good w' (hm.same hs') hG) ?_
          rintro ⟨r, w1⟩ ⟨hs1, e, hL⟩
          dsimp only at hs1 e hL ⊢
          have f31 : w1.1 31 = nI c := by rw [(hs'.tr hs1).1 31 (by unfold PI; omega)]; exact e31
          have hLM := LinesM.at hG hL f31
          rw [if_pos e, hLM.1, X6_yes (by rw [last40 _ (by omega), show (0 : Int64).toInt = 0 from rfl]; omega), Option.bind_some, if_neg one0]
          refine Ok.bind (castAllM w1 hln hch hLM hP hm8 hCs hm0) ?_
          rintro ⟨r2, w2⟩ ⟨hF, a1, a2⟩
          dsimp only at hF a1 a2 ⊢
          subst a1
          refine Ok.gu (gd_nI hp8 (by omega)) ?_
          rw [cl_nI (by omega), a2 p hp8, ill61 w2 (a := plS8 hs G 8) hln (by omega) hch hm8 (hLM.fr hF) a2 (plS8_who hGi hp8) hb]
          exact Ok.ret ⟨hs1.tr (hF.same rfl rfl), rfl⟩
      · refine ⟨-2, ?_, fun w' hw' hs' => ?_⟩
        · unfold F_X5_ill
          rw [X5_part, if_pos hp, Option.bind_some, if_neg one0]
          refine Ok.bind (refL_good w hc hG) ?_
          rintro ⟨r, w1⟩ ⟨hs1, e, hL⟩
          dsimp only at hs1 e hL ⊢
          rw [if_pos e, X5_isLine w1 _ hL.1 hln, Option.bind_some, if_neg hq, if_pos rfl]
          exact Ok.ret ⟨hs1, rfl⟩
        · unfold F_X6_ill
          rw [X6_part, if_pos hp, Option.bind_some, if_neg one0]
          refine Ok.bind (refM_good w' (hm.same hs') hG) ?_
          rintro ⟨r, w1⟩ ⟨hs1, e, hL⟩
          dsimp only at hs1 e hL ⊢
          rw [if_pos e, hL.1, X6_not (by rw [last40 _ (by omega), show (0 : Int64).toInt = 0 from rfl]; omega), Option.bind_some, if_pos rfl]
          exact Ok.ret ⟨hs1, rfl⟩
    · refine ⟨r, ?_, fun w' hw' hs' => ?_⟩
      · unfold F_X5_ill
        rw [X5_part, if_pos hp, Option.bind_some, if_neg one0]
        refine Ok.bind (refL_no w hc hN) ?_
        rintro ⟨r1, w1⟩ ⟨hs, e⟩
        dsimp only at hs e ⊢
        rw [e, if_neg h0]
        exact Ok.ret ⟨hs, rfl⟩
      · unfold F_X6_ill
        rw [X6_part, if_pos hp, Option.bind_some, if_neg one0]
        refine Ok.bind (refM_no w' (hm.same hs') hN) ?_
        rintro ⟨r1, w1⟩ ⟨hs, e⟩
        dsimp only at hs e ⊢
        rw [e, if_neg h6]
        exact Ok.ret ⟨hs, rfl⟩
  · intro w hw
    refine ⟨-1, ?_, fun w' hw' hs' => ?_⟩
    · unfold F_X5_ill
      rw [X5_part, if_neg hp, Option.bind_some, if_pos rfl]
      exact Ok.ret ⟨Same.rf w, rfl⟩
    · unfold F_X6_ill
      rw [X6_part, if_neg hp, Option.bind_some, if_pos rfl]
      exact Ok.ret ⟨Same.rf w', rfl⟩
