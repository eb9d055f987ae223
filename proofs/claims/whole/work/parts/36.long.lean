theorem lN_bvN {n : Nat} (h : n < 2 ^ 64) : (lN n).toBitVec.toNat = n := by
  show (BitVec.ofNat 64 n).toNat = n
  rw [BitVec.toNat_ofNat]; exact Nat.mod_eq_of_lt h
theorem l64_ext {x y : Int64} (h : x.toBitVec.toNat = y.toBitVec.toNat) : x = y := Int64.toBitVec_inj.mp (BitVec.eq_of_toNat_eq h)
theorem lN_mod (n : Nat) : (lN n).toBitVec.toNat = n % 2 ^ 64 := by
  show (BitVec.ofNat 64 n).toNat = _
  rw [BitVec.toNat_ofNat]
theorem lN_inj64 {a b : Nat} (ha : a < 2 ^ 64) (hb : b < 2 ^ 64) : lN a = lN b ↔ a = b := by
  refine ⟨fun h => ?_, fun h => by rw [h]⟩
  rw [← lN_bvN ha, h, lN_bvN hb]
theorem lN_and {a b : Nat} (ha : a < 2 ^ 64) (hb : b < 2 ^ 64) : lN a &&& lN b = lN (a &&& b) := by
  apply l64_ext
  rw [Int64.toBitVec_and, BitVec.toNat_and, lN_bvN ha, lN_bvN hb, lN_bvN (Nat.lt_of_le_of_lt Nat.and_le_left ha)]
theorem lN_or {a b : Nat} (ha : a < 2 ^ 64) (hb : b < 2 ^ 64) : lN a ||| lN b = lN (a ||| b) := by
  apply l64_ext
  rw [Int64.toBitVec_or, BitVec.toNat_or, lN_bvN ha, lN_bvN hb, lN_bvN (Nat.or_lt_two_pow ha hb)]
theorem sh_63a : ∀ k, k < 64 → ((nI k).toInt64 &&& 63).toBitVec.smod 64 = BitVec.ofNat 64 k := by decide +kernel
theorem sh_63b : ∀ k, k < 64 → ((nI k).toInt64.toUInt64 &&& Int64.toUInt64 63).toNat = k := by decide +kernel
theorem lN_shl (a : Nat) {k : Nat} (hk : k < 64) : lshl (lN a) (nI k) = lN (a * 2 ^ k) := by
  apply l64_ext
  unfold lshl
  rw [Int64.toBitVec_shiftLeft, sh_63a k hk, BitVec.shiftLeft_eq', BitVec.toNat_ofNat, Nat.mod_eq_of_lt (show k < 2 ^ 64 by omega), BitVec.toNat_shiftLeft, lN_mod, lN_mod, Nat.shiftLeft_eq, Nat.mod_mul_mod]
theorem lN_shr {a k : Nat} (ha : a < 2 ^ 64) (hk : k < 64) : lushr (lN a) (nI k) = lN (a / 2 ^ k) := by
  apply l64_ext
  unfold lushr
  rw [UInt64.toBitVec_toInt64, UInt64.toNat_toBitVec, UInt64.toNat_shiftRight, sh_63b k hk, Nat.mod_eq_of_lt hk, Nat.shiftRight_eq_div_pow, lN_bvN (Nat.lt_of_le_of_lt (Nat.div_le_self _ _) ha)]
  rw [show (lN a).toUInt64.toNat = a from lN_bvN ha]
theorem nI_long {a : Nat} (h : a < 2 ^ 31) : (nI a).toInt64 = lN a := by
  apply Int64.toInt_inj.mp
  rw [Int32.toInt_toInt64, nI_toInt h, lN_toInt h]
/-! the bits of a number, counted in bytes -/
theorem and_byte {a c y z : Nat} (ha : a < 256) (hc : c < 256) : (a + 256 * y) &&& (c + 256 * z) = (a &&& c) + 256 * (y &&& z) := by
  have h1 : (a &&& c) < 2 ^ 8 := Nat.and_lt_two_pow _ (show c < 2 ^ 8 from hc)
  apply Nat.eq_of_testBit_eq
  intro i
  rw [show (256 : Nat) = 2 ^ 8 by rfl, Nat.testBit_and, Nat.add_comm a, Nat.add_comm c, Nat.add_comm (a &&& c), Nat.testBit_two_pow_mul_add _ ha, Nat.testBit_two_pow_mul_add _ hc, Nat.testBit_two_pow_mul_add _ h1]
  by_cases q : i < 8
  · rw [if_pos q, if_pos q, if_pos q, Nat.testBit_and]
  · rw [if_neg q, if_neg q, if_neg q, Nat.testBit_and]
def by1 (a : Nat) : Nat := a - ((a / 2) &&& 85)
def by2 (a : Nat) : Nat := (by1 a &&& 51) + ((by1 a / 4) &&& 51)
theorem by1_ok : ∀ a, a < 256 → ((a / 2) &&& 85) ≤ a ∧ by1 a < 256 ∧ by2 a < 69 ∧ by2 a % 16 ≤ 4 ∧ ((by1 a &&& 51) + ((by1 a / 4) &&& 51)) < 256 := by decide +kernel
theorem by_85 : ∀ a, a < 256 → ∀ b, b < 2 → ((a / 2 + 128 * b) &&& 85) = ((a / 2) &&& 85) := by decide +kernel
theorem by_51 : ∀ a, a < 256 → ∀ b, b < 4 → ((by1 a / 4 + 64 * b) &&& 51) = ((by1 a / 4) &&& 51) := by decide +kernel
theorem by_15 : ∀ a, a < 256 → ∀ b, b < 5 → ((by2 a + (by2 a / 16 + 16 * b)) &&& 15) = pc a ∧ by2 a + (by2 a / 16 + 16 * b) < 256 := by decide +kernel
theorem bcS1 {a y m : Nat} (ha : a < 256) (hy : ((y / 2) &&& m) ≤ y) : (((a + 256 * y) / 2) &&& (85 + 256 * m)) ≤ a + 256 * y ∧ (a + 256 * y) - (((a + 256 * y) / 2) &&& (85 + 256 * m)) = by1 a + 256 * (y - ((y / 2) &&& m)) := by
  obtain ⟨h1, -⟩ := by1_ok a ha
  rw [show (a + 256 * y) / 2 = (a / 2 + 128 * (y % 2)) + 256 * (y / 2) by omega, and_byte (by omega) (by omega), by_85 a ha _ (by omega)]
  unfold by1
  omega
theorem bcS2 {a y m : Nat} (ha : a < 256) : ((by1 a + 256 * y) &&& (51 + 256 * m)) + (((by1 a + 256 * y) / 4) &&& (51 + 256 * m)) = by2 a + 256 * ((y &&& m) + ((y / 4) &&& m)) := by
  obtain ⟨-, h1, -⟩ := by1_ok a ha
  rw [show (by1 a + 256 * y) / 4 = (by1 a / 4 + 64 * (y % 4)) + 256 * (y / 4) by omega, and_byte h1 (by omega), and_byte (by omega) (by omega), by_51 a ha _ (by omega)]
  unfold by2
  omega
theorem bcS3 {a y m : Nat} (ha : a < 256) (hy : y % 16 ≤ 4) : ((by2 a + 256 * y) + (by2 a + 256 * y) / 16) &&& (15 + 256 * m) = pc a + 256 * ((y + y / 16) &&& m) := by
  obtain ⟨h1, h2⟩ := by_15 a ha (y % 16) (by omega)
  rw [show (by2 a + 256 * y) + (by2 a + 256 * y) / 16 = (by2 a + (by2 a / 16 + 16 * (y % 16))) + 256 * (y + y / 16) by omega, and_byte h2 (by omega), h1]
def pc5 (m : Nat) : Nat := pc (m % 256) + pc (m / 256 % 256) + pc (m / 65536 % 256) + pc (m / 16777216 % 256) + pc (m / 4294967296 % 256)
theorem J13_bc (w : Wd) {m : Nat} (hm : m < 2 ^ 40) : F_J13_bitCount w (lN m) = some (nI (pc5 m), w) := by
  obtain ⟨a, y1, rfl, ha⟩ : ∃ a y, m = a + 256 * y ∧ a < 256 := ⟨m % 256, m / 256, by omega, by omega⟩
  obtain ⟨b, y2, rfl, hb⟩ : ∃ a y, y1 = a + 256 * y ∧ a < 256 := ⟨y1 % 256, y1 / 256, by omega, by omega⟩
  obtain ⟨c, y3, rfl, hc⟩ : ∃ a y, y2 = a + 256 * y ∧ a < 256 := ⟨y2 % 256, y2 / 256, by omega, by omega⟩
  obtain ⟨d, e, rfl, hd⟩ : ∃ a y, y3 = a + 256 * y ∧ a < 256 := ⟨y3 % 256, y3 / 256, by omega, by omega⟩
  have he : e < 256 := by omega
  have hp5 : pc5 (a + 256 * (b + 256 * (c + 256 * (d + 256 * e)))) = pc a + pc b + pc c + pc d + pc e := by
    unfold pc5
    rw [show (a + 256 * (b + 256 * (c + 256 * (d + 256 * e)))) % 256 = a by omega, show (a + 256 * (b + 256 * (c + 256 * (d + 256 * e)))) / 256 % 256 = b by omega, show (a + 256 * (b + 256 * (c + 256 * (d + 256 * e)))) / 65536 % 256 = c by omega, show (a + 256 * (b + 256 * (c + 256 * (d + 256 * e)))) / 16777216 % 256 = d by omega, show (a + 256 * (b + 256 * (c + 256 * (d + 256 * e)))) / 4294967296 % 256 = e by omega]
  obtain ⟨z1, z2⟩ := bcS1 (a := e) (y := 0) (m := 5592405) he (by decide)
  replace z2 : e - (e / 2 &&& (85 + 256 * 5592405)) = by1 e := z2
  replace z1 : (e / 2 &&& (85 + 256 * 5592405)) ≤ e := z1
  obtain ⟨z3, z4⟩ := bcS1 (a := d) (y := e) (m := 85 + 256 * 5592405) hd z1
  obtain ⟨z5, z6⟩ := bcS1 (a := c) (m := 85 + 256 * (85 + 256 * 5592405)) hc z3
  obtain ⟨z7, z8⟩ := bcS1 (a := b) (m := 85 + 256 * (85 + 256 * (85 + 256 * 5592405))) hb z5
  obtain ⟨z9, z10⟩ := bcS1 (a := a) (m := 85 + 256 * (85 + 256 * (85 + 256 * (85 + 256 * 5592405)))) ha z7
  rw [z8, z6, z4, z2] at z10
  have s2 : ∀ y m, ((by1 a + 256 * y) &&& (51 + 256 * m)) + (((by1 a + 256 * y) / 4) &&& (51 + 256 * m)) = by2 a + 256 * ((y &&& m) + ((y / 4) &&& m)) := fun y m => bcS2 ha
  have q2 : ((by1 a + 256 * (by1 b + 256 * (by1 c + 256 * (by1 d + 256 * by1 e)))) &&& 3689348814741910323) + (((by1 a + 256 * (by1 b + 256 * (by1 c + 256 * (by1 d + 256 * by1 e)))) / 4) &&& 3689348814741910323) = by2 a + 256 * (by2 b + 256 * (by2 c + 256 * (by2 d + 256 * by2 e))) := by
    have t : (by1 e &&& (51 + 256 * 3355443)) + ((by1 e / 4) &&& (51 + 256 * 3355443)) = by2 e := bcS2 (a := e) (y := 0) (m := 3355443) he
    rw [show 3689348814741910323 = 51 + 256 * (51 + 256 * (51 + 256 * (51 + 256 * (51 + 256 * 3355443)))) by rfl, bcS2 ha, bcS2 hb, bcS2 hc, bcS2 hd, t]
  obtain ⟨-, a1, a2, a3, -⟩ := by1_ok a ha
  obtain ⟨-, b1, b2, b3, -⟩ := by1_ok b hb
  obtain ⟨-, c1, c2, c3, -⟩ := by1_ok c hc
  obtain ⟨-, d1, d2, d3, -⟩ := by1_ok d hd
  obtain ⟨-, e1, e2, e3, -⟩ := by1_ok e he
  have q3 : ((by2 a + 256 * (by2 b + 256 * (by2 c + 256 * (by2 d + 256 * by2 e)))) + (by2 a + 256 * (by2 b + 256 * (by2 c + 256 * (by2 d + 256 * by2 e)))) / 16) &&& 1085102592571150095 = pc a + 256 * (pc b + 256 * (pc c + 256 * (pc d + 256 * pc e))) := by
    have t : (by2 e + by2 e / 16) &&& (15 + 256 * 986895) = pc e := bcS3 (a := e) (y := 0) (m := 986895) he (by decide)
    rw [show 1085102592571150095 = 15 + 256 * (15 + 256 * (15 + 256 * (15 + 256 * (15 + 256 * 986895)))) by rfl, bcS3 ha (by omega), bcS3 hb (by omega), bcS3 hc (by omega), bcS3 hd (by omega), t]
  have pa := pc_le a
  have pb := pc_le b
  have pcc := pc_le c
  have pd := pc_le d
  have pe := pc_le e
  rw [hp5]
  unfold F_J13_bitCount
  generalize hM : a + 256 * (b + 256 * (c + 256 * (d + 256 * e))) = M at hm z9 z10 ⊢
  rw [show (6148914691236517205 : Int64) = lN 6148914691236517205 from rfl, show (3689348814741910323 : Int64) = lN 3689348814741910323 from rfl, show (1085102592571150095 : Int64) = lN 1085102592571150095 from rfl]
  rw [show (85 + 256 * (85 + 256 * (85 + 256 * (85 + 256 * (85 + 256 * 5592405))))) = 6148914691236517205 by rfl] at z9 z10
  rw [show (1 : Int32) = nI 1 from rfl, lN_shr (by omega) (by decide), lN_and (by omega) (by decide), show 2 ^ 1 = 2 by rfl, lN_sub z9, z10]
  generalize hM1 : by1 a + 256 * (by1 b + 256 * (by1 c + 256 * (by1 d + 256 * by1 e))) = M1 at q2
  show (Let (lN M1) fun y1 => _) = _
  unfold Let
  dsimp only
  rw [show (2 : Int32) = nI 2 from rfl, lN_and (by omega) (by decide), lN_shr (by omega) (by decide), lN_and (by omega) (by decide), lN_add, show 2 ^ 2 = 4 by rfl, q2]
  generalize hM2 : by2 a + 256 * (by2 b + 256 * (by2 c + 256 * (by2 d + 256 * by2 e))) = M2 at q3 ⊢
  rw [show (4 : Int32) = nI 4 from rfl, lN_shr (by omega) (by decide), lN_add, lN_and (by omega) (by decide), show 2 ^ 4 = 16 by rfl, q3]
  rw [show (8 : Int32) = nI 8 from rfl, show (16 : Int32) = nI 16 from rfl, show (32 : Int32) = nI 32 from rfl, lN_shr (by omega) (by decide), lN_add, lN_shr (by omega) (by decide), lN_add, lN_shr (by omega) (by decide), lN_add, lN_i, show (127 : Int32) = nI 127 from rfl, nI_and, show (127 : Nat) = 2 ^ 7 - 1 by rfl, Nat.and_two_pow_sub_one_eq_mod]
  rw [show 2 ^ 8 = 256 by rfl, show 2 ^ 16 = 65536 by rfl, show 2 ^ 32 = 4294967296 by rfl, show 2 ^ 7 = 128 by rfl]
  generalize hP : pc a + 256 * (pc b + 256 * (pc c + 256 * (pc d + 256 * pc e))) = P
  have r1 : P + P / 256 = (pc a + pc b) + 256 * ((pc b + pc c) + 256 * ((pc c + pc d) + 256 * ((pc d + pc e) + 256 * pc e))) := by omega
  rw [r1]
  generalize hZ : (pc a + pc b) + 256 * ((pc b + pc c) + 256 * ((pc c + pc d) + 256 * ((pc d + pc e) + 256 * pc e))) = Z
  have r2 : Z / 65536 = (pc c + pc d) + 256 * ((pc d + pc e) + 256 * pc e) := by omega
  rw [r2]
  generalize hY : Z + ((pc c + pc d) + 256 * ((pc d + pc e) + 256 * pc e)) = Y
  have r3 : Y / 4294967296 = pc e := by omega
  rw [r3, show (Y + pc e) % 128 = pc a + pc b + pc c + pc d + pc e by omega]
