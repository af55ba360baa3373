theorem i32_bv (v : Int32) (h : v.toBitVec.toNat < 2147483648) : v.toInt = (v.toBitVec.toNat : Int) := by
  show v.toBitVec.toInt = _
  exact BitVec.toInt_eq_toNat_of_lt (by omega)
theorem bv_of (a : Nat) : (Int32.ofInt (a : Int)).toBitVec = BitVec.ofNat 32 a := by rw [i32_nat]; rfl
theorem bv_nat {a : Nat} (h : a < 2147483648) : (BitVec.ofNat 32 a).toNat = a := by rw [BitVec.toNat_ofNat]; omega
theorem bOr_n {a b : Nat} (ha : a < 2147483648) (hb : b < 2147483648) : bOr a b = ((a ||| b : Nat) : Int) := by
  unfold bOr
  have h1 : (Int32.ofInt (a : Int) ||| Int32.ofInt (b : Int)).toBitVec = BitVec.ofNat 32 a ||| BitVec.ofNat 32 b := by rw [Int32.toBitVec_or, bv_of, bv_of]
  have h2 : (BitVec.ofNat 32 a ||| BitVec.ofNat 32 b).toNat = a ||| b := by rw [BitVec.toNat_or, bv_nat ha, bv_nat hb]
  have h3 : a ||| b < 2147483648 := Nat.or_lt_two_pow (n := 31) ha hb
  rw [i32_bv _ (by rw [h1, h2]; exact h3), h1, h2]
theorem bAnd_n {a b : Nat} (ha : a < 2147483648) (hb : b < 2147483648) : bAnd a b = ((a &&& b : Nat) : Int) := by
  unfold bAnd
  have h1 : (Int32.ofInt (a : Int) &&& Int32.ofInt (b : Int)).toBitVec = BitVec.ofNat 32 a &&& BitVec.ofNat 32 b := by rw [Int32.toBitVec_and, bv_of, bv_of]
  have h2 : (BitVec.ofNat 32 a &&& BitVec.ofNat 32 b).toNat = a &&& b := by rw [BitVec.toNat_and, bv_nat ha, bv_nat hb]
  have h3 : a &&& b < 2147483648 := Nat.lt_of_le_of_lt Nat.and_le_left ha
  rw [i32_bv _ (by rw [h1, h2]; exact h3), h1, h2]
theorem bShl_1 : ∀ i : Nat, i < 31 → bShl 1 (i : Int) = ((2 ^ i : Nat) : Int) := by decide +kernel
def ndf (a b : Nat) : Nat := (BitVec.ofNat 32 a &&& ~~~(BitVec.ofNat 32 b)).toNat
theorem ndf_le {a b : Nat} (ha : a < 2147483648) : ndf a b ≤ a := by
  unfold ndf; rw [BitVec.toNat_and, bv_nat ha]; exact Nat.and_le_left
theorem ndf_bit {a b : Nat} (ha : a < 2147483648) (hb : b < 2147483648) (j : Nat) : (ndf a b).testBit j = (a.testBit j && !b.testBit j) := by
  unfold ndf
  rw [BitVec.testBit_toNat, BitVec.getLsbD_and, BitVec.getLsbD_not, BitVec.getLsbD_ofNat, BitVec.getLsbD_ofNat]
  by_cases hj : j < 32
  · simp [hj]
  · have : a.testBit j = false := Nat.testBit_lt_two_pow (Nat.lt_of_lt_of_le (show a < 2 ^ 31 from ha) (Nat.pow_le_pow_right (by decide : 2 > 0) (by omega : 31 ≤ j)))
    simp [hj, this]
theorem bNot_n {a b : Nat} (ha : a < 2147483648) : bAnd a (bXor b (-1)) = ((ndf a b : Nat) : Int) := by
  unfold bAnd bXor
  rw [Int32.ofInt_toInt]
  have h1 : (Int32.ofInt (a : Int) &&& (Int32.ofInt (b : Int) ^^^ Int32.ofInt (-1))).toBitVec = BitVec.ofNat 32 a &&& ~~~(BitVec.ofNat 32 b) := by
    rw [Int32.toBitVec_and, Int32.toBitVec_xor, bv_of, bv_of]
    congr 1
    have : (Int32.ofInt (-1)).toBitVec = BitVec.allOnes 32 := by decide
    rw [this, BitVec.xor_allOnes]
  have h3 := ndf_le (b := b) ha
  rw [i32_bv _ (by rw [h1]; exact Nat.lt_of_le_of_lt h3 ha), h1]; rfl
theorem bShr_n {a : Nat} (ha : a < 2147483648) : ∀ i : Nat, i < 31 → bShr a i = ((a >>> i : Nat) : Int) := by
  intro i hi
  have hm : (BitVec.ofNat 32 a).msb = false := by
    rw [BitVec.msb_eq_decide, bv_nat ha]; simp; omega
  have h1 : (Int32.ofInt (a : Int) >>> (Int32.ofInt (i : Int) &&& 31)).toBitVec = (BitVec.ofNat 32 a) >>> i := by
    rw [Int32.toBitVec_shiftRight, bv_of]
    have h2 : ∀ i : Nat, i < 31 → ((Int32.ofInt (i : Int) &&& 31).toBitVec.smod 32).toNat = i := by decide +kernel
    rw [BitVec.sshiftRight_eq', h2 i hi, BitVec.sshiftRight_eq_of_msb_false hm]
  unfold bShr
  have h3 : ((BitVec.ofNat 32 a) >>> i).toNat = a >>> i := by rw [BitVec.toNat_ushiftRight, bv_nat ha]
  have h4 : a >>> i ≤ a := Nat.shiftRight_le a i
  rw [i32_bv _ (by rw [h1, h3]; omega), h1, h3]
theorem bit_has {a i : Nat} (ha : a < 2147483648) (hi : i < 31) : bAnd (bShr a i) 1 = if a.testBit i then 1 else 0 := by
  have h4 : a >>> i ≤ a := Nat.shiftRight_le a i
  rw [bShr_n ha i hi, show (1 : Int) = ((1 : Nat) : Int) from rfl, bAnd_n (by omega) (by omega), Nat.and_one_is_mod]
  have : a.testBit i = decide ((a >>> i) % 2 = 1) := by rw [Nat.testBit_eq_decide_div_mod_eq, Nat.shiftRight_eq_div_pow]
  rw [this]
  by_cases h : (a >>> i) % 2 = 1
  · simp [h]
  · have : (a >>> i) % 2 = 0 := by omega
    simp [this]
theorem has_ok (h : Hp) {a i : Nat} (ha : a < 2147483648) (hi : i < 31) : fX0_has a i h = some (if a.testBit i then 1 else 0, h) := by
  unfold fX0_has
  rw [bit_has ha hi]
  by_cases hb : a.testBit i <;> simp [hb, fX0_has_14, cbo]
