/-! bits of the small machine's numbers -/
theorem bs_toInt (x : Int32) : x.toInt = w32 (x.toBitVec.toNat : Int) := by
  show x.toBitVec.toInt = _
  rw [BitVec.toInt_eq_toNat_bmod, am_bm32]
theorem bs_ofInt (a : Int) : (Int32.ofInt a).toBitVec.toNat = (a % 4294967296).toNat := by
  show (BitVec.ofInt 32 a).toNat = _
  rw [BitVec.toNat_ofInt]; rfl
theorem bs_nat {n : Nat} (h : n < 4294967296) : (((n : Int) % 4294967296).toNat) = n := by omega
theorem w32_nat {n : Nat} (h : n < 2147483648) : w32 (n : Int) = (n : Int) := by unfold w32; omega
theorem i_and_nat {a b : Nat} (ha : a < 2147483648) (hb : b < 2147483648) : i_and (a : Int) (b : Int) = ((a &&& b : Nat) : Int) := by
  unfold i_and
  rw [bs_toInt, Int32.toBitVec_and, BitVec.toNat_and, bs_ofInt, bs_ofInt, bs_nat (by omega), bs_nat (by omega)]
  exact w32_nat (Nat.lt_of_le_of_lt Nat.and_le_left ha)
theorem i_or_nat {a b : Nat} (ha : a < 2147483648) (hb : b < 2147483648) : i_or (a : Int) (b : Int) = ((a ||| b : Nat) : Int) := by
  unfold i_or
  rw [bs_toInt, Int32.toBitVec_or, BitVec.toNat_or, bs_ofInt, bs_ofInt, bs_nat (by omega), bs_nat (by omega)]
  exact w32_nat (Nat.or_lt_two_pow (n := 31) ha hb)
theorem i_xor_nat {a b : Nat} (ha : a < 2147483648) (hb : b < 2147483648) : i_xor (a : Int) (b : Int) = ((a ^^^ b : Nat) : Int) := by
  unfold i_xor
  rw [bs_toInt, Int32.toBitVec_xor, BitVec.toNat_xor, bs_ofInt, bs_ofInt, bs_nat (by omega), bs_nat (by omega)]
  exact w32_nat (Nat.xor_lt_two_pow (n := 31) ha hb)
theorem bs_sl : ∀ n : Nat, n < 32 → ((Int32.ofInt (n : Int) &&& 31).toBitVec.smod 32).toNat = n := by decide +kernel
theorem bs_su : ∀ n : Nat, n < 32 → (((Int32.ofInt (n : Int)).toUInt32 &&& Int32.toUInt32 31).toBitVec % 32).toNat = n := by decide +kernel
theorem i_shr_div {a : Int} {n : Nat} (ha : am_i32 a) (hn : n < 32) : i_shr a (n : Int) = a / 2 ^ n := by
  unfold i_shr
  show ((Int32.ofInt a).toBitVec.sshiftRight ((Int32.ofInt (n : Int) &&& 31).toBitVec.smod 32).toNat).toInt = _
  rw [bs_sl n hn, BitVec.toInt_sshiftRight]
  have e : (Int32.ofInt a).toBitVec.toInt = a := am_to32 ha
  rw [e, Int.shiftRight_eq_div_pow]
  congr 1
theorem i_shl_mul {a : Int} {n : Nat} (hn : n < 32) : i_shl a (n : Int) = w32 (a * 2 ^ n) := by
  unfold i_shl
  rw [bs_toInt]
  show w32 (((Int32.ofInt a).toBitVec <<< ((Int32.ofInt (n : Int) &&& 31).toBitVec.smod 32)).toNat : Int) = _
  rw [BitVec.shiftLeft_eq', bs_sl n hn, BitVec.toNat_shiftLeft, bs_ofInt, Nat.shiftLeft_eq]
  have e1 : (((a % 4294967296).toNat : Nat) : Int) = a % 4294967296 := Int.toNat_of_nonneg (Int.emod_nonneg _ (by decide))
  have e2 : ((((a % 4294967296).toNat * 2 ^ n % 2 ^ 32 : Nat)) : Int) = (a % 4294967296 * 2 ^ n) % 4294967296 := by
    rw [Int.natCast_emod, Int.natCast_mul, e1, Int.natCast_pow]; rfl
  rw [e2]
  have e3 : (a % 4294967296 * 2 ^ n) % 4294967296 = (a * 2 ^ n) % 4294967296 := by rw [Int.mul_emod, Int.emod_emod_of_dvd _ (Int.dvd_refl _), ← Int.mul_emod]
  rw [e3]
  unfold w32
  generalize a * 2 ^ n = y
  omega
theorem i_shl_one {n : Nat} (hn : n < 31) : i_shl 1 (n : Int) = ((2 ^ n : Nat) : Int) := by
  rw [i_shl_mul (by omega), Int.one_mul]
  have h : (2 : Nat) ^ n < 2147483648 := Nat.pow_lt_pow_right (m := n) (n := 31) (by decide) hn
  have e : ((2 : Int) ^ n) = ((2 ^ n : Nat) : Int) := by norm_cast
  rw [e]; exact w32_nat h
theorem i_ushr_div {a : Int} {n : Nat} (hn : n < 32) : i_ushr a (n : Int) = w32 (a % 4294967296 / 2 ^ n) := by
  unfold i_ushr
  rw [bs_toInt]
  show w32 (((Int32.ofInt a).toBitVec >>> (((Int32.ofInt (n : Int)).toUInt32 &&& Int32.toUInt32 31).toBitVec % 32)).toNat : Int) = _
  rw [BitVec.ushiftRight_eq', bs_su n hn, BitVec.toNat_ushiftRight, bs_ofInt, Nat.shiftRight_eq_div_pow]
  have e1 : (((a % 4294967296).toNat : Nat) : Int) = a % 4294967296 := Int.toNat_of_nonneg (Int.emod_nonneg _ (by decide))
  rw [Int.natCast_ediv, e1, Int.natCast_pow]; rfl
/-- the bit of a set -/
theorem i_bit {s : Nat} {k : Nat} (hs : s < 2147483648) (hk : k < 32) : i_and (i_shr (s : Int) (k : Int)) 1 = if s.testBit k then 1 else 0 := by
  rw [i_shr_div (by unfold am_i32; omega) hk]
  have e : ((s : Int) / 2 ^ k) = ((s / 2 ^ k : Nat) : Int) := by norm_cast
  have h : s / 2 ^ k < 2147483648 := Nat.lt_of_le_of_lt (Nat.div_le_self _ _) hs
  rw [e, show (1 : Int) = ((1 : Nat) : Int) from rfl, i_and_nat h (by decide), Nat.and_one_is_mod]
  rw [Nat.testBit_eq_decide_div_mod_eq]
  by_cases q : s / 2 ^ k % 2 = 1
  · simp [q]
  · have q2 : s / 2 ^ k % 2 = 0 := by omega
    simp [q2]
theorem i_add_bit {s k : Nat} (hs : s < 2147483648) (hk : k < 31) : i_or (s : Int) (i_shl 1 (k : Int)) = ((s ||| 2 ^ k : Nat) : Int) := by
  rw [i_shl_one hk, i_or_nat hs (Nat.pow_lt_pow_right (m := k) (n := 31) (by decide) hk)]
