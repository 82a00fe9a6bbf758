/-! words of 64 bits; how many bits, the least bit -/
theorem bl_toInt (x : Int64) : x.toInt = w64 (x.toBitVec.toNat : Int) := by
  show x.toBitVec.toInt = _
  rw [BitVec.toInt_eq_toNat_bmod]
  unfold w64
  rw [Int.bmod_def]
  have h : x.toBitVec.toNat < 18446744073709551616 := x.toBitVec.isLt
  generalize x.toBitVec.toNat = n at h
  show (if ((n : Nat) : Int) % 18446744073709551616 < (18446744073709551616 + 1) / 2 then _ else _) = _
  split <;> omega
theorem bl_ofInt (a : Int) : (Int64.ofInt a).toBitVec.toNat = (a % 18446744073709551616).toNat := by
  show (BitVec.ofInt 64 a).toNat = _
  rw [BitVec.toNat_ofInt]; rfl
theorem bl_w64 {a : Nat} (ha : a < 18446744073709551616) : (w64 (a : Int) % 18446744073709551616).toNat = a := by unfold w64; omega
theorem l_and_w {a b : Nat} (ha : a < 18446744073709551616) (hb : b < 18446744073709551616) : l_and (w64 (a : Int)) (w64 (b : Int)) = w64 ((a &&& b : Nat) : Int) := by
  unfold l_and
  rw [bl_toInt, Int64.toBitVec_and, BitVec.toNat_and, bl_ofInt, bl_ofInt, bl_w64 ha, bl_w64 hb]
theorem l_or_w {a b : Nat} (ha : a < 18446744073709551616) (hb : b < 18446744073709551616) : l_or (w64 (a : Int)) (w64 (b : Int)) = w64 ((a ||| b : Nat) : Int) := by
  unfold l_or
  rw [bl_toInt, Int64.toBitVec_or, BitVec.toNat_or, bl_ofInt, bl_ofInt, bl_w64 ha, bl_w64 hb]
theorem bl_sl : ∀ n : Nat, n < 64 → (((Int32.ofInt (n : Int)).toInt64 &&& 63).toBitVec.smod 64).toNat = n := by decide +kernel
theorem bl_su : ∀ n : Nat, n < 64 → (((Int32.ofInt (n : Int)).toInt64.toUInt64 &&& Int64.toUInt64 63).toBitVec % 64).toNat = n := by decide +kernel
theorem l_shl1 {n : Nat} (hn : n < 64) : l_shl 1 (n : Int) = w64 ((2 ^ n : Nat) : Int) := by
  unfold l_shl
  rw [bl_toInt]
  show w64 (((Int64.ofInt 1).toBitVec <<< (((Int32.ofInt (n : Int)).toInt64 &&& 63).toBitVec.smod 64)).toNat : Int) = _
  rw [BitVec.shiftLeft_eq', bl_sl n hn, BitVec.toNat_shiftLeft, bl_ofInt, Nat.shiftLeft_eq]
  rw [show ((1 : Int) % 18446744073709551616).toNat = 1 from by decide, Nat.one_mul, Nat.mod_eq_of_lt (Nat.pow_lt_pow_right (by decide) hn)]
theorem l_ushr_w {a : Nat} {n : Nat} (ha : a < 18446744073709551616) (hn : n < 64) : l_ushr (w64 (a : Int)) (n : Int) = w64 ((a / 2 ^ n : Nat) : Int) := by
  unfold l_ushr
  rw [bl_toInt]
  show w64 (((Int64.ofInt (w64 (a : Int))).toBitVec >>> (((Int32.ofInt (n : Int)).toInt64.toUInt64 &&& Int64.toUInt64 63).toBitVec % 64)).toNat : Int) = _
  rw [BitVec.ushiftRight_eq', bl_su n hn, BitVec.toNat_ushiftRight, bl_ofInt, Nat.shiftRight_eq_div_pow, bl_w64 ha]
theorem i_ushr_w {a : Nat} {n : Nat} (ha : a < 4294967296) (hn : n < 32) : i_ushr (w32 (a : Int)) (n : Int) = w32 ((a / 2 ^ n : Nat) : Int) := by
  rw [i_ushr_div hn, show w32 (a : Int) % 4294967296 = (a : Int) by unfold w32; omega, Int.natCast_ediv, Int.natCast_pow]; rfl
/-! bytes of a word -/
theorem by_and {h l a b : Nat} (hl : l < 256) (hb : b < 256) : (256 * h + l) &&& (256 * a + b) = 256 * (h &&& a) + (l &&& b) := by
  have hlb : l &&& b < 256 := Nat.lt_of_le_of_lt Nat.and_le_left hl
  apply Nat.eq_of_testBit_eq
  intro i
  rw [Nat.testBit_and, show (256 : Nat) = 2 ^ 8 from rfl, Nat.testBit_two_pow_mul_add _ hl, Nat.testBit_two_pow_mul_add _ hb, Nat.testBit_two_pow_mul_add _ hlb]
  split
  · rw [Nat.testBit_and]
  · rw [Nat.testBit_and]
def by_m (c : Nat) : Nat → Nat
  | 0 => 0
  | k + 1 => 256 * by_m c k + c
def by_1 (l : Nat) : Nat := l - (l / 2 &&& 85)
def by_2 (l : Nat) : Nat := (by_1 l &&& 51) + (by_1 l / 4 &&& 51)
def by_3 (l : Nat) : Nat := (by_2 l + by_2 l / 16) &&& 15
theorem by_1_b : ∀ l, l < 256 → by_1 l < 256 ∧ (l / 2 &&& 85) ≤ l ∧ ((l / 2 + 128) &&& 85) = (l / 2 &&& 85) := by decide +kernel
theorem by_2_b : ∀ l, l < 256 → by_2 l < 256 ∧ (by_1 l &&& 51) < 64 ∧ (by_1 l / 4 &&& 51) < 64 ∧ ∀ q, q < 4 → (by_1 l / 4 + 64 * q &&& 51) = (by_1 l / 4 &&& 51) := by decide +kernel
theorem by_3_b : ∀ l, l < 256 → by_3 l = cnt l.testBit 8 ∧ by_3 l ≤ 8 ∧ by_2 l + by_2 l / 16 < 128 ∧ by_2 l < 69 := by decide +kernel
theorem by_3_q : ∀ l, l < 256 → by_2 l % 16 ≤ 4 ∧ ∀ q, q < 5 → by_2 l + by_2 l / 16 + 16 * q < 256 ∧ (by_2 l + by_2 l / 16 + 16 * q) &&& 15 = by_3 l := by decide +kernel
def by_X1 (k a : Nat) : Nat := a - (a / 2 &&& by_m 85 k)
def by_X2 (k y : Nat) : Nat := (y &&& by_m 51 k) + (y / 4 &&& by_m 51 k)
def by_X3 (k z : Nat) : Nat := (z + z / 16) &&& by_m 15 k
def by_S : Nat → Nat → Nat
  | 0, _ => 0
  | k + 1, a => 256 * by_S k (a / 256) + cnt (a % 256).testBit 8
theorem by_X1_s (k h l : Nat) (hl : l < 256) : by_X1 (k + 1) (256 * h + l) = 256 * by_X1 k h + by_1 l := by
  obtain ⟨-, h1, h2⟩ := by_1_b l hl
  unfold by_X1
  rw [show by_m 85 (k + 1) = 256 * by_m 85 k + 85 from rfl, show (256 * h + l) / 2 = 256 * (h / 2) + (128 * (h % 2) + l / 2) by omega, by_and (by omega) (by omega)]
  have e : (128 * (h % 2) + l / 2) &&& 85 = l / 2 &&& 85 := by
    rcases Nat.mod_two_eq_zero_or_one h with q | q
    · rw [q]; simp
    · rw [q, Nat.mul_one, Nat.add_comm]; exact h2
  rw [e]
  have g : (h / 2 &&& by_m 85 k) ≤ h := Nat.le_trans Nat.and_le_left (Nat.div_le_self _ _)
  unfold by_1
  omega
theorem by_X2_s (k y l : Nat) (hl : l < 256) : by_X2 (k + 1) (256 * y + by_1 l) = 256 * by_X2 k y + by_2 l := by
  have h1 := (by_1_b l hl).1
  obtain ⟨-, -, -, h2⟩ := by_2_b l hl
  unfold by_X2
  rw [show by_m 51 (k + 1) = 256 * by_m 51 k + 51 from rfl, show (256 * y + by_1 l) / 4 = 256 * (y / 4) + (by_1 l / 4 + 64 * (y % 4)) by omega, by_and (by omega) (by omega), by_and (by omega) (by omega), h2 _ (by omega)]
  unfold by_2
  omega
theorem by_X3_s (k z l : Nat) (hl : l < 256) (hz : z % 16 ≤ 4) : by_X3 (k + 1) (256 * z + by_2 l) = 256 * by_X3 k z + by_3 l := by
  have h1 := (by_2_b l hl).1
  obtain ⟨g1, g2⟩ := (by_3_q l hl).2 (z % 16) (by omega)
  unfold by_X3
  rw [show by_m 15 (k + 1) = 256 * by_m 15 k + 15 from rfl, show (256 * z + by_2 l) + (256 * z + by_2 l) / 16 = 256 * (z + z / 16) + (by_2 l + by_2 l / 16 + 16 * (z % 16)) by omega, by_and g1 (by omega), g2]
theorem by_all : ∀ (k a : Nat), a < 256 ^ k → by_X3 k (by_X2 k (by_X1 k a)) = by_S k a ∧ by_X2 k (by_X1 k a) % 16 ≤ 4
  | 0, a, h => by
    have h : a = 0 := by simpa using h
    subst h; exact ⟨rfl, by decide⟩
  | k + 1, a, h => by
    have hl : a % 256 < 256 := Nat.mod_lt _ (by decide)
    have hh : a / 256 < 256 ^ k := Nat.div_lt_of_lt_mul (by rw [Nat.pow_succ] at h; omega)
    obtain ⟨i1, i2⟩ := by_all k (a / 256) hh
    have e : a = 256 * (a / 256) + a % 256 := by omega
    have e1 : by_X1 (k + 1) a = 256 * by_X1 k (a / 256) + by_1 (a % 256) := by
      rw [← by_X1_s k _ _ hl, ← e]
    rw [e1, by_X2_s k _ _ hl, by_X3_s k _ _ hl i2, i1, (by_3_b _ hl).1]
    refine ⟨rfl, ?_⟩
    have := (by_3_q _ hl).1
    omega
theorem cnt_split (p : Nat → Bool) (m : Nat) : ∀ n, cnt p (m + n) = cnt p m + cnt (fun k => p (m + k)) n
  | 0 => rfl
  | n + 1 => by
    show cnt p (m + n) + _ = _
    rw [cnt_split p m n]
    show _ = cnt p m + (cnt (fun k => p (m + k)) n + (if p (m + n) then 1 else 0))
    rw [Nat.add_assoc]; rfl
theorem cnt_byte (a n : Nat) : cnt a.testBit (8 + n) = cnt (a % 256).testBit 8 + cnt (a / 256).testBit n := by
  rw [cnt_split]
  congr 1
  · refine cnt_congr (fun k hk => ?_)
    rw [show (256 : Nat) = 2 ^ 8 from rfl, Nat.testBit_mod_two_pow, decide_eq_true hk, Bool.true_and]
  · refine cnt_congr (fun k hk => ?_)
    rw [show (256 : Nat) = 2 ^ 8 from rfl, Nat.testBit_div_two_pow, Nat.add_comm]
/-- how many bits a word of 32 bits has -/
theorem by_32 {a : Nat} (ha : a < 4294967296) : ((by_S 4 a + by_S 4 a / 256) + (by_S 4 a + by_S 4 a / 256) / 65536) % 64 = cnt a.testBit 32 := by
  have e : cnt a.testBit 32 = cnt (a % 256).testBit 8 + (cnt (a / 256 % 256).testBit 8 + (cnt (a / 256 / 256 % 256).testBit 8 + cnt (a / 256 / 256 / 256).testBit 8)) := by
    rw [show (32 : Nat) = 8 + 24 from rfl, cnt_byte, show (24 : Nat) = 8 + 16 from rfl, cnt_byte, show (16 : Nat) = 8 + 8 from rfl, cnt_byte]
  have e2 : a / 256 / 256 / 256 % 256 = a / 256 / 256 / 256 := by omega
  have c0 := cnt_le (p := (a % 256).testBit) 8
  have c1 := cnt_le (p := (a / 256 % 256).testBit) 8
  have c2 := cnt_le (p := (a / 256 / 256 % 256).testBit) 8
  have c3 := cnt_le (p := (a / 256 / 256 / 256).testBit) 8
  rw [e]
  have eS : by_S 4 a = cnt (a % 256).testBit 8 + 256 * cnt (a / 256 % 256).testBit 8 + 65536 * cnt (a / 256 / 256 % 256).testBit 8 + 16777216 * cnt (a / 256 / 256 / 256).testBit 8 := by
    show 256 * (256 * (256 * (256 * 0 + cnt (a / 256 / 256 / 256 % 256).testBit 8) + cnt (a / 256 / 256 % 256).testBit 8) + cnt (a / 256 % 256).testBit 8) + cnt (a % 256).testBit 8 = _
    rw [e2]; omega
  rw [eS]
  generalize cnt (a % 256).testBit 8 = x0 at *
  generalize cnt (a / 256 % 256).testBit 8 = x1 at *
  generalize cnt (a / 256 / 256 % 256).testBit 8 = x2 at *
  generalize cnt (a / 256 / 256 / 256).testBit 8 = x3 at *
  clear e e2 eS
  have d1 : (x0 + 256 * x1 + 65536 * x2 + 16777216 * x3) / 256 = x1 + 256 * x2 + 65536 * x3 := by omega
  rw [d1]
  have d2 : (x0 + 256 * x1 + 65536 * x2 + 16777216 * x3 + (x1 + 256 * x2 + 65536 * x3)) / 65536 = x2 + x3 + 256 * x3 := by omega
  rw [d2]
  omega
theorem by_S_lt : ∀ (k a : Nat), by_S k a ≤ 8 * by_m 1 k
  | 0, _ => Nat.le_refl 0
  | k + 1, a => by
    show 256 * by_S k (a / 256) + cnt (a % 256).testBit 8 ≤ 8 * (256 * by_m 1 k + 1)
    have := by_S_lt k (a / 256)
    have := cnt_le (p := (a % 256).testBit) 8
    omega
