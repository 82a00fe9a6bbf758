/-! numbers: the small machine's and the machine's -/
def am_i32 (x : Int) : Prop := -2147483648 ≤ x ∧ x < 2147483648
def am_i64 (x : Int) : Prop := -9223372036854775808 ≤ x ∧ x < 9223372036854775808
theorem w32_rng (x : Int) : am_i32 (w32 x) := by unfold am_i32 w32; omega
theorem w64_rng (x : Int) : am_i64 (w64 x) := by unfold am_i64 w64; omega
theorem w8_rng (x : Int) : -128 ≤ w8 x ∧ w8 x < 128 := by unfold w8; omega
theorem w32_id {x : Int} (h : am_i32 x) : w32 x = x := by unfold am_i32 at h; unfold w32; omega
theorem w64_id {x : Int} (h : am_i64 x) : w64 x = x := by unfold am_i64 at h; unfold w64; omega
theorem am_to32 {x : Int} (h : am_i32 x) : (Int32.ofInt x).toInt = x := Int32.toInt_ofInt_of_le (by unfold am_i32 at h; omega) (by unfold am_i32 at h; omega)
theorem am_to64 {x : Int} (h : am_i64 x) : (Int64.ofInt x).toInt = x := Int64.toInt_ofInt_of_le (by unfold am_i64 at h; omega) (by unfold am_i64 at h; omega)
theorem am_bm32 (x : Int) : x.bmod (2 ^ 32) = w32 x := by unfold w32; rw [Int.bmod_def]; split <;> omega
theorem am_bm64 (x : Int) : x.bmod (2 ^ 64) = w64 x := by unfold w64; rw [Int.bmod_def]; split <;> omega
theorem am_of32 (x : Int) : Int32.ofInt (w32 x) = Int32.ofInt x := by
  apply Int32.toInt_inj.mp
  rw [am_to32 (w32_rng x), Int32.toInt_ofInt]
  exact (am_bm32 x).symm
theorem am_of64 (x : Int) : Int64.ofInt (w64 x) = Int64.ofInt x := by
  apply Int64.toInt_inj.mp
  rw [am_to64 (w64_rng x), Int64.toInt_ofInt]
  exact (am_bm64 x).symm
theorem am_r32 (x : Int32) : am_i32 x.toInt := ⟨by have := x.le_toInt; omega, by have := x.toInt_lt; omega⟩
theorem am_r64 (x : Int64) : am_i64 x.toInt := ⟨by have := x.le_toInt; omega, by have := x.toInt_lt; omega⟩
theorem am_eq32 {a b : Int} (ha : am_i32 a) (hb : am_i32 b) : Int32.ofInt a = Int32.ofInt b ↔ a = b := ⟨fun h => by have := congrArg Int32.toInt h; rwa [am_to32 ha, am_to32 hb] at this, fun h => by rw [h]⟩
theorem am_lt32 {a b : Int} (ha : am_i32 a) (hb : am_i32 b) : Int32.ofInt a < Int32.ofInt b ↔ a < b := by rw [Int32.lt_iff_toInt_lt, am_to32 ha, am_to32 hb]
theorem am_le32 {a b : Int} (ha : am_i32 a) (hb : am_i32 b) : Int32.ofInt a ≤ Int32.ofInt b ↔ a ≤ b := by rw [Int32.le_iff_toInt_le, am_to32 ha, am_to32 hb]
theorem am_eq64 {a b : Int} (ha : am_i64 a) (hb : am_i64 b) : Int64.ofInt a = Int64.ofInt b ↔ a = b := ⟨fun h => by have := congrArg Int64.toInt h; rwa [am_to64 ha, am_to64 hb] at this, fun h => by rw [h]⟩
theorem am_lt64 {a b : Int} (ha : am_i64 a) (hb : am_i64 b) : Int64.ofInt a < Int64.ofInt b ↔ a < b := by rw [Int64.lt_iff_toInt_lt, am_to64 ha, am_to64 hb]
theorem am_0 : am_i32 0 := by unfold am_i32; omega
theorem am_div32 {a b : Int} (ha : am_i32 a) (hb : am_i32 b) : Int32.ofInt a / Int32.ofInt b = Int32.ofInt (w32 (Int.tdiv a b)) := by
  apply Int32.toInt_inj.mp
  rw [Int32.toInt_div, am_to32 ha, am_to32 hb, am_to32 (w32_rng _), am_bm32]
theorem am_div64 {a b : Int} (ha : am_i64 a) (hb : am_i64 b) : Int64.ofInt a / Int64.ofInt b = Int64.ofInt (w64 (Int.tdiv a b)) := by
  apply Int64.toInt_inj.mp
  rw [Int64.toInt_div, am_to64 ha, am_to64 hb, am_to64 (w64_rng _), am_bm64]
theorem am_rem32 {a b : Int} (ha : am_i32 a) (hb : am_i32 b) : Int32.ofInt a - Int32.ofInt a / Int32.ofInt b * Int32.ofInt b = Int32.ofInt (w32 (Int.tmod a b)) := by
  rw [am_div32 ha hb, am_of32, am_of32, ← Int32.ofInt_mul, ← Int32.ofInt_sub]
  congr 1
  have := Int.mul_tdiv_add_tmod a b
  rw [Int.mul_comm] at this
  omega
theorem am_rem64 {a b : Int} (ha : am_i64 a) (hb : am_i64 b) : Int64.ofInt a - Int64.ofInt a / Int64.ofInt b * Int64.ofInt b = Int64.ofInt (w64 (Int.tmod a b)) := by
  rw [am_div64 ha hb, am_of64, am_of64, ← Int64.ofInt_mul, ← Int64.ofInt_sub]
  congr 1
  have := Int.mul_tdiv_add_tmod a b
  rw [Int.mul_comm] at this
  omega
theorem am_i2l {a : Int} (ha : am_i32 a) : (Int32.ofInt a).toInt64 = Int64.ofInt a := by
  apply Int64.toInt_inj.mp
  rw [Int32.toInt_toInt64, am_to32 ha, am_to64]
  unfold am_i32 at ha; unfold am_i64; omega
theorem am_l2i (a : Int) : (Int64.ofInt a).toInt32 = Int32.ofInt (w32 a) := by rw [am_of32]; exact Int64.toInt32_ofInt
theorem am_i2b (a : Int) : (Int32.ofInt a).toInt8.toInt32 = Int32.ofInt (w8 a) := by
  apply Int32.toInt_inj.mp
  rw [Int32.toInt8_ofInt, Int8.toInt_toInt32, Int8.toInt_ofInt, am_to32 (by have := w8_rng a; unfold am_i32; omega)]
  show a.bmod 256 = _
  unfold w8; rw [Int.bmod_def]; split <;> omega
theorem am_nat32 {i : Int} (h : am_i32 i) : (Int32.ofInt i).toNatClampNeg = i.toNat := by
  show (Int32.ofInt i).toInt.toNat = _
  rw [am_to32 h]
theorem am_in {i : Int} {n : Nat} (h : am_i32 i) (h0 : 0 ≤ i) (h1 : i < (n : Int)) : vp_in (Int32.ofInt i) n := by
  unfold vp_in
  rw [am_nat32 h, show (0 : Int32) = Int32.ofInt 0 from rfl, am_lt32 h am_0]
  omega
theorem am_cmp {a b : Int} (ha : am_i64 a) (hb : am_i64 b) : lg_cmp (Int64.ofInt a) (Int64.ofInt b) = Int32.ofInt (l_cmp a b) := by
  unfold lg_cmp l_cmp
  have h1 : (Int64.ofInt a > Int64.ofInt b) ↔ b < a := am_lt64 hb ha
  have h2 := am_eq64 ha hb
  by_cases c1 : b < a
  · rw [if_pos (h1.mpr c1), if_neg (by omega), if_neg (by omega)]; rfl
  · rw [if_neg (fun q => c1 (h1.mp q))]
    by_cases c2 : a = b
    · rw [if_pos (h2.mpr c2), if_neg (by omega), if_pos c2]; rfl
    · rw [if_neg (fun q => c2 (h2.mp q)), if_pos (by omega)]; rfl
