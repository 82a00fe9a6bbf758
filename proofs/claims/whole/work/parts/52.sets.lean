/-! words of 32 bits as sets; how many -/
theorem bs_w32 {a : Nat} (ha : a < 4294967296) : (w32 (a : Int) % 4294967296).toNat = a := by unfold w32; omega
theorem b_and {a b : Nat} (ha : a < 4294967296) (hb : b < 4294967296) : i_and (w32 (a : Int)) (w32 (b : Int)) = w32 ((a &&& b : Nat) : Int) := by
  unfold i_and
  rw [bs_toInt, Int32.toBitVec_and, BitVec.toNat_and, bs_ofInt, bs_ofInt, bs_w32 ha, bs_w32 hb]
theorem b_or {a b : Nat} (ha : a < 4294967296) (hb : b < 4294967296) : i_or (w32 (a : Int)) (w32 (b : Int)) = w32 ((a ||| b : Nat) : Int) := by
  unfold i_or
  rw [bs_toInt, Int32.toBitVec_or, BitVec.toNat_or, bs_ofInt, bs_ofInt, bs_w32 ha, bs_w32 hb]
theorem b_xor {a b : Nat} (ha : a < 4294967296) (hb : b < 4294967296) : i_xor (w32 (a : Int)) (w32 (b : Int)) = w32 ((a ^^^ b : Nat) : Int) := by
  unfold i_xor
  rw [bs_toInt, Int32.toBitVec_xor, BitVec.toNat_xor, bs_ofInt, bs_ofInt, bs_w32 ha, bs_w32 hb]
/-- what is in no set -/
def b_co (a : Nat) : Nat := a ^^^ 4294967295
theorem b_co_lt {a : Nat} (ha : a < 4294967296) : b_co a < 4294967296 := Nat.xor_lt_two_pow (n := 32) ha (by decide)
theorem b_not {a : Nat} (ha : a < 4294967296) : i_xor (w32 (a : Int)) (-1) = w32 ((b_co a : Nat) : Int) := by
  have e : (-1 : Int) = w32 ((4294967295 : Nat) : Int) := by decide
  rw [e, b_xor ha (by decide)]; rfl
theorem b_co_bit (a k : Nat) (hk : k < 32) : (b_co a).testBit k = !a.testBit k := by
  unfold b_co
  rw [Nat.testBit_xor, show (4294967295 : Nat) = 2 ^ 32 - 1 from rfl, Nat.testBit_two_pow_sub_one, decide_eq_true hk, Bool.xor_true]
theorem b_shl1 {n : Nat} (hn : n < 32) : i_shl 1 (n : Int) = w32 ((2 ^ n : Nat) : Int) := by
  rw [i_shl_mul hn, Int.one_mul]
  rfl
theorem b_pow {n : Nat} (hn : n < 32) : 2 ^ n < 4294967296 := Nat.pow_lt_pow_right (m := n) (n := 32) (by decide) hn
theorem b_add {s k : Nat} (hs : s < 4294967296) (hk : k < 32) : i_or (w32 (s : Int)) (i_shl 1 (k : Int)) = w32 ((s ||| 2 ^ k : Nat) : Int) := by
  rw [b_shl1 hk, b_or hs (b_pow hk)]
theorem b_ubit {s : Nat} {k : Nat} (hs : s < 4294967296) (hk : k < 32) : i_and (i_ushr (w32 (s : Int)) (k : Int)) 1 = if s.testBit k then 1 else 0 := by
  rw [i_ushr_div hk]
  have e0 : w32 (s : Int) % 4294967296 = (s : Int) := by unfold w32; omega
  have e : ((s : Int) / 2 ^ k) = ((s / 2 ^ k : Nat) : Int) := by rw [Int.natCast_ediv, Int.natCast_pow]; rfl
  have h : s / 2 ^ k < 4294967296 := Nat.lt_of_le_of_lt (Nat.div_le_self _ _) hs
  rw [e0, e, show (1 : Int) = w32 ((1 : Nat) : Int) from by decide, b_and h (by decide), Nat.and_one_is_mod, Nat.testBit_eq_decide_div_mod_eq]
  by_cases q : s / 2 ^ k % 2 = 1
  · simp [q]
  · have q2 : s / 2 ^ k % 2 = 0 := by omega
    simp [q2]; decide
theorem b_bit {s : Nat} {k : Nat} (hs : s < 4294967296) (hk : k < 32) : i_and (i_shr (w32 (s : Int)) (k : Int)) 1 = if s.testBit k then 1 else 0 := by
  rw [i_shr_div (w32_rng _) hk]
  have hp : (0 : Int) < 2 ^ k := by exact_mod_cast Nat.two_pow_pos k
  have e2 : i_and (w32 (s : Int) / 2 ^ k) 1 = ((w32 (s : Int) / 2 ^ k) % 2) := by
    generalize hx : w32 (s : Int) / 2 ^ k = x
    unfold i_and
    rw [bs_toInt, Int32.toBitVec_and, BitVec.toNat_and, bs_ofInt, bs_ofInt, show ((1 : Int) % 4294967296).toNat = 1 from by decide, Nat.and_one_is_mod]
    unfold w32; omega
  rw [e2, Nat.testBit_eq_decide_div_mod_eq]
  have hk2 : k ≤ 31 := by omega
  obtain ⟨q, hq⟩ : ∃ q : Nat, 2 ^ 32 = 2 ^ k * (2 * q) := ⟨2 ^ (31 - k), by rw [← Nat.pow_succ', ← Nat.pow_add]; congr 1; omega⟩
  have key : (w32 (s : Int) / 2 ^ k) % 2 = ((s / 2 ^ k % 2 : Nat) : Int) := by
    by_cases h : s < 2147483648
    · rw [w32_nat h]; norm_cast
    · have e3 : w32 (s : Int) = (s : Int) + 2 ^ k * (-(2 * (q : Int))) := by
        have : (4294967296 : Int) = 2 ^ k * (2 * (q : Int)) := by
          have e32 : ((2 ^ 32 : Nat) : Int) = 4294967296 := rfl
          rw [← e32, hq, Int.natCast_mul, Int.natCast_pow, Int.natCast_mul]; rfl
        have e4 : w32 (s : Int) = (s : Int) - 4294967296 := by unfold w32; omega
        rw [e4, this, Int.mul_neg, Int.sub_eq_add_neg]
      rw [e3, Int.add_mul_ediv_left _ _ (by omega)]
      have e5 : (s : Int) / 2 ^ k = ((s / 2 ^ k : Nat) : Int) := by rw [Int.natCast_ediv, Int.natCast_pow]; rfl
      rw [e5]; omega
  rw [key]
  by_cases g : s / 2 ^ k % 2 = 1
  · simp [g]
  · have g2 : s / 2 ^ k % 2 = 0 := by omega
    simp [g2]
/-- how many of the numbers below n are so -/
def cnt (p : Nat → Bool) : Nat → Nat
  | 0 => 0
  | n + 1 => cnt p n + (if p n then 1 else 0)
theorem cnt_congr {p q : Nat → Bool} : ∀ {n : Nat}, (∀ k, k < n → p k = q k) → cnt p n = cnt q n
  | 0, _ => rfl
  | n + 1, h => by unfold cnt; rw [h n (Nat.lt_succ_self n), cnt_congr (n := n) (fun k hk => h k (by omega))]
theorem cnt_zero {p : Nat → Bool} : ∀ {n : Nat}, (∀ k, k < n → p k = false) → cnt p n = 0
  | 0, _ => rfl
  | n + 1, h => by unfold cnt; rw [h n (Nat.lt_succ_self n), cnt_zero (n := n) (fun k hk => h k (by omega))]; rfl
theorem cnt_le {p : Nat → Bool} : ∀ n : Nat, cnt p n ≤ n
  | 0 => Nat.le_refl 0
  | n + 1 => by unfold cnt; have := cnt_le (p := p) n; split <;> omega
/-- one more -/
theorem cnt_add {p q : Nat → Bool} {t : Nat} (hp : p t = false) (hq : q t = true) (h : ∀ k, k ≠ t → p k = q k) : ∀ {n : Nat}, t < n → cnt q n = cnt p n + 1
  | n + 1, ht => by
    unfold cnt
    by_cases e : t = n
    · subst e
      rw [hp, hq, cnt_congr (p := p) (q := q) (fun k hk => h k (by omega))]; rfl
    · rw [cnt_add hp hq h (n := n) (by omega), h n (fun z => e z.symm)]; omega
theorem cnt_mono {p q : Nat → Bool} : ∀ {n : Nat}, (∀ k, k < n → p k = true → q k = true) → cnt p n ≤ cnt q n
  | 0, _ => Nat.le_refl 0
  | n + 1, h => by
    unfold cnt
    have h1 := cnt_mono (n := n) (fun k hk => h k (by omega))
    have h2 := h n (Nat.lt_succ_self n)
    cases e : p n with
    | false => simp; omega
    | true => rw [h2 e]; simp; omega
theorem cnt_pos {p : Nat → Bool} : ∀ {n : Nat}, 0 < cnt p n ↔ ∃ k, k < n ∧ p k = true
  | 0 => ⟨fun h => absurd h (Nat.lt_irrefl 0), fun ⟨k, h, _⟩ => absurd h (Nat.not_lt_zero k)⟩
  | n + 1 => by
    unfold cnt
    constructor
    · intro h
      cases e : p n with
      | true => exact ⟨n, Nat.lt_succ_self n, e⟩
      | false =>
        rw [e] at h
        obtain ⟨k, hk, hp⟩ := (cnt_pos (n := n)).mp (by simpa using h)
        exact ⟨k, by omega, hp⟩
    · intro ⟨k, hk, hp⟩
      by_cases e : k = n
      · subst e; rw [hp]; simp
      · have := (cnt_pos (n := n)).mpr ⟨k, by omega, hp⟩; omega
/-- the least bit of a set -/
theorem b_low {v : Nat} (hv : v ≠ 0) : ∃ t, v.testBit t = true ∧ ∀ k, k < t → v.testBit k = false := by
  obtain ⟨i, hi⟩ := Nat.exists_testBit_of_ne_zero hv
  induction i using Nat.strongRecOn with
  | ind i ih =>
    by_cases h : ∃ k, k < i ∧ v.testBit k = true
    · obtain ⟨k, hk, hb⟩ := h; exact ih k hk hb
    · exact ⟨i, hi, fun k hk => by
        cases e : v.testBit k with
        | false => rfl
        | true => exact absurd ⟨k, hk, e⟩ h⟩
theorem b_low_form {v t : Nat} (h1 : v.testBit t = true) (h0 : ∀ k, k < t → v.testBit k = false) : v = 2 ^ (t + 1) * (v / 2 ^ (t + 1)) + 2 ^ t := by
  have h2 : v % 2 ^ (t + 1) = 2 ^ t := by
    apply Nat.eq_of_testBit_eq
    intro j
    rw [Nat.testBit_mod_two_pow, Nat.testBit_two_pow]
    by_cases e : j = t
    · subst e; simp [h1]
    · by_cases g : j < t
      · simp [h0 j g]; omega
      · have : ¬ j < t + 1 := by omega
        simp [this]; omega
  have := Nat.div_add_mod v (2 ^ (t + 1))
  omega
theorem b_drop {v t : Nat} (h1 : v.testBit t = true) (h0 : ∀ k, k < t → v.testBit k = false) (k : Nat) : (v &&& (v - 1)).testBit k = (v.testBit k && decide (k ≠ t)) := by
  have e := b_low_form h1 h0
  generalize v / 2 ^ (t + 1) = m at e
  have hp : 0 < 2 ^ t := Nat.two_pow_pos t
  have hs : 2 ^ (t + 1) = 2 * 2 ^ t := by rw [Nat.pow_succ]; omega
  have e1 : v - 1 = 2 ^ (t + 1) * m + (2 ^ t - 1) := by omega
  rw [Nat.testBit_and]
  by_cases hk : k < t + 1
  · by_cases hkt : k = t
    · subst hkt
      rw [e1, Nat.testBit_two_pow_mul_add _ (by omega), if_pos hk, Nat.testBit_two_pow_sub_one]
      simp
    · rw [h0 k (by omega)]; simp
  · have a1 : v.testBit k = m.testBit (k - (t + 1)) := by
      rw [e, Nat.testBit_two_pow_mul_add _ (by omega), if_neg hk]
    have a2 : (v - 1).testBit k = m.testBit (k - (t + 1)) := by
      rw [e1, Nat.testBit_two_pow_mul_add _ (by omega), if_neg hk]
    rw [a1, a2]
    have : k ≠ t := by omega
    simp [this]
theorem b_drop_lt {v : Nat} (hv : v ≠ 0) : v &&& (v - 1) < v := Nat.lt_of_le_of_lt Nat.and_le_right (by omega)
theorem b_drop_cnt {v n : Nat} (hv : v ≠ 0) (hn : v < 2 ^ n) : cnt v.testBit n = cnt (v &&& (v - 1)).testBit n + 1 := by
  obtain ⟨t, h1, h0⟩ := b_low hv
  have ht : t < n := by
    by_cases h : t < n
    · exact h
    · have := Nat.testBit_lt_two_pow (Nat.lt_of_lt_of_le hn (Nat.pow_le_pow_right (by decide) (Nat.le_of_not_lt h)))
      rw [this] at h1; cases h1
  refine cnt_add (t := t) ?_ h1 (fun k hk => ?_) ht
  · rw [b_drop h1 h0]; simp
  · rw [b_drop h1 h0]; simp [hk]
