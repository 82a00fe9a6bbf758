/-! what the JDK's methods come to -/
theorem w32_addw (x y : Int) : w32 (w32 x + w32 y) = w32 (x + y) := by unfold w32; omega
theorem w32_subw (x y : Int) : w32 (w32 x - w32 y) = w32 (x - y) := by unfold w32; omega
theorem w64_addw (x y : Int) : w64 (w64 x + w64 y) = w64 (x + y) := by unfold w64; omega
theorem w64_subw (x y : Int) : w64 (w64 x - w64 y) = w64 (x - y) := by unfold w64; omega
theorem w32_64 (x : Int) : w32 (w64 x) = w32 x := by unfold w32 w64; omega
/-- a row filled from one place to another -/
def am_fil (M : (Nat → Int → Int)) (c : Nat) (lo hi v : Int) : (Nat → Int → Int) := fun k j => if k = c ∧ lo ≤ j ∧ j < hi then v else M k j
theorem fil_nc (M : (Nat → Int → Int)) (c : Nat) (lo hi v : Int) {k : Nat} (h : k ≠ c) : am_fil M c lo hi v k = M k := by
  funext j; unfold am_fil; rw [if_neg (fun q => h q.1)]
theorem fil_at (M : (Nat → Int → Int)) (c : Nat) (lo hi v : Int) (j : Int) : am_fil M c lo hi v c j = if lo ≤ j ∧ j < hi then v else M c j := by
  unfold am_fil; simp
theorem fil_up (M : (Nat → Int → Int)) (c : Nat) (lo v : Int) (i : Int) (hi : lo ≤ i) : am_up (am_fil M c lo i v) c i v = am_fil M c lo (i + 1) v := by
  funext k j
  rw [up_if]; unfold am_fil
  by_cases h : k = c
  · subst h
    by_cases g : j = i
    · subst g; rw [if_pos ⟨rfl, rfl⟩, if_pos ⟨rfl, by omega⟩]
    · rw [if_neg (by omega)]
      by_cases q : lo ≤ j ∧ j < i
      · rw [if_pos ⟨rfl, q⟩, if_pos ⟨rfl, by omega⟩]
      · rw [if_neg (fun z => q z.2), if_neg (fun z => by omega)]
  · rw [if_neg (fun z => h z.1), if_neg (fun z => h z.1), if_neg (fun z => h z.1)]
theorem fil_0 (M : (Nat → Int → Int)) (c : Nat) (lo v : Int) : am_fil M c lo lo v = M := by
  funext k j; unfold am_fil; rw [if_neg (fun z => by omega)]
section S57
variable {M : (Nat → Int → Int)} {d : Nat} {Q : Int → (Nat → Int → Int) → Prop}
set_option maxRecDepth 4000 in
theorem x_bits {n : Nat} (hn : n < 4294967296) (hQ : Q ((cnt n.testBit 32 : Nat) : Int) M) : am_s am_P am_gg (d + 1) 353 [.inl (w32 (n : Int))] M Q := by
  refine (v_353 _ _ _ _).mpr ?_
  have m85 : by_m 85 4 = 1431655765 := rfl
  have m51 : by_m 51 4 = 858993459 := rfl
  have m15 : by_m 15 4 = 252645135 := rfl
  have a0 : i_and (i_ushr (w32 (n : Int)) 1) 1431655765 = w32 ((n / 2 &&& 1431655765 : Nat) : Int) := by
    have q := i_ushr_w (a := n) (n := 1) hn (by omega)
    rw [show ((1 : Nat) : Int) = 1 from rfl] at q
    rw [q, show (1431655765 : Int) = w32 ((1431655765 : Nat) : Int) from by decide, b_and (by omega) (by omega)]
  have le1 : (n / 2 &&& 1431655765) ≤ n := Nat.le_trans Nat.and_le_left (Nat.div_le_self _ _)
  have a1 : w32 (w32 (n : Int) - i_and (i_ushr (w32 (n : Int)) 1) 1431655765) = w32 ((by_X1 4 n : Nat) : Int) := by
    rw [a0, w32_subw]; unfold by_X1; rw [m85]; congr 1; omega
  rw [a1]
  have l1 : by_X1 4 n < 4294967296 := by unfold by_X1; omega
  generalize hx1 : by_X1 4 n = x1 at *
  have le2 : (x1 &&& 858993459) ≤ 858993459 := Nat.and_le_right
  have le3 : (x1 / 4 &&& 858993459) ≤ 858993459 := Nat.and_le_right
  have a2 : w32 (i_and (w32 (x1 : Int)) 858993459 + i_and (i_ushr (w32 (x1 : Int)) 2) 858993459) = w32 ((by_X2 4 x1 : Nat) : Int) := by
    have q := i_ushr_w (a := x1) (n := 2) l1 (by omega)
    rw [show ((2 : Nat) : Int) = 2 from rfl, show (2 : Nat) ^ 2 = 4 from rfl] at q
    rw [q, show (858993459 : Int) = w32 ((858993459 : Nat) : Int) from by decide, b_and l1 (by omega), b_and (by omega) (by omega), w32_addw]
    unfold by_X2; rw [m51]; rfl
  rw [a2]
  have l2 : by_X2 4 x1 ≤ 1717986918 := by unfold by_X2; rw [m51]; omega
  generalize hx2 : by_X2 4 x1 = x2 at *
  have a3 : i_and (w32 (w32 (x2 : Int) + i_ushr (w32 (x2 : Int)) 4)) 252645135 = w32 ((by_X3 4 x2 : Nat) : Int) := by
    have q := i_ushr_w (a := x2) (n := 4) (by omega) (by omega)
    rw [show ((4 : Nat) : Int) = 4 from rfl, show (2 : Nat) ^ 4 = 16 from rfl] at q
    rw [q, w32_addw, show (x2 : Int) + ((x2 / 16 : Nat) : Int) = ((x2 + x2 / 16 : Nat) : Int) from rfl, show (252645135 : Int) = w32 ((252645135 : Nat) : Int) from by decide, b_and (by omega) (by omega)]
    unfold by_X3; rw [m15]
  rw [a3]
  have k := (by_all 4 n (by rw [show (256 : Nat) ^ 4 = 4294967296 from rfl]; exact hn)).1
  rw [hx1, hx2] at k
  rw [k]
  have l3 : by_S 4 n ≤ 8 * by_m 1 4 := by_S_lt 4 n
  rw [show by_m 1 4 = 16843009 from rfl] at l3
  have f := by_32 hn
  generalize by_S 4 n = y at *
  have a4 : w32 (w32 (y : Int) + i_ushr (w32 (y : Int)) 8) = w32 ((y + y / 256 : Nat) : Int) := by
    have q := i_ushr_w (a := y) (n := 8) (by omega) (by omega)
    rw [show ((8 : Nat) : Int) = 8 from rfl, show (2 : Nat) ^ 8 = 256 from rfl] at q
    rw [q, w32_addw]; rfl
  rw [a4]
  generalize hz : y + y / 256 = z at *
  have a5 : w32 (w32 (z : Int) + i_ushr (w32 (z : Int)) 16) = w32 ((z + z / 65536 : Nat) : Int) := by
    have q := i_ushr_w (a := z) (n := 16) (by omega) (by omega)
    rw [show ((16 : Nat) : Int) = 16 from rfl, show (2 : Nat) ^ 16 = 65536 from rfl] at q
    rw [q, w32_addw]; rfl
  rw [a5, show (63 : Int) = w32 ((63 : Nat) : Int) from by decide, b_and (by omega) (by omega)]
  rw [show (63 : Nat) = 2 ^ 6 - 1 from rfl, Nat.and_two_pow_sub_one_eq_mod, show (2 : Nat) ^ 6 = 64 from rfl, f, w32_nat (by have := cnt_le (p := n.testBit) 32; omega)]
  exact hQ
theorem x_bitsn {n : Nat} (hn : n < 2147483648) (hQ : Q ((cnt n.testBit 32 : Nat) : Int) M) : am_s am_P am_gg (d + 1) 353 [.inl (n : Int)] M Q := by
  have := x_bits (M := M) (d := d) (Q := Q) (n := n) (by omega) hQ
  rwa [w32_nat hn] at this
/-- the least bit -/
theorem ntz_n {n t : Nat} (hn : n < 4294967296) (h1 : n.testBit t = true) (h0 : ∀ k, k < t → n.testBit k = false) : t < 32 ∧ i_and (i_xor (w32 (n : Int)) (-1)) (w32 (w32 (n : Int) - 1)) = w32 ((2 ^ t - 1 : Nat) : Int) := by
  have ht : t < 32 := by
    by_cases h : t < 32
    · exact h
    · have := Nat.testBit_lt_two_pow (Nat.lt_of_lt_of_le (show n < 2 ^ 32 from hn) (Nat.pow_le_pow_right (by decide) (Nat.le_of_not_lt h)))
      rw [this] at h1; cases h1
  refine ⟨ht, ?_⟩
  have hne : n ≠ 0 := by intro e; subst e; rw [Nat.zero_testBit] at h1; cases h1
  rw [b_not hn, show w32 (w32 (n : Int) - 1) = w32 ((n - 1 : Nat) : Int) by unfold w32; omega, b_and (b_co_lt hn) (by omega)]
  congr 2
  apply Nat.eq_of_testBit_eq
  intro k
  have hf := b_low_form h1 h0
  generalize n / 2 ^ (t + 1) = m at hf
  have hp : 0 < 2 ^ t := Nat.two_pow_pos t
  have hs : 2 ^ (t + 1) = 2 * 2 ^ t := by rw [Nat.pow_succ]; omega
  have e1 : n - 1 = 2 ^ (t + 1) * m + (2 ^ t - 1) := by omega
  rw [Nat.testBit_and, Nat.testBit_two_pow_sub_one]
  by_cases hk : k < 32
  · rw [b_co_bit _ _ hk]
    by_cases hkt : k < t
    · rw [h0 k hkt, e1, Nat.testBit_two_pow_mul_add _ (by omega), if_pos (by omega), Nat.testBit_two_pow_sub_one]
      simp
    · by_cases g : k = t
      · subst g; rw [h1]; simp
      · have a1 : n.testBit k = m.testBit (k - (t + 1)) := by rw [hf, Nat.testBit_two_pow_mul_add _ (by omega), if_neg (by omega)]
        have a2 : (n - 1).testBit k = m.testBit (k - (t + 1)) := by rw [e1, Nat.testBit_two_pow_mul_add _ (by omega), if_neg (by omega)]
        rw [a1, a2]
        cases m.testBit (k - (t + 1)) <;> simp [hkt]
  · have a2 : (n - 1).testBit k = false := Nat.testBit_lt_two_pow (Nat.lt_of_lt_of_le (show n - 1 < 2 ^ 32 by omega) (Nat.pow_le_pow_right (by decide) (Nat.le_of_not_lt hk)))
    rw [a2]
    have : ¬ k < t := by omega
    simp [this]
set_option maxRecDepth 8000 in
set_option maxHeartbeats 2000000 in
theorem x_ntz {n t : Nat} (hn : n < 4294967296) (h1 : n.testBit t = true) (h0 : ∀ k, k < t → n.testBit k = false) (hQ : Q (t : Int) M) : am_s am_P am_gg (d + 1) 352 [.inl (w32 (n : Int))] M Q := by
  obtain ⟨ht, e⟩ := ntz_n hn h1 h0
  refine (v_352 _ _ _ _).mpr ?_
  rw [e]
  clear e h0 h1 hn
  have key : ∀ u : Nat, u < 32 → u = t → (if 0 < w32 ((2 ^ u - 1 : Nat) : Int) then (if 65536 < w32 ((2 ^ u - 1 : Nat) : Int) then (if 256 < i_ushr (w32 ((2 ^ u - 1 : Nat) : Int)) 16 then (if 16 < i_ushr (i_ushr (w32 ((2 ^ u - 1 : Nat) : Int)) 16) 8 then (if 4 < i_ushr (i_ushr (i_ushr (w32 ((2 ^ u - 1 : Nat) : Int)) 16) 8) 4 then w32 (31 + (i_ushr (i_ushr (i_ushr (i_ushr (i_ushr (w32 ((2 ^ u - 1 : Nat) : Int)) 16) 8) 4) 2) 1)) else w32 (29 + (i_ushr (i_ushr (i_ushr (i_ushr (w32 ((2 ^ u - 1 : Nat) : Int)) 16) 8) 4) 1))) else (if 4 < i_ushr (i_ushr (w32 ((2 ^ u - 1 : Nat) : Int)) 16) 8 then w32 (27 + (i_ushr (i_ushr (i_ushr (i_ushr (w32 ((2 ^ u - 1 : Nat) : Int)) 16) 8) 2) 1)) else w32 (25 + (i_ushr (i_ushr (i_ushr (w32 ((2 ^ u - 1 : Nat) : Int)) 16) 8) 1)))) else (if 16 < i_ushr (w32 ((2 ^ u - 1 : Nat) : Int)) 16 then (if 4 < i_ushr (i_ushr (w32 ((2 ^ u - 1 : Nat) : Int)) 16) 4 then w32 (23 + (i_ushr (i_ushr (i_ushr (i_ushr (w32 ((2 ^ u - 1 : Nat) : Int)) 16) 4) 2) 1)) else w32 (21 + (i_ushr (i_ushr (i_ushr (w32 ((2 ^ u - 1 : Nat) : Int)) 16) 4) 1))) else (if 4 < i_ushr (w32 ((2 ^ u - 1 : Nat) : Int)) 16 then w32 (19 + (i_ushr (i_ushr (i_ushr (w32 ((2 ^ u - 1 : Nat) : Int)) 16) 2) 1)) else w32 (17 + (i_ushr (i_ushr (w32 ((2 ^ u - 1 : Nat) : Int)) 16) 1))))) else (if 256 < w32 ((2 ^ u - 1 : Nat) : Int) then (if 16 < i_ushr (w32 ((2 ^ u - 1 : Nat) : Int)) 8 then (if 4 < i_ushr (i_ushr (w32 ((2 ^ u - 1 : Nat) : Int)) 8) 4 then w32 (15 + (i_ushr (i_ushr (i_ushr (i_ushr (w32 ((2 ^ u - 1 : Nat) : Int)) 8) 4) 2) 1)) else w32 (13 + (i_ushr (i_ushr (i_ushr (w32 ((2 ^ u - 1 : Nat) : Int)) 8) 4) 1))) else (if 4 < i_ushr (w32 ((2 ^ u - 1 : Nat) : Int)) 8 then w32 (11 + (i_ushr (i_ushr (i_ushr (w32 ((2 ^ u - 1 : Nat) : Int)) 8) 2) 1)) else w32 (9 + (i_ushr (i_ushr (w32 ((2 ^ u - 1 : Nat) : Int)) 8) 1)))) else (if 16 < w32 ((2 ^ u - 1 : Nat) : Int) then (if 4 < i_ushr (w32 ((2 ^ u - 1 : Nat) : Int)) 4 then w32 (7 + (i_ushr (i_ushr (i_ushr (w32 ((2 ^ u - 1 : Nat) : Int)) 4) 2) 1)) else w32 (5 + (i_ushr (i_ushr (w32 ((2 ^ u - 1 : Nat) : Int)) 4) 1))) else (if 4 < w32 ((2 ^ u - 1 : Nat) : Int) then w32 (3 + (i_ushr (i_ushr (w32 ((2 ^ u - 1 : Nat) : Int)) 2) 1)) else w32 (1 + (i_ushr (w32 ((2 ^ u - 1 : Nat) : Int)) 1)))))) else i_and (w32 ((2 ^ u - 1 : Nat) : Int)) 32) = (u : Int) := by
    have k : ∀ u : Nat, u < 32 → (if 0 < w32 ((2 ^ u - 1 : Nat) : Int) then (if 65536 < w32 ((2 ^ u - 1 : Nat) : Int) then (if 256 < i_ushr (w32 ((2 ^ u - 1 : Nat) : Int)) 16 then (if 16 < i_ushr (i_ushr (w32 ((2 ^ u - 1 : Nat) : Int)) 16) 8 then (if 4 < i_ushr (i_ushr (i_ushr (w32 ((2 ^ u - 1 : Nat) : Int)) 16) 8) 4 then w32 (31 + (i_ushr (i_ushr (i_ushr (i_ushr (i_ushr (w32 ((2 ^ u - 1 : Nat) : Int)) 16) 8) 4) 2) 1)) else w32 (29 + (i_ushr (i_ushr (i_ushr (i_ushr (w32 ((2 ^ u - 1 : Nat) : Int)) 16) 8) 4) 1))) else (if 4 < i_ushr (i_ushr (w32 ((2 ^ u - 1 : Nat) : Int)) 16) 8 then w32 (27 + (i_ushr (i_ushr (i_ushr (i_ushr (w32 ((2 ^ u - 1 : Nat) : Int)) 16) 8) 2) 1)) else w32 (25 + (i_ushr (i_ushr (i_ushr (w32 ((2 ^ u - 1 : Nat) : Int)) 16) 8) 1)))) else (if 16 < i_ushr (w32 ((2 ^ u - 1 : Nat) : Int)) 16 then (if 4 < i_ushr (i_ushr (w32 ((2 ^ u - 1 : Nat) : Int)) 16) 4 then w32 (23 + (i_ushr (i_ushr (i_ushr (i_ushr (w32 ((2 ^ u - 1 : Nat) : Int)) 16) 4) 2) 1)) else w32 (21 + (i_ushr (i_ushr (i_ushr (w32 ((2 ^ u - 1 : Nat) : Int)) 16) 4) 1))) else (if 4 < i_ushr (w32 ((2 ^ u - 1 : Nat) : Int)) 16 then w32 (19 + (i_ushr (i_ushr (i_ushr (w32 ((2 ^ u - 1 : Nat) : Int)) 16) 2) 1)) else w32 (17 + (i_ushr (i_ushr (w32 ((2 ^ u - 1 : Nat) : Int)) 16) 1))))) else (if 256 < w32 ((2 ^ u - 1 : Nat) : Int) then (if 16 < i_ushr (w32 ((2 ^ u - 1 : Nat) : Int)) 8 then (if 4 < i_ushr (i_ushr (w32 ((2 ^ u - 1 : Nat) : Int)) 8) 4 then w32 (15 + (i_ushr (i_ushr (i_ushr (i_ushr (w32 ((2 ^ u - 1 : Nat) : Int)) 8) 4) 2) 1)) else w32 (13 + (i_ushr (i_ushr (i_ushr (w32 ((2 ^ u - 1 : Nat) : Int)) 8) 4) 1))) else (if 4 < i_ushr (w32 ((2 ^ u - 1 : Nat) : Int)) 8 then w32 (11 + (i_ushr (i_ushr (i_ushr (w32 ((2 ^ u - 1 : Nat) : Int)) 8) 2) 1)) else w32 (9 + (i_ushr (i_ushr (w32 ((2 ^ u - 1 : Nat) : Int)) 8) 1)))) else (if 16 < w32 ((2 ^ u - 1 : Nat) : Int) then (if 4 < i_ushr (w32 ((2 ^ u - 1 : Nat) : Int)) 4 then w32 (7 + (i_ushr (i_ushr (i_ushr (w32 ((2 ^ u - 1 : Nat) : Int)) 4) 2) 1)) else w32 (5 + (i_ushr (i_ushr (w32 ((2 ^ u - 1 : Nat) : Int)) 4) 1))) else (if 4 < w32 ((2 ^ u - 1 : Nat) : Int) then w32 (3 + (i_ushr (i_ushr (w32 ((2 ^ u - 1 : Nat) : Int)) 2) 1)) else w32 (1 + (i_ushr (w32 ((2 ^ u - 1 : Nat) : Int)) 1)))))) else i_and (w32 ((2 ^ u - 1 : Nat) : Int)) 32) = (u : Int) := by decide +kernel
    exact fun u hu _ => k u hu
  have key := key t ht rfl
  generalize w32 ((2 ^ t - 1 : Nat) : Int) = v at key ⊢
  repeat' first
    | (rw [key]; exact hQ)
    | (refine @p_if _ _ _ _ ?_ ?_ <;> (intro g; (first | rw [if_pos g] at key | rw [if_neg g] at key)))
end S57
