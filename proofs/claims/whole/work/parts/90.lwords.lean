/-! words of 64 bits: how many bits, the least bit -/
set_option maxRecDepth 4000 in
theorem by_64 {a : Nat} (ha : a < 18446744073709551616) : (((by_S 8 a + by_S 8 a / 256) + (by_S 8 a + by_S 8 a / 256) / 65536) + ((by_S 8 a + by_S 8 a / 256) + (by_S 8 a + by_S 8 a / 256) / 65536) / 4294967296) % 128 = cnt a.testBit 64 := by
  have e : cnt a.testBit 64 = cnt (a % 256).testBit 8 + (cnt (a / 256 % 256).testBit 8 + (cnt (a / 256 / 256 % 256).testBit 8 + (cnt (a / 256 / 256 / 256 % 256).testBit 8 + (cnt (a / 256 / 256 / 256 / 256 % 256).testBit 8 + (cnt (a / 256 / 256 / 256 / 256 / 256 % 256).testBit 8 + (cnt (a / 256 / 256 / 256 / 256 / 256 / 256 % 256).testBit 8 + cnt (a / 256 / 256 / 256 / 256 / 256 / 256 / 256).testBit 8)))))) := by
    rw [show (64 : Nat) = 8 + 56 from rfl, cnt_byte, show (56 : Nat) = 8 + 48 from rfl, cnt_byte, show (48 : Nat) = 8 + 40 from rfl, cnt_byte, show (40 : Nat) = 8 + 32 from rfl, cnt_byte, show (32 : Nat) = 8 + 24 from rfl, cnt_byte, show (24 : Nat) = 8 + 16 from rfl, cnt_byte, show (16 : Nat) = 8 + 8 from rfl, cnt_byte]
  have e2 : a / 256 / 256 / 256 / 256 / 256 / 256 / 256 % 256 = a / 256 / 256 / 256 / 256 / 256 / 256 / 256 := by omega
  have c0 := cnt_le (p := (a % 256).testBit) 8
  have c1 := cnt_le (p := (a / 256 % 256).testBit) 8
  have c2 := cnt_le (p := (a / 256 / 256 % 256).testBit) 8
  have c3 := cnt_le (p := (a / 256 / 256 / 256 % 256).testBit) 8
  have c4 := cnt_le (p := (a / 256 / 256 / 256 / 256 % 256).testBit) 8
  have c5 := cnt_le (p := (a / 256 / 256 / 256 / 256 / 256 % 256).testBit) 8
  have c6 := cnt_le (p := (a / 256 / 256 / 256 / 256 / 256 / 256 % 256).testBit) 8
  have c7 := cnt_le (p := (a / 256 / 256 / 256 / 256 / 256 / 256 / 256).testBit) 8
  have eS : by_S 8 a = 256 * (256 * (256 * (256 * (256 * (256 * (256 * (256 * 0 + cnt (a / 256 / 256 / 256 / 256 / 256 / 256 / 256 % 256).testBit 8) + cnt (a / 256 / 256 / 256 / 256 / 256 / 256 % 256).testBit 8) + cnt (a / 256 / 256 / 256 / 256 / 256 % 256).testBit 8) + cnt (a / 256 / 256 / 256 / 256 % 256).testBit 8) + cnt (a / 256 / 256 / 256 % 256).testBit 8) + cnt (a / 256 / 256 % 256).testBit 8) + cnt (a / 256 % 256).testBit 8) + cnt (a % 256).testBit 8 := rfl
  rw [e, eS, e2]
  generalize cnt (a % 256).testBit 8 = x0 at *
  generalize cnt (a / 256 % 256).testBit 8 = x1 at *
  generalize cnt (a / 256 / 256 % 256).testBit 8 = x2 at *
  generalize cnt (a / 256 / 256 / 256 % 256).testBit 8 = x3 at *
  generalize cnt (a / 256 / 256 / 256 / 256 % 256).testBit 8 = x4 at *
  generalize cnt (a / 256 / 256 / 256 / 256 / 256 % 256).testBit 8 = x5 at *
  generalize cnt (a / 256 / 256 / 256 / 256 / 256 / 256 % 256).testBit 8 = x6 at *
  generalize cnt (a / 256 / 256 / 256 / 256 / 256 / 256 / 256).testBit 8 = x7 at *
  clear e e2 eS ha
  generalize h7 : 256 * 0 + x7 = A7
  generalize h6 : 256 * A7 + x6 = A6
  generalize h5 : 256 * A6 + x5 = A5
  generalize h4 : 256 * A5 + x4 = A4
  generalize h3 : 256 * A4 + x3 = A3
  generalize h2 : 256 * A3 + x2 = A2
  generalize h1 : 256 * A2 + x1 = A1
  generalize h0 : 256 * A1 + x0 = A0
  have d1 : A0 / 256 = A1 := by clear h1 h2 h3 h4 h5 h6 h7; omega
  rw [d1]
  have d2 : (A0 + A1) / 65536 = A2 + A3 := by clear h3 h4 h5 h6 h7; omega
  rw [d2]
  have k2 : A2 = 65536 * A4 + (256 * x3 + x2) := by clear h0 h1 h4 h5 h6 h7; omega
  have k3 : A3 = 65536 * A5 + (256 * x4 + x3) := by clear h0 h1 h2 h5 h6 h7; omega
  have k4 : A4 = 65536 * A6 + (256 * x5 + x4) := by clear h0 h1 h2 h3 h6 h7 k2 k3; omega
  have k5 : A5 = 65536 * A7 + (256 * x6 + x5) := by clear h0 h1 h2 h3 h4 h7 k2 k3 k4; omega
  have q0 : A0 = 4294967296 * A4 + (16777216 * x3 + 65536 * x2 + 256 * x1 + x0) := by clear h3 h4 h5 h6 h7 k3 k4 k5; omega
  have q1 : A1 = 4294967296 * A5 + (16777216 * x4 + 65536 * x3 + 256 * x2 + x1) := by clear h0 h3 h4 h5 h6 h7 k2 k4 k5 q0; omega
  have q2 : A2 = 4294967296 * A6 + (16777216 * x5 + 65536 * x4 + 256 * x3 + x2) := by clear h0 h1 h2 h3 h4 h5 h6 h7 k3 k5 q0 q1; omega
  have q3 : A3 = 4294967296 * A7 + (16777216 * x6 + 65536 * x5 + 256 * x4 + x3) := by clear h0 h1 h2 h3 h4 h5 h6 h7 k2 k4 q0 q1 q2; omega
  have d3 : (A0 + A1 + (A2 + A3)) / 4294967296 = A4 + A5 + A6 + A7 := by
    rw [q0, q1, q2, q3]
    clear h0 h1 h2 h3 h4 h5 h6 h7 k2 k3 k4 k5 q0 q1 q2 q3 d1 d2
    generalize hs : (16777216 * x3 + 65536 * x2 + 256 * x1 + x0) + (16777216 * x4 + 65536 * x3 + 256 * x2 + x1) + (16777216 * x5 + 65536 * x4 + 256 * x3 + x2) + (16777216 * x6 + 65536 * x5 + 256 * x4 + x3) = s
    have sl : s < 4294967296 := by omega
    have e : 4294967296 * A4 + (16777216 * x3 + 65536 * x2 + 256 * x1 + x0) + (4294967296 * A5 + (16777216 * x4 + 65536 * x3 + 256 * x2 + x1)) + (4294967296 * A6 + (16777216 * x5 + 65536 * x4 + 256 * x3 + x2) + (4294967296 * A7 + (16777216 * x6 + 65536 * x5 + 256 * x4 + x3))) = 4294967296 * (A4 + A5 + A6 + A7) + s := by omega
    rw [e]
    clear hs e
    omega
  rw [d3]
  clear d1 d2 d3 k2 k3 k4 k5 q0 q1 q2 q3
  have e : A0 + A1 + (A2 + A3) + (A4 + A5 + A6 + A7) = 256 * (A1 + A2 + A3 + A4 + A5 + A6 + A7) + (x0 + x1 + x2 + x3 + x4 + x5 + x6 + x7) := by omega
  rw [e]
  clear h0 h1 h2 h3 h4 h5 h6 h7 e
  omega
section S90
variable {M : (Nat → Int → Int)} {d : Nat} {Q : Int → (Nat → Int → Int) → Prop}
set_option maxRecDepth 8000 in
theorem x_lbits {n : Nat} (hn : n < 18446744073709551616) (hQ : Q ((cnt n.testBit 64 : Nat) : Int) M) : am_s am_P am_gg (d + 1) 355 [.inr (.inl (w64 (n : Int)))] M Q := by
  refine (v_355 _ _ _ _).mpr ?_
  have m85 : by_m 85 8 = 6148914691236517205 := rfl
  have m51 : by_m 51 8 = 3689348814741910323 := rfl
  have m15 : by_m 15 8 = 1085102592571150095 := rfl
  have a0 : l_and (l_ushr (w64 (n : Int)) 1) 6148914691236517205 = w64 ((n / 2 &&& 6148914691236517205 : Nat) : Int) := by
    have q := l_ushr_w (a := n) (n := 1) hn (by omega)
    rw [show ((1 : Nat) : Int) = 1 from rfl] at q
    rw [q, show (6148914691236517205 : Int) = w64 ((6148914691236517205 : Nat) : Int) from by decide, l_and_w (by omega) (by omega)]
  have le1 : (n / 2 &&& 6148914691236517205) ≤ n := Nat.le_trans Nat.and_le_left (Nat.div_le_self _ _)
  have a1 : w64 (w64 (n : Int) - l_and (l_ushr (w64 (n : Int)) 1) 6148914691236517205) = w64 ((by_X1 8 n : Nat) : Int) := by
    rw [a0, w64_subw]; unfold by_X1; rw [m85]; congr 1; omega
  rw [a1]
  have l1 : by_X1 8 n < 18446744073709551616 := by unfold by_X1; omega
  generalize hx1 : by_X1 8 n = x1 at *
  have le2 : (x1 &&& 3689348814741910323) ≤ 3689348814741910323 := Nat.and_le_right
  have le3 : (x1 / 4 &&& 3689348814741910323) ≤ 3689348814741910323 := Nat.and_le_right
  have a2 : w64 (l_and (w64 (x1 : Int)) 3689348814741910323 + l_and (l_ushr (w64 (x1 : Int)) 2) 3689348814741910323) = w64 ((by_X2 8 x1 : Nat) : Int) := by
    have q := l_ushr_w (a := x1) (n := 2) l1 (by omega)
    rw [show ((2 : Nat) : Int) = 2 from rfl, show (2 : Nat) ^ 2 = 4 from rfl] at q
    rw [q, show (3689348814741910323 : Int) = w64 ((3689348814741910323 : Nat) : Int) from by decide, l_and_w l1 (by omega), l_and_w (by omega) (by omega), w64_addw]
    unfold by_X2; rw [m51]; rfl
  rw [a2]
  have l2 : by_X2 8 x1 ≤ 7378697629483820646 := by unfold by_X2; rw [m51]; omega
  generalize hx2 : by_X2 8 x1 = x2 at *
  have a3 : l_and (w64 (w64 (x2 : Int) + l_ushr (w64 (x2 : Int)) 4)) 1085102592571150095 = w64 ((by_X3 8 x2 : Nat) : Int) := by
    have q := l_ushr_w (a := x2) (n := 4) (by omega) (by omega)
    rw [show ((4 : Nat) : Int) = 4 from rfl, show (2 : Nat) ^ 4 = 16 from rfl] at q
    rw [q, w64_addw, show (x2 : Int) + ((x2 / 16 : Nat) : Int) = ((x2 + x2 / 16 : Nat) : Int) from rfl, show (1085102592571150095 : Int) = w64 ((1085102592571150095 : Nat) : Int) from by decide, l_and_w (by omega) (by omega)]
    unfold by_X3; rw [m15]
  rw [a3]
  have k := (by_all 8 n (by rw [show (256 : Nat) ^ 8 = 18446744073709551616 from rfl]; exact hn)).1
  rw [hx1, hx2] at k
  rw [k]
  have l3 : by_S 8 n ≤ 8 * by_m 1 8 := by_S_lt 8 n
  rw [show by_m 1 8 = 72340172838076673 from rfl] at l3
  have f := by_64 hn
  generalize by_S 8 n = y at *
  have a4 : w64 (w64 (y : Int) + l_ushr (w64 (y : Int)) 8) = w64 ((y + y / 256 : Nat) : Int) := by
    have q := l_ushr_w (a := y) (n := 8) (by omega) (by omega)
    rw [show ((8 : Nat) : Int) = 8 from rfl, show (2 : Nat) ^ 8 = 256 from rfl] at q
    rw [q, w64_addw]; rfl
  rw [a4]
  generalize hz : y + y / 256 = z at *
  have a5 : w64 (w64 (z : Int) + l_ushr (w64 (z : Int)) 16) = w64 ((z + z / 65536 : Nat) : Int) := by
    have q := l_ushr_w (a := z) (n := 16) (by omega) (by omega)
    rw [show ((16 : Nat) : Int) = 16 from rfl, show (2 : Nat) ^ 16 = 65536 from rfl] at q
    rw [q, w64_addw]; rfl
  rw [a5]
  generalize hw : z + z / 65536 = w at *
  have a6 : w64 (w64 (w : Int) + l_ushr (w64 (w : Int)) 32) = w64 ((w + w / 4294967296 : Nat) : Int) := by
    have q := l_ushr_w (a := w) (n := 32) (by omega) (by omega)
    rw [show ((32 : Nat) : Int) = 32 from rfl, show (2 : Nat) ^ 32 = 4294967296 from rfl] at q
    rw [q, w64_addw]; rfl
  rw [a6, w32_64]
  generalize hv : w + w / 4294967296 = v at *
  have a7 : i_and (w32 (v : Int)) 127 = ((v % 128 : Nat) : Int) := by
    have q : w32 (v : Int) = w32 ((v % 4294967296 : Nat) : Int) := by unfold w32; omega
    rw [q, show (127 : Int) = w32 ((127 : Nat) : Int) from by decide, b_and (by omega) (by omega), show (127 : Nat) = 2 ^ 7 - 1 from rfl, Nat.and_two_pow_sub_one_eq_mod, show (2 : Nat) ^ 7 = 128 from rfl, w32_nat (by omega), show v % 4294967296 % 128 = v % 128 by omega]
  rw [a7, f]
  exact hQ
theorem x_lntz {n t : Nat} (hn : n < 18446744073709551616) (h1 : n.testBit t = true) (h0 : ∀ k, k < t → n.testBit k = false) (hQ : Q (t : Int) M) : am_s am_P am_gg (d + 2) 354 [.inr (.inl (w64 (n : Int)))] M Q := by
  have ht : t < 64 := by
    by_cases h : t < 64
    · exact h
    · have := Nat.testBit_lt_two_pow (Nat.lt_of_lt_of_le (show n < 2 ^ 64 from hn) (Nat.pow_le_pow_right (by decide) (Nat.le_of_not_lt h)))
      rw [this] at h1; cases h1
  refine (v_354 _ _ _ _).mpr ?_
  have e1 : w32 (w64 (n : Int)) = w32 ((n % 4294967296 : Nat) : Int) := by rw [w32_64]; unfold w32; omega
  rw [e1]
  refine @p_if _ _ _ _ ?_ ?_
  · intro q
    have q0 : n % 4294967296 = 0 := by unfold w32 at q; omega
    have e2 := l_ushr_w (a := n) (n := 32) hn (by omega)
    rw [show ((32 : Nat) : Int) = 32 from rfl, show (2 : Nat) ^ 32 = 4294967296 from rfl] at e2
    rw [e2, w32_64]
    have low : ∀ k, k < 32 → n.testBit k = false := by
      intro k hk
      have : (n % 2 ^ 32).testBit k = n.testBit k := by rw [Nat.testBit_mod_two_pow, decide_eq_true hk, Bool.true_and]
      rw [← this, show n % 2 ^ 32 = 0 from q0, Nat.zero_testBit]
    have t32 : 32 ≤ t := by
      by_cases h : t < 32
      · rw [low t h] at h1; cases h1
      · omega
    have tb : ∀ k, (n / 4294967296).testBit k = n.testBit (32 + k) := fun k => by
      rw [show (4294967296 : Nat) = 2 ^ 32 from rfl, Nat.testBit_div_two_pow, Nat.add_comm]
    refine x_ntz (n := n / 4294967296) (t := t - 32) (by omega) (by rw [tb, show 32 + (t - 32) = t by omega]; exact h1) (fun k hk => by rw [tb]; exact h0 _ (by omega)) ?_
    rw [w32_i (by omega) (by omega), show 32 + ((t - 32 : Nat) : Int) = (t : Int) by omega]
    exact hQ
  · intro q
    have q0 : n % 4294967296 ≠ 0 := fun z => q (by rw [z]; rfl)
    have mb : ∀ k, (n % 4294967296).testBit k = (decide (k < 32) && n.testBit k) := fun k => by rw [show (4294967296 : Nat) = 2 ^ 32 from rfl, Nat.testBit_mod_two_pow]
    have t32 : t < 32 := by
      by_cases h : t < 32
      · exact h
      · refine absurd (Nat.eq_of_testBit_eq (fun k => ?_)) q0
        rw [mb, Nat.zero_testBit]
        by_cases hk : k < 32
        · rw [h0 k (by omega)]; simp
        · simp [hk]
    exact x_ntz (by omega) (by rw [mb, h1, decide_eq_true t32]; rfl) (fun k hk => by rw [mb, h0 k hk]; simp) hQ
end S90
/-- a word of 64 bits -/
def ld (v : Int) (P : Nat → Prop) : Prop := ∃ n : Nat, n < 18446744073709551616 ∧ v = w64 (n : Int) ∧ ∀ k, k < 64 → (n.testBit k = true ↔ P k)
theorem ld_cong {v : Int} {P P' : Nat → Prop} (h : ld v P) (e : ∀ k, k < 64 → (P k ↔ P' k)) : ld v P' := by
  obtain ⟨n, h1, h2, h3⟩ := h
  exact ⟨n, h1, h2, fun k hk => (h3 k hk).trans (e k hk)⟩
theorem ld_0 : ld 0 (fun _ => False) := ⟨0, by decide, rfl, fun k _ => by simp⟩
theorem ld_or {v w : Int} {P P' : Nat → Prop} (h : ld v P) (g : ld w P') : ld (l_or v w) (fun k => P k ∨ P' k) := by
  obtain ⟨n, h1, h2, h3⟩ := h
  obtain ⟨m, g1, g2, g3⟩ := g
  rw [h2, g2]
  refine ⟨n ||| m, Nat.or_lt_two_pow (n := 64) h1 g1, l_or_w h1 g1, fun k hk => ?_⟩
  rw [Nat.testBit_or, Bool.or_eq_true, h3 k hk, g3 k hk]
theorem ld_one {b : Nat} (hb : b < 64) : ld (l_shl 1 (b : Int)) (fun k => k = b) := by
  refine ⟨2 ^ b, Nat.pow_lt_pow_right (m := b) (n := 64) (by decide) hb, l_shl1 hb, fun k _ => ?_⟩
  rw [Nat.testBit_two_pow]; simp only [decide_eq_true_eq]; exact eq_comm
theorem ld_bit {v : Int} {P : Nat → Prop} {k : Nat} {A A' : Prop} {i : Decidable (l_cmp (l_and (l_ushr v (k : Int)) 1) 0 = 0)} (h : ld v P) (hk : k < 64) (h0 : ¬ P k → A) (h1 : P k → A') : @ite Prop (l_cmp (l_and (l_ushr v (k : Int)) 1) 0 = 0) i A A' := by
  obtain ⟨n, n1, n2, n3⟩ := h
  have e : l_and (l_ushr v (k : Int)) 1 = if n.testBit k then 1 else 0 := by
    have lt : n / 2 ^ k < 18446744073709551616 := Nat.lt_of_le_of_lt (Nat.div_le_self _ _) n1
    rw [n2, l_ushr_w n1 hk, show (1 : Int) = w64 ((1 : Nat) : Int) from by decide, l_and_w lt (by decide), Nat.and_one_is_mod, Nat.testBit_eq_decide_div_mod_eq]
    by_cases q : n / 2 ^ k % 2 = 1
    · simp [q]
    · have q2 : n / 2 ^ k % 2 = 0 := by omega
      simp [q2]; decide
  by_cases q : P k
  · rw [if_neg (by rw [e, if_pos ((n3 k hk).mpr q)]; decide)]; exact h1 q
  · rw [if_pos (by rw [e, if_neg (fun z => q ((n3 k hk).mp z))]; decide)]; exact h0 q
section S90b
variable {M : (Nat → Int → Int)} {d : Nat} {Q : Int → (Nat → Int → Int) → Prop}
theorem x_lbitsP {v : Int} {P : Nat → Prop} (h : ld v P) (hQ : Q ((cnt (dc P) 64 : Nat) : Int) M) : am_s am_P am_gg (d + 1) 355 [.inr (.inl v)] M Q := by
  obtain ⟨n, h1, h2, h3⟩ := h
  rw [h2]
  refine x_lbits h1 ?_
  rw [cnt_congr (p := n.testBit) (q := dc P) (fun k hk => ?_)]
  · exact hQ
  · cases e : n.testBit k with
    | true => exact (dc_iff.mpr ((h3 k hk).mp e)).symm
    | false => exact (dc_f (fun z => by rw [(h3 k hk).mpr z] at e; cases e)).symm
/-- the least bit of a word, and the word without it -/
theorem ld_low {v : Int} {P : Nat → Prop} (h : ld v P) (hpos : 0 < cnt (dc P) 64) : ∃ t, t < 64 ∧ P t ∧ (∀ k, k < t → ¬ P k) ∧ ld (l_and v (w64 (v - 1))) (fun k => P k ∧ k ≠ t) ∧ cnt (dc P) 64 = cnt (dc (fun k => P k ∧ k ≠ t)) 64 + 1 ∧ ∀ {d : Nat} {M : (Nat → Int → Int)} {Q : Int → (Nat → Int → Int) → Prop}, Q (t : Int) M → am_s am_P am_gg (d + 2) 354 [.inr (.inl v)] M Q := by
  obtain ⟨n, h1, h2, h3⟩ := h
  obtain ⟨k0, hk0, hd0⟩ := cnt_pos.mp hpos
  have hn0 : n ≠ 0 := fun z => by
    have := (h3 k0 hk0).mpr (dc_iff.mp hd0)
    rw [z, Nat.zero_testBit] at this; cases this
  obtain ⟨t, t1, t0⟩ := b_low hn0
  have ht : t < 64 := by
    by_cases q : t < 64
    · exact q
    · have := Nat.testBit_lt_two_pow (Nat.lt_of_lt_of_le (show n < 2 ^ 64 from h1) (Nat.pow_le_pow_right (by decide) (Nat.le_of_not_lt q)))
      rw [this] at t1; cases t1
  refine ⟨t, ht, (h3 t ht).mp t1, fun k hk z => ?_, ?_, ?_, fun {d M Q} hQ => by rw [h2]; exact x_lntz h1 t1 t0 hQ⟩
  · have := t0 k hk
    rw [(h3 k (by omega)).mpr z] at this; cases this
  · refine ⟨n &&& (n - 1), Nat.lt_of_le_of_lt Nat.and_le_left h1, ?_, fun k hk => ?_⟩
    · rw [h2, show w64 (w64 (n : Int) - 1) = w64 ((n - 1 : Nat) : Int) by unfold w64; omega, l_and_w h1 (by omega)]
    · rw [b_drop t1 t0, Bool.and_eq_true, h3 k hk]; simp
  · have := cnt_add (p := dc (fun k => P k ∧ k ≠ t)) (q := dc P) (t := t) (dc_f (fun z => z.2 rfl)) (dc_iff.mpr ((h3 t ht).mp t1)) (fun k hk => dc_congr ⟨fun z => z.1, fun z => ⟨z, hk⟩⟩) (n := 64) ht
    exact this
end S90b
