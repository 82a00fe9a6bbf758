/-! the class's grammar -/
/-- the symbols that have a rule, as bits -/
def gtold (B : Nat → Nat) : Nat := p_fold (fun r s => s ||| 2 ^ gsy B r) (B 0) 0
theorem gtold_f (B : Nat → Nat) (s : Nat) : ∀ n, (p_fold (fun r s => s ||| 2 ^ gsy B r) n 0).testBit s = true ↔ ∃ r, r < n ∧ gsy B r = s
  | 0 => ⟨fun h => absurd h (by rw [show p_fold (fun r s => s ||| 2 ^ gsy B r) 0 0 = 0 from rfl, Nat.zero_testBit]; decide), fun ⟨r, h, _⟩ => absurd h (Nat.not_lt_zero r)⟩
  | n + 1 => by
    show (p_fold (fun r s => s ||| 2 ^ gsy B r) n 0 ||| 2 ^ gsy B n).testBit s = true ↔ _
    rw [Nat.testBit_or, Nat.testBit_two_pow, Bool.or_eq_true, gtold_f B s n, decide_eq_true_iff]
    constructor
    · rintro (⟨r, h, e⟩ | e)
      · exact ⟨r, by omega, e⟩
      · exact ⟨n, by omega, e⟩
    · rintro ⟨r, h, e⟩
      by_cases q : r = n
      · subst q; exact Or.inr e
      · exact Or.inl ⟨r, by omega, e⟩
theorem gtold_bit (B : Nat → Nat) (s : Nat) : (gtold B).testBit s = true ↔ ∃ r, r < B 0 ∧ gsy B r = s := gtold_f B s (B 0)
theorem gtold_lt {B : Nat → Nat} (hW : gW B) : gtold B < 256 := by
  apply Nat.lt_pow_two_of_testBit (n := 8)
  intro i hi
  cases e : (gtold B).testBit i with
  | false => rfl
  | true =>
    obtain ⟨r, hr, q⟩ := (gtold_bit B i).mp e
    have := (hW.2.2.2.1 r hr).1
    omega
/-- the order of the symbols -/
def xo (B : Nat → Nat) (f : Int → Int) : Prop := ∃ o : Nat → Nat, (∀ i : Nat, i < 8 → f (i : Int) = (o i : Int) ∧ o i < 8) ∧ (∀ s, s < 8 → ∃ i, i < 8 ∧ o i = s) ∧ (∀ i j, i < 8 → j < 8 → o i = o j → i = j) ∧ (∀ r, r < B 0 → gsz B r = 1 → gsg B r 0 < 8 → ∀ i j, i < 8 → j < 8 → o i = gsg B r 0 → o j = gsy B r → i < j)
/-- a grammar, as the class holds it -/
def xg (B : Nat → Nat) (f0 f1 f2 f3 f4 f5 : Int → Int) : Prop := f0 1 = (B 0 : Int) ∧ f0 2 = (B 1 : Int) ∧ f0 3 = (gtold B : Int) ∧ f0 4 = (B 2 : Int) ∧ (∀ r : Nat, r < B 0 → f1 (r : Int) = (gsy B r : Int) ∧ f2 (r : Int) = (gsz B r : Int) ∧ f3 (r : Int) = (gwt B r : Int) ∧ ∀ i : Nat, i < gsz B r → f4 ((4 * r + i : Nat) : Int) = (gsg B r i : Int)) ∧ xo B f5
def xgb (B : Nat → Nat) (M : (Nat → Int → Int)) (b : Nat) : Prop := xg B (M b) (M (b + 1)) (M (b + 2)) (M (b + 3)) (M (b + 4)) (M (b + 5))
theorem xg_cong {B : Nat → Nat} (hW : gW B) {f0 f1 f2 f3 f4 f5 g0 g1 g2 g3 g4 g5 : Int → Int} (h : xg B g0 g1 g2 g3 g4 g5) (e01 : f0 1 = g0 1) (e02 : f0 2 = g0 2) (e03 : f0 3 = g0 3) (e04 : f0 4 = g0 4) (e1 : ∀ j : Int, 0 ≤ j → j < 16 → f1 j = g1 j) (e2 : ∀ j : Int, 0 ≤ j → j < 16 → f2 j = g2 j) (e3 : ∀ j : Int, 0 ≤ j → j < 16 → f3 j = g3 j) (e4 : ∀ j : Int, 0 ≤ j → j < 64 → f4 j = g4 j) (e5 : ∀ j : Int, 0 ≤ j → j < 8 → f5 j = g5 j) : xg B f0 f1 f2 f3 f4 f5 := by
  obtain ⟨a1, a2, a3, a4, a5, o, b1, b2⟩ := h
  refine ⟨by rw [e01, a1], by rw [e02, a2], by rw [e03, a3], by rw [e04, a4], fun r hr => ?_, o, fun i hi => ?_, b2⟩
  · have hn := hW.1
    obtain ⟨-, -, hs, -, -⟩ := hW.2.2.2.1 r hr
    obtain ⟨c1, c2, c3, c4⟩ := a5 r hr
    refine ⟨by rw [e1 _ (by omega) (by omega), c1], by rw [e2 _ (by omega) (by omega), c2], by rw [e3 _ (by omega) (by omega), c3], fun i hi => by rw [e4 _ (by omega) (by omega), c4 i hi]⟩
  · rw [e5 _ (by omega) (by omega)]; exact b1 i hi
theorem xgb_eq {B : Nat → Nat} {M M' : (Nat → Int → Int)} {b : Nat} (h : xgb B M b) (e : ∀ c, b ≤ c → c ≤ b + 5 → M' c = M c) : xgb B M' b := by
  unfold xgb
  rw [e b (by omega) (by omega), e (b + 1) (by omega) (by omega), e (b + 2) (by omega) (by omega), e (b + 3) (by omega) (by omega), e (b + 4) (by omega) (by omega), e (b + 5) (by omega) (by omega)]
  exact h
section S59
variable {B : Nat → Nat} {M : (Nat → Int → Int)} {d : Nat} {Q : Int → (Nat → Int → Int) → Prop}
theorem x_cp_2_10 (hW : gW B) (h : xgb B M 10) (hQ : ∀ M', xgb B M' 2 → M' 2 0 = w32 (M 2 0 + 1) → (∀ c, c < 2 ∨ 7 < c → M' c = M c) → Q 0 M') : am_s am_P am_gg (d + 1) 58 [.inr (.inr 3), .inr (.inr 11)] M Q := by
  refine (v_58_3_11 _ _ _).mpr ?_
  rw [if_pos (by decide), if_pos (by decide), if_pos (by decide), if_pos (by decide), if_pos (by decide)]
  refine hQ _ (xg_cong hW h rfl rfl rfl rfl ?_ ?_ ?_ ?_ ?_) rfl ?_
  · intro j h0 h1; simp [cpy_if, up_if, h0, h1]
  · intro j h0 h1; simp [cpy_if, up_if, h0, h1]
  · intro j h0 h1; simp [cpy_if, up_if, h0, h1]
  · intro j h0 h1; simp [cpy_if, up_if, h0, h1]
  · intro j h0 h1; simp [cpy_if, up_if, h0, h1]
  · intro c hc
    rw [cpy_nc _ _ _ _ _ _ (by omega), cpy_nc _ _ _ _ _ _ (by omega), cpy_nc _ _ _ _ _ _ (by omega), cpy_nc _ _ _ _ _ _ (by omega), cpy_nc _ _ _ _ _ _ (by omega), up_nc _ _ _ _ (by omega), up_nc _ _ _ _ (by omega), up_nc _ _ _ _ (by omega), up_nc _ _ _ _ (by omega), up_nc _ _ _ _ (by omega)]
theorem x_cp_2_125 (hW : gW B) (h : xgb B M 125) (hQ : ∀ M', xgb B M' 2 → M' 2 0 = w32 (M 2 0 + 1) → (∀ c, c < 2 ∨ 7 < c → M' c = M c) → Q 0 M') : am_s am_P am_gg (d + 1) 58 [.inr (.inr 3), .inr (.inr 126)] M Q := by
  refine (v_58_3_126 _ _ _).mpr ?_
  rw [if_pos (by decide), if_pos (by decide), if_pos (by decide), if_pos (by decide), if_pos (by decide)]
  refine hQ _ (xg_cong hW h rfl rfl rfl rfl ?_ ?_ ?_ ?_ ?_) rfl ?_
  · intro j h0 h1; simp [cpy_if, up_if, h0, h1]
  · intro j h0 h1; simp [cpy_if, up_if, h0, h1]
  · intro j h0 h1; simp [cpy_if, up_if, h0, h1]
  · intro j h0 h1; simp [cpy_if, up_if, h0, h1]
  · intro j h0 h1; simp [cpy_if, up_if, h0, h1]
  · intro c hc
    rw [cpy_nc _ _ _ _ _ _ (by omega), cpy_nc _ _ _ _ _ _ (by omega), cpy_nc _ _ _ _ _ _ (by omega), cpy_nc _ _ _ _ _ _ (by omega), cpy_nc _ _ _ _ _ _ (by omega), up_nc _ _ _ _ (by omega), up_nc _ _ _ _ (by omega), up_nc _ _ _ _ (by omega), up_nc _ _ _ _ (by omega), up_nc _ _ _ _ (by omega)]
theorem x_cp_2_131 (hW : gW B) (h : xgb B M 131) (hQ : ∀ M', xgb B M' 2 → M' 2 0 = w32 (M 2 0 + 1) → (∀ c, c < 2 ∨ 7 < c → M' c = M c) → Q 0 M') : am_s am_P am_gg (d + 1) 58 [.inr (.inr 3), .inr (.inr 132)] M Q := by
  refine (v_58_3_132 _ _ _).mpr ?_
  rw [if_pos (by decide), if_pos (by decide), if_pos (by decide), if_pos (by decide), if_pos (by decide)]
  refine hQ _ (xg_cong hW h rfl rfl rfl rfl ?_ ?_ ?_ ?_ ?_) rfl ?_
  · intro j h0 h1; simp [cpy_if, up_if, h0, h1]
  · intro j h0 h1; simp [cpy_if, up_if, h0, h1]
  · intro j h0 h1; simp [cpy_if, up_if, h0, h1]
  · intro j h0 h1; simp [cpy_if, up_if, h0, h1]
  · intro j h0 h1; simp [cpy_if, up_if, h0, h1]
  · intro c hc
    rw [cpy_nc _ _ _ _ _ _ (by omega), cpy_nc _ _ _ _ _ _ (by omega), cpy_nc _ _ _ _ _ _ (by omega), cpy_nc _ _ _ _ _ _ (by omega), cpy_nc _ _ _ _ _ _ (by omega), up_nc _ _ _ _ (by omega), up_nc _ _ _ _ (by omega), up_nc _ _ _ _ (by omega), up_nc _ _ _ _ (by omega), up_nc _ _ _ _ (by omega)]
theorem x_cp_2_137 (hW : gW B) (h : xgb B M 137) (hQ : ∀ M', xgb B M' 2 → M' 2 0 = w32 (M 2 0 + 1) → (∀ c, c < 2 ∨ 7 < c → M' c = M c) → Q 0 M') : am_s am_P am_gg (d + 1) 58 [.inr (.inr 3), .inr (.inr 138)] M Q := by
  refine (v_58_3_138 _ _ _).mpr ?_
  rw [if_pos (by decide), if_pos (by decide), if_pos (by decide), if_pos (by decide), if_pos (by decide)]
  refine hQ _ (xg_cong hW h rfl rfl rfl rfl ?_ ?_ ?_ ?_ ?_) rfl ?_
  · intro j h0 h1; simp [cpy_if, up_if, h0, h1]
  · intro j h0 h1; simp [cpy_if, up_if, h0, h1]
  · intro j h0 h1; simp [cpy_if, up_if, h0, h1]
  · intro j h0 h1; simp [cpy_if, up_if, h0, h1]
  · intro j h0 h1; simp [cpy_if, up_if, h0, h1]
  · intro c hc
    rw [cpy_nc _ _ _ _ _ _ (by omega), cpy_nc _ _ _ _ _ _ (by omega), cpy_nc _ _ _ _ _ _ (by omega), cpy_nc _ _ _ _ _ _ (by omega), cpy_nc _ _ _ _ _ _ (by omega), up_nc _ _ _ _ (by omega), up_nc _ _ _ _ (by omega), up_nc _ _ _ _ (by omega), up_nc _ _ _ _ (by omega), up_nc _ _ _ _ (by omega)]
theorem x_cp_2_143 (hW : gW B) (h : xgb B M 143) (hQ : ∀ M', xgb B M' 2 → M' 2 0 = w32 (M 2 0 + 1) → (∀ c, c < 2 ∨ 7 < c → M' c = M c) → Q 0 M') : am_s am_P am_gg (d + 1) 58 [.inr (.inr 3), .inr (.inr 144)] M Q := by
  refine (v_58_3_144 _ _ _).mpr ?_
  rw [if_pos (by decide), if_pos (by decide), if_pos (by decide), if_pos (by decide), if_pos (by decide)]
  refine hQ _ (xg_cong hW h rfl rfl rfl rfl ?_ ?_ ?_ ?_ ?_) rfl ?_
  · intro j h0 h1; simp [cpy_if, up_if, h0, h1]
  · intro j h0 h1; simp [cpy_if, up_if, h0, h1]
  · intro j h0 h1; simp [cpy_if, up_if, h0, h1]
  · intro j h0 h1; simp [cpy_if, up_if, h0, h1]
  · intro j h0 h1; simp [cpy_if, up_if, h0, h1]
  · intro c hc
    rw [cpy_nc _ _ _ _ _ _ (by omega), cpy_nc _ _ _ _ _ _ (by omega), cpy_nc _ _ _ _ _ _ (by omega), cpy_nc _ _ _ _ _ _ (by omega), cpy_nc _ _ _ _ _ _ (by omega), up_nc _ _ _ _ (by omega), up_nc _ _ _ _ (by omega), up_nc _ _ _ _ (by omega), up_nc _ _ _ _ (by omega), up_nc _ _ _ _ (by omega)]
theorem x_cp_2_149 (hW : gW B) (h : xgb B M 149) (hQ : ∀ M', xgb B M' 2 → M' 2 0 = w32 (M 2 0 + 1) → (∀ c, c < 2 ∨ 7 < c → M' c = M c) → Q 0 M') : am_s am_P am_gg (d + 1) 58 [.inr (.inr 3), .inr (.inr 150)] M Q := by
  refine (v_58_3_150 _ _ _).mpr ?_
  rw [if_pos (by decide), if_pos (by decide), if_pos (by decide), if_pos (by decide), if_pos (by decide)]
  refine hQ _ (xg_cong hW h rfl rfl rfl rfl ?_ ?_ ?_ ?_ ?_) rfl ?_
  · intro j h0 h1; simp [cpy_if, up_if, h0, h1]
  · intro j h0 h1; simp [cpy_if, up_if, h0, h1]
  · intro j h0 h1; simp [cpy_if, up_if, h0, h1]
  · intro j h0 h1; simp [cpy_if, up_if, h0, h1]
  · intro j h0 h1; simp [cpy_if, up_if, h0, h1]
  · intro c hc
    rw [cpy_nc _ _ _ _ _ _ (by omega), cpy_nc _ _ _ _ _ _ (by omega), cpy_nc _ _ _ _ _ _ (by omega), cpy_nc _ _ _ _ _ _ (by omega), cpy_nc _ _ _ _ _ _ (by omega), up_nc _ _ _ _ (by omega), up_nc _ _ _ _ (by omega), up_nc _ _ _ _ (by omega), up_nc _ _ _ _ (by omega), up_nc _ _ _ _ (by omega)]
theorem x_cp_2_155 (hW : gW B) (h : xgb B M 155) (hQ : ∀ M', xgb B M' 2 → M' 2 0 = w32 (M 2 0 + 1) → (∀ c, c < 2 ∨ 7 < c → M' c = M c) → Q 0 M') : am_s am_P am_gg (d + 1) 58 [.inr (.inr 3), .inr (.inr 156)] M Q := by
  refine (v_58_3_156 _ _ _).mpr ?_
  rw [if_pos (by decide), if_pos (by decide), if_pos (by decide), if_pos (by decide), if_pos (by decide)]
  refine hQ _ (xg_cong hW h rfl rfl rfl rfl ?_ ?_ ?_ ?_ ?_) rfl ?_
  · intro j h0 h1; simp [cpy_if, up_if, h0, h1]
  · intro j h0 h1; simp [cpy_if, up_if, h0, h1]
  · intro j h0 h1; simp [cpy_if, up_if, h0, h1]
  · intro j h0 h1; simp [cpy_if, up_if, h0, h1]
  · intro j h0 h1; simp [cpy_if, up_if, h0, h1]
  · intro c hc
    rw [cpy_nc _ _ _ _ _ _ (by omega), cpy_nc _ _ _ _ _ _ (by omega), cpy_nc _ _ _ _ _ _ (by omega), cpy_nc _ _ _ _ _ _ (by omega), cpy_nc _ _ _ _ _ _ (by omega), up_nc _ _ _ _ (by omega), up_nc _ _ _ _ (by omega), up_nc _ _ _ _ (by omega), up_nc _ _ _ _ (by omega), up_nc _ _ _ _ (by omega)]
theorem x_cp_2_161 (hW : gW B) (h : xgb B M 161) (hQ : ∀ M', xgb B M' 2 → M' 2 0 = w32 (M 2 0 + 1) → (∀ c, c < 2 ∨ 7 < c → M' c = M c) → Q 0 M') : am_s am_P am_gg (d + 1) 58 [.inr (.inr 3), .inr (.inr 162)] M Q := by
  refine (v_58_3_162 _ _ _).mpr ?_
  rw [if_pos (by decide), if_pos (by decide), if_pos (by decide), if_pos (by decide), if_pos (by decide)]
  refine hQ _ (xg_cong hW h rfl rfl rfl rfl ?_ ?_ ?_ ?_ ?_) rfl ?_
  · intro j h0 h1; simp [cpy_if, up_if, h0, h1]
  · intro j h0 h1; simp [cpy_if, up_if, h0, h1]
  · intro j h0 h1; simp [cpy_if, up_if, h0, h1]
  · intro j h0 h1; simp [cpy_if, up_if, h0, h1]
  · intro j h0 h1; simp [cpy_if, up_if, h0, h1]
  · intro c hc
    rw [cpy_nc _ _ _ _ _ _ (by omega), cpy_nc _ _ _ _ _ _ (by omega), cpy_nc _ _ _ _ _ _ (by omega), cpy_nc _ _ _ _ _ _ (by omega), cpy_nc _ _ _ _ _ _ (by omega), up_nc _ _ _ _ (by omega), up_nc _ _ _ _ (by omega), up_nc _ _ _ _ (by omega), up_nc _ _ _ _ (by omega), up_nc _ _ _ _ (by omega)]
theorem x_cp_2_167 (hW : gW B) (h : xgb B M 167) (hQ : ∀ M', xgb B M' 2 → M' 2 0 = w32 (M 2 0 + 1) → (∀ c, c < 2 ∨ 7 < c → M' c = M c) → Q 0 M') : am_s am_P am_gg (d + 1) 58 [.inr (.inr 3), .inr (.inr 168)] M Q := by
  refine (v_58_3_168 _ _ _).mpr ?_
  rw [if_pos (by decide), if_pos (by decide), if_pos (by decide), if_pos (by decide), if_pos (by decide)]
  refine hQ _ (xg_cong hW h rfl rfl rfl rfl ?_ ?_ ?_ ?_ ?_) rfl ?_
  · intro j h0 h1; simp [cpy_if, up_if, h0, h1]
  · intro j h0 h1; simp [cpy_if, up_if, h0, h1]
  · intro j h0 h1; simp [cpy_if, up_if, h0, h1]
  · intro j h0 h1; simp [cpy_if, up_if, h0, h1]
  · intro j h0 h1; simp [cpy_if, up_if, h0, h1]
  · intro c hc
    rw [cpy_nc _ _ _ _ _ _ (by omega), cpy_nc _ _ _ _ _ _ (by omega), cpy_nc _ _ _ _ _ _ (by omega), cpy_nc _ _ _ _ _ _ (by omega), cpy_nc _ _ _ _ _ _ (by omega), up_nc _ _ _ _ (by omega), up_nc _ _ _ _ (by omega), up_nc _ _ _ _ (by omega), up_nc _ _ _ _ (by omega), up_nc _ _ _ _ (by omega)]
theorem x_cp_125_2 (hW : gW B) (h : xgb B M 2) (hQ : ∀ M', xgb B M' 125 → M' 125 0 = w32 (M 125 0 + 1) → (∀ c, c < 125 ∨ 130 < c → M' c = M c) → Q 0 M') : am_s am_P am_gg (d + 1) 58 [.inr (.inr 126), .inr (.inr 3)] M Q := by
  refine (v_58_126_3 _ _ _).mpr ?_
  rw [if_pos (by decide), if_pos (by decide), if_pos (by decide), if_pos (by decide), if_pos (by decide)]
  refine hQ _ (xg_cong hW h rfl rfl rfl rfl ?_ ?_ ?_ ?_ ?_) rfl ?_
  · intro j h0 h1; simp [cpy_if, up_if, h0, h1]
  · intro j h0 h1; simp [cpy_if, up_if, h0, h1]
  · intro j h0 h1; simp [cpy_if, up_if, h0, h1]
  · intro j h0 h1; simp [cpy_if, up_if, h0, h1]
  · intro j h0 h1; simp [cpy_if, up_if, h0, h1]
  · intro c hc
    rw [cpy_nc _ _ _ _ _ _ (by omega), cpy_nc _ _ _ _ _ _ (by omega), cpy_nc _ _ _ _ _ _ (by omega), cpy_nc _ _ _ _ _ _ (by omega), cpy_nc _ _ _ _ _ _ (by omega), up_nc _ _ _ _ (by omega), up_nc _ _ _ _ (by omega), up_nc _ _ _ _ (by omega), up_nc _ _ _ _ (by omega), up_nc _ _ _ _ (by omega)]
theorem x_cp_131_2 (hW : gW B) (h : xgb B M 2) (hQ : ∀ M', xgb B M' 131 → M' 131 0 = w32 (M 131 0 + 1) → (∀ c, c < 131 ∨ 136 < c → M' c = M c) → Q 0 M') : am_s am_P am_gg (d + 1) 58 [.inr (.inr 132), .inr (.inr 3)] M Q := by
  refine (v_58_132_3 _ _ _).mpr ?_
  rw [if_pos (by decide), if_pos (by decide), if_pos (by decide), if_pos (by decide), if_pos (by decide)]
  refine hQ _ (xg_cong hW h rfl rfl rfl rfl ?_ ?_ ?_ ?_ ?_) rfl ?_
  · intro j h0 h1; simp [cpy_if, up_if, h0, h1]
  · intro j h0 h1; simp [cpy_if, up_if, h0, h1]
  · intro j h0 h1; simp [cpy_if, up_if, h0, h1]
  · intro j h0 h1; simp [cpy_if, up_if, h0, h1]
  · intro j h0 h1; simp [cpy_if, up_if, h0, h1]
  · intro c hc
    rw [cpy_nc _ _ _ _ _ _ (by omega), cpy_nc _ _ _ _ _ _ (by omega), cpy_nc _ _ _ _ _ _ (by omega), cpy_nc _ _ _ _ _ _ (by omega), cpy_nc _ _ _ _ _ _ (by omega), up_nc _ _ _ _ (by omega), up_nc _ _ _ _ (by omega), up_nc _ _ _ _ (by omega), up_nc _ _ _ _ (by omega), up_nc _ _ _ _ (by omega)]
theorem x_cp_137_2 (hW : gW B) (h : xgb B M 2) (hQ : ∀ M', xgb B M' 137 → M' 137 0 = w32 (M 137 0 + 1) → (∀ c, c < 137 ∨ 142 < c → M' c = M c) → Q 0 M') : am_s am_P am_gg (d + 1) 58 [.inr (.inr 138), .inr (.inr 3)] M Q := by
  refine (v_58_138_3 _ _ _).mpr ?_
  rw [if_pos (by decide), if_pos (by decide), if_pos (by decide), if_pos (by decide), if_pos (by decide)]
  refine hQ _ (xg_cong hW h rfl rfl rfl rfl ?_ ?_ ?_ ?_ ?_) rfl ?_
  · intro j h0 h1; simp [cpy_if, up_if, h0, h1]
  · intro j h0 h1; simp [cpy_if, up_if, h0, h1]
  · intro j h0 h1; simp [cpy_if, up_if, h0, h1]
  · intro j h0 h1; simp [cpy_if, up_if, h0, h1]
  · intro j h0 h1; simp [cpy_if, up_if, h0, h1]
  · intro c hc
    rw [cpy_nc _ _ _ _ _ _ (by omega), cpy_nc _ _ _ _ _ _ (by omega), cpy_nc _ _ _ _ _ _ (by omega), cpy_nc _ _ _ _ _ _ (by omega), cpy_nc _ _ _ _ _ _ (by omega), up_nc _ _ _ _ (by omega), up_nc _ _ _ _ (by omega), up_nc _ _ _ _ (by omega), up_nc _ _ _ _ (by omega), up_nc _ _ _ _ (by omega)]
theorem x_cp_143_2 (hW : gW B) (h : xgb B M 2) (hQ : ∀ M', xgb B M' 143 → M' 143 0 = w32 (M 143 0 + 1) → (∀ c, c < 143 ∨ 148 < c → M' c = M c) → Q 0 M') : am_s am_P am_gg (d + 1) 58 [.inr (.inr 144), .inr (.inr 3)] M Q := by
  refine (v_58_144_3 _ _ _).mpr ?_
  rw [if_pos (by decide), if_pos (by decide), if_pos (by decide), if_pos (by decide), if_pos (by decide)]
  refine hQ _ (xg_cong hW h rfl rfl rfl rfl ?_ ?_ ?_ ?_ ?_) rfl ?_
  · intro j h0 h1; simp [cpy_if, up_if, h0, h1]
  · intro j h0 h1; simp [cpy_if, up_if, h0, h1]
  · intro j h0 h1; simp [cpy_if, up_if, h0, h1]
  · intro j h0 h1; simp [cpy_if, up_if, h0, h1]
  · intro j h0 h1; simp [cpy_if, up_if, h0, h1]
  · intro c hc
    rw [cpy_nc _ _ _ _ _ _ (by omega), cpy_nc _ _ _ _ _ _ (by omega), cpy_nc _ _ _ _ _ _ (by omega), cpy_nc _ _ _ _ _ _ (by omega), cpy_nc _ _ _ _ _ _ (by omega), up_nc _ _ _ _ (by omega), up_nc _ _ _ _ (by omega), up_nc _ _ _ _ (by omega), up_nc _ _ _ _ (by omega), up_nc _ _ _ _ (by omega)]
theorem x_cp_149_2 (hW : gW B) (h : xgb B M 2) (hQ : ∀ M', xgb B M' 149 → M' 149 0 = w32 (M 149 0 + 1) → (∀ c, c < 149 ∨ 154 < c → M' c = M c) → Q 0 M') : am_s am_P am_gg (d + 1) 58 [.inr (.inr 150), .inr (.inr 3)] M Q := by
  refine (v_58_150_3 _ _ _).mpr ?_
  rw [if_pos (by decide), if_pos (by decide), if_pos (by decide), if_pos (by decide), if_pos (by decide)]
  refine hQ _ (xg_cong hW h rfl rfl rfl rfl ?_ ?_ ?_ ?_ ?_) rfl ?_
  · intro j h0 h1; simp [cpy_if, up_if, h0, h1]
  · intro j h0 h1; simp [cpy_if, up_if, h0, h1]
  · intro j h0 h1; simp [cpy_if, up_if, h0, h1]
  · intro j h0 h1; simp [cpy_if, up_if, h0, h1]
  · intro j h0 h1; simp [cpy_if, up_if, h0, h1]
  · intro c hc
    rw [cpy_nc _ _ _ _ _ _ (by omega), cpy_nc _ _ _ _ _ _ (by omega), cpy_nc _ _ _ _ _ _ (by omega), cpy_nc _ _ _ _ _ _ (by omega), cpy_nc _ _ _ _ _ _ (by omega), up_nc _ _ _ _ (by omega), up_nc _ _ _ _ (by omega), up_nc _ _ _ _ (by omega), up_nc _ _ _ _ (by omega), up_nc _ _ _ _ (by omega)]
theorem x_cp_155_2 (hW : gW B) (h : xgb B M 2) (hQ : ∀ M', xgb B M' 155 → M' 155 0 = w32 (M 155 0 + 1) → (∀ c, c < 155 ∨ 160 < c → M' c = M c) → Q 0 M') : am_s am_P am_gg (d + 1) 58 [.inr (.inr 156), .inr (.inr 3)] M Q := by
  refine (v_58_156_3 _ _ _).mpr ?_
  rw [if_pos (by decide), if_pos (by decide), if_pos (by decide), if_pos (by decide), if_pos (by decide)]
  refine hQ _ (xg_cong hW h rfl rfl rfl rfl ?_ ?_ ?_ ?_ ?_) rfl ?_
  · intro j h0 h1; simp [cpy_if, up_if, h0, h1]
  · intro j h0 h1; simp [cpy_if, up_if, h0, h1]
  · intro j h0 h1; simp [cpy_if, up_if, h0, h1]
  · intro j h0 h1; simp [cpy_if, up_if, h0, h1]
  · intro j h0 h1; simp [cpy_if, up_if, h0, h1]
  · intro c hc
    rw [cpy_nc _ _ _ _ _ _ (by omega), cpy_nc _ _ _ _ _ _ (by omega), cpy_nc _ _ _ _ _ _ (by omega), cpy_nc _ _ _ _ _ _ (by omega), cpy_nc _ _ _ _ _ _ (by omega), up_nc _ _ _ _ (by omega), up_nc _ _ _ _ (by omega), up_nc _ _ _ _ (by omega), up_nc _ _ _ _ (by omega), up_nc _ _ _ _ (by omega)]
theorem x_cp_161_2 (hW : gW B) (h : xgb B M 2) (hQ : ∀ M', xgb B M' 161 → M' 161 0 = w32 (M 161 0 + 1) → (∀ c, c < 161 ∨ 166 < c → M' c = M c) → Q 0 M') : am_s am_P am_gg (d + 1) 58 [.inr (.inr 162), .inr (.inr 3)] M Q := by
  refine (v_58_162_3 _ _ _).mpr ?_
  rw [if_pos (by decide), if_pos (by decide), if_pos (by decide), if_pos (by decide), if_pos (by decide)]
  refine hQ _ (xg_cong hW h rfl rfl rfl rfl ?_ ?_ ?_ ?_ ?_) rfl ?_
  · intro j h0 h1; simp [cpy_if, up_if, h0, h1]
  · intro j h0 h1; simp [cpy_if, up_if, h0, h1]
  · intro j h0 h1; simp [cpy_if, up_if, h0, h1]
  · intro j h0 h1; simp [cpy_if, up_if, h0, h1]
  · intro j h0 h1; simp [cpy_if, up_if, h0, h1]
  · intro c hc
    rw [cpy_nc _ _ _ _ _ _ (by omega), cpy_nc _ _ _ _ _ _ (by omega), cpy_nc _ _ _ _ _ _ (by omega), cpy_nc _ _ _ _ _ _ (by omega), cpy_nc _ _ _ _ _ _ (by omega), up_nc _ _ _ _ (by omega), up_nc _ _ _ _ (by omega), up_nc _ _ _ _ (by omega), up_nc _ _ _ _ (by omega), up_nc _ _ _ _ (by omega)]
theorem x_cp_167_2 (hW : gW B) (h : xgb B M 2) (hQ : ∀ M', xgb B M' 167 → M' 167 0 = w32 (M 167 0 + 1) → (∀ c, c < 167 ∨ 172 < c → M' c = M c) → Q 0 M') : am_s am_P am_gg (d + 1) 58 [.inr (.inr 168), .inr (.inr 3)] M Q := by
  refine (v_58_168_3 _ _ _).mpr ?_
  rw [if_pos (by decide), if_pos (by decide), if_pos (by decide), if_pos (by decide), if_pos (by decide)]
  refine hQ _ (xg_cong hW h rfl rfl rfl rfl ?_ ?_ ?_ ?_ ?_) rfl ?_
  · intro j h0 h1; simp [cpy_if, up_if, h0, h1]
  · intro j h0 h1; simp [cpy_if, up_if, h0, h1]
  · intro j h0 h1; simp [cpy_if, up_if, h0, h1]
  · intro j h0 h1; simp [cpy_if, up_if, h0, h1]
  · intro j h0 h1; simp [cpy_if, up_if, h0, h1]
  · intro c hc
    rw [cpy_nc _ _ _ _ _ _ (by omega), cpy_nc _ _ _ _ _ _ (by omega), cpy_nc _ _ _ _ _ _ (by omega), cpy_nc _ _ _ _ _ _ (by omega), cpy_nc _ _ _ _ _ _ (by omega), up_nc _ _ _ _ (by omega), up_nc _ _ _ _ (by omega), up_nc _ _ _ _ (by omega), up_nc _ _ _ _ (by omega), up_nc _ _ _ _ (by omega)]
theorem x_remember {top n : Nat} (ht : top < 8) (h7 : M 0 7 = (top : Int)) (h8 : M 0 8 = (n : Int)) (hn : n ≤ 8) (hW : gW B) (hg : xgb B M 2) (hQ : ∀ M', xgb B M' (125 + 6 * top) → M' 0 7 = (((top + 1) % 8 : Nat) : Int) → M' 0 8 = ((if n < 8 then n + 1 else 8 : Nat) : Int) → (∀ i : Int, i ≠ 7 → i ≠ 8 → M' 0 i = M 0 i) → (∀ c, c ≠ 0 → c < 125 + 6 * top ∨ 125 + 6 * top + 5 < c → M' c = M c) → Q 0 M') : am_s am_P am_gg (d + 2) 208 [.inr (.inr 1)] M Q := by
  refine (v_208_1 _ _ _).mpr ?_
  rw [h7]
  rw [if_pos (by omega)]
  have fin : ∀ M1 : (Nat → Int → Int), xgb B M1 (125 + 6 * top) → (∀ c, c < 125 + 6 * top ∨ 125 + 6 * top + 5 < c → M1 c = M c) → Q 0 (am_up (am_up M1 0 7 (w32 (Int.tmod (w32 ((M1 0 7) + 1)) 8))) 0 8 (i_min (w32 ((M1 0 8) + 1)) 8)) := by
    intro M1 k1 k2
    have e0 : M1 0 = M 0 := k2 0 (by omega)
    rw [e0, h7, h8]
    refine hQ _ (xgb_eq k1 (fun c a b => ?_)) ?_ ?_ ?_ ?_
    · rw [up_nc _ _ _ _ (by omega), up_nc _ _ _ _ (by omega)]
    · rw [up_ni _ _ _ _ (by decide), up_eq, w32_s (by omega), show Int.tmod ((top + 1 : Nat) : Int) 8 = (((top + 1) % 8 : Nat) : Int) from rfl, w32_i (by omega) (by omega)]
    · rw [up_eq, w32_s (by omega)]; unfold i_min; split <;> split <;> omega
    · intro i a b; rw [up_ni _ _ _ _ b, up_ni _ _ _ _ a, e0]
    · intro c a b; rw [up_nc _ _ _ _ a, up_nc _ _ _ _ a, k2 c b]
  by_cases q0 : top = 0
  · subst q0
    rw [show am_rfF 8 ((0 : Nat) : Int) = 126 from rfl]
    refine (h_208_9_1_s126 _ _ _).mpr (x_cp_125_2 hW hg (fun M1 k1 _ k2 => fin M1 k1 k2))
  by_cases q1 : top = 1
  · subst q1
    rw [show am_rfF 8 ((1 : Nat) : Int) = 132 from rfl]
    refine (h_208_9_1_s132 _ _ _).mpr (x_cp_131_2 hW hg (fun M1 k1 _ k2 => fin M1 k1 k2))
  by_cases q2 : top = 2
  · subst q2
    rw [show am_rfF 8 ((2 : Nat) : Int) = 138 from rfl]
    refine (h_208_9_1_s138 _ _ _).mpr (x_cp_137_2 hW hg (fun M1 k1 _ k2 => fin M1 k1 k2))
  by_cases q3 : top = 3
  · subst q3
    rw [show am_rfF 8 ((3 : Nat) : Int) = 144 from rfl]
    refine (h_208_9_1_s144 _ _ _).mpr (x_cp_143_2 hW hg (fun M1 k1 _ k2 => fin M1 k1 k2))
  by_cases q4 : top = 4
  · subst q4
    rw [show am_rfF 8 ((4 : Nat) : Int) = 150 from rfl]
    refine (h_208_9_1_s150 _ _ _).mpr (x_cp_149_2 hW hg (fun M1 k1 _ k2 => fin M1 k1 k2))
  by_cases q5 : top = 5
  · subst q5
    rw [show am_rfF 8 ((5 : Nat) : Int) = 156 from rfl]
    refine (h_208_9_1_s156 _ _ _).mpr (x_cp_155_2 hW hg (fun M1 k1 _ k2 => fin M1 k1 k2))
  by_cases q6 : top = 6
  · subst q6
    rw [show am_rfF 8 ((6 : Nat) : Int) = 162 from rfl]
    refine (h_208_9_1_s162 _ _ _).mpr (x_cp_161_2 hW hg (fun M1 k1 _ k2 => fin M1 k1 k2))
  by_cases q7 : top = 7
  · subst q7
    rw [show am_rfF 8 ((7 : Nat) : Int) = 168 from rfl]
    refine (h_208_9_1_s168 _ _ _).mpr (x_cp_167_2 hW hg (fun M1 k1 _ k2 => fin M1 k1 k2))
  omega
end S59
