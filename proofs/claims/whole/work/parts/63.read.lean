/-! how a text is read -/
def rdS (b : Nat) : Nat := if 65 ≤ b ∧ b ≤ 72 then b - 65 else if 97 ≤ b ∧ b ≤ 112 then b - 81 else 99
def rdM (b : Nat) : Prop := (48 ≤ b ∧ b ≤ 57) ∨ b = 61 ∨ b = 124 ∨ b = 59 ∨ b = 58
/-- what is wanted, the line's symbol, the symbols told, the rules -/
abbrev rd := Nat × Nat × Nat × (Nat → Nat)
def rdR (D : Nat → Nat) (s : Nat) : Nat → Nat := gU (gU (gU (gU D (3 + D 0) s) (19 + D 0) 0) (35 + D 0) 1) 0 (D 0 + 1)
def rdA (D : Nat → Nat) (g : Nat) : Nat → Nat := gU (gU D (51 + 4 * (D 0 - 1) + gsz D (D 0 - 1)) g) (19 + (D 0 - 1)) (gsz D (D 0 - 1) + 1)
/-- one byte -/
def rdT (x : rd) (b : Nat) : Nat × rd :=
  if b = 10 ∨ b = 32 then (0, x) else
  if rdS b = 99 ∧ ¬ ((48 ≤ b ∧ b ≤ 57) ∨ b = 61 ∨ b = 124 ∨ b = 59 ∨ b = 58) then (1, x) else
  if x.1 = 0 then (if 8 ≤ rdS b then (2, x) else if x.2.2.1.testBit (rdS b) = true then (3, x) else (0, (1, rdS b, x.2.2.1 ||| 2 ^ rdS b, if x.2.2.1 = 0 then gU x.2.2.2 2 (rdS b) else x.2.2.2))) else
  if x.1 = 1 then (if b = 61 then (0, (2, x.2)) else (2, x)) else
  if x.1 = 2 then (if rdS b = 99 then (2, x) else if x.2.2.2 0 = 16 then (5, x) else (0, (3, x.2.1, x.2.2.1, rdA (rdR x.2.2.2 x.2.1) (rdS b)))) else
  if x.1 = 3 then (if rdS b ≠ 99 then (if gsz x.2.2.2 (x.2.2.2 0 - 1) = 4 then (4, x) else (0, (3, x.2.1, x.2.2.1, rdA x.2.2.2 (rdS b)))) else if b = 58 then (0, (4, x.2)) else if b = 59 then (0, (0, x.2)) else if b = 124 then (0, (2, x.2)) else (2, x)) else
  if x.1 = 4 then (if 48 ≤ b ∧ b ≤ 57 then (0, (5, x.2.1, x.2.2.1, gU x.2.2.2 (35 + (x.2.2.2 0 - 1)) (b - 48))) else (2, x)) else
  if b = 59 then (0, (0, x.2)) else if b = 124 then (0, (2, x.2)) else (2, x)
section S63
variable {D : Nat → Nat} {s g q v r i : Nat}
theorem rdR_0 : rdR D s 0 = D 0 + 1 := gU_eq
theorem rdR_2 : rdR D s 2 = D 2 := by unfold rdR; rw [gU_ne (by omega), gU_ne (by omega), gU_ne (by omega), gU_ne (by omega)]
theorem rdR_sy (h : D 0 < 16) (hr : r < 16) : gsy (rdR D s) r = if r = D 0 then s else gsy D r := by
  unfold gsy rdR gU; (repeat' split) <;> first | rfl | omega
theorem rdR_sz (h : D 0 < 16) (hr : r < 16) : gsz (rdR D s) r = if r = D 0 then 0 else gsz D r := by
  unfold gsz rdR gU; (repeat' split) <;> first | rfl | omega
theorem rdR_wt (h : D 0 < 16) (hr : r < 16) : gwt (rdR D s) r = if r = D 0 then 1 else gwt D r := by
  unfold gwt rdR gU; (repeat' split) <;> first | rfl | omega
theorem rdR_sg (h : D 0 < 16) : gsg (rdR D s) r i = gsg D r i := by
  unfold gsg rdR gU; (repeat' split) <;> first | rfl | omega
theorem rdA_0 : rdA D g 0 = D 0 := by unfold rdA; rw [gU_ne (by omega), gU_ne (by omega)]
theorem rdA_2 : rdA D g 2 = D 2 := by unfold rdA; rw [gU_ne (by omega), gU_ne (by omega)]
theorem rdA_sy (hr : r < 16) : gsy (rdA D g) r = gsy D r := by unfold gsy rdA; rw [gU_ne (by omega), gU_ne (by omega)]
theorem rdA_wt (hr : r < 16) (h : D 0 ≤ 16) (h1 : 1 ≤ D 0) : gwt (rdA D g) r = gwt D r := by unfold gwt rdA; rw [gU_ne (by omega), gU_ne (by omega)]
theorem rdA_sz (hr : r < 16) (h : D 0 ≤ 16) (h1 : 1 ≤ D 0) : gsz (rdA D g) r = if r = D 0 - 1 then gsz D (D 0 - 1) + 1 else gsz D r := by
  by_cases e : r = D 0 - 1
  · subst e; rw [if_pos rfl]; show gU _ (19 + (D 0 - 1)) _ (19 + (D 0 - 1)) = _; exact gU_eq
  · rw [if_neg e]; unfold gsz rdA; rw [gU_ne (by omega), gU_ne (by omega)]
theorem rdA_sg (hr : r < 16) (hi : i < 4) (h : D 0 ≤ 16) (h1 : 1 ≤ D 0) (h2 : gsz D (D 0 - 1) < 4) : gsg (rdA D g) r i = if r = D 0 - 1 ∧ i = gsz D (D 0 - 1) then g else gsg D r i := by
  by_cases e : r = D 0 - 1 ∧ i = gsz D (D 0 - 1)
  · rw [if_pos e, e.1, e.2]; unfold gsg rdA; rw [gU_ne (by omega)]; exact gU_eq
  · rw [if_neg e]; unfold gsg rdA; rw [gU_ne (by omega), gU_ne (by omega)]
theorem gtold_R (h : D 0 < 16) : gtold (rdR D s) = gtold D ||| 2 ^ s := by
  apply Nat.eq_of_testBit_eq
  intro i
  rw [Nat.testBit_or, Bool.eq_iff_iff, Bool.or_eq_true, gtold_bit, gtold_bit, Nat.testBit_two_pow, decide_eq_true_iff, rdR_0]
  constructor
  · rintro ⟨r, hr, e⟩
    rw [rdR_sy h (by omega)] at e
    by_cases q : r = D 0
    · rw [if_pos q] at e; exact Or.inr e
    · rw [if_neg q] at e; exact Or.inl ⟨r, by omega, e⟩
  · rintro (⟨r, hr, e⟩ | e)
    · exact ⟨r, by omega, by rw [rdR_sy h (by omega), if_neg (by omega)]; exact e⟩
    · exact ⟨D 0, by omega, by rw [rdR_sy h (by omega), if_pos rfl]; exact e⟩
theorem gtold_A (h : D 0 ≤ 16) : gtold (rdA D g) = gtold D := by
  apply Nat.eq_of_testBit_eq
  intro i
  rw [Bool.eq_iff_iff, gtold_bit, gtold_bit, rdA_0]
  constructor
  · rintro ⟨r, hr, e⟩; rw [rdA_sy (by omega)] at e; exact ⟨r, hr, e⟩
  · rintro ⟨r, hr, e⟩; exact ⟨r, hr, by rw [rdA_sy (by omega)]; exact e⟩
/-- rules as they must be -/
def rdU (D : Nat → Nat) : Prop := D 0 ≤ 16 ∧ ∀ r, r < D 0 → gsy D r < 8 ∧ 1 ≤ gsz D r ∧ gsz D r ≤ 4 ∧ gwt D r ≤ 9 ∧ ∀ i, i < gsz D r → gsg D r i < 8 ∨ (16 ≤ gsg D r i ∧ gsg D r i < 32)
/-- what is read, as it must be -/
def rdW (x : rd) : Prop := x.1 ≤ 5 ∧ rdU x.2.2.2 ∧ x.2.2.1 < 256 ∧ (x.1 ≠ 0 → x.2.1 < 8) ∧ (3 ≤ x.1 → 1 ≤ x.2.2.2 0 ∧ gsy x.2.2.2 (x.2.2.2 0 - 1) = x.2.1) ∧ (x.1 ≠ 0 → x.2.2.1 ≠ 0) ∧ (x.2.2.1 = 0 → x.2.2.2 0 = 0) ∧ (x.1 = 0 → x.2.2.1 ≠ 0 → 1 ≤ x.2.2.2 0) ∧ x.2.2.1 = (gtold x.2.2.2 ||| (if x.1 = 1 ∨ x.1 = 2 then 2 ^ x.2.1 else 0)) ∧ (x.2.2.1 ≠ 0 → x.2.2.2 2 < 8)
theorem rdS_c (b : Nat) : rdS b < 8 ∨ (16 ≤ rdS b ∧ rdS b < 32) ∨ rdS b = 99 := by unfold rdS; split; omega; split <;> omega
theorem rdU_A (h : rdU D) (h1 : 1 ≤ D 0) (h4 : gsz D (D 0 - 1) < 4) (hg : g < 8 ∨ (16 ≤ g ∧ g < 32)) : rdU (rdA D g) := by
  obtain ⟨hn, hr⟩ := h
  refine ⟨by rw [rdA_0]; exact hn, fun r hr0 => ?_⟩
  rw [rdA_0] at hr0
  obtain ⟨a1, a2, a3, a4, a5⟩ := hr r hr0
  rw [rdA_sy (by omega), rdA_sz (by omega) hn h1, rdA_wt (by omega) hn h1]
  refine ⟨a1, ?_, ?_, a4, fun i hi => ?_⟩
  · split <;> omega
  · split <;> omega
  · have hi4 : i < 4 := by split at hi <;> omega
    rw [rdA_sg (by omega) hi4 hn h1 h4]
    by_cases e : r = D 0 - 1 ∧ i = gsz D (D 0 - 1)
    · rw [if_pos e]; exact hg
    · rw [if_neg e]
      refine a5 i ?_
      by_cases e1 : r = D 0 - 1
      · rw [if_pos e1] at hi; subst e1; omega
      · rw [if_neg e1] at hi; exact hi
/-- a rule and its first sign -/
theorem rdU_RA (h : rdU D) (h1 : D 0 < 16) (hs : s < 8) (hg : g < 8 ∨ (16 ≤ g ∧ g < 32)) : rdU (rdA (rdR D s) g) := by
  obtain ⟨hn, hr⟩ := h
  have e0 : rdR D s 0 - 1 = D 0 := by rw [rdR_0]; omega
  have ez : gsz (rdR D s) (D 0) = 0 := by rw [rdR_sz h1 h1, if_pos rfl]
  refine ⟨by rw [rdA_0, rdR_0]; omega, fun r hr0 => ?_⟩
  rw [rdA_0, rdR_0] at hr0
  rw [rdA_sy (by omega), rdA_sz (by omega) (by rw [rdR_0]; omega) (by rw [rdR_0]; omega), rdA_wt (by omega) (by rw [rdR_0]; omega) (by rw [rdR_0]; omega), e0, ez, rdR_sy h1 (by omega), rdR_sz h1 (by omega), rdR_wt h1 (by omega)]
  by_cases e : r = D 0
  · rw [if_pos e, if_pos e, if_pos e]
    refine ⟨hs, by omega, by omega, by omega, fun i hi => ?_⟩
    rw [rdA_sg (by omega) (by omega) (by rw [rdR_0]; omega) (by rw [rdR_0]; omega) (by rw [e0, ez]; omega), if_pos ⟨by rw [e0]; exact e, by rw [e0, ez]; omega⟩]
    exact hg
  · obtain ⟨a1, a2, a3, a4, a5⟩ := hr r (by omega)
    rw [if_neg e, if_neg e, if_neg e, if_neg e]
    refine ⟨a1, a2, a3, a4, fun i hi => ?_⟩
    rw [rdA_sg (by omega) (by omega) (by rw [rdR_0]; omega) (by rw [rdR_0]; omega) (by rw [e0, ez]; omega), if_neg (fun z => e (by rw [← e0]; exact z.1)), rdR_sg h1]
    exact a5 i hi
theorem rdU_gU {k : Nat} (h : rdU D) (hk : k = 1 ∨ k = 2) : rdU (gU D k v) := by
  obtain ⟨hn, hr⟩ := h
  refine ⟨by rw [gU_ne (by omega)]; exact hn, fun r hr0 => ?_⟩
  rw [gU_ne (by omega)] at hr0
  unfold gsy gsz gwt gsg
  rw [gU_ne (by omega), gU_ne (by omega), gU_ne (by omega)]
  obtain ⟨a1, a2, a3, a4, a5⟩ := hr r hr0
  exact ⟨a1, a2, a3, a4, fun i hi => by rw [gU_ne (by omega)]; exact a5 i hi⟩
theorem rdU_wt (h : rdU D) (hq : q < 16) (hv : v ≤ 9) : rdU (gU D (35 + q) v) := by
  obtain ⟨hn, hr⟩ := h
  refine ⟨by rw [gU_ne (by omega)]; exact hn, fun r hr0 => ?_⟩
  rw [gU_ne (by omega)] at hr0
  obtain ⟨a1, a2, a3, a4, a5⟩ := hr r hr0
  refine ⟨by unfold gsy; rw [gU_ne (by omega)]; exact a1, by unfold gsz; rw [gU_ne (by omega)]; exact a2, by unfold gsz; rw [gU_ne (by omega)]; exact a3, ?_, fun i hi => by unfold gsg; rw [gU_ne (by omega)]; exact a5 i (by unfold gsz at hi; rwa [gU_ne (by omega)] at hi)⟩
  unfold gwt gU; split
  · exact hv
  · exact a4
theorem gtold_sy (h : 1 ≤ D 0) : gtold D ||| 2 ^ gsy D (D 0 - 1) = gtold D := by
  apply Nat.eq_of_testBit_eq
  intro i
  rw [Nat.testBit_or, Bool.eq_iff_iff, Bool.or_eq_true, gtold_bit, Nat.testBit_two_pow, decide_eq_true_iff]
  constructor
  · rintro (e | e)
    · exact e
    · exact ⟨D 0 - 1, by omega, e⟩
  · exact fun e => Or.inl e
theorem pow_lt8 (h : s < 8) : 2 ^ s < 256 := Nat.pow_lt_pow_right (m := s) (n := 8) (by decide) h
theorem or_ne0 (a : Nat) (s : Nat) : a ||| 2 ^ s ≠ 0 := by
  intro e
  have : (a ||| 2 ^ s).testBit s = true := by rw [Nat.testBit_or, Nat.testBit_two_pow]; simp
  rw [e, Nat.zero_testBit] at this; cases this
theorem rdW_T {x : rd} (h : rdW x) (b : Nat) (h0 : (rdT x b).1 = 0) : rdW (rdT x b).2 := by
  obtain ⟨w, o, t, D⟩ := x
  obtain ⟨a1, a2, a3, a4, a5, a6, a7, a8, a9, a10⟩ := h
  dsimp only at a1 a2 a3 a4 a5 a6 a7 a8 a9 a10
  have hS := rdS_c b
  unfold rdT at h0 ⊢
  dsimp only at h0 ⊢
  by_cases c1 : b = 10 ∨ b = 32
  · rw [if_pos c1]; exact ⟨a1, a2, a3, a4, a5, a6, a7, a8, a9, a10⟩
  rw [if_neg c1] at h0 ⊢
  by_cases c2 : rdS b = 99 ∧ ¬ ((48 ≤ b ∧ b ≤ 57) ∨ b = 61 ∨ b = 124 ∨ b = 59 ∨ b = 58)
  · rw [if_pos c2] at h0; cases h0
  rw [if_neg c2] at h0 ⊢
  have hn : D 0 ≤ 16 := a2.1
  by_cases w0 : w = 0
  · rw [if_pos w0] at h0 ⊢
    by_cases c3 : 8 ≤ rdS b
    · rw [if_pos c3] at h0; cases h0
    rw [if_neg c3] at h0 ⊢
    by_cases c4 : t.testBit (rdS b) = true
    · rw [if_pos c4] at h0; cases h0
    rw [if_neg c4] at h0 ⊢
    rw [if_neg (by omega), Nat.or_zero] at a9
    by_cases t0 : t = 0
    · rw [if_pos t0]
      refine ⟨by show 1 ≤ 5; omega, rdU_gU a2 (Or.inr rfl), Nat.or_lt_two_pow (n := 8) a3 (pow_lt8 (by omega)), fun _ => by show rdS b < 8; omega, fun z => absurd z (by show ¬ 3 ≤ 1; omega), fun _ => or_ne0 _ _, fun z => absurd z (or_ne0 _ _), fun z => absurd z (by show ¬ 1 = 0; omega), ?_, fun _ => ?_⟩
      · show t ||| 2 ^ rdS b = gtold (gU D 2 (rdS b)) ||| (if (1 : Nat) = 1 ∨ (1 : Nat) = 2 then 2 ^ rdS b else 0)
        rw [if_pos (Or.inl rfl), gtold_gU (Or.inr (Or.inl rfl)) hn, a9]
      · show gU D 2 (rdS b) 2 < 8
        rw [gU_eq]; omega
    · rw [if_neg t0]
      refine ⟨by show 1 ≤ 5; omega, a2, Nat.or_lt_two_pow (n := 8) a3 (pow_lt8 (by omega)), fun _ => by show rdS b < 8; omega, fun z => absurd z (by show ¬ 3 ≤ 1; omega), fun _ => or_ne0 _ _, fun z => absurd z (or_ne0 _ _), fun z => absurd z (by show ¬ 1 = 0; omega), ?_, fun _ => a10 t0⟩
      show t ||| 2 ^ rdS b = gtold D ||| (if (1 : Nat) = 1 ∨ (1 : Nat) = 2 then 2 ^ rdS b else 0)
      rw [if_pos (Or.inl rfl), a9]
  rw [if_neg w0] at h0 ⊢
  by_cases w1 : w = 1
  · rw [if_pos w1] at h0 ⊢
    by_cases c3 : b = 61
    · rw [if_pos c3]
      rw [if_pos (Or.inl w1)] at a9
      exact ⟨by show 2 ≤ 5; omega, a2, a3, fun _ => a4 w0, fun z => absurd z (by show ¬ 3 ≤ 2; omega), fun _ => a6 w0, a7, fun z => absurd z (by show ¬ 2 = 0; omega), by rw [a9]; rfl, a10⟩
    · rw [if_neg c3] at h0; cases h0
  rw [if_neg w1] at h0 ⊢
  by_cases w2 : w = 2
  · rw [if_pos w2] at h0 ⊢
    by_cases c3 : rdS b = 99
    · rw [if_pos c3] at h0; cases h0
    rw [if_neg c3] at h0 ⊢
    by_cases c4 : D 0 = 16
    · rw [if_pos c4] at h0; cases h0
    rw [if_neg c4]
    rw [if_pos (Or.inr w2)] at a9
    have hD : D 0 < 16 := by omega
    refine ⟨by show 3 ≤ 5; omega, rdU_RA a2 hD (a4 w0) (by omega), a3, fun _ => a4 w0, fun _ => ?_, fun _ => a6 w0, fun z => absurd z (a6 w0), fun z => absurd z (by show ¬ 3 = 0; omega), ?_, fun _ => ?_⟩
    · show 1 ≤ rdA (rdR D o) (rdS b) 0 ∧ gsy (rdA (rdR D o) (rdS b)) (rdA (rdR D o) (rdS b) 0 - 1) = o
      rw [rdA_0, rdR_0]
      refine ⟨by omega, ?_⟩
      rw [rdA_sy (by omega), rdR_sy hD (by omega), if_pos (by omega)]
    · show t = gtold (rdA (rdR D o) (rdS b)) ||| (if (3 : Nat) = 1 ∨ (3 : Nat) = 2 then 2 ^ o else 0)
      rw [if_neg (by omega), Nat.or_zero, gtold_A (by rw [rdR_0]; omega), gtold_R hD, a9]
    · show rdA (rdR D o) (rdS b) 2 < 8
      rw [rdA_2, rdR_2]; exact a10 (a6 w0)
  rw [if_neg w2] at h0 ⊢
  rw [if_neg (by omega), Nat.or_zero] at a9
  obtain ⟨p1, p2⟩ := a5 (by omega)
  by_cases w3 : w = 3
  · rw [if_pos w3] at h0 ⊢
    by_cases c3 : rdS b ≠ 99
    · rw [if_pos c3] at h0 ⊢
      by_cases c4 : gsz D (D 0 - 1) = 4
      · rw [if_pos c4] at h0; cases h0
      rw [if_neg c4]
      have hz := (a2.2 (D 0 - 1) (by omega)).2.2.1
      refine ⟨by show 3 ≤ 5; omega, rdU_A a2 p1 (by omega) (by omega), a3, fun _ => a4 w0, fun _ => ?_, fun _ => a6 w0, fun z => absurd z (a6 w0), fun z => absurd z (by show ¬ 3 = 0; omega), ?_, fun _ => ?_⟩
      · show 1 ≤ rdA D (rdS b) 0 ∧ gsy (rdA D (rdS b)) (rdA D (rdS b) 0 - 1) = o
        rw [rdA_0, rdA_sy (by omega)]; exact ⟨p1, p2⟩
      · show t = gtold (rdA D (rdS b)) ||| (if (3 : Nat) = 1 ∨ (3 : Nat) = 2 then 2 ^ o else 0)
        rw [if_neg (by omega), Nat.or_zero, gtold_A hn, a9]
      · show rdA D (rdS b) 2 < 8
        rw [rdA_2]; exact a10 (a6 w0)
    rw [if_neg c3] at h0 ⊢
    by_cases c5 : b = 58
    · rw [if_pos c5]
      exact ⟨by show 4 ≤ 5; omega, a2, a3, fun _ => a4 w0, fun _ => ⟨p1, p2⟩, fun _ => a6 w0, a7, fun z => absurd z (by show ¬ 4 = 0; omega), by show t = gtold D ||| 0; rw [Nat.or_zero]; exact a9, a10⟩
    rw [if_neg c5] at h0 ⊢
    by_cases c6 : b = 59
    · rw [if_pos c6]
      exact ⟨by show 0 ≤ 5; omega, a2, a3, fun z => absurd rfl z, fun z => absurd z (by show ¬ 3 ≤ 0; omega), fun z => absurd rfl z, a7, fun _ _ => p1, by show t = gtold D ||| 0; rw [Nat.or_zero]; exact a9, a10⟩
    rw [if_neg c6] at h0 ⊢
    by_cases c7 : b = 124
    · rw [if_pos c7]
      exact ⟨by show 2 ≤ 5; omega, a2, a3, fun _ => a4 w0, fun z => absurd z (by show ¬ 3 ≤ 2; omega), fun _ => a6 w0, a7, fun z => absurd z (by show ¬ 2 = 0; omega), by show t = gtold D ||| 2 ^ o; rw [← p2, gtold_sy p1]; exact a9, a10⟩
    · rw [if_neg c7] at h0; cases h0
  rw [if_neg w3] at h0 ⊢
  by_cases w4 : w = 4
  · rw [if_pos w4] at h0 ⊢
    by_cases c3 : 48 ≤ b ∧ b ≤ 57
    · rw [if_pos c3]
      refine ⟨by show 5 ≤ 5; omega, rdU_wt a2 (by omega) (by omega), a3, fun _ => a4 w0, fun _ => ?_, fun _ => a6 w0, fun z => absurd z (a6 w0), fun z => absurd z (by show ¬ 5 = 0; omega), ?_, fun _ => ?_⟩
      · show 1 ≤ gU D (35 + (D 0 - 1)) (b - 48) 0 ∧ gsy (gU D (35 + (D 0 - 1)) (b - 48)) (gU D (35 + (D 0 - 1)) (b - 48) 0 - 1) = o
        rw [gU_ne (by omega)]
        unfold gsy
        rw [gU_ne (by omega)]; exact ⟨p1, p2⟩
      · show t = gtold (gU D (35 + (D 0 - 1)) (b - 48)) ||| (if (5 : Nat) = 1 ∨ (5 : Nat) = 2 then 2 ^ o else 0)
        rw [if_neg (by omega), Nat.or_zero, gtold_gU (by omega) hn, a9]
      · show gU D (35 + (D 0 - 1)) (b - 48) 2 < 8
        rw [gU_ne (by omega)]; exact a10 (a6 w0)
    · rw [if_neg c3] at h0; cases h0
  rw [if_neg w4] at h0 ⊢
  by_cases c6 : b = 59
  · rw [if_pos c6]
    exact ⟨by show 0 ≤ 5; omega, a2, a3, fun z => absurd rfl z, fun z => absurd z (by show ¬ 3 ≤ 0; omega), fun z => absurd rfl z, a7, fun _ _ => p1, by show t = gtold D ||| 0; rw [Nat.or_zero]; exact a9, a10⟩
  rw [if_neg c6] at h0 ⊢
  by_cases c7 : b = 124
  · rw [if_pos c7]
    exact ⟨by show 2 ≤ 5; omega, a2, a3, fun _ => a4 w0, fun z => absurd z (by show ¬ 3 ≤ 2; omega), fun _ => a6 w0, a7, fun z => absurd z (by show ¬ 2 = 0; omega), by show t = gtold D ||| 2 ^ o; rw [← p2, gtold_sy p1]; exact a9, a10⟩
  · rw [if_neg c7] at h0; cases h0
end S63
