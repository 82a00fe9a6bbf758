/-! how the class reads a byte -/
def rdx (w o t : Nat) (D : Nat → Nat) (M : (Nat → Int → Int)) : Prop := M 9 3 = (w : Int) ∧ (w ≠ 0 → M 9 4 = (o : Int)) ∧ M 10 1 = (D 0 : Int) ∧ M 10 2 = ((2 ^ D 0 - 1 : Nat) : Int) ∧ M 10 3 = (t : Int) ∧ (t ≠ 0 → M 10 4 = (D 2 : Int)) ∧ ∀ r : Nat, r < D 0 → M 11 (r : Int) = (gsy D r : Int) ∧ M 12 (r : Int) = (gsz D r : Int) ∧ M 13 (r : Int) = (gwt D r : Int) ∧ ∀ i : Nat, i < gsz D r → M 14 ((4 * r + i : Nat) : Int) = (gsg D r i : Int)
def rdX (x : rd) (M : (Nat → Int → Int)) : Prop := rdx x.1 x.2.1 x.2.2.1 x.2.2.2 M
def rdF (M M' : (Nat → Int → Int)) : Prop := ∀ c, c < 9 ∨ 15 < c → M' c = M c
section S64
variable {x : rd} {M : (Nat → Int → Int)} {d : Nat} {Q : Int → (Nat → Int → Int) → Prop} {b : Nat}
theorem rdF_rf : rdF M M := fun _ _ => rfl
theorem rdF_up {M' : (Nat → Int → Int)} (h : rdF M M') {c : Nat} (hc : 9 ≤ c ∧ c ≤ 15) {i v : Int} : rdF M (am_up M' c i v) := fun k hk => by rw [up_nc _ _ _ _ (by omega)]; exact h k hk
theorem x_signOf (hb : b < 256) (hQ : Q (if rdS b = 99 then -1 else (rdS b : Int)) M) : am_s am_P am_gg (d + 1) 107 [.inl (b : Int)] M Q := by
  refine (v_107 _ _ _ _).mpr ?_
  unfold rdS at hQ
  by_cases c1 : 65 ≤ b ∧ b ≤ 72
  · rw [if_pos c1, if_neg (by omega)] at hQ
    rw [if_neg (by omega)]
    rw [if_neg (by omega)]
    rw [w32_i (by omega) (by omega), show (b : Int) - 65 = ((b - 65 : Nat) : Int) by omega]; exact hQ
  rw [if_neg c1] at hQ
  by_cases c2 : 97 ≤ b ∧ b ≤ 112
  · rw [if_pos c2, if_neg (by omega)] at hQ
    have e : w32 (w32 (16 + (b : Int)) - 97) = ((b - 81 : Nat) : Int) := by rw [w32_i (x := 16 + (b : Int)) (by omega) (by omega), w32_i (by omega) (by omega)]; omega
    rw [if_neg (by omega)]
    rw [if_pos (by omega)]
    rw [if_neg (by omega)]
    rw [if_neg (by omega)]
    rw [e]; exact hQ
  · rw [if_neg c2, if_pos rfl] at hQ
    refine @p_if _ _ _ _ ?_ ?_
    · intro g
      rw [if_pos (by omega)]
      exact hQ
    · intro g
      rw [if_pos (by omega)]
      refine @p_if _ _ _ _ ?_ ?_
      · intro g; exact hQ
      · intro g
        rw [if_pos (by omega)]
        exact hQ
theorem x_isDigit {a : Int} (h1 : 48 ≤ a ∧ a ≤ 57 → Q 1 M) (h0 : ¬ (48 ≤ a ∧ a ≤ 57) → Q 0 M) : am_s am_P am_gg (d + 1) 109 [.inl a] M Q := by
  refine (v_109 _ _ _ _).mpr ?_
  refine @p_if _ _ _ _ ?_ ?_
  · intro g; exact h0 (by omega)
  intro g
  refine @p_if _ _ _ _ ?_ ?_
  · intro g; exact h0 (by omega)
  · intro g; exact h1 (by omega)
theorem x_isMark (h1 : (48 ≤ b ∧ b ≤ 57) ∨ b = 61 ∨ b = 124 ∨ b = 59 ∨ b = 58 → Q 1 M) (h0 : ¬ ((48 ≤ b ∧ b ≤ 57) ∨ b = 61 ∨ b = 124 ∨ b = 59 ∨ b = 58) → Q 0 M) : am_s am_P am_gg (d + 2) 108 [.inl (b : Int)] M Q := by
  refine (v_108 _ _ _ _).mpr (x_isDigit ?_ ?_)
  · intro g
    rw [if_neg (by omega)]
    exact h1 (by omega)
  intro g
  rw [if_pos (by omega)]
  refine @p_if _ _ _ _ ?_ ?_
  · intro e; exact h1 (by omega)
  intro e
  refine @p_if _ _ _ _ ?_ ?_
  · intro e; exact h1 (by omega)
  intro e
  refine @p_if _ _ _ _ ?_ ?_
  · intro e; exact h1 (by omega)
  intro e
  refine @p_if _ _ _ _ ?_ ?_
  · intro e; exact h1 (by omega)
  · intro e; exact h0 (by omega)
/-- a sign behind those of the latest rule -/
theorem x_addSign {D : Nat → Nat} {g : Nat} (hU : D 0 ≤ 16) (h0 : 1 ≤ D 0) (hz4 : gsz D (D 0 - 1) ≤ 4) (h1 : M 10 1 = (D 0 : Int)) (hz : M 12 ((D 0 - 1 : Nat) : Int) = (gsz D (D 0 - 1) : Int)) (hA : gsz D (D 0 - 1) < 4 → Q 1 (am_up (am_up M 14 ((4 * (D 0 - 1) + gsz D (D 0 - 1) : Nat) : Int) (g : Int)) 12 ((D 0 - 1 : Nat) : Int) ((gsz D (D 0 - 1) + 1 : Nat) : Int))) (hB : gsz D (D 0 - 1) = 4 → Q 0 M) : am_s am_P am_gg (d + 1) 67 [.inr (.inr 11), .inl (g : Int)] M Q := by
  refine (v_67_11 _ _ _ _).mpr ?_
  rw [h1, show w32 ((D 0 : Int) - 1) = ((D 0 - 1 : Nat) : Int) by rw [w32_i (by omega) (by omega)]; omega, hz]
  rw [if_neg (by omega)]
  rw [if_pos (by omega)]
  refine @p_if _ _ _ _ ?_ ?_
  · intro c
    rw [show w32 (w32 (((D 0 - 1 : Nat) : Int) * 4) + (gsz D (D 0 - 1) : Int)) = ((4 * (D 0 - 1) + gsz D (D 0 - 1) : Nat) : Int) by rw [w32_i (x := ((D 0 - 1 : Nat) : Int) * 4) (by omega) (by omega), w32_i (by omega) (by omega)]; omega]
    rw [if_pos (by omega)]
    rw [if_pos (by omega)]
    rw [if_pos (by omega)]
    rw [if_pos (by omega)]
    rw [w32_s (by omega)]
    exact hA (by omega)
  · intro c; exact hB (by omega)
theorem rdX_A {w o t : Nat} {D : Nat → Nat} {g : Nat} (hn : D 0 ≤ 16) (hz4 : ∀ r, r < D 0 → gsz D r ≤ 4) (h0 : 1 ≤ D 0) (h4 : gsz D (D 0 - 1) < 4) (h : rdx w o t D M) : rdx w o t (rdA D g) (am_up (am_up M 14 ((4 * (D 0 - 1) + gsz D (D 0 - 1) : Nat) : Int) (g : Int)) 12 ((D 0 - 1 : Nat) : Int) ((gsz D (D 0 - 1) + 1 : Nat) : Int)) := by
  obtain ⟨a1, a2, a3, a4, a5, a6, a7⟩ := h
  unfold rdx
  rw [rdA_0, rdA_2]
  refine ⟨a1, a2, a3, a4, a5, a6, ?_⟩
  intro r hr
  obtain ⟨b1, b2, b3, b4⟩ := a7 r hr
  have u3 := hz4 r hr
  rw [rdA_sy (by omega), rdA_sz (by omega) hn h0, rdA_wt (by omega) hn h0]
  refine ⟨b1, ?_, b3, fun i hi => ?_⟩
  · rw [up_ci]
    by_cases e : r = D 0 - 1
    · rw [if_pos (by omega), if_pos e]
    · rw [if_neg (by omega), if_neg e, up_nc _ _ _ _ (by decide)]; exact b2
  · have hi4 : i < 4 := by split at hi <;> omega
    rw [up_nc _ _ _ _ (by decide), up_ci, rdA_sg (by omega) hi4 hn h0 h4]
    by_cases e : r = D 0 - 1 ∧ i = gsz D (D 0 - 1)
    · rw [if_pos (by omega), if_pos e]
    · rw [if_neg (by omega), if_neg e]
      refine b4 i ?_
      by_cases e1 : r = D 0 - 1
      · rw [if_pos e1] at hi; subst e1; omega
      · rw [if_neg e1] at hi; exact hi
/-- one more rule -/
theorem rdX_R {w o t : Nat} {D : Nat → Nat} (h0 : D 0 < 16) (h : rdx w o t D M) : rdx w o t (rdR D o) (am_up (am_up (am_up (am_up (am_up M 11 (D 0 : Int) (o : Int)) 12 (D 0 : Int) 0) 13 (D 0 : Int) 1) 10 2 ((2 ^ (D 0 + 1) - 1 : Nat) : Int)) 10 1 ((D 0 + 1 : Nat) : Int)) := by
  obtain ⟨a1, a2, a3, a4, a5, a6, a7⟩ := h
  unfold rdx
  rw [rdR_0, rdR_2]
  refine ⟨a1, a2, up_eq _ _ _ _, ?_, a5, a6, ?_⟩
  · rw [up_ni _ _ _ _ (by decide), up_eq]
  · intro r hr
    have h16 : r < 16 := by omega
    rw [rdR_sy h0 h16, rdR_sz h0 h16, rdR_wt h0 h16]
    by_cases e : r = D 0
    · subst e
      rw [if_pos rfl, if_pos rfl, if_pos rfl]
      refine ⟨?_, ?_, ?_, fun i hi => absurd hi (Nat.not_lt_zero i)⟩
      · rw [up_nc _ _ _ _ (by decide), up_nc _ _ _ _ (by decide), up_nc _ _ _ _ (by decide), up_nc _ _ _ _ (by decide), up_eq]
      · rw [up_nc _ _ _ _ (by decide), up_nc _ _ _ _ (by decide), up_nc _ _ _ _ (by decide), up_eq]; rfl
      · rw [up_nc _ _ _ _ (by decide), up_nc _ _ _ _ (by decide), up_eq]; rfl
    · obtain ⟨b1, b2, b3, b4⟩ := a7 r (show r < D 0 by omega)
      rw [if_neg e, if_neg e, if_neg e]
      refine ⟨?_, ?_, ?_, fun i hi => ?_⟩
      · rw [up_nc _ _ _ _ (by decide), up_nc _ _ _ _ (by decide), up_nc _ _ _ _ (by decide), up_nc _ _ _ _ (by decide), up_ni _ _ _ _ (by omega)]; exact b1
      · rw [up_nc _ _ _ _ (by decide), up_nc _ _ _ _ (by decide), up_nc _ _ _ _ (by decide), up_ni _ _ _ _ (by omega), up_nc _ _ _ _ (by decide)]; exact b2
      · rw [up_nc _ _ _ _ (by decide), up_nc _ _ _ _ (by decide), up_ni _ _ _ _ (by omega), up_nc _ _ _ _ (by decide), up_nc _ _ _ _ (by decide)]; exact b3
      · rw [rdR_sg h0]; exact b4 i hi
theorem pow_or {n : Nat} (h : n < 31) : (2 ^ n - 1) ||| 2 ^ n = 2 ^ (n + 1) - 1 := by
  apply Nat.eq_of_testBit_eq
  intro i
  rw [Nat.testBit_or, Nat.testBit_two_pow_sub_one, Nat.testBit_two_pow, Nat.testBit_two_pow_sub_one, Bool.eq_iff_iff, Bool.or_eq_true, decide_eq_true_iff, decide_eq_true_iff, decide_eq_true_iff]
  omega
set_option maxRecDepth 4000 in
theorem x_step (h : rdX x M) (hW : rdW x) (hb : b < 256) (hQ : ∀ M', ((rdT x b).1 = 0 → rdX (rdT x b).2 M') → rdF M M' → Q ((rdT x b).1 : Int) M') : am_s am_P am_gg (d + 4) 106 [.inr (.inr 10), .inl (b : Int)] M Q := by
  obtain ⟨w, o, t, D⟩ := x
  have hh : rdx w o t D M := h
  obtain ⟨a1, a2, a3, a4, a5, a6, a7⟩ := h
  obtain ⟨c1, c2, c3, c4, c5, c6, c7, c8, c9, c10⟩ := hW
  dsimp only at a1 a2 a3 a4 a5 a6 a7 c1 c2 c3 c4 c5 c6 c7 c8 c9 c10
  have hn := c2.1
  have hS := rdS_c b
  refine (v_106_10 _ _ _ _).mpr ?_
  unfold rdT at hQ
  dsimp only at hQ
  by_cases k1 : b = 10 ∨ b = 32
  · rw [if_pos k1] at hQ
    refine @p_if _ _ _ _ ?_ ?_
    · intro g; exact hQ M (fun _ => hh) rdF_rf
    intro g
    rw [if_pos (by omega)]
    exact hQ M (fun _ => hh) rdF_rf
  rw [if_neg k1] at hQ
  rw [if_neg (by omega)]
  rw [if_neg (by omega)]
  refine x_signOf hb ?_
  have main : ∀ r1 : Int, r1 = (if rdS b = 99 then -1 else (rdS b : Int)) → ¬ (rdS b = 99 ∧ ¬ ((48 ≤ b ∧ b ≤ 57) ∨ b = 61 ∨ b = 124 ∨ b = 59 ∨ b = 58)) → (if M 9 3 = 0 then am_s am_P am_gg (d + 3) 111 [.inr (.inr 10), .inl r1] M (fun r M' => Q r M') else (if M 9 3 = 1 then (if (b : Int) = 61 then am_s am_P am_gg (d + 3) 110 [.inr (.inr 10), .inl 2] M (fun r M' => Q r M') else Q 2 M) else (if M 9 3 = 2 then am_s am_P am_gg (d + 3) 112 [.inr (.inr 10), .inl r1] M (fun r M' => Q r M') else (if M 9 3 = 3 then (if r1 = (-1) then am_s am_P am_gg (d + 3) 114 [.inr (.inr 10), .inl (b : Int), .inl 1] M (fun r M' => Q r M') else am_s am_P am_gg (d + 3) 113 [.inr (.inr 10), .inl r1] M (fun r M' => Q r M')) else (if M 9 3 = 4 then am_s am_P am_gg (d + 3) 115 [.inr (.inr 10), .inl (b : Int)] M (fun r M' => Q r M') else am_s am_P am_gg (d + 3) 114 [.inr (.inr 10), .inl (b : Int), .inl 0] M (fun r M' => Q r M')))))) := by
    intro r1 e1 k2
    rw [if_neg k2] at hQ
    rw [a1]
    by_cases w0 : w = 0
    · rw [if_pos w0] at hQ
      rw [if_pos (by omega)]
      refine (v_111_10 _ _ _ _).mpr ?_
      by_cases q8 : 8 ≤ rdS b
      · rw [if_pos q8] at hQ
        have fin := hQ M (fun z => by cases z) rdF_rf
        by_cases q9 : rdS b = 99
        · rw [if_pos q9] at e1; rw [if_pos e1]; exact fin
        · rw [if_neg q9] at e1
          rw [if_neg (by omega)]
          rw [if_neg (by omega)]
          exact fin
      rw [if_neg q8] at hQ
      rw [if_neg (show rdS b ≠ 99 by omega)] at e1
      subst e1
      rw [if_neg (by omega)]
      rw [if_pos (by omega)]
      refine (v_61_11 _ _ _ _).mpr ?_
      have eb : i_and (i_shr (M 10 3) (rdS b : Int)) 1 = if t.testBit (rdS b) = true then 1 else 0 := by rw [a5, ← w32_nat (n := t) (by omega), b_bit (by omega) (by omega)]
      rw [eb]
      by_cases q4 : t.testBit (rdS b) = true
      · rw [if_pos q4] at hQ
        rw [if_pos q4, if_neg (by decide), if_neg (by decide)]
        exact hQ M (fun z => by cases z) rdF_rf
      rw [if_neg q4] at hQ
      rw [if_neg q4, if_pos rfl, if_pos rfl]
      have et : i_or (t : Int) (i_shl 1 (rdS b : Int)) = ((t ||| 2 ^ rdS b : Nat) : Int) := i_add_bit (by omega) (by omega)
      have tt : t = 0 ∨ t ≠ 0 := by omega
      cases tt with
      | inl t0 =>
        rw [if_pos t0] at hQ
        have z0 : M 10 3 = 0 := by rw [a5, t0]; rfl
        rw [if_pos z0]
        refine (v_64_11 _ _ _ _).mpr ((v_110_10 _ _ _ _).mpr ?_)
        have z1 : am_up (am_up M 10 0 (w32 (M 10 0 + 1))) 10 4 (rdS b : Int) 10 3 = (t : Int) := by rw [up_ni _ _ _ _ (by decide), up_ni _ _ _ _ (by decide)]; exact a5
        rw [z1, et]
        refine hQ _ (fun _ => ⟨up_eq _ _ _ _, fun _ => ?_, ?_, ?_, ?_, fun _ => ?_, ?_⟩) (rdF_up (rdF_up (rdF_up (rdF_up (rdF_up rdF_rf (by omega)) (by omega)) (by omega)) (by omega)) (by omega))
        · rw [up_ni _ _ _ _ (by decide), up_eq]
        · rw [up_nc _ _ _ _ (by decide), up_nc _ _ _ _ (by decide), up_ni _ _ _ _ (by decide), up_ni _ _ _ _ (by decide), up_ni _ _ _ _ (by decide)]
          show M 10 1 = ((gU D 2 (rdS b) 0 : Nat) : Int)
          rw [gU_ne (by omega)]; exact a3
        · rw [up_nc _ _ _ _ (by decide), up_nc _ _ _ _ (by decide), up_ni _ _ _ _ (by decide), up_ni _ _ _ _ (by decide), up_ni _ _ _ _ (by decide)]
          show M 10 2 = ((2 ^ gU D 2 (rdS b) 0 - 1 : Nat) : Int)
          rw [gU_ne (by omega)]; exact a4
        · rw [up_nc _ _ _ _ (by decide), up_nc _ _ _ _ (by decide), up_eq]
        · rw [up_nc _ _ _ _ (by decide), up_nc _ _ _ _ (by decide), up_ni _ _ _ _ (by decide), up_eq]
          show (rdS b : Int) = ((gU D 2 (rdS b) 2 : Nat) : Int)
          rw [gU_eq]
        · intro r hr
          have hr : r < gU D 2 (rdS b) 0 := hr
          rw [gU_ne (by omega), c7 t0] at hr; omega
      | inr t0 =>
        rw [if_neg t0] at hQ
        have z0 : ¬ M 10 3 = 0 := by rw [a5]; omega
        rw [if_neg z0]
        refine (v_110_10 _ _ _ _).mpr ?_
        rw [a5, et]
        refine hQ _ (fun _ => ⟨up_eq _ _ _ _, fun _ => ?_, ?_, ?_, ?_, fun _ => ?_, ?_⟩) (rdF_up (rdF_up (rdF_up rdF_rf (by omega)) (by omega)) (by omega))
        · rw [up_ni _ _ _ _ (by decide), up_eq]
        · rw [up_nc _ _ _ _ (by decide), up_nc _ _ _ _ (by decide), up_ni _ _ _ _ (by decide)]; exact a3
        · rw [up_nc _ _ _ _ (by decide), up_nc _ _ _ _ (by decide), up_ni _ _ _ _ (by decide)]; exact a4
        · rw [up_nc _ _ _ _ (by decide), up_nc _ _ _ _ (by decide), up_eq]
        · rw [up_nc _ _ _ _ (by decide), up_nc _ _ _ _ (by decide), up_ni _ _ _ _ (by decide)]; exact a6 t0
        · exact a7
    rw [if_neg w0] at hQ
    rw [if_neg (by omega)]
    by_cases w1 : w = 1
    · rw [if_pos w1] at hQ
      rw [if_pos (by omega)]
      by_cases q : b = 61
      · rw [if_pos q] at hQ
        rw [if_pos (by omega)]
        refine (v_110_10 _ _ _ _).mpr ?_
        exact hQ _ (fun _ => ⟨rfl, fun _ => a2 w0, a3, a4, a5, a6, a7⟩) (rdF_up rdF_rf (by omega))
      · rw [if_neg q] at hQ
        rw [if_neg (by omega)]
        exact hQ M (fun z => by cases z) rdF_rf
    rw [if_neg w1] at hQ
    rw [if_neg (by omega)]
    by_cases w2 : w = 2
    · rw [if_pos w2] at hQ
      rw [if_pos (by omega)]
      refine (v_112_10 _ _ _ _).mpr ?_
      by_cases q9 : rdS b = 99
      · rw [if_pos q9] at e1 hQ
        rw [if_pos e1]; exact hQ M (fun z => by cases z) rdF_rf
      rw [if_neg q9] at e1 hQ
      rw [if_neg (by omega)]
      refine (v_66_11 _ _ _ _).mpr ?_
      rw [a3, a2 w0]
      by_cases q16 : D 0 = 16
      · rw [if_pos q16] at hQ
        rw [if_neg (by omega)]
        rw [if_pos (by omega)]
        exact hQ M (fun z => by cases z) rdF_rf
      rw [if_neg q16] at hQ
      rw [if_pos (by omega)]
      rw [if_pos (by omega)]
      rw [if_pos (by omega)]
      rw [if_pos (by omega)]
      rw [if_neg (by omega)]
      have hp : 2 ^ D 0 < 2147483648 := Nat.pow_lt_pow_right (m := D 0) (n := 31) (by decide) (by omega)
      rw [a4, i_add_bit (by omega) (by omega), pow_or (by omega), w32_s (by omega)]
      refine (v_113_10 _ _ _ _).mpr ?_
      subst e1
      have hR := rdX_R (by omega) hh
      refine x_addSign (D := rdR D o) (by rw [rdR_0]; omega) (by rw [rdR_0]; omega) ?_ ?_ ?_ (fun z => ?_) (fun z => ?_)
      · rw [rdR_0, rdR_sz (by omega) (by omega), if_pos (by omega)]; omega
      · rw [rdR_0]; rfl
      · have := (hR.2.2.2.2.2.2 (D 0) (by rw [rdR_0]; omega)).2.1
        rw [rdR_0, show D 0 + 1 - 1 = D 0 by omega]
        exact this
      · rw [if_neg (by omega)]
        refine hQ _ (fun _ => ?_) (rdF_up (rdF_up (rdF_up (rdF_up (rdF_up (rdF_up (rdF_up (rdF_up rdF_rf (by omega)) (by omega)) (by omega)) (by omega)) (by omega)) (by omega)) (by omega)) (by omega))
        obtain ⟨r1, r2, r3, r4, r5, r6, r7⟩ := hR
        refine rdX_A (w := 3) (o := o) (t := t) (D := rdR D o) (M := am_up _ 9 3 3) (by rw [rdR_0]; omega) ?_ (by rw [rdR_0]; omega) z ⟨rfl, fun _ => a2 w0, r3, r4, r5, r6, r7⟩
        intro r hr
        rw [rdR_0] at hr
        rw [rdR_sz (by omega) (by omega)]
        split
        · omega
        · exact (c2.2 r (by omega)).2.2.1
      · rw [rdR_0, rdR_sz (by omega) (by omega), if_pos (by omega)] at z; omega
    rw [if_neg w2] at hQ
    rw [if_neg (by omega)]
    obtain ⟨p1, p2⟩ := c5 (by omega)
    by_cases w3 : w = 3
    · rw [if_pos w3] at hQ
      rw [if_pos (by omega)]
      by_cases q9 : rdS b = 99
      · rw [if_pos q9] at e1
        rw [if_neg (show ¬ rdS b ≠ 99 by omega)] at hQ
        rw [if_pos e1]
        refine (v_114_10 _ _ _ _ _).mpr ?_
        by_cases q1 : b = 58
        · rw [if_pos q1] at hQ
          rw [if_pos (by omega)]
          rw [if_neg (by omega)]
          refine (v_110_10 _ _ _ _).mpr ?_
          exact hQ _ (fun _ => ⟨rfl, fun _ => a2 w0, a3, a4, a5, a6, a7⟩) (rdF_up rdF_rf (by omega))
        rw [if_neg q1] at hQ
        rw [if_neg (by omega)]
        by_cases q2 : b = 59
        · rw [if_pos q2] at hQ
          rw [if_pos (by omega)]
          refine (v_110_10 _ _ _ _).mpr ?_
          exact hQ _ (fun _ => ⟨rfl, fun z => absurd rfl z, a3, a4, a5, a6, a7⟩) (rdF_up rdF_rf (by omega))
        rw [if_neg q2] at hQ
        rw [if_neg (by omega)]
        by_cases q3 : b = 124
        · rw [if_pos q3] at hQ
          rw [if_pos (by omega)]
          refine (v_110_10 _ _ _ _).mpr ?_
          exact hQ _ (fun _ => ⟨rfl, fun _ => a2 w0, a3, a4, a5, a6, a7⟩) (rdF_up rdF_rf (by omega))
        · rw [if_neg q3] at hQ
          rw [if_neg (by omega)]
          exact hQ M (fun z => by cases z) rdF_rf
      · rw [if_neg q9] at e1
        rw [if_pos q9] at hQ
        rw [if_neg (by omega)]
        subst e1
        refine (v_113_10 _ _ _ _).mpr ?_
        obtain ⟨-, -, hz, -, -⟩ := c2.2 (D 0 - 1) (by omega)
        refine x_addSign (D := D) hn p1 hz a3 (a7 (D 0 - 1) (by omega)).2.1 (fun z => ?_) (fun z => ?_)
        · rw [if_neg (by omega)] at hQ
          rw [if_neg (by omega)]
          refine hQ _ (fun _ => ?_) (rdF_up (rdF_up rdF_rf (by omega)) (by omega))
          have hx3 : rdx 3 o t D M := by rw [← w3]; exact hh
          exact rdX_A hn (fun r hr => (c2.2 r hr).2.2.1) p1 z hx3
        · rw [if_pos z] at hQ
          rw [if_pos (by omega)]
          exact hQ M (fun z => by cases z) rdF_rf
    rw [if_neg w3] at hQ
    rw [if_neg (by omega)]
    by_cases w4 : w = 4
    · rw [if_pos w4] at hQ
      rw [if_pos (by omega)]
      refine (v_115_10 _ _ _ _).mpr (x_isDigit ?_ ?_)
      · intro g
        rw [if_pos (show 48 ≤ b ∧ b ≤ 57 by omega)] at hQ
        rw [if_neg (by omega)]
        rw [a3]
        rw [if_neg (by omega)]
        rw [show w32 ((D 0 : Int) - 1) = ((D 0 - 1 : Nat) : Int) by rw [w32_i (by omega) (by omega)]; omega, show w32 ((b : Int) - 48) = ((b - 48 : Nat) : Int) by rw [w32_i (by omega) (by omega)]; omega]
        refine (v_63_11 _ _ _ _ _).mpr ?_
        rw [if_pos (by omega)]
        refine (v_110_10 _ _ _ _).mpr ?_
        refine hQ _ (fun _ => ⟨rfl, fun _ => a2 w0, ?_, ?_, a5, fun z => ?_, ?_⟩) (rdF_up (rdF_up (rdF_up rdF_rf (by omega)) (by omega)) (by omega))
        · show M 10 1 = ((gU D (35 + (D 0 - 1)) (b - 48) 0 : Nat) : Int)
          rw [gU_ne (by omega)]; exact a3
        · show M 10 2 = ((2 ^ gU D (35 + (D 0 - 1)) (b - 48) 0 - 1 : Nat) : Int)
          rw [gU_ne (by omega)]; exact a4
        · show M 10 4 = ((gU D (35 + (D 0 - 1)) (b - 48) 2 : Nat) : Int)
          rw [gU_ne (by omega)]; exact a6 z
        · intro r hr
          have hr : r < D 0 := by
            have : r < gU D (35 + (D 0 - 1)) (b - 48) 0 := hr
            rwa [gU_ne (by omega)] at this
          obtain ⟨b1, b2, b3, b4⟩ := a7 r hr
          refine ⟨?_, ?_, ?_, fun i hi => ?_⟩
          · show M 11 (r : Int) = ((gU D (35 + (D 0 - 1)) (b - 48) (3 + r) : Nat) : Int)
            rw [gU_ne (by omega)]; exact b1
          · show M 12 (r : Int) = ((gU D (35 + (D 0 - 1)) (b - 48) (19 + r) : Nat) : Int)
            rw [gU_ne (by omega)]; exact b2
          · show _ = ((gU D (35 + (D 0 - 1)) (b - 48) (35 + r) : Nat) : Int)
            rw [up_nc _ _ _ _ (by decide), up_ci]
            by_cases e : r = D 0 - 1
            · rw [if_pos (by omega), e, gU_eq]
            · rw [if_neg (by omega), gU_ne (by omega)]; exact b3
          · show M 14 ((4 * r + i : Nat) : Int) = ((gU D (35 + (D 0 - 1)) (b - 48) (51 + 4 * r + i) : Nat) : Int)
            have hi : i < gU D (35 + (D 0 - 1)) (b - 48) (19 + r) := hi
            rw [gU_ne (by omega)] at hi ⊢
            exact b4 i hi
      · intro g
        rw [if_neg (show ¬ (48 ≤ b ∧ b ≤ 57) by omega)] at hQ
        rw [if_pos (by omega)]
        exact hQ M (fun z => by cases z) rdF_rf
    rw [if_neg w4] at hQ
    rw [if_neg (by omega)]
    refine (v_114_10 _ _ _ _ _).mpr ?_
    by_cases q1 : b = 58
    · rw [if_neg (by omega), if_neg (by omega)] at hQ
      rw [if_pos (by omega)]
      rw [if_pos (by omega)]
      exact hQ M (fun z => by cases z) rdF_rf
    rw [if_neg (by omega)]
    by_cases q2 : b = 59
    · rw [if_pos q2] at hQ
      rw [if_pos (by omega)]
      refine (v_110_10 _ _ _ _).mpr ?_
      exact hQ _ (fun _ => ⟨rfl, fun z => absurd rfl z, a3, a4, a5, a6, a7⟩) (rdF_up rdF_rf (by omega))
    rw [if_neg q2] at hQ
    rw [if_neg (by omega)]
    by_cases q3 : b = 124
    · rw [if_pos q3] at hQ
      rw [if_pos (by omega)]
      refine (v_110_10 _ _ _ _).mpr ?_
      exact hQ _ (fun _ => ⟨rfl, fun _ => a2 w0, a3, a4, a5, a6, a7⟩) (rdF_up rdF_rf (by omega))
    · rw [if_neg q3] at hQ
      rw [if_neg (by omega)]
      exact hQ M (fun z => by cases z) rdF_rf
  by_cases q9 : rdS b = 99
  · rw [if_pos q9, if_pos rfl]
    refine x_isMark (fun g => ?_) (fun g => ?_)
    · rw [if_neg (by decide)]
      exact main (-1) (by rw [if_pos q9]) (fun z => z.2 g)
    · rw [if_pos (⟨q9, g⟩ : rdS b = 99 ∧ ¬ _)] at hQ
      rw [if_pos rfl]
      exact hQ M (fun z => by cases z) rdF_rf
  · rw [if_neg q9]
    rw [if_neg (by omega)]
    exact main _ (by rw [if_neg q9]) (fun z => q9 z.1)
end S64
