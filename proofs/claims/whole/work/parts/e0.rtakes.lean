/-! how the reference reads a byte: all of it -/
section Se0
variable {M : (Nat → Int → Int)} {d : Nat} {Q : Int → (Nat → Int → Int) → Prop} {b : Nat} {D : Nat → Nat} {w o t : Nat}
theorem m_t0 (h : rdr w o t D M) (ht : t < 256) (hb : b < 128) (h2 : 8 ≤ rdS b → Q 2 M) (h3 : ¬ 8 ≤ rdS b → t.testBit (rdS b) = true → Q 3 M) (h0 : ¬ 8 ≤ rdS b → ¬ t.testBit (rdS b) = true → ∀ M', rdr 1 (rdS b) (t ||| 2 ^ rdS b) (if t = 0 then gU D 2 (rdS b) else D) M' → rrF M M' → Q 0 M') : am_s am_P am_gg (d + 4) 245 [.inr (.inr 174), .inl (b : Int)] M Q := by
  obtain ⟨a1, a2, a3, a4⟩ := h
  refine (v_245_174 _ _ _ _).mpr (m_cap ?_ ?_)
  · intro q
    have q8 : rdS b < 8 := rdS_lt8.mpr (by omega)
    have es : rdS b = b - 65 := by unfold rdS; rw [if_pos (by omega)]
    rw [if_neg (by omega)]
    rw [show w32 ((b : Int) - 65) = (rdS b : Int) by rw [w32_i (by omega) (by omega), es]; omega, a3]
    refine m_bitn (by omega) (by omega) ?_ ?_
    · intro q4
      rw [if_neg (by omega)]
      exact h3 (by omega) q4
    · intro q4
      have h0 := h0 (by omega) (by rw [q4]; decide)
      rw [if_pos (by omega)]
      rw [a3]
      have et : i_or (t : Int) (i_shl 1 (rdS b : Int)) = ((t ||| 2 ^ rdS b : Nat) : Int) := i_add_bit (by omega) (by omega)
      rw [et]
      rcases Classical.em (t = 0) with t0 | t0
      · rw [if_pos t0] at h0
        rw [if_pos (by omega)]
        refine h0 _ ⟨up_eq _ _ _ _, fun _ => ?_, ?_, ?_⟩ (rrF_3 (rrF_3 (rrF_4 (rrF_3 rrF_rf (by omega)) (by omega)) (by omega)) (by omega))
        · rw [up_ni _ _ _ _ (by decide), up_ni _ _ _ _ (by decide), up_nc _ _ _ _ (by decide), up_eq]
        · rw [up_ni _ _ _ _ (by decide), up_eq]
        · rw [up_nc _ _ _ _ (by decide), up_nc _ _ _ _ (by decide)]
          exact rb_up (k := 2) (v := rdS b) (by rw [up_nc _ _ _ _ (by decide)]; exact a4) (by omega) rfl rfl
      · rw [if_neg t0] at h0
        rw [if_neg (by omega)]
        refine h0 _ ⟨up_eq _ _ _ _, fun _ => ?_, ?_, ?_⟩ (rrF_3 (rrF_3 (rrF_3 rrF_rf (by omega)) (by omega)) (by omega))
        · rw [up_ni _ _ _ _ (by decide), up_ni _ _ _ _ (by decide), up_eq]
        · rw [up_ni _ _ _ _ (by decide), up_eq]
        · rw [up_nc _ _ _ _ (by decide), up_nc _ _ _ _ (by decide), up_nc _ _ _ _ (by decide)]; exact a4
  · intro q
    rw [if_pos (by omega)]
    exact h2 (by have := mt rdS_lt8.mp (show ¬ (65 ≤ b ∧ b ≤ 72) by omega); omega)
theorem m_t4 (h : rdr w o t D M) (hn : D 0 ≤ 16) (p1 : 1 ≤ D 0) (w0 : w ≠ 0) (hb : b < 128) (h2 : ¬ (48 ≤ b ∧ b ≤ 57) → Q 2 M) (h0 : 48 ≤ b ∧ b ≤ 57 → ∀ M', rdr 5 o t (gU D (35 + (D 0 - 1)) (b - 48)) M' → rrF M M' → Q 0 M') : am_s am_P am_gg (d + 4) 249 [.inr (.inr 174), .inl (b : Int)] M Q := by
  obtain ⟨a1, a2, a3, a4⟩ := h
  have e0 : M 174 1035 = (D 0 : Int) := a4.off (k := 0) (by omega) rfl
  refine (v_249_174 _ _ _ _).mpr (m_isIn ?_ ?_)
  · intro q
    rw [if_neg (by omega)]
    rw [e0, show w32 (w32 (1070 + (D 0 : Int)) - 1) = ((1035 + (35 + (D 0 - 1)) : Nat) : Int) by rw [w32_i (x := 1070 + (D 0 : Int)) (by omega) (by omega), w32_i (by omega) (by omega)]; omega]
    rw [if_pos (by omega)]
    refine h0 (by omega) _ ⟨up_eq _ _ _ _, fun _ => ?_, ?_, ?_⟩ (rrF_3 (rrF_4 rrF_rf (by omega)) (by omega))
    · rw [up_ni _ _ _ _ (by decide), up_nc _ _ _ _ (by decide)]; exact a2 w0
    · rw [up_ni _ _ _ _ (by decide), up_nc _ _ _ _ (by decide)]; exact a3
    · rw [up_nc _ _ _ _ (by decide)]
      exact rb_up a4 (by omega) rfl (by rw [w32_i (by omega) (by omega)]; omega)
  · intro q
    rw [if_pos (by omega)]
    exact h2 (by omega)
theorem rdS_no (h : ¬ (65 ≤ b ∧ b ≤ 72)) (h' : ¬ (97 ≤ b ∧ b ≤ 112)) : rdS b = 99 := by
  unfold rdS; rw [if_neg h, if_neg h']
theorem m_newRule (h : rdr w o t D M) (hn : D 0 ≤ 16) (w0 : w ≠ 0) (hb : b < 128) (q9 : rdS b ≠ 99) (h5 : D 0 = 16 → Q 5 M) (h0 : D 0 ≠ 16 → ∀ M', rdr 3 o t (rdA (rdR D o) (rdS b)) M' → rrF M M' → Q 0 M') : (if M 174 1035 = 16 then Q 5 M else (if 0 ≤ w32 (1038 + (M 174 1035)) ∧ w32 (1038 + (M 174 1035)) < 1150 then (if 0 ≤ w32 (1054 + (M 174 1035)) ∧ w32 (1054 + (M 174 1035)) < 1150 then (if 0 ≤ w32 (1070 + (M 174 1035)) ∧ w32 (1070 + (M 174 1035)) < 1150 then am_s am_P am_gg (d + 3) 244 [.inr (.inr 174), .inl (b : Int)] (am_up (am_up (am_up (am_up M 174 (w32 (1038 + (M 174 1035))) (M 173 9)) 174 (w32 (1054 + (M 174 1035))) 0) 174 (w32 (1070 + (M 174 1035))) 1) 174 1035 (w32 (((am_up (am_up (am_up M 174 (w32 (1038 + (M 174 1035))) (M 173 9)) 174 (w32 (1054 + (M 174 1035))) 0) 174 (w32 (1070 + (M 174 1035))) 1) 174 1035) + 1))) (fun r3 M3 => Q 0 (am_up M3 173 8 3)) else False) else False) else False)) := by
  obtain ⟨a1, a2, a3, a4⟩ := h
  have e0 : M 174 1035 = (D 0 : Int) := a4.off (k := 0) (by omega) rfl
  rw [e0]
  by_cases q16 : D 0 = 16
  · rw [if_pos (by omega)]
    exact h5 q16
  rw [if_neg (by omega)]
  have x1 : w32 (1038 + (D 0 : Int)) = ((1035 + (3 + D 0) : Nat) : Int) := by rw [w32_i (by omega) (by omega)]; omega
  have x2 : w32 (1054 + (D 0 : Int)) = ((1035 + (19 + D 0) : Nat) : Int) := by rw [w32_i (by omega) (by omega)]; omega
  have x3 : w32 (1070 + (D 0 : Int)) = ((1035 + (35 + D 0) : Nat) : Int) := by rw [w32_i (by omega) (by omega)]; omega
  rw [x1, x2, x3, if_pos (by omega), if_pos (by omega), if_pos (by omega)]
  rw [up_ni _ _ _ _ (by omega), up_ni _ _ _ _ (by omega), up_ni _ _ _ _ (by omega), e0, w32_s (by omega)]
  have hR : rb (am_up (am_up (am_up (am_up M 174 ((1035 + (3 + D 0) : Nat) : Int) (M 173 9)) 174 ((1035 + (19 + D 0) : Nat) : Int) 0) 174 ((1035 + (35 + D 0) : Nat) : Int) 1) 174 1035 ((D 0 + 1 : Nat) : Int) 174) 1035 (rdR D o) :=
    rb_up (k := 0) (rb_up (rb_up (rb_up a4 (by omega) rfl (a2 w0)) (by omega) rfl rfl) (by omega) rfl rfl) (by omega) rfl rfl
  refine m_addsSign (by omega) q9 (by rw [rdR_0]; omega) (by rw [rdR_0]; omega) (by rw [rdR_0, rdR_sz (by omega) (by omega), if_pos (by omega)]; omega) hR (fun M' b1 b2 b3 => ?_)
  refine h0 q16 _ ⟨up_eq _ _ _ _, fun _ => ?_, ?_, ?_⟩ (rrF_3 ⟨fun c g1 g2 => ?_, fun i g => ?_, fun j g => ?_⟩ (by omega))
  · rw [up_ni _ _ _ _ (by decide), b2 173 (by decide), up_nc _ _ _ _ (by decide), up_nc _ _ _ _ (by decide), up_nc _ _ _ _ (by decide), up_nc _ _ _ _ (by decide)]; exact a2 w0
  · rw [up_ni _ _ _ _ (by decide), b2 173 (by decide), up_nc _ _ _ _ (by decide), up_nc _ _ _ _ (by decide), up_nc _ _ _ _ (by decide), up_nc _ _ _ _ (by decide)]; exact a3
  · rw [up_nc _ _ _ _ (by decide)]; exact b1
  · rw [b2 c g2, up_nc _ _ _ _ g2, up_nc _ _ _ _ g2, up_nc _ _ _ _ g2, up_nc _ _ _ _ g2]
  · rw [b2 173 (by decide), up_nc _ _ _ _ (by decide), up_nc _ _ _ _ (by decide), up_nc _ _ _ _ (by decide), up_nc _ _ _ _ (by decide)]
  · rw [b3 j g, up_ni _ _ _ _ (by omega), up_ni _ _ _ _ (by omega), up_ni _ _ _ _ (by omega), up_ni _ _ _ _ (by omega)]
theorem m_t2 (h : rdr w o t D M) (hn : D 0 ≤ 16) (w0 : w ≠ 0) (hb : b < 128) (h2 : rdS b = 99 → Q 2 M) (h5 : rdS b ≠ 99 → D 0 = 16 → Q 5 M) (h0 : rdS b ≠ 99 → D 0 ≠ 16 → ∀ M', rdr 3 o t (rdA (rdR D o) (rdS b)) M' → rrF M M' → Q 0 M') : am_s am_P am_gg (d + 4) 246 [.inr (.inr 174), .inl (b : Int)] M Q := by
  refine (v_246_174 _ _ _ _).mpr (m_cap ?_ ?_)
  · intro q
    have q9 : rdS b ≠ 99 := rdS_99.mpr (by omega)
    rw [if_neg (by decide)]
    exact m_newRule h hn w0 hb q9 (h5 q9) (h0 q9)
  · intro q
    rw [if_pos rfl]
    refine m_small ?_ ?_
    · intro q2
      have q9 : rdS b ≠ 99 := rdS_99.mpr (by omega)
      rw [if_neg (by decide)]
      exact m_newRule h hn w0 hb q9 (h5 q9) (h0 q9)
    · intro q2
      rw [if_pos rfl]
      exact h2 (rdS_no (by omega) (by omega))
theorem m_moreSign (h : rdr w o t D M) (hn : D 0 ≤ 16) (p1 : 1 ≤ D 0) (hz : gsz D (D 0 - 1) ≤ 4) (w0 : w ≠ 0) (hb : b < 128) (q9 : rdS b ≠ 99) (h4 : gsz D (D 0 - 1) = 4 → Q 4 M) (h0 : gsz D (D 0 - 1) ≠ 4 → ∀ M', rdr w o t (rdA D (rdS b)) M' → rrF M M' → Q 0 M') : (if 0 ≤ w32 ((w32 (1054 + (M 174 1035))) - 1) ∧ w32 ((w32 (1054 + (M 174 1035))) - 1) < 1150 then (if M 174 (w32 ((w32 (1054 + (M 174 1035))) - 1)) = 4 then Q 4 M else am_s am_P am_gg (d + 3) 244 [.inr (.inr 174), .inl (b : Int)] M (fun r4 M4 => Q 0 M4)) else False) := by
  obtain ⟨a1, a2, a3, a4⟩ := h
  have e0 : M 174 1035 = (D 0 : Int) := a4.off (k := 0) (by omega) rfl
  rw [e0, show w32 (w32 (1054 + (D 0 : Int)) - 1) = ((1035 + (19 + (D 0 - 1)) : Nat) : Int) by rw [w32_i (x := 1054 + (D 0 : Int)) (by omega) (by omega), w32_i (by omega) (by omega)]; omega]
  rw [if_pos (by omega), a4 (19 + (D 0 - 1)) (by omega)]
  by_cases q4 : gsz D (D 0 - 1) = 4
  · rw [if_pos (show ((D (19 + (D 0 - 1)) : Nat) : Int) = 4 by unfold gsz at q4; omega)]
    exact h4 q4
  · rw [if_neg (show ¬ ((D (19 + (D 0 - 1)) : Nat) : Int) = 4 by unfold gsz at q4; omega)]
    refine m_addsSign (by omega) q9 hn p1 (by omega) a4 (fun M' b1 b2 b3 => ?_)
    refine h0 q4 _ ⟨?_, fun _ => ?_, ?_, b1⟩ ⟨fun c g1 g2 => b2 c g2, fun i _ => by rw [b2 173 (by decide)], b3⟩
    · rw [b2 173 (by decide), a1]
    · rw [b2 173 (by decide)]; exact a2 w0
    · rw [b2 173 (by decide)]; exact a3
theorem m_t3 (h : rdr w o t D M) (hn : D 0 ≤ 16) (p1 : 1 ≤ D 0) (hz : gsz D (D 0 - 1) ≤ 4) (w0 : w ≠ 0) (hb : b < 128) (h4 : rdS b ≠ 99 → gsz D (D 0 - 1) = 4 → Q 4 M) (h0 : rdS b ≠ 99 → gsz D (D 0 - 1) ≠ 4 → ∀ M', rdr w o t (rdA D (rdS b)) M' → rrF M M' → Q 0 M') (h58 : rdS b = 99 → b = 58 → ∀ M', rdr 4 o t D M' → rrF M M' → Q 0 M') (hr : rdS b = 99 → b ≠ 58 → am_s am_P am_gg (d + 3) 247 [.inr (.inr 174), .inl (b : Int)] M Q) : am_s am_P am_gg (d + 4) 248 [.inr (.inr 174), .inl (b : Int)] M Q := by
  refine (v_248_174 _ _ _ _).mpr (m_cap ?_ ?_)
  · intro q
    have q9 : rdS b ≠ 99 := rdS_99.mpr (by omega)
    rw [if_neg (by decide)]
    exact m_moreSign h hn p1 hz w0 hb q9 (h4 q9) (h0 q9)
  · intro q
    rw [if_pos rfl]
    refine m_small ?_ ?_
    · intro q2
      have q9 : rdS b ≠ 99 := rdS_99.mpr (by omega)
      rw [if_neg (by decide)]
      exact m_moreSign h hn p1 hz w0 hb q9 (h4 q9) (h0 q9)
    · intro q2
      have q9 : rdS b = 99 := rdS_no (by omega) (by omega)
      rw [if_pos rfl]
      by_cases q58 : b = 58
      · rw [if_pos (by omega)]
        obtain ⟨a1, a2, a3, a4⟩ := h
        exact h58 q9 q58 _ ⟨up_eq _ _ _ _, fun _ => by rw [up_ni _ _ _ _ (by decide)]; exact a2 w0, by rw [up_ni _ _ _ _ (by decide)]; exact a3, by rw [up_nc _ _ _ _ (by decide)]; exact a4⟩ (rrF_3 rrF_rf (by omega))
      · rw [if_neg (by omega)]
        exact hr q9 q58
end Se0
