/-! how the reference reads a byte: all of it -/
section Se0
variable {M : (Nat → Int → Int)} {d : Nat} {Q : Int → (Nat → Int → Int) → Prop} {b : Nat} {D : Nat → Nat} {w o t : Nat}
theorem m_t0 (h : rdr w o t D M) (ht : t < 256) (hb : b < 128) (h2 : 8 ≤ rdS b → Q 2 M) (h3 : ¬ 8 ≤ rdS b → t.testBit (rdS b) = true → Q 3 M) (h0 : ¬ 8 ≤ rdS b → ¬ t.testBit (rdS b) = true → ∀ M', rdr 1 (rdS b) (t ||| 2 ^ rdS b) (if t = 0 then gU D 2 (rdS b) else D) M' → rrF M M' → Q 0 M') : am_s am_P am_gg (d + 4) 245 [.inr (.inr 174), .inl (b : Int)] M Q := by
  obtain ⟨a1, a2, a3, a4⟩ := h
  refine (v_245_174 _ _ _ _).mpr (m_cap ?_ ?_)
  · intro q
    have q8 : rdS b < 8 := rdS_lt8.mpr (by omega)
    have es : rdS b = b - 65 := by unfold rdS; rw [if_pos (by omega)]
    rw [if_neg (by omega)]
    rw [show w32 ((b : Int) - 65) = (rdS b : Int) by rw [w32_i (by omega) (by omega), es]; omega, a3]
    refine m_bitn (by omega) (by omega) ?_ ?_
    · intro q4
      rw [if_neg (by omega)]
      exact h3 (by omega) q4
    · intro q4
      have h0 := h0 (by omega) (by rw [q4]; decide)
      rw [if_pos (by omega)]
      rw [a3]
      have et : i_or (t : Int) (i_shl 1 (rdS b : Int)) = ((t ||| 2 ^ rdS b : Nat) : Int) := i_add_bit (by omega) (by omega)
      rw [et]
      rcases Classical.em (t = 0) with t0 | t0
      · rw [if_pos t0] at h0
        rw [if_pos (by omega)]
        refine h0 _ ⟨up_eq _ _ _ _, fun _ => ?_, ?_, ?_⟩ (rrF_3 (rrF_3 (rrF_4 (rrF_3 rrF_rf (by omega)) (by omega)) (by omega)) (by omega))
        · rw [up_ni _ _ _ _ (by decide), up_ni _ _ _ _ (by decide), up_nc _ _ _ _ (by decide), up_eq]
        · rw [up_ni _ _ _ _ (by decide), up_eq]
        · rw [up_nc _ _ _ _ (by decide), up_nc _ _ _ _ (by decide)]
          exact rb_up (k := 2) (v := rdS b) (by rw [up_nc _ _ _ _ (by decide)]; exact a4) (by omega) rfl rfl
      · rw [if_neg t0] at h0
        rw [if_neg (by omega)]
        refine h0 _ ⟨up_eq _ _ _ _, fun _ => ?_, ?_, ?_⟩ (rrF_3 (rrF_3 (rrF_3 rrF_rf (by omega)) (by omega)) (by omega))
        · rw [up_ni _ _ _ _ (by decide), up_ni _ _ _ _ (by decide), up_eq]
        · rw [up_ni _ _ _ _ (by decide), up_eq]
        · rw [up_nc _ _ _ _ (by decide), up_nc _ _ _ _ (by decide), up_nc _ _ _ _ (by decide)]; exact a4
  · intro q
    rw [if_pos (by omega)]
    exact h2 (by have := mt rdS_lt8.mp (show ¬ (65 ≤ b ∧ b ≤ 72) by omega); omega)
theorem m_t4 (h : rdr w o t D M) (hn : D 0 ≤ 16) (p1 : 1 ≤ D 0) (w0 : w ≠ 0) (hb : b < 128) (h2 : ¬ (48 ≤ b ∧ b ≤ 57) → Q 2 M) (h0 : 48 ≤ b ∧ b ≤ 57 → ∀ M', rdr 5 o t (gU D (35 + (D 0 - 1)) (b - 48)) M' → rrF M M' → Q 0 M') : am_s am_P am_gg (d + 4) 249 [.inr (.inr 174), .inl (b : Int)] M Q := by
  obtain ⟨a1, a2, a3, a4⟩ := h
  have e0 : M 174 1035 = (D 0 : Int) := a4.off (k := 0) (by omega) rfl
  refine (v_249_174 _ _ _ _).mpr (m_isIn ?_ ?_)
  · intro q
    rw [if_neg (by omega)]
    rw [e0, show w32 (w32 (1070 + (D 0 : Int)) - 1) = ((1035 + (35 + (D 0 - 1)) : Nat) : Int) by rw [w32_i (x := 1070 + (D 0 : Int)) (by omega) (by omega), w32_i (by omega) (by omega)]; omega]
    rw [if_pos (by omega)]
    refine h0 (by omega) _ ⟨up_eq _ _ _ _, fun _ => ?_, ?_, ?_⟩ (rrF_3 (rrF_4 rrF_rf (by omega)) (by omega))
    · rw [up_ni _ _ _ _ (by decide), up_nc _ _ _ _ (by decide)]; exact a2 w0
    · rw [up_ni _ _ _ _ (by decide), up_nc _ _ _ _ (by decide)]; exact a3
    · rw [up_nc _ _ _ _ (by decide)]
      exact rb_up a4 (by omega) rfl (by rw [w32_i (by omega) (by omega)]; omega)
  · intro q
    rw [if_pos (by omega)]
    exact h2 (by omega)
end Se0
