/-! the reference: BOUND -/
section S9j
variable {B : Nat → Nat} {M M0 : (Nat → Int → Int)} {d : Nat} {Q : Int → (Nat → Int → Int) → Prop}
theorem m_has' {P : Nat → Prop} {k c : Nat} (hb : bR M k P) (hk : k < 1024) (hc : c < 1024) (h1 : P c → Q 1 M) (h0 : ¬ P c → Q 0 M) : am_s am_P am_gg (d + 1) 278 [.inr (.inr 174), .inl (k : Int), .inl (c : Int)] M Q := by
  obtain ⟨n, b1, b2, b3⟩ := hb (c / 32) (by omega)
  have e := b3 (c % 32) (by omega)
  rw [show 32 * (c / 32) + c % 32 = c by omega] at e
  have eb : i_and (i_ushr (w32 (n : Int)) ((c % 32 : Nat) : Int)) 1 = if n.testBit (c % 32) then 1 else 0 := by
    have lt : n / 2 ^ (c % 32) < 4294967296 := Nat.lt_of_le_of_lt (Nat.div_le_self _ _) b1
    rw [i_ushr_w b1 (by omega), show (1 : Int) = w32 ((1 : Nat) : Int) from by decide, b_and lt (by decide), Nat.and_one_is_mod, Nat.testBit_eq_decide_div_mod_eq]
    by_cases q : n / 2 ^ (c % 32) % 2 = 1
    · simp [q]
    · have q2 : n / 2 ^ (c % 32) % 2 = 0 := by omega
      simp [q2]; decide
  refine (v_278_174 _ _ _ _ _).mpr ?_
  rw [show Int.tdiv (c : Int) 32 = ((c / 32 : Nat) : Int) from rfl, show Int.tmod (c : Int) 32 = ((c % 32 : Nat) : Int) from rfl, w32_i (x := ((c / 32 : Nat) : Int)) (by omega) (by omega), w32_i (x := ((c % 32 : Nat) : Int)) (by omega) (by omega), w32_row (by omega) (by omega), b2]
  rw [if_pos (by omega)]
  rw [eb]
  by_cases q : n.testBit (c % 32) = true
  · rw [if_pos q, if_pos rfl]; exact h1 (e.mp q)
  · rw [if_neg q, if_neg (by decide)]; exact h0 (fun y => q (e.mpr y))
theorem m_isMet {L : Nat → Prop} (hH : ∀ k, k < gN B → bR M k (gH B k)) (h34 : M 173 34 = (gN B : Int)) (hL : lR L M) {c : Nat} (hc : c < 1024) (h1 : (∃ k, k < gN B ∧ gH B k c ∧ ∃ c', c' < 1024 ∧ gH B k c' ∧ L c') → Q 1 M) (h0 : ¬ (∃ k, k < gN B ∧ gH B k c ∧ ∃ c', c' < 1024 ∧ gH B k c' ∧ L c') → Q 0 M) : am_s am_P am_gg (d + 2) 319 [.inr (.inr 174), .inl (c : Int)] M Q := by
  have n2 := gN_le (B := B)
  refine (v_319_174 _ _ _ _).mpr ?_
  refine p_for (S := Unit) (X := fun j _ => am_x am_P am_gg (d + 1) am_k319 4 Q 2 [some (.inr (.inr 174)), some (.inl ((c : Int))), some (.inl (j)), none] [] M 0 0) (gN B) (fun b _ => ∀ k, k < b → ¬ (gH B k c ∧ ∃ c', c' < 1024 ∧ gH B k c' ∧ L c')) ?_ ?_ 0 () (by omega) (fun k hk => absurd hk (Nat.not_lt_zero k))
  · intro _ hI
    refine (h_319_2_174 _ _ _ _ _).mpr ?_
    rw [h34]
    rw [if_neg (by omega)]
    exact h0 (fun ⟨k, hk, z⟩ => hI k hk z)
  · intro b _ hb hI k
    refine (h_319_2_174 _ _ _ _ _).mpr ?_
    rw [h34, w32_s (i := b) (by omega)]
    rw [if_pos (by omega)]
    have nx : ¬ (gH B b c ∧ ∃ c', c' < 1024 ∧ gH B b c' ∧ L c') → am_x am_P am_gg (d + 1) am_k319 4 Q 2 [some (.inr (.inr 174)), some (.inl ((c : Int))), some (.inl (((b + 1 : Nat) : Int))), none] [] M 0 0 := fun no => k () (fun q hq => by
      by_cases e : q = b
      · subst e; exact no
      · exact hI q (by omega))
    refine m_has' (hH b hb) (by omega) hc (fun z => ?_) (fun z => ?_)
    · rw [if_neg (by decide)]
      have key := p_for (S := Unit) (X := fun j _ => am_x am_P am_gg (d + 1) am_k319 4 Q 24 [some (.inr (.inr 174)), some (.inl ((c : Int))), some (.inl ((b : Int))), some (.inl (j))] [] M 0 0) 32 (fun w _ => ∀ c', c' < 32 * w → ¬ (gH B b c' ∧ L c')) ?_ ?_ 0 () (by omega) (fun q hq => absurd hq (by omega))
      · exact key
      · intro _ hJ
        refine (h_319_24_174 _ _ _ _ _ _).mpr ?_
        rw [if_neg (by omega)]
        rw [w32_s (i := b) (by omega)]
        refine am_x_le [some (.inr (.inr 174)), some (.inl ((c : Int))), some (.inl (((b + 1 : Nat) : Int))), none] (am_lb_le _ _ ⟨rfl, rfl, rfl, trivial⟩) ?_
        exact nx (fun ⟨_, c', y1, y2⟩ => hJ c' (by omega) y2)
      · intro w _ hw hJ k2
        have wz := wd_z (wd_and (bR_wd (hH b hb) hw) (hL w hw))
        refine (h_319_24_174 _ _ _ _ _ _).mpr ?_
        rw [w32_row (by omega) hw, w32_s (i := w) (by omega)]
        rw [if_pos (by omega)]
        rw [if_pos (by omega)]
        rw [if_pos (by omega)]
        refine @p_if _ _ _ _ ?_ ?_
        · intro e
          refine k2 () (fun c' hc' y => ?_)
          by_cases q : c' < 32 * w
          · exact hJ c' q y
          · have := wz.mp e (c' - 32 * w) (by omega)
            rw [show 32 * w + (c' - 32 * w) = c' by omega] at this
            exact this y
        · intro ne
          refine Classical.byCases (p := ∃ j, j < 32 ∧ gH B b (32 * w + j) ∧ L (32 * w + j)) (fun ⟨j, j1, j2⟩ => h1 ⟨b, hb, z, 32 * w + j, by omega, j2⟩) (fun no => absurd (wz.mpr (fun j hj y => no ⟨j, hj, y⟩)) ne)
    · rw [if_pos rfl]; exact nx (fun y => z y.1)
end S9j
