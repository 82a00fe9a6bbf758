/-! the reference's COVER -/
/-- the rows of bits of all pairs -/
def hR (N : Nat) (H : Nat → Nat → Prop) (M : (Nat → Int → Int)) : Prop := ∀ k, k < N → bR M k (H k)
/-- the set of codes that are left -/
def lR (L : Nat → Prop) (M : (Nat → Int → Int)) : Prop := ∀ w : Nat, w < 32 → wd (M 192 (w : Int)) (fun k => L (32 * w + k))
section S78
variable {H : Nat → Nat → Prop} {L : Nat → Prop} {N n : Nat} {M : (Nat → Int → Int)} {d : Nat} {Q : Int → (Nat → Int → Int) → Prop}
theorem bR_wd {t : Nat} {P : Nat → Prop} (h : bR M t P) {w : Nat} (hw : w < 32) : wd (M 189 ((32 * t + w : Nat) : Int)) (fun k => P (32 * w + k)) := h w hw
theorem w32_row {t w : Nat} (ht : t < 1024) (hw : w < 32) : w32 (w32 (32 * (t : Int)) + (w : Int)) = ((32 * t + w : Nat) : Int) := by
  rw [w32_i (x := 32 * (t : Int)) (by omega) (by omega), w32_i (by omega) (by omega)]; omega
theorem cnt_32 (p : Nat → Bool) (w : Nat) : cnt p (32 * (w + 1)) = cnt p (32 * w) + cnt (fun k => p (32 * w + k)) 32 := by
  rw [show 32 * (w + 1) = 32 * w + 32 by omega, cnt_split]
theorem m_newsOf {k : Nat} (hN : N ≤ 1024) (hk : k < N) (hH : hR N H M) (hL : lR L M) (hQ : Q ((nws H L k : Nat) : Int) M) : am_s am_P am_gg (d + 2) 279 [.inr (.inr 174), .inl (k : Int)] M Q := by
  refine (v_279_174 _ _ _ _).mpr ?_
  refine p_for (S := Nat) (X := fun j x => am_x am_P am_gg (d + 1) am_k279 1 Q 4 [some (.inr (.inr 174)), some (.inl ((k : Int))), some (.inl ((x : Int))), some (.inl (j))] [] M 0 0) 32 (fun w x => x = cnt (dc (fun c => H k c ∧ L c)) (32 * w)) ?_ ?_ 0 0 (by omega) rfl
  · intro x hx
    refine (h_279_4_174 _ _ _ _ _ _).mpr ?_
    rw [if_neg (by omega)]
    rw [hx]; exact hQ
  · intro w x hw hx kk
    refine (h_279_4_174 _ _ _ _ _ _).mpr ?_
    rw [w32_row (by omega) hw]
    rw [if_pos (by omega)]
    rw [if_pos (by omega)]
    rw [if_pos (by omega)]
    refine m_onesw (wd_and (bR_wd (hH k hk) hw) (hL w hw)) ?_
    have e : cnt (dc (fun j => H k (32 * w + j) ∧ L (32 * w + j))) 32 = cnt (fun j => dc (fun c => H k c ∧ L c) (32 * w + j)) 32 := cnt_congr (fun j _ => rfl)
    have c1 := cnt_le (p := dc (fun c => H k c ∧ L c)) (32 * w)
    have c2 := cnt_le (p := dc (fun j => H k (32 * w + j) ∧ L (32 * w + j))) 32
    rw [w32_s (by omega), w32_a (by omega)]
    refine kk _ ?_
    rw [cnt_32, hx, e]
theorem m_isLeft (hL : lR L M) (h1 : (∃ c, c < 1024 ∧ L c) → Q 1 M) (h0 : (∀ c, c < 1024 → ¬ L c) → Q 0 M) : am_s am_P am_gg (d + 1) 280 [.inr (.inr 174)] M Q := by
  refine (v_280_174 _ _ _).mpr ?_
  refine p_for (S := Unit) (X := fun j _ => am_x am_P am_gg d am_k280 4 Q 2 [some (.inr (.inr 174)), some (.inl (j))] [] M 0 0) 32 (fun w _ => ∀ c, c < 32 * w → ¬ L c) ?_ ?_ 0 () (by omega) (fun c hc => absurd hc (by omega))
  · intro _ hx
    refine (h_280_2_174 _ _ _ _).mpr ?_
    rw [if_neg (by omega)]
    exact h0 (fun c hc => hx c (by omega))
  · intro w _ hw hx kk
    refine (h_280_2_174 _ _ _ _).mpr ?_
    rw [if_pos (by omega)]
    rw [if_pos (by omega)]
    refine @p_if _ _ _ _ ?_ ?_
    · intro e
      rw [w32_s (by omega)]
      refine kk () (fun c hc => ?_)
      by_cases q : c < 32 * w
      · exact hx c q
      · have := (wd_z (hL w hw)).mp e (c - 32 * w) (by omega)
        rwa [show 32 * w + (c - 32 * w) = c by omega] at this
    · intro e
      refine h1 (Classical.byContradiction (fun no => e ((wd_z (hL w hw)).mpr (fun k hk z => no ⟨32 * w + k, by omega, z⟩))))
/-- whether others have all that one has -/
theorem m_isSpare {ρ : Nat → Nat} {m a : Nat} (hN : N ≤ 1024) (hm : m ≤ 1024) (ha : a < m) (hρ : ∀ i, i < m → ρ i < N ∧ M 191 (i : Int) = (ρ i : Int)) (h37 : M 173 37 = (m : Int)) (hH : hR N H M) (h1 : (∀ c, c < 1024 → H (ρ a) c → ∃ o, o < m ∧ o ≠ a ∧ H (ρ o) c) → Q 1 M) (h0 : (∃ c, c < 1024 ∧ H (ρ a) c ∧ ∀ o, o < m → o ≠ a → ¬ H (ρ o) c) → Q 0 M) : am_s am_P am_gg (d + 1) 281 [.inr (.inr 174), .inl (a : Int)] M Q := by
  obtain ⟨la, ea⟩ := hρ a ha
  refine (v_281_174 _ _ _ _).mpr ?_
  refine p_for (S := Unit) (X := fun j _ => am_x am_P am_gg d am_k281 4 Q 2 [some (.inr (.inr 174)), some (.inl ((a : Int))), some (.inl (j)), none, none] [] M 0 0) 32 (fun w _ => ∀ c, c < 32 * w → H (ρ a) c → ∃ o, o < m ∧ o ≠ a ∧ H (ρ o) c) ?_ ?_ 0 () (by omega) (fun c hc => absurd hc (by omega))
  · intro _ hx
    refine (h_281_2_174 _ _ _ _ _).mpr ?_
    rw [if_neg (by omega)]
    exact h1 (fun c hc => hx c (by omega))
  · intro w _ hw hx kk
    refine (h_281_2_174 _ _ _ _ _).mpr ?_
    rw [ea, w32_row (by omega) hw]
    rw [if_pos (by omega)]
    rw [if_pos (by omega)]
    rw [if_pos (by omega)]
    refine p_for (S := Int) (X := fun j x => am_x am_P am_gg d am_k281 4 Q 28 [some (.inr (.inr 174)), some (.inl ((a : Int))), some (.inl ((w : Int))), some (.inl (x)), some (.inl (j))] [] M 0 0) m (fun e x => wd x (fun k => H (ρ a) (32 * w + k) ∧ ∀ o, o < e → o ≠ a → ¬ H (ρ o) (32 * w + k))) ?_ ?_ 0 _ (by omega) (wd_cong (bR_wd (hH _ la) hw) (fun k _ => ⟨fun z => ⟨z, fun o ho => absurd ho (Nat.not_lt_zero o)⟩, fun z => z.1⟩))
    · intro x hx2
      refine (h_281_28_174 _ _ _ _ _ _ _).mpr ?_
      rw [h37]
      rw [if_neg (by omega)]
      refine @p_if _ _ _ _ ?_ ?_
      · intro e
        rw [w32_s (by omega)]
        refine am_x_le [some (.inr (.inr 174)), some (.inl ((a : Int))), some (.inl (((w + 1 : Nat) : Int))), none, none] (am_lb_le _ _ ⟨rfl, rfl, rfl, trivial⟩) ?_
        refine kk () (fun c hc hc2 => ?_)
        by_cases q : c < 32 * w
        · exact hx c q hc2
        · have := (wd_z hx2).mp e (c - 32 * w) (by omega)
          rw [show 32 * w + (c - 32 * w) = c by omega] at this
          exact Classical.byContradiction (fun no => this ⟨hc2, fun o ho ne z => no ⟨o, ho, ne, z⟩⟩)
      · intro e
        refine h0 (Classical.byContradiction (fun no => e ((wd_z hx2).mpr (fun k hk z => no ⟨32 * w + k, by omega, z⟩))))
    · intro o x ho hx2 k2
      refine (h_281_28_174 _ _ _ _ _ _ _).mpr ?_
      rw [h37]
      rw [if_pos (by omega)]
      obtain ⟨lo, eo⟩ := hρ o ho
      refine @p_if _ _ _ _ ?_ ?_
      · intro e
        rw [w32_s (by omega)]
        refine k2 _ (wd_cong (wd_and hx2 hx2) (fun k _ => ⟨fun z => ⟨z.1.1, fun i hi ne => ?_⟩, fun z => ⟨⟨z.1, fun i hi ne => z.2 i (by omega) ne⟩, ⟨z.1, fun i hi ne => z.2 i (by omega) ne⟩⟩⟩))
        exact z.1.2 i (by omega) ne
      · intro e
        rw [eo, w32_row (by omega) hw, w32_s (by omega)]
        rw [if_pos (by omega)]
        rw [if_pos (by omega)]
        refine k2 _ (wd_cong (wd_sub hx2 (bR_wd (hH _ lo) hw)) (fun k _ => ⟨fun z => ⟨z.1.1, fun i hi ne => ?_⟩, fun z => ⟨⟨z.1, fun i hi ne => z.2 i (by omega) ne⟩, z.2 o (by omega) (by omega)⟩⟩))
        by_cases q : i = o
        · subst q; exact z.2
        · exact z.1.2 i (by omega) ne
end S78
