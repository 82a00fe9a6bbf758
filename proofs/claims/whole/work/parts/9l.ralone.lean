/-! the reference: BOUND's left emptied; what one of the cover has alone -/
section S9l
variable {B : Nat → Nat} {M M0 : (Nat → Int → Int)} {d : Nat} {Q : Int → (Nat → Int → Int) → Prop}
theorem m_bound2 (hk : ∀ M', wF1 192 M0 M' → lR (fun _ => False) M' → am_x am_P am_gg (d + 2) am_k320 1 Q 39 [some (.inr (.inr 174)), some (.inl (((0 : Nat) : Int))), some (.inl (((0 : Nat) : Int)))] [] M' 0 0) : am_x am_P am_gg (d + 2) am_k320 1 Q 16 [some (.inr (.inr 174)), some (.inl (((0 : Nat) : Int))), none] [] M0 0 0 := by
  refine p_for (S := (Nat → Int → Int)) (X := fun j M => am_x am_P am_gg (d + 2) am_k320 1 Q 16 [some (.inr (.inr 174)), some (.inl (j)), none] [] M 0 0) 32 (fun w M1 => wF1 192 M0 M1 ∧ ∀ v : Nat, v < w → M1 192 (v : Int) = 0) ?_ ?_ 0 M0 (by omega) ⟨fun _ _ => rfl, fun v hv => absurd hv (Nat.not_lt_zero v)⟩
  · intro M1 ⟨f1, z1⟩
    refine (h_320_16_174 _ _ _ _).mpr ?_
    rw [if_neg (by omega)]
    exact hk M1 f1 (fun w hw => by rw [z1 w hw]; exact wd_0)
  · intro w M1 hw ⟨f1, z1⟩ k
    refine (h_320_16_174 _ _ _ _).mpr ?_
    rw [if_pos (by omega)]
    rw [if_pos (by omega)]
    rw [w32_s (i := w) (by omega)]
    refine k _ ⟨fun c hc => by rw [up_nc _ _ _ _ hc]; exact f1 c hc, fun v hv => ?_⟩
    rw [up_ci]
    by_cases e : v = w
    · rw [if_pos (by omega)]
    · rw [if_neg (by omega)]; exact z1 v (by omega)
/-- of the kept ρ 0 .. ρ (m-1): what one has alone -/
theorem m_aloneIn (hH : ∀ k, k < gN B → bR M k (gH B k)) {ρ : Nat → Nat} {m a : Nat} (hm : m ≤ 1024) (ha : a < m) (hρ : ∀ i, i < m → ρ i < gN B ∧ M 191 (i : Int) = (ρ i : Int)) (h37 : M 173 37 = (m : Int)) (hQ : Q ((cnt (dc (fun c => gH B (ρ a) c ∧ ∀ o, o < m → o ≠ a → ¬ gH B (ρ o) c)) 1024 : Nat) : Int) M) : am_s am_P am_gg (d + 2) 313 [.inr (.inr 174), .inl (a : Int)] M Q := by
  have n2 := gN_le (B := B)
  refine (v_313_174 _ _ _ _).mpr ?_
  have key := p_for (S := Int) (X := fun j x => am_x am_P am_gg (d + 1) am_k313 1 Q 4 [some (.inr (.inr 174)), some (.inl ((a : Int))), some (.inl (x)), some (.inl (j)), none, none] [] M 0 0) 32 (fun w x => x = ((cnt (dc (fun c => gH B (ρ a) c ∧ ∀ o, o < m → o ≠ a → ¬ gH B (ρ o) c)) (32 * w) : Nat) : Int)) ?_ ?_ 0 (0 : Int) (by omega) rfl
  · exact key
  · intro x ex
    refine (h_313_4_174 _ _ _ _ _ _).mpr ?_
    rw [if_neg (by omega)]
    rw [ex]; exact hQ
  · intro w x hw ex k
    obtain ⟨ra, ea⟩ := hρ a ha
    refine (h_313_4_174 _ _ _ _ _ _).mpr ?_
    rw [ea, w32_row (by omega) hw]
    rw [if_pos (by omega)]
    rw [if_pos (by omega)]
    rw [if_pos (by omega)]
    have key2 := p_for (S := Int) (X := fun j e => am_x am_P am_gg (d + 1) am_k313 1 Q 31 [some (.inr (.inr 174)), some (.inl ((a : Int))), some (.inl (x)), some (.inl ((w : Int))), some (.inl (e)), some (.inl (j))] [] M 0 0) m (fun f e => wd e (fun j => gH B (ρ a) (32 * w + j) ∧ ∀ o, o < f → o ≠ a → ¬ gH B (ρ o) (32 * w + j))) ?_ ?_ 0 (M 189 ((32 * ρ a + w : Nat) : Int)) (by omega) (wd_cong (bR_wd (hH _ ra) hw) (fun j _ => ⟨fun z => ⟨z, fun o ho => absurd ho (Nat.not_lt_zero o)⟩, fun z => z.1⟩))
    · exact key2
    · intro e he
      have cl := cnt_le (p := dc (fun c => gH B (ρ a) c ∧ ∀ o, o < m → o ≠ a → ¬ gH B (ρ o) c)) (32 * w)
      have cl2 := cnt_le (p := fun j => dc (fun c => gH B (ρ a) c ∧ ∀ o, o < m → o ≠ a → ¬ gH B (ρ o) c) (32 * w + j)) 32
      refine (h_313_31_174 _ _ _ _ _ _ _ _).mpr ?_
      rw [h37]
      rw [if_neg (by omega)]
      refine m_onesw he ?_
      rw [w32_s (i := w) (by omega)]
      have this : (dc fun j => gH B (ρ a) (32 * w + j) ∧ ∀ o, o < m → o ≠ a → ¬ gH B (ρ o) (32 * w + j)) = (fun j => dc (fun c => gH B (ρ a) c ∧ ∀ o, o < m → o ≠ a → ¬ gH B (ρ o) c) (32 * w + j)) := funext (fun j => rfl)
      rw [this]
      refine am_x_le [some (.inr (.inr 174)), some (.inl ((a : Int))), some (.inl ((w32 (x + ((cnt (fun j => dc (fun c => gH B (ρ a) c ∧ ∀ o, o < m → o ≠ a → ¬ gH B (ρ o) c) (32 * w + j)) 32 : Nat) : Int))))), some (.inl (((w + 1 : Nat) : Int))), none, none] (am_lb_le _ _ ⟨rfl, rfl, rfl, rfl, trivial⟩) ?_
      refine k _ ?_
      rw [ex, cnt_32, w32_i (by omega) (by omega)]
      omega
    · intro f e hf he k2
      refine (h_313_31_174 _ _ _ _ _ _ _ _).mpr ?_
      rw [h37, w32_s (i := f) (by omega)]
      rw [if_pos (by omega)]
      refine @p_if _ _ _ _ ?_ ?_
      · intro q
        refine k2 _ (wd_cong (wd_and he he) (fun j _ => ⟨fun z => ⟨z.1.1, fun o ho ne => z.1.2 o (by omega) ne⟩, fun z => ⟨⟨z.1, fun o ho => z.2 o (by omega)⟩, z.1, fun o ho => z.2 o (by omega)⟩⟩))
      · intro q
        have rf := (hρ f hf).1
        have ef := (hρ f hf).2
        rw [ef, w32_row (by omega) hw]
        rw [if_pos (by omega)]
        rw [if_pos (by omega)]
        refine k2 _ (wd_cong (wd_sub he (bR_wd (hH _ rf) hw)) (fun j _ => ⟨fun z => ⟨z.1.1, fun o ho ne => ?_⟩, fun z => ⟨⟨z.1, fun o ho => z.2 o (by omega)⟩, z.2 f (by omega) (by omega)⟩⟩))
        by_cases y : o = f
        · subst y; exact z.2
        · exact z.1.2 o (by omega) ne
end S9l
