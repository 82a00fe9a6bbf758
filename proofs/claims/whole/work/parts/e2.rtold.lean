/-! is every symbol told? the reference -/
def alT (t : Nat) (D : Nat → Nat) : Prop := ∀ r, r < D 0 → ∀ i, i < gsz D r → gsg D r i < 8 → t.testBit (gsg D r i) = true
section Se2
variable {M : (Nat → Int → Int)} {d : Nat} {Q : Int → (Nat → Int → Int) → Prop} {D : Nat → Nat} {w o t : Nat}
theorem m_told1 {z r : Nat} {g : Nat → Nat} (hr : r < 16) (hz : z ≤ 4) (ht : t < 256) (hg : ∀ i, i < z → g i < 32) (a3 : M 173 10 = (t : Int)) (bz : 0 ≤ w32 (1054 + (r : Int)) ∧ w32 (1054 + (r : Int)) < 1150) (vz : M 174 (w32 (1054 + (r : Int))) = (z : Int)) (bg : ∀ i : Nat, i < z → 0 ≤ w32 (w32 (1086 + w32 (4 * (r : Int))) + (i : Int)) ∧ w32 (w32 (1086 + w32 (4 * (r : Int))) + (i : Int)) < 1150) (vg : ∀ i : Nat, i < z → M 174 (w32 (w32 (1086 + w32 (4 * (r : Int))) + (i : Int))) = (g i : Int)) (h1 : (∀ j, j < z → g j < 8 → t.testBit (g j) = true) → am_x am_P am_gg (d + 1) am_k251 4 Q 2 [some (.inr (.inr 174)), some (.inl (((r + 1 : Nat) : Int))), none, none] [] M 0 0) (h0 : ∀ j, j < z → g j < 8 → t.testBit (g j) = false → Q 0 M) : am_x am_P am_gg (d + 1) am_k251 4 Q 16 [some (.inr (.inr 174)), some (.inl ((r : Int))), some (.inl (0)), none] [] M 0 0 := by
  refine p_for (S := Unit) (X := fun i _ => am_x am_P am_gg (d + 1) am_k251 4 Q 16 [some (.inr (.inr 174)), some (.inl ((r : Int))), some (.inl (i)), none] [] M 0 0) z (fun i _ => ∀ j, j < i → g j < 8 → t.testBit (g j) = true) ?_ ?_ 0 () (Nat.zero_le z) (fun j hj => absurd hj (Nat.not_lt_zero j))
  · intro _ hJ
    refine (h_251_16_174 _ _ _ _ _).mpr ?_
    rw [if_pos bz, vz, if_neg (Int.lt_irrefl _), w32_s (by omega)]
    refine am_x_le [some (.inr (.inr 174)), some (.inl (((r + 1 : Nat) : Int))), none, none] (am_lb_le _ _ ⟨rfl, rfl, trivial⟩) ?_
    exact h1 hJ
  · intro i _ hi hJ go2
    refine (h_251_16_174 _ _ _ _ _).mpr ?_
    have bi := bg i hi
    have vi := vg i hi
    have gi := hg i hi
    rw [if_pos bz, vz, if_pos (by omega), if_pos bi, vi, w32_s (by omega)]
    have step : (g i < 8 → t.testBit (g i) = true) → am_x am_P am_gg (d + 1) am_k251 4 Q 16 [some (.inr (.inr 174)), some (.inl ((r : Int))), some (.inl (((i + 1 : Nat) : Int))), some (.inl ((g i : Int)))] [] M 0 0 := by
      intro z
      refine am_x_le [some (.inr (.inr 174)), some (.inl ((r : Int))), some (.inl (((i + 1 : Nat) : Int))), none] (am_lb_le _ _ ⟨rfl, rfl, rfl, trivial⟩) ?_
      refine go2 () (fun j hj => ?_)
      by_cases q : j = i
      · subst q; exact z
      · exact hJ j (by omega)
    by_cases q8 : g i < 8
    · rw [if_pos (by omega), a3]
      refine m_bitn (by omega) gi (fun q => ?_) (fun q => ?_)
      · rw [if_neg (by decide)]; exact step (fun _ => q)
      · rw [if_pos rfl]
        exact h0 i hi q8 q
    · rw [if_neg (by omega)]; exact step (fun z => absurd z q8)
theorem e2_z {r : Nat} (hr : r < 16) : w32 (1054 + (r : Int)) = ((1035 + (19 + r) : Nat) : Int) := by rw [w32_i (by omega) (by omega)]; omega
theorem e2_y {r : Nat} (hr : r < 16) : w32 (1038 + (r : Int)) = ((1035 + (3 + r) : Nat) : Int) := by rw [w32_i (by omega) (by omega)]; omega
theorem e2_g0 {r : Nat} (hr : r < 16) : w32 (1086 + w32 (4 * (r : Int))) = ((1035 + (51 + 4 * r + 0) : Nat) : Int) := by rw [w32_i (x := 4 * (r : Int)) (by omega) (by omega), w32_i (by omega) (by omega)]; omega
theorem e2_g {r i : Nat} (hr : r < 16) (hi : i < 4) : w32 (w32 (1086 + w32 (4 * (r : Int))) + (i : Int)) = ((1035 + (51 + 4 * r + i) : Nat) : Int) := by rw [w32_i (x := 4 * (r : Int)) (by omega) (by omega), w32_i (x := 1086 + 4 * (r : Int)) (by omega) (by omega), w32_i (by omega) (by omega)]; omega
theorem m_allTold (h : rdr w o t D M) (hU : rdU D) (ht : t < 256) (h1 : alT t D → Q 1 M) (h0 : ¬ alT t D → Q 0 M) : am_s am_P am_gg (d + 2) 251 [.inr (.inr 174)] M Q := by
  obtain ⟨a1, a2, a3, a4⟩ := h
  have hn := hU.1
  have e0 : M 174 1035 = (D 0 : Int) := a4.off (k := 0) (by omega) rfl
  refine (v_251_174 _ _ _).mpr ?_
  refine p_for (S := Unit) (X := fun a _ => am_x am_P am_gg (d + 1) am_k251 4 Q 2 [some (.inr (.inr 174)), some (.inl (a)), none, none] [] M 0 0) (D 0) (fun a _ => ∀ r, r < a → ∀ i, i < gsz D r → gsg D r i < 8 → t.testBit (gsg D r i) = true) ?_ ?_ 0 () (Nat.zero_le _) (fun r hr => absurd hr (Nat.not_lt_zero r))
  · intro _ hI
    refine (h_251_2_174 _ _ _ _).mpr ?_
    rw [e0, if_neg (Int.lt_irrefl _)]
    exact h1 hI
  · intro r _ hr hI go
    have hr16 : r < 16 := by omega
    refine (h_251_2_174 _ _ _ _).mpr ?_
    rw [e0, if_pos (by omega)]
    obtain ⟨u1, u2, u3, u4, u5⟩ := hU.2 r hr
    refine m_told1 (z := gsz D r) (g := gsg D r) hr16 u3 ht (fun i hi => by have := u5 i hi; omega) a3 (by rw [e2_z hr16]; omega) (by rw [e2_z hr16]; exact a4 (19 + r) (by omega)) (fun i hi => by rw [e2_g hr16 (by omega)]; omega) (fun i hi => by rw [e2_g hr16 (by omega)]; exact a4 (51 + 4 * r + i) (by omega)) (fun hJ => ?_) (fun j hj hj8 hjt => h0 (fun z => by have := z r hr j hj hj8; rw [hjt] at this; cases this))
    refine go () (fun r' hr' => ?_)
    by_cases q : r' = r
    · subst q; exact hJ
    · exact hI r' (by omega)
end Se2
