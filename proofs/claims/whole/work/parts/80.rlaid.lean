/-! all that the reference lays -/
noncomputable def gpos (B : Nat → Nat) : Nat → Nat := @dite (Nat → Nat) (∃ pos, ypos B pos) (Classical.propDecidable _) (fun h => Classical.choose h) (fun _ _ => 0)
theorem gpos_ok {B : Nat → Nat} (hW : gW B) : ypos B (gpos B) := by
  have h : ∃ pos, ypos B pos := hW.2.2.2.2
  unfold gpos; rw [dif_pos h]; exact Classical.choose_spec h
noncomputable def gK (B : Nat → Nat) : Nat → Nat := @dite (Nat → Nat) (∃ K, ySol B (gpos B) K ∧ ∀ s, s < 8 → K s ≤ NK) (Classical.propDecidable _) (fun h => Classical.choose h) (fun _ _ => 0)
noncomputable def gX (B : Nat → Nat) : Nat → Nat := @dite (Nat → Nat) (∃ X, xSol B (gpos B) (gK B) X ∧ ∀ s, s < 8 → X s ≤ NK) (Classical.propDecidable _) (fun h => Classical.choose h) (fun _ _ => 0)
/-- a heap that holds a grammar for the reference -/
def gM (B : Nat → Nat) : (Nat → Int → Int) := fun c i => if c = 174 then (B i.toNat : Int) else 0
theorem gM_rb {B : Nat → Nat} : rb (gM B 174) 0 B := fun k _ => by
  show (if (174 : Nat) = 174 then (B (((0 + k : Nat) : Int)).toNat : Int) else 0) = _
  rw [if_pos rfl, Nat.zero_add]; rfl
theorem gK_ok {B : Nat → Nat} (hW : gW B) : ySol B (gpos B) (gK B) ∧ ∀ s, s < 8 → gK B s ≤ NK := by
  have h : ∃ K, ySol B (gpos B) K ∧ ∀ s, s < 8 → K s ≤ NK := by
    obtain ⟨F, r, M', -, h⟩ := m_laysYields (d := 0) (Q := fun _ _ => ∃ K, ySol B (gpos B) K ∧ ∀ s, s < 8 → K s ≤ NK) hW (gpos_ok hW) (gM_rb (B := B)) (fun M' K _ h1 h2 _ => ⟨K, h1, h2⟩)
    exact h
  unfold gK; rw [dif_pos h]; exact Classical.choose_spec h
theorem yR_K {B K : Nat → Nat} (hW : gW B) (h : ySol B (gpos B) K) (hN : ∀ s, s < 8 → K s ≤ NK) {M : (Nat → Int → Int)} (hR : yR K M) : yR (gK B) M := by
  intro s hs
  rw [← y_uniq hW (gpos_ok hW) h (gK_ok hW).1 hN (gK_ok hW).2 hs]
  exact hR s hs
section S80
variable {B : Nat → Nat} {M : (Nat → Int → Int)} {d : Nat} {Q : Int → (Nat → Int → Int) → Prop}
theorem m_laysYields' (hW : gW B) {M0 : (Nat → Int → Int)} (hB0 : rb (M0 174) 0 B) (hQ : ∀ M', yF M0 M' → yR (gK B) M' → Q 0 M') : am_s am_P am_gg (d + 3) 265 [.inr (.inr 174)] M0 Q :=
  m_laysYields hW (gpos_ok hW) hB0 (fun M' K f h1 h2 h3 => hQ M' f (yR_K hW h1 h2 h3))
theorem gX_ok (hW : gW B) : xSol B (gpos B) (gK B) (gX B) ∧ ∀ s, s < 8 → gX B s ≤ NK := by
  have h : ∃ X, xSol B (gpos B) (gK B) X ∧ ∀ s, s < 8 → X s ≤ NK := by
    obtain ⟨F, r, M1, -, h⟩ := m_laysYields' (d := 0) (Q := fun _ M' => yR (gK B) M' ∧ rb (M' 174) 0 B) hW (gM_rb (B := B)) (fun M' f h1 => ⟨h1, by rw [f.1 174 (by decide) (by decide) (by decide) (by decide)]; exact gM_rb⟩)
    obtain ⟨F2, r2, M2, -, h2⟩ := m_laysContexts (d := 0) (K := gK B) (Q := fun _ _ => ∃ X, xSol B (gpos B) (gK B) X ∧ ∀ s, s < 8 → X s ≤ NK) hW (gpos_ok hW) h.2 h.1 (gK_ok hW).1.1 (fun M' X _ h1 h2 _ => ⟨X, h1, h2⟩)
    exact h2
  unfold gX; rw [dif_pos h]; exact Classical.choose_spec h
theorem xR_X {X : Nat → Nat} (hW : gW B) (h : xSol B (gpos B) (gK B) X) (hN : ∀ s, s < 8 → X s ≤ NK) (hR : xR B X M) : xR B (gX B) M := by
  intro s hs
  rw [← x_uniq hW (gpos_ok hW) (gK_ok hW).1.1 h (gX_ok hW).1 hN (gX_ok hW).2 hs]
  exact hR s hs
theorem m_laysContexts' (hW : gW B) {M0 : (Nat → Int → Int)} (hB0 : rb (M0 174) 0 B) (hy0 : yR (gK B) M0) (hQ : ∀ M', xF M0 M' → xR B (gX B) M' → Q 0 M') : am_s am_P am_gg (d + 3) 266 [.inr (.inr 174)] M0 Q :=
  m_laysContexts hW (gpos_ok hW) hB0 hy0 (gK_ok hW).1.1 (fun M' X f h1 h2 h3 => hQ M' f (xR_X hW h1 h2 h3))
end S80
noncomputable def gp (B : Nat → Nat) : Nat → Bool := pB B (gK B) (gX B)
noncomputable def gN (B : Nat → Nat) : Nat := cnt (gp B) 1024
/-- what the sentence of a pair HAS, by its number: codes -/
def gH (B : Nat → Nat) (k c : Nat) : Prop := hP B (gK B) (gX B) (cd (gp B) k) c
def rL (B : Nat → Nat) (M : (Nat → Int → Int)) : Prop := yR (gK B) M ∧ xR B (gX B) M ∧ bs (M 173 12) (gGood B) ∧ bs (M 173 13) (gRch B) ∧ bs (M 173 14) (gUsd B) ∧ bs (M 173 15) (gUL B) ∧ (∀ s : Nat, s < 8 → bs (M 176 (s : Int)) (gE B (e0 B) s)) ∧ (∀ s : Nat, s < 8 → bs (M 177 (s : Int)) (gE B (e1 B) s)) ∧ (∀ l : Nat, l < 16 → bs (M 178 (l : Int)) (gBes B l)) ∧ pI B (gK B) (gX B) 1024 M ∧ cR (gp B) (gH B) (gN B) M
/-- of the cells what is laid alone may have changed -/
def rLF (M M' : (Nat → Int → Int)) : Prop := (∀ c, c < 173 ∨ c = 174 ∨ c = 175 ∨ c = 186 ∨ 194 < c → M' c = M c) ∧ ∀ i : Int, i < 11 ∨ 15 < i ∧ i ≠ 26 ∧ i ≠ 27 ∧ i ≠ 34 ∧ i ≠ 37 → M' 173 i = M 173 i
section S80b
variable {B : Nat → Nat} {M : (Nat → Int → Int)} {d : Nat} {Q : Int → (Nat → Int → Int) → Prop}
theorem m_forgets (hQ : ∀ M', (∀ c, c ≠ 193 → c ≠ 194 → M' c = M c) → (∀ k : Nat, k < 200 → M' 193 (k : Int) = -1) → (∀ k : Nat, k < 1600 → M' 194 (k : Int) = -1) → Q 0 M') : am_s am_P am_gg (d + 1) 321 [.inr (.inr 174)] M Q := by
  refine (v_321_174 _ _ _).mpr ?_
  refine p_for (S := (Nat → Int → Int)) (X := fun j M => am_x am_P am_gg d am_k321 0 Q 2 [some (.inr (.inr 174)), some (.inl (j))] [] M 0 0) 200 (fun a M1 => (∀ c, c ≠ 193 → M1 c = M c) ∧ ∀ k : Nat, k < a → M1 193 (k : Int) = -1) ?_ ?_ 0 M (by omega) ⟨fun _ _ => rfl, fun k hk => absurd hk (Nat.not_lt_zero k)⟩
  · intro M1 ⟨f1, z1⟩
    refine (h_321_2_174 _ _ _ _).mpr ?_
    rw [if_neg (by omega)]
    refine p_for (S := (Nat → Int → Int)) (X := fun j M => am_x am_P am_gg d am_k321 0 Q 26 [some (.inr (.inr 174)), some (.inl (j))] [] M 0 0) 1600 (fun a M2 => (∀ c, c ≠ 194 → M2 c = M1 c) ∧ ∀ k : Nat, k < a → M2 194 (k : Int) = -1) ?_ ?_ 0 M1 (by omega) ⟨fun _ _ => rfl, fun k hk => absurd hk (Nat.not_lt_zero k)⟩
    · intro M2 ⟨f2, z2⟩
      refine (h_321_26_174 _ _ _ _).mpr ?_
      rw [if_neg (by omega)]
      exact hQ M2 (fun c a b => by rw [f2 c b]; exact f1 c a) (fun k hk => by rw [f2 193 (by decide)]; exact z1 k hk) z2
    · intro a M2 ha ⟨f2, z2⟩ k
      refine (h_321_26_174 _ _ _ _).mpr ?_
      rw [if_pos (by omega)]
      rw [if_pos (by omega)]
      rw [w32_s (by omega)]
      refine k _ ⟨fun c hc => by rw [up_nc _ _ _ _ hc]; exact f2 c hc, fun j hj => ?_⟩
      rw [up_ci]
      by_cases q : j = a
      · rw [if_pos (by omega)]
      · rw [if_neg (by omega)]; exact z2 j (by omega)
  · intro a M1 ha ⟨f1, z1⟩ k
    refine (h_321_2_174 _ _ _ _).mpr ?_
    rw [if_pos (by omega)]
    rw [if_pos (by omega)]
    rw [w32_s (by omega)]
    refine k _ ⟨fun c hc => by rw [up_nc _ _ _ _ hc]; exact f1 c hc, fun j hj => ?_⟩
    rw [up_ci]
    by_cases q : j = a
    · rw [if_pos (by omega)]
    · rw [if_neg (by omega)]; exact z1 j (by omega)
theorem gp_lt (hW : gW B) {c : Nat} (h : gp B c = true) : c < 1024 := by
  have h1 := (pB_iff.mp h).1
  have h2 := hW.1
  omega
theorem pI_cd (h : pI B (gK B) (gX B) 1024 M) {k : Nat} (hk : k < gN B) : M 187 (k : Int) = (cd (gp B) k : Int) ∧ M 188 (k : Int) = (pco B (gK B) (gX B) (cd (gp B) k) : Int) ∧ bR M k (gH B k) := by
  obtain ⟨c1, c2, c3⟩ := cd_ok (p := gp B) hk
  have := h.2.2 _ c1 c2
  rw [show cnt (pB B (gK B) (gX B)) (cd (gp B) k) = k from c3] at this
  exact this
/-- the cells of what is laid, by what may have changed -/
theorem rL_cong {M' : (Nat → Int → Int)} (h : rL B M) (e : ∀ c, 176 ≤ c → c ≤ 191 → c ≠ 186 → M' c = M c) (ei : ∀ i : Int, (12 ≤ i ∧ i ≤ 15) ∨ i = 34 ∨ i = 37 → M' 173 i = M 173 i) : rL B M' := by
  obtain ⟨h1, h2, h3, h4, h5, h6, h7, h8, h9, h10, h11⟩ := h
  refine ⟨yR_eq h1 (e _ (by omega) (by omega) (by omega)) (e _ (by omega) (by omega) (by omega)) (e _ (by omega) (by omega) (by omega)), xR_eq h2 (e _ (by omega) (by omega) (by omega)) (e _ (by omega) (by omega) (by omega)) (e _ (by omega) (by omega) (by omega)) (e _ (by omega) (by omega) (by omega)), ?_, ?_, ?_, ?_, ?_, ?_, ?_, ?_, ?_⟩
  · rw [ei 12 (by omega)]; exact h3
  · rw [ei 13 (by omega)]; exact h4
  · rw [ei 14 (by omega)]; exact h5
  · rw [ei 15 (by omega)]; exact h6
  · rw [e 176 (by omega) (by omega) (by omega)]; exact h7
  · rw [e 177 (by omega) (by omega) (by omega)]; exact h8
  · rw [e 178 (by omega) (by omega) (by omega)]; exact h9
  · exact pI_cong h10 (ei 34 (by omega)) (e _ (by omega) (by omega) (by omega)) (e _ (by omega) (by omega) (by omega)) (e _ (by omega) (by omega) (by omega)) (e _ (by omega) (by omega) (by omega))
  · obtain ⟨τ, n, κ, a1, a2, a3, a4, a5⟩ := h11
    exact ⟨τ, n, κ, a1, a2, a3, by rw [ei 37 (by omega)]; exact a4, by rw [e 191 (by omega) (by omega) (by omega)]; exact a5⟩
theorem m_laysAll1 (hW : gW B) (hB : rb (M 174) 0 B) (h11 : M 173 11 = 0) (hQ : ∀ M', rLF M M' → M' 173 11 = 1 → rL B M' → (∀ k : Nat, k < 200 → M' 193 (k : Int) = -1) → (∀ k : Nat, k < 1600 → M' 194 (k : Int) = -1) → Q 0 M') : am_s am_P am_gg (d + 26) 283 [.inr (.inr 174)] M Q := by
  refine (v_283_174 _ _ _).mpr ?_
  rw [if_pos (by omega)]
  refine m_laysGood hW hB (fun M1 f1 g1 g2 g3 g4 => ?_)
  have hB1 : rb (M1 174) 0 B := by rw [f1.1 174 (by decide)]; exact hB
  refine m_laysEnds hW hB1 g1 g3 (fun M2 f2 k1 k2 k3 => ?_)
  have hB2 : rb (M2 174) 0 B := by rw [f2 174 (by decide) (by decide) (by decide)]; exact hB1
  refine m_laysYields' hW hB2 (fun M3 f3 y3 => ?_)
  have hB3 : rb (M3 174) 0 B := by rw [f3.1 174 (by decide) (by decide) (by decide) (by decide)]; exact hB2
  refine m_laysContexts' hW hB3 y3 (fun M4 f4 x4 => ?_)
  have hB4 : rb (M4 174) 0 B := by rw [f4.1 174 (by decide) (by decide) (by decide) (by decide) (by decide)]; exact hB3
  have y4 : yR (gK B) M4 := yR_eq y3 (f4.1 _ (by decide) (by decide) (by decide) (by decide) (by decide)) (f4.1 _ (by decide) (by decide) (by decide) (by decide) (by decide)) (f4.1 _ (by decide) (by decide) (by decide) (by decide) (by decide))
  refine m_laysPairs hW (gpos_ok hW) (gK_ok hW).1 (gX_ok hW).1 hB4 y4 x4 (fun M5 f5 p5 => ?_)
  obtain ⟨hB5, y5, x5⟩ := pF_R f5 hB4 y4 x4
  refine m_laysCover (p := gp B) (H := gH B) (N := gN B) (fun c hc => gp_lt hW hc) rfl (fun k hk => Or.inl rfl) (fun k hk => (pI_cd p5 hk).2.2) p5.1 (fun k hk => (pI_cd p5 hk).1) (fun M6 f6 c6 => ?_)
  refine m_forgets (fun M7 f7 z1 z2 => ?_)
  -- what each leaves as it was
  have c0 : ∀ c, c < 173 ∨ c = 174 ∨ c = 175 ∨ c = 186 ∨ 194 < c → M7 c = M c := fun c hc => by
    rw [f7 c (by omega) (by omega), f6.1 c (by omega) (by omega) (by omega), f5.1 c (by omega) (by omega), f4.1 c (by omega) (by omega) (by omega) (by omega) (by omega), f3.1 c (by omega) (by omega) (by omega) (by omega), f2 c (by omega) (by omega) (by omega), f1.1 c (by omega)]
  have i0 : ∀ i : Int, i < 12 ∨ 15 < i ∧ i ≠ 26 ∧ i ≠ 27 ∧ i ≠ 34 ∧ i ≠ 37 → M7 173 i = M 173 i := fun i hi => by
    rw [f7 173 (by decide) (by decide), f6.2 i (by omega), f5.2 i (by omega) (by omega) (by omega), f4.2 i (by omega), f3.2 i (by omega), f2 173 (by decide) (by decide) (by decide), f1.2 i (by omega)]
  have i1 : ∀ i : Int, 12 ≤ i → i ≤ 15 → M7 173 i = M1 173 i := fun i a b => by
    rw [f7 173 (by decide) (by decide), f6.2 i (by omega), f5.2 i (by omega) (by omega) (by omega), f4.2 i (by omega), f3.2 i (by omega), f2 173 (by decide) (by decide) (by decide)]
  have c2 : ∀ c, 176 ≤ c → c ≤ 178 → M7 c = M2 c := fun c a b => by
    rw [f7 c (by omega) (by omega), f6.1 c (by omega) (by omega) (by omega), f5.1 c (by omega) (by omega), f4.1 c (by omega) (by omega) (by omega) (by omega) (by omega), f3.1 c (by omega) (by omega) (by omega) (by omega)]
  have c5 : ∀ c, 179 ≤ c → c ≤ 190 → c ≠ 186 → M7 c = M5 c := fun c a b _ => by
    rw [f7 c (by omega) (by omega), f6.1 c (by omega) (by omega) (by omega)]
  have u : ∀ c, c ≠ 173 → am_up M7 173 11 1 c = M7 c := fun c hc => up_nc _ _ _ _ hc
  have ui : ∀ i : Int, i ≠ 11 → am_up M7 173 11 1 173 i = M7 173 i := fun i hi => up_ni _ _ _ _ hi _
  refine hQ _ ⟨fun c hc => by rw [u c (by omega)]; exact c0 c hc, fun i hi => by rw [ui i (by omega)]; exact i0 i (by omega)⟩ (up_eq _ _ _ _) ?_ (fun k hk => by rw [u 193 (by decide)]; exact z1 k hk) (fun k hk => by rw [u 194 (by decide)]; exact z2 k hk)
  refine ⟨yR_eq y5 (by rw [u _ (by decide)]; exact c5 _ (by omega) (by omega) (by omega)) (by rw [u _ (by decide)]; exact c5 _ (by omega) (by omega) (by omega)) (by rw [u _ (by decide)]; exact c5 _ (by omega) (by omega) (by omega)), xR_eq x5 (by rw [u _ (by decide)]; exact c5 _ (by omega) (by omega) (by omega)) (by rw [u _ (by decide)]; exact c5 _ (by omega) (by omega) (by omega)) (by rw [u _ (by decide)]; exact c5 _ (by omega) (by omega) (by omega)) (by rw [u _ (by decide)]; exact c5 _ (by omega) (by omega) (by omega)), ?_, ?_, ?_, ?_, ?_, ?_, ?_, ?_, ?_⟩
  · rw [ui _ (by decide), i1 _ (by omega) (by omega)]; exact g1
  · rw [ui _ (by decide), i1 _ (by omega) (by omega)]; exact g2
  · rw [ui _ (by decide), i1 _ (by omega) (by omega)]; exact g3
  · rw [ui _ (by decide), i1 _ (by omega) (by omega)]; exact g4
  · rw [u _ (by decide), c2 _ (by omega) (by omega)]; exact k1
  · rw [u _ (by decide), c2 _ (by omega) (by omega)]; exact k2
  · rw [u _ (by decide), c2 _ (by omega) (by omega)]; exact k3
  · refine pI_cong p5 ?_ (by rw [u _ (by decide)]; exact c5 _ (by omega) (by omega) (by omega)) (by rw [u _ (by decide)]; exact c5 _ (by omega) (by omega) (by omega)) (by rw [u _ (by decide)]; exact c5 _ (by omega) (by omega) (by omega)) (by rw [u _ (by decide)]; exact c5 _ (by omega) (by omega) (by omega))
    rw [ui _ (by decide), f7 173 (by decide) (by decide), f6.2 34 (by decide)]
  · obtain ⟨τ, n, κ, a1, a2, a3, a4, a5⟩ := c6
    refine ⟨τ, n, κ, a1, a2, a3, ?_, ?_⟩
    · rw [ui _ (by decide), f7 173 (by decide) (by decide)]; exact a4
    · rw [u _ (by decide), f7 191 (by decide) (by decide)]; exact a5
end S80b
