/-! texts made shorter -/
def shw (B x : Nat → Nat) (N ρ : Nat) : Prop := 0 < wT B x (B 2) 0 N ∧ ρ ∈ nds (yT B x (B 2) 0 N).1
def cutx (x : Nat → Nat) (f l : Nat) : Nat → Nat := fun j => if j < f then x j else x (j + l)
/-- a part can go -/
def goC (B x : Nat → Nat) (N ρ l f : Nat) : Prop := 1 ≤ l ∧ l < N ∧ f + l ≤ N ∧ shw B (cutx x f l) (N - l) ρ
/-- the first that can -/
def fstC (B x : Nat → Nat) (N ρ l f : Nat) : Prop := goC B x N ρ l f ∧ ∀ l' f', (l < l' ∨ l' = l ∧ f' < f) → ¬ goC B x N ρ l' f'
def noC (B x : Nat → Nat) (N ρ : Nat) : Prop := ∀ l f, ¬ goC B x N ρ l f
def shR (B : Nat → Nat) (ρ : Nat) : Nat → (Nat → Nat) → Nat → (Nat → Nat) → Nat → Prop
  | 0, x, N, y, K => x = y ∧ N = K ∧ noC B x N ρ
  | t + 1, x, N, y, K => ∃ l f, fstC B x N ρ l f ∧ shR B ρ t (cutx x f l) (N - l) y K
theorem fstC_u {B x : Nat → Nat} {N ρ l f l' f' : Nat} (h : fstC B x N ρ l f) (h' : fstC B x N ρ l' f') : l = l' ∧ f = f' := by
  rcases Nat.lt_trichotomy l l' with q | q | q
  · exact absurd h'.1 (h.2 l' f' (Or.inl q))
  · rcases Nat.lt_trichotomy f f' with z | z | z
    · exact absurd h.1 (h'.2 l f (Or.inr ⟨q, z⟩))
    · exact ⟨q, z⟩
    · exact absurd h'.1 (h.2 l' f' (Or.inr ⟨q.symm, z⟩))
  · exact absurd h.1 (h'.2 l f (Or.inl q))
theorem shR_u {B : Nat → Nat} {ρ : Nat} : ∀ {t t' : Nat} {x : Nat → Nat} {N : Nat} {y y' : Nat → Nat} {K K' : Nat}, shR B ρ t x N y K → shR B ρ t' x N y' K' → y = y' ∧ K = K'
  | 0, 0, _, _, _, _, _, _, h, h' => ⟨h.1.symm.trans h'.1, h.2.1.symm.trans h'.2.1⟩
  | 0, t' + 1, _, _, _, _, _, _, h, h' => by obtain ⟨l, f, h1, _⟩ := h'; exact absurd h1.1 (h.2.2 l f)
  | t + 1, 0, _, _, _, _, _, _, h, h' => by obtain ⟨l, f, h1, _⟩ := h; exact absurd h1.1 (h'.2.2 l f)
  | t + 1, t' + 1, _, _, _, _, _, _, h, h' => by
    obtain ⟨l, f, h1, h2⟩ := h
    obtain ⟨l', f', h1', h2'⟩ := h'
    obtain ⟨e1, e2⟩ := fstC_u h1 h1'
    subst e1; subst e2
    exact shR_u h2 h2'
/-- the shrinker's text -/
def shI (x : Nat → Nat) (N ρ : Nat) (M : (Nat → Int → Int)) : Prop := M 121 8 = (N : Int) ∧ 1 ≤ N ∧ N ≤ 16 ∧ (∀ j : Nat, j < N → M 123 (j : Int) = (x j : Int) ∧ x j < 16) ∧ M 121 4 = (ρ : Int)
/-- what shrinking changes -/
def skF (M M' : (Nat → Int → Int)) : Prop := (∀ c, c < 108 ∨ 120 < c → c ≠ 121 → c ≠ 123 → c ≠ 124 → M' c = M c) ∧ ∀ i : Int, i ≠ 8 → M' 121 i = M 121 i
section Sb5
variable {B x y o : Nat → Nat} {a n r i j s k c e f d m N l ρ : Nat} {T : Nat → Nat × Nat} {M M0 : (Nat → Int → Int)} {Q : Int → (Nat → Int → Int) → Prop} {st : Int}
theorem skF_rf : skF M M := ⟨fun _ _ _ _ _ => rfl, fun _ _ => rfl⟩
theorem skF_tr {M' M'' : (Nat → Int → Int)} (h : skF M M') (h' : skF M' M'') : skF M M'' := ⟨fun c h1 h2 h3 h4 => (h'.1 c h1 h2 h3 h4).trans (h.1 c h1 h2 h3 h4), fun i h1 => (h'.2 i h1).trans (h.2 i h1)⟩
theorem sOK_c {M' : (Nat → Int → Int)} (h : sOK B M) (e : ∀ c, 16 ≤ c → c ≤ 21 → M' c = M c) : sOK B M' := sOK_cong h (fun i _ _ => by rw [e 16 (by omega) (by omega)]) (fun c a b => e c (by omega) (by omega))
theorem x_canBegin (hg : xgb B M 2) (hW : gW B) (h : sOK B M) (hr : r < 32) (h1 : gE B (e0 B) (B 2) r → Q 1 M) (h0 : ¬ gE B (e0 B) (B 2) r → Q 0 M) : am_s am_P am_gg (d + 1) 132 [.inr (.inr 17), .inl (r : Int)] M Q := by
  have hb2 := hW.2.2.1
  refine (v_132_17 _ _ _ _).mpr ?_
  rw [xg_rt hg, if_pos (by omega)]
  exact p_bit (h.2.2.2.2.2.1 (B 2) hb2) hr h0 h1
theorem x_canEnd (hg : xgb B M 2) (hW : gW B) (h : sOK B M) (hr : r < 32) (h1 : gE B (e1 B) (B 2) r → Q 1 M) (h0 : ¬ gE B (e1 B) (B 2) r → Q 0 M) : am_s am_P am_gg (d + 1) 133 [.inr (.inr 17), .inl (r : Int)] M Q := by
  have hb2 := hW.2.2.1
  refine (v_133_17 _ _ _ _).mpr ?_
  rw [xg_rt hg, if_pos (by omega)]
  exact p_bit (h.2.2.2.2.2.2.1 (B 2) hb2) hr h0 h1
theorem x_canFollow (h : sOK B M) (ha : a < 16) (hr : r < 32) (h1 : gBes B a r → Q 1 M) (h0 : ¬ gBes B a r → Q 0 M) : am_s am_P am_gg (d + 1) 131 [.inr (.inr 17), .inl (a : Int), .inl (r : Int)] M Q := by
  refine (v_131_17 _ _ _ _ _).mpr ?_
  rw [if_pos (by omega)]
  exact p_bit (h.2.2.2.2.2.2.2.1 a ha) hr h0 h1
theorem x_mayGo (hg : xgb B M 2) (hW : gW B) (hs : sOK B M) (hI : shI x N ρ M) (hl : 1 ≤ l) (hlN : l < N) (hf : f + l ≤ N) (h1 : Q 1 M) (h0 : ¬ goC B x N ρ l f → Q 0 M) : am_s am_P am_gg (d + 2) 141 [.inr (.inr 122), .inl (f : Int), .inl (l : Int)] M Q := by
  obtain ⟨g1, g2, g3, g4, g5⟩ := hI
  have hb2 := hW.2.2.1
  have key : goC B x N ρ l f → lsd B (cutx x f l) (B 2) 0 (N - l) := fun q => wT_lsd hW hb2 gRch_0 (by omega) q.2.2.2.1
  refine (v_141_122 _ _ _ _ _).mpr ?_
  rw [g1, show w32 ((f : Int) + (l : Int)) = ((f + l : Nat) : Int) by rw [w32_i (by omega) (by omega)]; omega]
  refine @p_if _ _ _ _ ?_ ?_
  · intro e
    have e : f = 0 := by omega
    subst e
    rw [if_pos (by omega), (g4 (0 + l) (by omega)).1]
    have hx := (g4 (0 + l) (by omega)).2
    refine x_canBegin hg hW hs (by omega) (fun _ => ?_) (fun q => ?_)
    · rw [if_pos (by omega)]; exact h1
    · rw [if_pos (by omega)]
      refine h0 (fun z => q ?_)
      have := (key z).1
      unfold cutx at this
      rw [if_neg (by omega)] at this
      rcases this with w | w
      · have w : B 2 = 16 + x (0 + l) := w
        omega
      · exact w.2
  · intro e
    have e : 1 ≤ f := by omega
    rw [show w32 ((f : Int) - 1) = ((f - 1 : Nat) : Int) by rw [w32_i (by omega) (by omega)]; omega, (g4 (f - 1) (by omega)).1]
    have hx := (g4 (f - 1) (by omega)).2
    refine @p_if _ _ _ _ ?_ ?_
    · intro e2
      have e2 : f + l = N := by omega
      rw [if_pos (by omega)]
      refine x_canEnd hg hW hs (by omega) (fun _ => ?_) (fun q => ?_)
      · rw [if_pos (by omega)]; exact h1
      · rw [if_pos (by omega)]
        refine h0 (fun z => q ?_)
        have := (key z).2.1
        rw [show 0 + (N - l) - 1 = f - 1 by omega] at this
        unfold cutx at this
        rw [if_pos (by omega)] at this
        rcases this with w | w
        · have w : B 2 = 16 + x (f - 1) := w
          omega
        · exact w.2
    · intro e2
      have e2 : f + l < N := by omega
      rw [if_pos (by omega), if_pos (by omega), (g4 (f + l) (by omega)).1]
      have hx2 := (g4 (f + l) (by omega)).2
      refine x_canFollow hs hx (by omega) (fun _ => ?_) (fun q => ?_)
      · rw [if_pos (by omega)]; exact h1
      · rw [if_pos (by omega)]
        refine h0 (fun z => q ?_)
        have := (key z).2.2 (f - 1) (by omega) (by omega)
        unfold cutx at this
        rw [if_pos (by omega), if_neg (by omega), show f - 1 + 1 + l = f + l by omega] at this
        exact this
theorem x_stays (hg : xgb B M 2) (hW : gW B) (hs : sOK B M) (hI : shI x N ρ M) (hρ : ρ < 16) (hst : st < 2147483647) (hc : cgI B st M) (hl : 1 ≤ l) (hlN : l < N) (hf : f + l ≤ N) (hQ : ∀ (v : Int) M', (v = 1 ∧ goC B x N ρ l f ∨ v = 0 ∧ ¬ goC B x N ρ l f) → (∀ c, c < 108 ∨ 120 < c → c ≠ 124 → M' c = M c) → (∀ j : Nat, j < N - l → M' 124 (j : Int) = (cutx x f l j : Int) ∧ cutx x f l j < 16) → cgI B (st + 1) M' → Q v M') : am_s am_P am_gg (d + 5) 142 [.inr (.inr 122), .inl (f : Int), .inl (l : Int)] M Q := by
  obtain ⟨g1, g2, g3, g4, g5⟩ := hI
  have hb2 := hW.2.2.1
  refine (v_142_122 _ _ _ _ _).mpr ?_
  rw [g1, show w32 ((f : Int) + (l : Int)) = ((f + l : Nat) : Int) by rw [w32_i (by omega) (by omega)]; omega, show w32 (w32 ((N : Int) - (f : Int)) - (l : Int)) = ((N - f - l : Nat) : Int) by rw [show w32 ((N : Int) - (f : Int)) = ((N - f : Nat) : Int) by rw [w32_i (by omega) (by omega)]; omega, w32_i (by omega) (by omega)]; omega, show w32 ((N : Int) - (l : Int)) = ((N - l : Nat) : Int) by rw [w32_i (by omega) (by omega)]; omega]
  rw [if_pos (by omega), if_pos (by omega)]
  have eo : ∀ c, c ≠ 124 → am_cpy (am_cpy M 123 124 0 0 (f : Int)) 123 124 ((f + l : Nat) : Int) (f : Int) ((N - f - l : Nat) : Int) c = M c := fun c hc => by rw [cpy_nc _ _ _ _ _ _ hc, cpy_nc _ _ _ _ _ _ hc]
  have hy : ∀ j : Nat, j < N - l → am_cpy (am_cpy M 123 124 0 0 (f : Int)) 123 124 ((f + l : Nat) : Int) (f : Int) ((N - f - l : Nat) : Int) 124 (j : Int) = (cutx x f l j : Int) ∧ cutx x f l j < 16 := by
    intro j hj
    rw [cpy_if]
    unfold cutx
    by_cases q : j < f
    · rw [if_neg (by omega), cpy_if, if_pos (by omega), if_pos q, show (0 : Int) + ((j : Int) - 0) = (j : Int) by omega]; exact g4 j (by omega)
    · rw [if_pos (by omega), if_neg q, cpy_nc _ _ _ _ _ _ (by decide), show ((f + l : Nat) : Int) + ((j : Int) - (f : Int)) = ((j + l : Nat) : Int) by omega]; exact g4 (j + l) (by omega)
  generalize am_cpy (am_cpy M 123 124 0 0 (f : Int)) 123 124 ((f + l : Nat) : Int) (f : Int) ((N - f - l : Nat) : Int) = M1 at eo hy ⊢
  have hgM1 : xgb B M1 2 := xgb_eq hg (fun c a b => eo c (by omega))
  have hu1 : bs (M1 16 5) (gUsd B) := by rw [eo 16 (by decide)]; exact hs.2.2.2.1
  refine x_holdC_125 (y := cutx x f l) hW hgM1 hu1 (by omega) (by omega) (fun j hj => by rw [Int.sub_zero]; exact hy j hj) hst (cgI_M hc (by rw [eo 2 (by decide)]) (fun c a b => eo c (by omega))) (fun M2 hF2 hC2 => ?_)
  have hg2 : xgb B M2 2 := xgb_eq hgM1 (fun c a b => hF2 c (by omega))
  have hfr : ∀ M3, ctF M2 M3 → (∀ c, c < 108 ∨ 120 < c → c ≠ 124 → M3 c = M c) := fun M3 h3 c h1 h2 => by rw [h3 c h1, hF2 c h1]; exact eo c h2
  have h124 : ∀ M3, ctF M2 M3 → (∀ j : Nat, j < N - l → M3 124 (j : Int) = (cutx x f l j : Int) ∧ cutx x f l j < 16) := fun M3 h3 j hj => by rw [h3 124 (by omega), hF2 124 (by omega)]; exact hy j hj
  refine x_isSentence hW hg2 hC2.2.2.1 (fun hp => ?_) (fun hz => ?_)
  · rw [if_neg (by decide)]
    refine x_buildC hW hg2 (by rw [hF2 16 (by omega)]; exact hu1) hp hC2 (fun M3 hF3 hC3 hT3 => ?_)
    have e4 : M3 121 4 = (ρ : Int) := by rw [hF3 121 (by omega), hF2 121 (by omega), eo 121 (by decide)]; exact g5
    have hnd := trO_nd hW (by omega) hT3
    rw [e4]
    refine x_ownHas (by omega) hnd.2.2.1 (fun q => ?_) (fun q => ?_)
    · rw [if_pos (by omega)]
      exact hQ 1 M3 (Or.inl ⟨rfl, hl, hlN, hf, hp, q⟩) (hfr M3 hF3) (h124 M3 hF3) (ccI_g hC3)
    · rw [if_pos (by omega)]
      exact hQ 0 M3 (Or.inr ⟨rfl, fun z => q z.2.2.2.2⟩) (hfr M3 hF3) (h124 M3 hF3) (ccI_g hC3)
  · rw [if_pos rfl]
    exact hQ 0 M2 (Or.inr ⟨rfl, fun z => by have := z.2.2.2.1; omega⟩) (hfr M2 ctF_rf) (h124 M2 ctF_rf) (ccI_g hC2)
end Sb5
