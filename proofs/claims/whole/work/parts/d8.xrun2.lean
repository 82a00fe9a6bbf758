/-! the class makes a text shorter, and its chart stays of no later grammar -/
def cgJ (B : Nat → Nat) (st : Int) (M : (Nat → Int → Int)) : Prop := M 108 2 ≤ M 2 0 ∧ cgI B st M
section Sd8
variable {B x y o : Nat → Nat} {a n r i j s k c e f d m N l ρ : Nat} {T : Nat → Nat × Nat} {M M0 : (Nat → Int → Int)} {Q : Int → (Nat → Int → Int) → Prop} {st : Int}
theorem ccJ_g (h : ccI B y n st M) : cgJ B st M := ⟨by rw [h.2.2.1.1]; exact Int.le_refl _, ccI_g h⟩
theorem cgJ_st {st' : Int} (h : cgJ B st M) (hs : st ≤ st') : cgJ B st' M := ⟨h.1, cgI_st h.2 hs⟩
theorem cgJ_M {M' : (Nat → Int → Int)} (h : cgJ B st M) (e2 : M' 2 0 = M 2 0) (e : ∀ c, 108 ≤ c → c ≤ 118 → M' c = M c) : cgJ B st M' := ⟨by rw [e2, e 108 (by omega) (by omega)]; exact h.1, cgI_M h.2 e2 e⟩
theorem x_staysJ (hg : xgb B M 2) (hW : gW B) (hs : sOK B M) (hI : shI x N ρ M) (hρ : ρ < 16) (hst : st < 2147483647) (hc : cgJ B st M) (hl : 1 ≤ l) (hlN : l < N) (hf : f + l ≤ N) (hQ : ∀ (v : Int) M', (v = 1 ∧ goC B x N ρ l f ∨ v = 0 ∧ ¬ goC B x N ρ l f) → (∀ c, c < 108 ∨ 120 < c → c ≠ 124 → M' c = M c) → (∀ j : Nat, j < N - l → M' 124 (j : Int) = (cutx x f l j : Int) ∧ cutx x f l j < 16) → cgJ B (st + 1) M' → Q v M') : am_s am_P am_gg (d + 5) 142 [.inr (.inr 122), .inl (f : Int), .inl (l : Int)] M Q := by
  obtain ⟨g1, g2, g3, g4, g5⟩ := hI
  have hb2 := hW.2.2.1
  refine (v_142_122 _ _ _ _ _).mpr ?_
  rw [g1, show w32 ((f : Int) + (l : Int)) = ((f + l : Nat) : Int) by rw [w32_i (by omega) (by omega)]; omega, show w32 (w32 ((N : Int) - (f : Int)) - (l : Int)) = ((N - f - l : Nat) : Int) by rw [show w32 ((N : Int) - (f : Int)) = ((N - f : Nat) : Int) by rw [w32_i (by omega) (by omega)]; omega, w32_i (by omega) (by omega)]; omega, show w32 ((N : Int) - (l : Int)) = ((N - l : Nat) : Int) by rw [w32_i (by omega) (by omega)]; omega]
  rw [if_pos (by omega), if_pos (by omega)]
  have eo : ∀ c, c ≠ 124 → am_cpy (am_cpy M 123 124 0 0 (f : Int)) 123 124 ((f + l : Nat) : Int) (f : Int) ((N - f - l : Nat) : Int) c = M c := fun c hc => by rw [cpy_nc _ _ _ _ _ _ hc, cpy_nc _ _ _ _ _ _ hc]
  have hy : ∀ j : Nat, j < N - l → am_cpy (am_cpy M 123 124 0 0 (f : Int)) 123 124 ((f + l : Nat) : Int) (f : Int) ((N - f - l : Nat) : Int) 124 (j : Int) = (cutx x f l j : Int) ∧ cutx x f l j < 16 := by
    intro j hj
    rw [cpy_if]
    unfold cutx
    by_cases q : j < f
    · rw [if_neg (by omega), cpy_if, if_pos (by omega), if_pos q, show (0 : Int) + ((j : Int) - 0) = (j : Int) by omega]; exact g4 j (by omega)
    · rw [if_pos (by omega), if_neg q, cpy_nc _ _ _ _ _ _ (by decide), show ((f + l : Nat) : Int) + ((j : Int) - (f : Int)) = ((j + l : Nat) : Int) by omega]; exact g4 (j + l) (by omega)
  generalize am_cpy (am_cpy M 123 124 0 0 (f : Int)) 123 124 ((f + l : Nat) : Int) (f : Int) ((N - f - l : Nat) : Int) = M1 at eo hy ⊢
  have hgM1 : xgb B M1 2 := xgb_eq hg (fun c a b => eo c (by omega))
  have hu1 : bs (M1 16 5) (gUsd B) := by rw [eo 16 (by decide)]; exact hs.2.2.2.1
  refine x_holdC_125 (y := cutx x f l) hW hgM1 hu1 (by omega) (by omega) (fun j hj => by rw [Int.sub_zero]; exact hy j hj) hst (cgJ_M hc (by rw [eo 2 (by decide)]) (fun c a b => eo c (by omega))).2 (fun M2 hF2 hC2 => ?_)
  have hg2 : xgb B M2 2 := xgb_eq hgM1 (fun c a b => hF2 c (by omega))
  have hfr : ∀ M3, ctF M2 M3 → (∀ c, c < 108 ∨ 120 < c → c ≠ 124 → M3 c = M c) := fun M3 h3 c h1 h2 => by rw [h3 c h1, hF2 c h1]; exact eo c h2
  have h124 : ∀ M3, ctF M2 M3 → (∀ j : Nat, j < N - l → M3 124 (j : Int) = (cutx x f l j : Int) ∧ cutx x f l j < 16) := fun M3 h3 j hj => by rw [h3 124 (by omega), hF2 124 (by omega)]; exact hy j hj
  refine x_isSentence hW hg2 hC2.2.2.1 (fun hp => ?_) (fun hz => ?_)
  · rw [if_neg (by decide)]
    refine x_buildC hW hg2 (by rw [hF2 16 (by omega)]; exact hu1) hp hC2 (fun M3 hF3 hC3 hT3 => ?_)
    have e4 : M3 121 4 = (ρ : Int) := by rw [hF3 121 (by omega), hF2 121 (by omega), eo 121 (by decide)]; exact g5
    have hnd := trO_nd hW (by omega) hT3
    rw [e4]
    refine x_ownHas (by omega) hnd.2.2.1 (fun q => ?_) (fun q => ?_)
    · rw [if_pos (by omega)]
      exact hQ 1 M3 (Or.inl ⟨rfl, hl, hlN, hf, hp, q⟩) (hfr M3 hF3) (h124 M3 hF3) (ccJ_g hC3)
    · rw [if_pos (by omega)]
      exact hQ 0 M3 (Or.inr ⟨rfl, fun z => q z.2.2.2.2⟩) (hfr M3 hF3) (h124 M3 hF3) (ccJ_g hC3)
  · rw [if_pos rfl]
    exact hQ 0 M2 (Or.inr ⟨rfl, fun z => by have := z.2.2.2.1; omega⟩) (hfr M2 ctF_rf) (h124 M2 ctF_rf) (ccJ_g hC2)
theorem x_cutOnceJ (hg : xgb B M0 2) (hW : gW B) (hs : sOK B M0) (hI0 : shI x N ρ M0) (hρ : ρ < 16) (hst : st + 300 < 2147483647) (hc0 : cgJ B st M0) (hQ : ∀ (v : Int) M', (v = 0 ∧ noC B x N ρ ∧ shI x N ρ M' ∨ v = 1 ∧ ∃ l f, fstC B x N ρ l f ∧ shI (cutx x f l) (N - l) ρ M') → skF M0 M' → cgJ B (st + 300) M' → Q v M') : am_s am_P am_gg (d + 6) 140 [.inr (.inr 122)] M0 Q := by
  have hN1 := hI0.2.1
  have hN16 := hI0.2.2.1
  refine (v_140_122 _ _ _).mpr ?_
  rw [hI0.1, show w32 ((N : Int) - 1) = ((N - 1 : Nat) : Int) by rw [w32_i (by omega) (by omega)]; omega]
  have main : ∀ l (M : (Nat → Int → Int)), l < N → (∀ l' f', l < l' → ¬ goC B x N ρ l' f') → shI x N ρ M → skF M0 M → cgJ B (st + ((17 * (N - 1 - l) : Nat) : Int)) M → am_x am_P am_gg (d + 5) am_k140 4 Q 7 [some (.inr (.inr 122)), some (.inl ((l : Int))), none] [] M 0 0 := by
    intro l
    induction l with
    | zero =>
      intro M _ hno hI hF hc
      refine (h_140_7_122 _ _ _ _).mpr ?_
      rw [if_neg (by omega)]
      exact hQ 0 M (Or.inl ⟨rfl, fun l f z => hno l f (by have := z.1; omega) z, hI⟩) hF (cgJ_st hc (by omega))
    | succ l ih =>
      intro M hl hno hI hF hc
      refine (h_140_7_122 _ _ _ _).mpr ?_
      rw [if_pos (by omega)]
      refine p_for (S := (Nat → Int → Int)) (X := fun f M => am_x am_P am_gg (d + 5) am_k140 4 Q 13 [some (.inr (.inr 122)), some (.inl (((l + 1 : Nat) : Int))), some (.inl (f))] [] M 0 0) (N - (l + 1) + 1) (fun f M => (∀ f', f' < f → ¬ goC B x N ρ (l + 1) f') ∧ shI x N ρ M ∧ skF M0 M ∧ cgJ B (st + ((17 * (N - 1 - (l + 1)) + f : Nat) : Int)) M) ?_ ?_ 0 M (by omega) ⟨fun f' h => absurd h (Nat.not_lt_zero f'), hI, hF, hc⟩
      · rintro M1 ⟨hno1, hI1, hF1, hc1⟩
        refine (h_140_13_122 _ _ _ _ _).mpr ?_
        rw [hI1.1, show w32 (((N - (l + 1) + 1 : Nat) : Int) + ((l + 1 : Nat) : Int)) = ((N + 1 : Nat) : Int) by rw [w32_i (by omega) (by omega)]; omega, if_pos (by omega), show w32 (((l + 1 : Nat) : Int) + (-1)) = (l : Int) by rw [w32_i (by omega) (by omega)]; omega]
        refine am_x_le [some (.inr (.inr 122)), some (.inl ((l : Int))), none] (am_lb_le _ _ ⟨rfl, rfl, trivial⟩) ?_
        refine ih M1 (by omega) (fun l' f' h z => ?_) hI1 hF1 (cgJ_st hc1 (by omega))
        by_cases q : l' = l + 1
        · subst q
          exact hno1 f' (by have := z.2.2.1; omega) z
        · exact hno l' f' (by omega) z
      · rintro f M1 hf ⟨hno1, hI1, hF1, hc1⟩ go
        have hg1 : xgb B M1 2 := xgb_eq hg (fun c a b => hF1.1 c (by omega) (by omega) (by omega) (by omega))
        have hs1 : sOK B M1 := sOK_c hs (fun c a b => hF1.1 c (by omega) (by omega) (by omega) (by omega))
        refine (h_140_13_122 _ _ _ _ _).mpr ?_
        rw [hI1.1, show w32 ((f : Int) + ((l + 1 : Nat) : Int)) = ((f + (l + 1) : Nat) : Int) by rw [w32_i (by omega) (by omega)]; omega, if_neg (by omega), w32_s (by omega)]
        have next : ∀ M2, ¬ goC B x N ρ (l + 1) f → shI x N ρ M2 → skF M0 M2 → cgJ B (st + ((17 * (N - 1 - (l + 1)) + f : Nat) : Int) + 1) M2 → am_x am_P am_gg (d + 5) am_k140 4 Q 13 [some (.inr (.inr 122)), some (.inl (((l + 1 : Nat) : Int))), some (.inl (((f + 1 : Nat) : Int)))] [] M2 0 0 := by
          intro M2 q1 q2 q3 q4
          refine go M2 ⟨fun f' h z => ?_, q2, q3, cgJ_st q4 (by omega)⟩
          by_cases w : f' = f
          · subst w; exact q1 z
          · exact hno1 f' (by omega) z
        refine x_mayGo (l := l + 1) (f := f) hg1 hW hs1 hI1 (by omega) hl (by omega) ?_ (fun q => ?_)
        · rw [if_neg (by decide)]
          refine x_staysJ (st := st + ((17 * (N - 1 - (l + 1)) + f : Nat) : Int)) hg1 hW hs1 hI1 hρ (by omega) hc1 (by omega) hl (by omega) (fun v M2 hv hF2 h124 hc2 => ?_)
          have hF2' : skF M1 M2 := ⟨fun c q1 q2 q3 q4 => hF2 c q1 q4, fun i _ => by rw [hF2 121 (by omega) (by decide)]⟩
          have e121 : M2 121 = M1 121 := hF2 121 (by omega) (by decide)
          rcases hv with ⟨rfl, hv⟩ | ⟨rfl, hv⟩
          · rw [if_neg (by decide), e121, hI1.1, show w32 ((N : Int) - ((l + 1 : Nat) : Int)) = ((N - (l + 1) : Nat) : Int) by rw [w32_i (by omega) (by omega)]; omega, if_pos (by omega)]
            refine hQ 1 _ (Or.inr ⟨rfl, l + 1, f, ⟨hv, fun l' f' h z => ?_⟩, ?_, by omega, by omega, fun j hj => ?_, ?_⟩) (skF_tr hF1 (skF_tr hF2' ⟨fun c q1 q2 q3 q4 => by rw [cpy_nc _ _ _ _ _ _ q3, up_nc _ _ _ _ q2], fun i q1 => by rw [cpy_nc _ _ _ _ _ _ (by decide), up_ni _ _ _ _ q1]⟩)) (cgJ_st (cgJ_M hc2 (by rw [cpy_nc _ _ _ _ _ _ (by decide), up_nc _ _ _ _ (by decide)]) (fun c q1 q2 => by rw [cpy_nc _ _ _ _ _ _ (by omega), up_nc _ _ _ _ (by omega)])) (by omega))
            · rcases h with h | ⟨h1, h2⟩
              · exact hno l' f' h z
              · subst h1; exact hno1 f' h2 z
            · rw [cpy_nc _ _ _ _ _ _ (by decide), up_eq]
            · rw [cpy_if, if_pos (by omega), up_nc _ _ _ _ (by decide), show (0 : Int) + ((j : Int) - 0) = (j : Int) by omega]; exact h124 j hj
            · rw [cpy_nc _ _ _ _ _ _ (by decide), up_ni _ _ _ _ (by decide), e121]; exact hI1.2.2.2.2
          · rw [if_pos rfl]
            exact next M2 hv (shI_sk hI1 (by rw [e121]) (by rw [e121]) (hF2 123 (by omega) (by decide))) (skF_tr hF1 hF2') hc2
        · rw [if_pos rfl]
          exact next M1 q hI1 hF1 (cgJ_st hc1 (by omega))
  refine am_x_le [some (.inr (.inr 122)), some (.inl (((N - 1 : Nat) : Int))), none] (am_lb_le _ _ ⟨rfl, rfl, trivial⟩) ?_
  refine main (N - 1) M0 (by omega) (fun l' f' h z => by have := z.2.1; omega) hI0 skF_rf (cgJ_st hc0 (by omega))
theorem x_runLoopJ (hg : xgb B M0 2) (hW : gW B) (hs : sOK B M0) (hρ : ρ < 16) (hst : st + 6000 < 2147483647) (hQ : ∀ M' t y K, shR B ρ t x N y K → shI y K ρ M' → skF M0 M' → cgJ B (st + 6000) M' → Q 0 M') : ∀ b (M : (Nat → Int → Int)) (x' : Nat → Nat) (N' : Nat), b ≤ 15 → N' ≤ b + 1 → (∀ t y K, shR B ρ t x' N' y K → ∃ t', shR B ρ t' x N y K) → shI x' N' ρ M → skF M0 M → cgJ B (st + ((300 * (15 - b) : Nat) : Int)) M → am_x am_P am_gg (d + 6) am_k139 0 Q 83 [some (.inr (.inr 122)), none, none, none, some (.inl (1)), some (.inl (((15 - b : Nat) : Int)))] [] M 0 0 := by
  intro b
  induction b with
  | zero =>
    intro M x' N' hb hN' hx hI hF hc
    have hg1 : xgb B M 2 := xgb_eq hg (fun c a b => hF.1 c (by omega) (by omega) (by omega) (by omega))
    have hs1 : sOK B M := sOK_c hs (fun c a b => hF.1 c (by omega) (by omega) (by omega) (by omega))
    refine (h_139_83_122 _ _ _ _ _).mpr ?_
    rw [if_pos (by omega), if_neg (by decide)]
    refine x_cutOnceJ (st := st + ((300 * (15 - 0) : Nat) : Int)) hg1 hW hs1 hI hρ (by omega) hc (fun v M1 hv hF1 hc1 => ?_)
    rcases hv with ⟨rfl, h1, h2⟩ | ⟨rfl, l, f, h1, h2⟩
    · refine (h_139_83_122 _ _ _ _ _).mpr ?_
      rw [w32_i (by omega) (by omega), if_neg (by omega)]
      obtain ⟨t', ht⟩ := hx 0 x' N' ⟨rfl, rfl, h1⟩
      exact hQ M1 t' x' N' ht h2 (skF_tr hF hF1) (cgJ_st hc1 (by omega))
    · have := h1.1.1
      have := h1.1.2.1
      omega
  | succ b ih =>
    intro M x' N' hb hN' hx hI hF hc
    have hg1 : xgb B M 2 := xgb_eq hg (fun c a b => hF.1 c (by omega) (by omega) (by omega) (by omega))
    have hs1 : sOK B M := sOK_c hs (fun c a b => hF.1 c (by omega) (by omega) (by omega) (by omega))
    refine (h_139_83_122 _ _ _ _ _).mpr ?_
    rw [if_pos (by omega), if_neg (by decide)]
    refine x_cutOnceJ (st := st + ((300 * (15 - (b + 1)) : Nat) : Int)) hg1 hW hs1 hI hρ (by omega) hc (fun v M1 hv hF1 hc1 => ?_)
    rw [show w32 (((15 - (b + 1) : Nat) : Int) + 1) = ((15 - b : Nat) : Int) by rw [w32_i (by omega) (by omega)]; omega]
    rcases hv with ⟨rfl, h1, h2⟩ | ⟨rfl, l, f, h1, h2⟩
    · refine (h_139_83_122 _ _ _ _ _).mpr ?_
      rw [if_pos (by omega), if_pos rfl]
      obtain ⟨t', ht⟩ := hx 0 x' N' ⟨rfl, rfl, h1⟩
      exact hQ M1 t' x' N' ht h2 (skF_tr hF hF1) (cgJ_st hc1 (by omega))
    · have h11 := h1.1.1
      have h12 := h1.1.2.1
      refine ih M1 (cutx x' f l) (N' - l) (by omega) (by omega) (fun t y K q => hx (t + 1) y K ⟨l, f, h1, q⟩) h2 (skF_tr hF hF1) (cgJ_st hc1 (by omega))
theorem x_runJ {tp : Nat → Nat} (hg : xgb B M 2) (hW : gW B) (hρ : ρ < 16) (hn1 : 1 ≤ n) (hn : n ≤ 16) (htp : ∀ j : Nat, j < n → M 1 (j : Int) = (tp j : Int)) (hlt : ∀ j : Nat, j < n → 97 ≤ tp j ∧ tp j ≤ 112) (hst : st + 6000 < 2147483647) (hc : cgJ B st M) (hk : M 121 3 = M 2 0 → skO B M) (hs : dnP M n (ρ : Int) ∨ sOK B M ∧ shw B (cn tp n) n ρ) (hQ : ∀ M' t K y, shR B ρ t (cn tp n) n y K → M' 121 8 = (K : Int) → K ≤ 16 → (∀ j : Nat, j < K → M' 123 (j : Int) = (y j : Int)) → M' 121 3 = M' 2 0 → skO B M' → ruF M M' → cgJ B (st + 6000) M' → Q 0 M') : am_s am_P am_gg (d + 7) 139 [.inr (.inr 122), .inr (.inr 2), .inl (n : Int), .inl (ρ : Int)] M Q := by
  refine (v_139_122_2 _ _ _ _ _).mpr ?_
  refine x_isDone hn (fun hd => ?_) (fun hd => ?_)
  · rw [if_neg (by decide)]
    obtain ⟨ρ', t, K, y, e, q1, q2, q3, q4, q5⟩ := dn_res htp hd (hk hd.1)
    have e : ρ' = ρ := by omega
    subst e
    exact hQ M t K y q2 q3 q4 q5 hd.1 (hk hd.1) (fun _ _ => rfl) (cgJ_st hc (by omega))
  · rw [if_pos rfl]
    obtain ⟨hs, hsh⟩ : sOK B M ∧ shw B (cn tp n) n ρ := by
      rcases hs with z | z
      · exact absurd z hd
      · exact z
    refine am_x_le [some (.inr (.inr 122)), some (.inr (.inr 2)), some (.inl ((n : Int))), none, some (.inl (((0 : Nat) : Int))), none] (am_lb_le _ _ ⟨rfl, rfl, rfl, rfl, trivial⟩) ?_
    refine p_for (S := (Nat → Int → Int)) (X := fun b M => am_x am_P am_gg (d + 6) am_k139 0 Q 40 [some (.inr (.inr 122)), some (.inr (.inr 2)), some (.inl ((n : Int))), none, some (.inl (b)), none] [] M 0 0) n (fun b M1 => (∀ c, c ≠ 121 → c ≠ 122 → c ≠ 123 → M1 c = M c) ∧ M1 121 3 = M 2 0 ∧ M1 121 4 = (ρ : Int) ∧ M1 121 6 = (n : Int) ∧ M1 121 8 = (n : Int) ∧ ∀ j : Nat, j < b → M1 122 (j : Int) = (tp j : Int) ∧ M1 123 (j : Int) = ((tp j - 97 : Nat) : Int)) ?_ ?_ 0 _ (by omega) ⟨fun c h1 h2 h3 => by rw [up_nc _ _ _ _ h1, up_nc _ _ _ _ h1, up_nc _ _ _ _ h1, up_nc _ _ _ _ h1], by rw [up_ni _ _ _ _ (by decide), up_ni _ _ _ _ (by decide), up_ni _ _ _ _ (by decide), up_eq], by rw [up_ni _ _ _ _ (by decide), up_ni _ _ _ _ (by decide), up_eq], by rw [up_ni _ _ _ _ (by decide), up_eq], up_eq _ _ _ _, fun j h => absurd h (Nat.not_lt_zero j)⟩
    · rintro M1 ⟨h1, h2, h3, h4, h5, h6⟩
      refine (h_139_40_122_2 _ _ _ _ _).mpr ?_
      rw [if_neg (by omega)]
      refine am_x_le [some (.inr (.inr 122)), none, none, none, some (.inl (1)), some (.inl (((15 - 15 : Nat) : Int)))] (am_lb_le _ _ ⟨rfl, rfl, rfl, trivial⟩) ?_
      have hg1 : xgb B M1 2 := xgb_eq hg (fun c a b => h1 c (by omega) (by omega) (by omega))
      have hs1 : sOK B M1 := sOK_c hs (fun c a b => h1 c (by omega) (by omega) (by omega))
      refine x_runLoopJ (M0 := M1) (x := cn tp n) (N := n) (st := st) hg1 hW hs1 hρ hst (fun M2 t y K q1 q2 q3 q4 => ?_) 15 M1 (cn tp n) n (by omega) (by omega) (fun t y K q => ⟨t, q⟩) ⟨h5, hn1, hn, fun j hj => ?_, h3⟩ skF_rf (cgJ_st (cgJ_M hc (by rw [h1 2 (by decide) (by decide) (by decide)]) (fun c a b => h1 c (by omega) (by omega) (by omega))) (by omega))
      · have e2 : M2 2 = M 2 := by rw [q3.1 2 (by omega) (by decide) (by decide) (by decide), h1 2 (by decide) (by decide) (by decide)]
        have e122 : M2 122 = M1 122 := q3.1 122 (by omega) (by decide) (by decide) (by decide)
        have e3 : M2 121 3 = M2 2 0 := by rw [q3.2 3 (by decide), h2, e2]
        refine hQ M2 t K y q1 q2.1 q2.2.2.1 (fun j hj => (q2.2.2.2.1 j hj).1) e3 ⟨n, K, ρ, t, tp, y, q2.2.2.2.2, by rw [q3.2 6 (by decide)]; exact h4, hn, fun j hj => by rw [e122]; exact (h6 j hj).1, hsh, q1, q2.1, q2.2.2.1, fun j hj => (q2.2.2.2.1 j hj).1⟩ (fun c hc' => ?_) q4
        rw [q3.1 c (by omega) (by omega) (by omega) (by omega)]; exact h1 c (by omega) (by omega) (by omega)
      · unfold cn
        rw [if_pos hj]
        have := hlt j hj
        exact ⟨(h6 j hj).2, by omega⟩
    · rintro b M1 hb ⟨h1, h2, h3, h4, h5, h6⟩ go
      refine (h_139_40_122_2 _ _ _ _ _).mpr ?_
      have := hlt b hb
      rw [if_pos (by omega), if_pos (by omega), if_pos (by omega), if_pos (by omega), if_pos (by omega), h1 1 (by decide) (by decide) (by decide), htp b hb, w32_s (by omega), show w32 ((tp b : Int) - 97) = ((tp b - 97 : Nat) : Int) by rw [w32_i (by omega) (by omega)]; omega]
      refine go _ ⟨fun c q1 q2 q3 => by rw [up_nc _ _ _ _ q3, up_nc _ _ _ _ q2]; exact h1 c q1 q2 q3, by rw [up_nc _ _ _ _ (by decide), up_nc _ _ _ _ (by decide)]; exact h2, by rw [up_nc _ _ _ _ (by decide), up_nc _ _ _ _ (by decide)]; exact h3, by rw [up_nc _ _ _ _ (by decide), up_nc _ _ _ _ (by decide)]; exact h4, by rw [up_nc _ _ _ _ (by decide), up_nc _ _ _ _ (by decide)]; exact h5, fun j hj => ?_⟩
      rw [up_nc _ _ _ _ (show (122 : Nat) ≠ 123 by decide), up_ci, up_ci, up_nc _ _ _ _ (show (123 : Nat) ≠ 122 by decide)]
      by_cases q : j = b
      · rw [if_pos (by omega), if_pos (by omega), q]; exact ⟨rfl, rfl⟩
      · rw [if_neg (by omega), if_neg (by omega)]; exact h6 j (by omega)
end Sd8
