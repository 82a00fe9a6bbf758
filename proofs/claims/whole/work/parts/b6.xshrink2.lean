/-! the class makes a text shorter -/
/-- the letters that a text's first bytes are -/
def cn (g : Nat → Nat) (n : Nat) : Nat → Nat := fun j => if j < n then g j - 97 else 0
/-- what is kept of the latest shrinking -/
def skO (B : Nat → Nat) (M : (Nat → Int → Int)) : Prop := ∃ (n K ρ t : Nat) (g y : Nat → Nat), M 121 4 = (ρ : Int) ∧ M 121 6 = (n : Int) ∧ n ≤ 16 ∧ (∀ j : Nat, j < n → M 122 (j : Int) = (g j : Int)) ∧ shw B (cn g n) n ρ ∧ shR B ρ t (cn g n) n y K ∧ M 121 8 = (K : Int) ∧ K ≤ 16 ∧ ∀ j : Nat, j < K → M 123 (j : Int) = (y j : Int)
section Sb6
variable {B x y o : Nat → Nat} {a n r i j s k c e f d m N l ρ : Nat} {T : Nat → Nat × Nat} {M M0 : (Nat → Int → Int)} {Q : Int → (Nat → Int → Int) → Prop} {st : Int}
theorem shI_sk {M' : (Nat → Int → Int)} (h : shI x N ρ M) (e8 : M' 121 8 = M 121 8) (e4 : M' 121 4 = M 121 4) (e : M' 123 = M 123) : shI x N ρ M' := by
  unfold shI; rw [e8, e4, e]; exact h
theorem x_cutOnce (hg : xgb B M0 2) (hW : gW B) (hs : sOK B M0) (hI0 : shI x N ρ M0) (hρ : ρ < 16) (hst : st + 300 < 2147483647) (hc0 : cgI B st M0) (hQ : ∀ (v : Int) M', (v = 0 ∧ noC B x N ρ ∧ shI x N ρ M' ∨ v = 1 ∧ ∃ l f, fstC B x N ρ l f ∧ shI (cutx x f l) (N - l) ρ M') → skF M0 M' → cgI B (st + 300) M' → Q v M') : am_s am_P am_gg (d + 6) 140 [.inr (.inr 122)] M0 Q := by
  have hN1 := hI0.2.1
  have hN16 := hI0.2.2.1
  refine (v_140_122 _ _ _).mpr ?_
  rw [hI0.1, show w32 ((N : Int) - 1) = ((N - 1 : Nat) : Int) by rw [w32_i (by omega) (by omega)]; omega]
  have main : ∀ l (M : (Nat → Int → Int)), l < N → (∀ l' f', l < l' → ¬ goC B x N ρ l' f') → shI x N ρ M → skF M0 M → cgI B (st + ((17 * (N - 1 - l) : Nat) : Int)) M → am_x am_P am_gg (d + 5) am_k140 4 Q 7 [some (.inr (.inr 122)), some (.inl ((l : Int))), none] [] M 0 0 := by
    intro l
    induction l with
    | zero =>
      intro M _ hno hI hF hc
      refine (h_140_7_122 _ _ _ _).mpr ?_
      rw [if_neg (by omega)]
      exact hQ 0 M (Or.inl ⟨rfl, fun l f z => hno l f (by have := z.1; omega) z, hI⟩) hF (cgI_st hc (by omega))
    | succ l ih =>
      intro M hl hno hI hF hc
      refine (h_140_7_122 _ _ _ _).mpr ?_
      rw [if_pos (by omega)]
      refine p_for (S := (Nat → Int → Int)) (X := fun f M => am_x am_P am_gg (d + 5) am_k140 4 Q 13 [some (.inr (.inr 122)), some (.inl (((l + 1 : Nat) : Int))), some (.inl (f))] [] M 0 0) (N - (l + 1) + 1) (fun f M => (∀ f', f' < f → ¬ goC B x N ρ (l + 1) f') ∧ shI x N ρ M ∧ skF M0 M ∧ cgI B (st + ((17 * (N - 1 - (l + 1)) + f : Nat) : Int)) M) ?_ ?_ 0 M (by omega) ⟨fun f' h => absurd h (Nat.not_lt_zero f'), hI, hF, hc⟩
      · rintro M1 ⟨hno1, hI1, hF1, hc1⟩
        refine (h_140_13_122 _ _ _ _ _).mpr ?_
        rw [hI1.1, show w32 (((N - (l + 1) + 1 : Nat) : Int) + ((l + 1 : Nat) : Int)) = ((N + 1 : Nat) : Int) by rw [w32_i (by omega) (by omega)]; omega, if_pos (by omega), show w32 (((l + 1 : Nat) : Int) + (-1)) = (l : Int) by rw [w32_i (by omega) (by omega)]; omega]
        refine am_x_le [some (.inr (.inr 122)), some (.inl ((l : Int))), none] (am_lb_le _ _ ⟨rfl, rfl, trivial⟩) ?_
        refine ih M1 (by omega) (fun l' f' h z => ?_) hI1 hF1 (cgI_st hc1 (by omega))
        by_cases q : l' = l + 1
        · subst q
          exact hno1 f' (by have := z.2.2.1; omega) z
        · exact hno l' f' (by omega) z
      · rintro f M1 hf ⟨hno1, hI1, hF1, hc1⟩ go
        have hg1 : xgb B M1 2 := xgb_eq hg (fun c a b => hF1.1 c (by omega) (by omega) (by omega) (by omega))
        have hs1 : sOK B M1 := sOK_c hs (fun c a b => hF1.1 c (by omega) (by omega) (by omega) (by omega))
        refine (h_140_13_122 _ _ _ _ _).mpr ?_
        rw [hI1.1, show w32 ((f : Int) + ((l + 1 : Nat) : Int)) = ((f + (l + 1) : Nat) : Int) by rw [w32_i (by omega) (by omega)]; omega, if_neg (by omega), w32_s (by omega)]
        have next : ∀ M2, ¬ goC B x N ρ (l + 1) f → shI x N ρ M2 → skF M0 M2 → cgI B (st + ((17 * (N - 1 - (l + 1)) + f : Nat) : Int) + 1) M2 → am_x am_P am_gg (d + 5) am_k140 4 Q 13 [some (.inr (.inr 122)), some (.inl (((l + 1 : Nat) : Int))), some (.inl (((f + 1 : Nat) : Int)))] [] M2 0 0 := by
          intro M2 q1 q2 q3 q4
          refine go M2 ⟨fun f' h z => ?_, q2, q3, cgI_st q4 (by omega)⟩
          by_cases w : f' = f
          · subst w; exact q1 z
          · exact hno1 f' (by omega) z
        refine x_mayGo (l := l + 1) (f := f) hg1 hW hs1 hI1 (by omega) hl (by omega) ?_ (fun q => ?_)
        · rw [if_neg (by decide)]
          refine x_stays (st := st + ((17 * (N - 1 - (l + 1)) + f : Nat) : Int)) hg1 hW hs1 hI1 hρ (by omega) hc1 (by omega) hl (by omega) (fun v M2 hv hF2 h124 hc2 => ?_)
          have hF2' : skF M1 M2 := ⟨fun c q1 q2 q3 q4 => hF2 c q1 q4, fun i _ => by rw [hF2 121 (by omega) (by decide)]⟩
          have e121 : M2 121 = M1 121 := hF2 121 (by omega) (by decide)
          rcases hv with ⟨rfl, hv⟩ | ⟨rfl, hv⟩
          · rw [if_neg (by decide), e121, hI1.1, show w32 ((N : Int) - ((l + 1 : Nat) : Int)) = ((N - (l + 1) : Nat) : Int) by rw [w32_i (by omega) (by omega)]; omega, if_pos (by omega)]
            refine hQ 1 _ (Or.inr ⟨rfl, l + 1, f, ⟨hv, fun l' f' h z => ?_⟩, ?_, by omega, by omega, fun j hj => ?_, ?_⟩) (skF_tr hF1 (skF_tr hF2' ⟨fun c q1 q2 q3 q4 => by rw [cpy_nc _ _ _ _ _ _ q3, up_nc _ _ _ _ q2], fun i q1 => by rw [cpy_nc _ _ _ _ _ _ (by decide), up_ni _ _ _ _ q1]⟩)) (cgI_st (cgI_M hc2 (by rw [cpy_nc _ _ _ _ _ _ (by decide), up_nc _ _ _ _ (by decide)]) (fun c q1 q2 => by rw [cpy_nc _ _ _ _ _ _ (by omega), up_nc _ _ _ _ (by omega)])) (by omega))
            · rcases h with h | ⟨h1, h2⟩
              · exact hno l' f' h z
              · subst h1; exact hno1 f' h2 z
            · rw [cpy_nc _ _ _ _ _ _ (by decide), up_eq]
            · rw [cpy_if, if_pos (by omega), up_nc _ _ _ _ (by decide), show (0 : Int) + ((j : Int) - 0) = (j : Int) by omega]; exact h124 j hj
            · rw [cpy_nc _ _ _ _ _ _ (by decide), up_ni _ _ _ _ (by decide), e121]; exact hI1.2.2.2.2
          · rw [if_pos rfl]
            exact next M2 hv (shI_sk hI1 (by rw [e121]) (by rw [e121]) (hF2 123 (by omega) (by decide))) (skF_tr hF1 hF2') hc2
        · rw [if_pos rfl]
          exact next M1 q hI1 hF1 (cgI_st hc1 (by omega))
  refine am_x_le [some (.inr (.inr 122)), some (.inl (((N - 1 : Nat) : Int))), none] (am_lb_le _ _ ⟨rfl, rfl, trivial⟩) ?_
  refine main (N - 1) M0 (by omega) (fun l' f' h z => by have := z.2.1; omega) hI0 skF_rf (cgI_st hc0 (by omega))
theorem x_runLoop (hg : xgb B M0 2) (hW : gW B) (hs : sOK B M0) (hρ : ρ < 16) (hst : st + 6000 < 2147483647) (hQ : ∀ M' t y K, shR B ρ t x N y K → shI y K ρ M' → skF M0 M' → cgI B (st + 6000) M' → Q 0 M') : ∀ b (M : (Nat → Int → Int)) (x' : Nat → Nat) (N' : Nat), b ≤ 15 → N' ≤ b + 1 → (∀ t y K, shR B ρ t x' N' y K → ∃ t', shR B ρ t' x N y K) → shI x' N' ρ M → skF M0 M → cgI B (st + ((300 * (15 - b) : Nat) : Int)) M → am_x am_P am_gg (d + 6) am_k139 0 Q 83 [some (.inr (.inr 122)), none, none, none, some (.inl (1)), some (.inl (((15 - b : Nat) : Int)))] [] M 0 0 := by
  intro b
  induction b with
  | zero =>
    intro M x' N' hb hN' hx hI hF hc
    have hg1 : xgb B M 2 := xgb_eq hg (fun c a b => hF.1 c (by omega) (by omega) (by omega) (by omega))
    have hs1 : sOK B M := sOK_c hs (fun c a b => hF.1 c (by omega) (by omega) (by omega) (by omega))
    refine (h_139_83_122 _ _ _ _ _).mpr ?_
    rw [if_pos (by omega), if_neg (by decide)]
    refine x_cutOnce (st := st + ((300 * (15 - 0) : Nat) : Int)) hg1 hW hs1 hI hρ (by omega) hc (fun v M1 hv hF1 hc1 => ?_)
    rcases hv with ⟨rfl, h1, h2⟩ | ⟨rfl, l, f, h1, h2⟩
    · refine (h_139_83_122 _ _ _ _ _).mpr ?_
      rw [w32_i (by omega) (by omega), if_neg (by omega)]
      obtain ⟨t', ht⟩ := hx 0 x' N' ⟨rfl, rfl, h1⟩
      exact hQ M1 t' x' N' ht h2 (skF_tr hF hF1) (cgI_st hc1 (by omega))
    · have := h1.1.1
      have := h1.1.2.1
      omega
  | succ b ih =>
    intro M x' N' hb hN' hx hI hF hc
    have hg1 : xgb B M 2 := xgb_eq hg (fun c a b => hF.1 c (by omega) (by omega) (by omega) (by omega))
    have hs1 : sOK B M := sOK_c hs (fun c a b => hF.1 c (by omega) (by omega) (by omega) (by omega))
    refine (h_139_83_122 _ _ _ _ _).mpr ?_
    rw [if_pos (by omega), if_neg (by decide)]
    refine x_cutOnce (st := st + ((300 * (15 - (b + 1)) : Nat) : Int)) hg1 hW hs1 hI hρ (by omega) hc (fun v M1 hv hF1 hc1 => ?_)
    rw [show w32 (((15 - (b + 1) : Nat) : Int) + 1) = ((15 - b : Nat) : Int) by rw [w32_i (by omega) (by omega)]; omega]
    rcases hv with ⟨rfl, h1, h2⟩ | ⟨rfl, l, f, h1, h2⟩
    · refine (h_139_83_122 _ _ _ _ _).mpr ?_
      rw [if_pos (by omega), if_pos rfl]
      obtain ⟨t', ht⟩ := hx 0 x' N' ⟨rfl, rfl, h1⟩
      exact hQ M1 t' x' N' ht h2 (skF_tr hF hF1) (cgI_st hc1 (by omega))
    · have h11 := h1.1.1
      have h12 := h1.1.2.1
      refine ih M1 (cutx x' f l) (N' - l) (by omega) (by omega) (fun t y K q => hx (t + 1) y K ⟨l, f, h1, q⟩) h2 (skF_tr hF hF1) (cgI_st hc1 (by omega))
/-- just this was the latest -/
def dnP (M : (Nat → Int → Int)) (n : Nat) (ρi : Int) : Prop := M 121 3 = M 2 0 ∧ M 121 4 = ρi ∧ M 121 6 = (n : Int) ∧ ∀ j : Nat, j < n → M 122 (j : Int) = M 1 (j : Int)
theorem x_isDone {ρi : Int} (hn : n ≤ 16) (h1 : dnP M n ρi → Q 1 M) (h0 : ¬ dnP M n ρi → Q 0 M) : am_s am_P am_gg (d + 1) 138 [.inr (.inr 122), .inr (.inr 2), .inl (n : Int), .inl ρi] M Q := by
  refine (v_138_122_2 _ _ _ _ _).mpr ?_
  refine @p_if _ _ _ _ ?_ ?_
  · intro e1
    refine @p_if _ _ _ _ ?_ ?_
    · intro e2
      refine @p_if _ _ _ _ ?_ ?_
      · intro e3
        refine am_x_le [some (.inr (.inr 122)), some (.inr (.inr 2)), some (.inl ((n : Int))), none, some (.inl (((0 : Nat) : Int)))] (am_lb_le _ _ ⟨rfl, rfl, rfl, rfl, trivial⟩) ?_
        refine p_for (S := Unit) (X := fun b _ => am_x am_P am_gg d am_k138 4 Q 35 [some (.inr (.inr 122)), some (.inr (.inr 2)), some (.inl ((n : Int))), none, some (.inl (b))] [] M 0 0) n (fun b _ => ∀ j : Nat, j < b → M 122 (j : Int) = M 1 (j : Int)) ?_ ?_ 0 () (by omega) (fun j h => absurd h (Nat.not_lt_zero j))
        · intro _ hI
          refine (h_138_35_122_2 _ _ _ _ _).mpr ?_
          rw [if_neg (by omega)]
          exact h1 ⟨e1, e2, e3, hI⟩
        · intro b _ hb hI go
          refine (h_138_35_122_2 _ _ _ _ _).mpr ?_
          rw [if_pos (by omega), if_pos (by omega), if_pos (by omega), w32_s (by omega)]
          refine @p_if _ _ _ _ ?_ ?_
          · intro e
            refine go () (fun j hj => ?_)
            by_cases q : j = b
            · rw [q]; exact e
            · exact hI j (by omega)
          · intro e; exact h0 (fun z => e (z.2.2.2 b hb))
      · intro e; exact h0 (fun z => e z.2.2.1)
    · intro e; exact h0 (fun z => e z.2.1)
  · intro e; exact h0 (fun z => e z.1)
theorem dn_res {ρi : Int} {tp : Nat → Nat} (htp : ∀ j : Nat, j < n → M 1 (j : Int) = (tp j : Int)) (hd : dnP M n ρi) (hold : skO B M) : ∃ (ρ t K : Nat) (y : Nat → Nat), ρi = (ρ : Int) ∧ shw B (cn tp n) n ρ ∧ shR B ρ t (cn tp n) n y K ∧ M 121 8 = (K : Int) ∧ K ≤ 16 ∧ ∀ j : Nat, j < K → M 123 (j : Int) = (y j : Int) := by
  obtain ⟨n', K, ρ, t, g, y, k1, k2, k3, k4, k5, k6, k7, k8, k9⟩ := hold
  obtain ⟨d1, d2, d3, d4⟩ := hd
  have en : n' = n := by rw [k2] at d3; omega
  subst en
  have ecn : cn g n' = cn tp n' := by
    funext j
    unfold cn
    by_cases q : j < n'
    · have h1 := d4 j q
      rw [k4 j q, htp j q] at h1
      rw [if_pos q, if_pos q, show g j = tp j by omega]
    · rw [if_neg q, if_neg q]
  rw [ecn] at k5 k6
  exact ⟨ρ, t, K, y, by rw [← d2, k1], k5, k6, k7, k8, k9⟩
/-- what running changes -/
def ruF (M M' : (Nat → Int → Int)) : Prop := ∀ c, c < 108 ∨ 124 < c → M' c = M c
theorem x_run {tp : Nat → Nat} (hg : xgb B M 2) (hW : gW B) (hρ : ρ < 16) (hn1 : 1 ≤ n) (hn : n ≤ 16) (htp : ∀ j : Nat, j < n → M 1 (j : Int) = (tp j : Int)) (hlt : ∀ j : Nat, j < n → 97 ≤ tp j ∧ tp j ≤ 112) (hst : st + 6000 < 2147483647) (hc : cgI B st M) (hk : M 121 3 = M 2 0 → skO B M) (hs : dnP M n (ρ : Int) ∨ sOK B M ∧ shw B (cn tp n) n ρ) (hQ : ∀ M' t K y, shR B ρ t (cn tp n) n y K → M' 121 8 = (K : Int) → K ≤ 16 → (∀ j : Nat, j < K → M' 123 (j : Int) = (y j : Int)) → M' 121 3 = M' 2 0 → skO B M' → ruF M M' → cgI B (st + 6000) M' → Q 0 M') : am_s am_P am_gg (d + 7) 139 [.inr (.inr 122), .inr (.inr 2), .inl (n : Int), .inl (ρ : Int)] M Q := by
  refine (v_139_122_2 _ _ _ _ _).mpr ?_
  refine x_isDone hn (fun hd => ?_) (fun hd => ?_)
  · rw [if_neg (by decide)]
    obtain ⟨ρ', t, K, y, e, q1, q2, q3, q4, q5⟩ := dn_res htp hd (hk hd.1)
    have e : ρ' = ρ := by omega
    subst e
    exact hQ M t K y q2 q3 q4 q5 hd.1 (hk hd.1) (fun _ _ => rfl) (cgI_st hc (by omega))
  · rw [if_pos rfl]
    obtain ⟨hs, hsh⟩ : sOK B M ∧ shw B (cn tp n) n ρ := by
      rcases hs with z | z
      · exact absurd z hd
      · exact z
    refine am_x_le [some (.inr (.inr 122)), some (.inr (.inr 2)), some (.inl ((n : Int))), none, some (.inl (((0 : Nat) : Int))), none] (am_lb_le _ _ ⟨rfl, rfl, rfl, rfl, trivial⟩) ?_
    refine p_for (S := (Nat → Int → Int)) (X := fun b M => am_x am_P am_gg (d + 6) am_k139 0 Q 40 [some (.inr (.inr 122)), some (.inr (.inr 2)), some (.inl ((n : Int))), none, some (.inl (b)), none] [] M 0 0) n (fun b M1 => (∀ c, c ≠ 121 → c ≠ 122 → c ≠ 123 → M1 c = M c) ∧ M1 121 3 = M 2 0 ∧ M1 121 4 = (ρ : Int) ∧ M1 121 6 = (n : Int) ∧ M1 121 8 = (n : Int) ∧ ∀ j : Nat, j < b → M1 122 (j : Int) = (tp j : Int) ∧ M1 123 (j : Int) = ((tp j - 97 : Nat) : Int)) ?_ ?_ 0 _ (by omega) ⟨fun c h1 h2 h3 => by rw [up_nc _ _ _ _ h1, up_nc _ _ _ _ h1, up_nc _ _ _ _ h1, up_nc _ _ _ _ h1], by rw [up_ni _ _ _ _ (by decide), up_ni _ _ _ _ (by decide), up_ni _ _ _ _ (by decide), up_eq], by rw [up_ni _ _ _ _ (by decide), up_ni _ _ _ _ (by decide), up_eq], by rw [up_ni _ _ _ _ (by decide), up_eq], up_eq _ _ _ _, fun j h => absurd h (Nat.not_lt_zero j)⟩
    · rintro M1 ⟨h1, h2, h3, h4, h5, h6⟩
      refine (h_139_40_122_2 _ _ _ _ _).mpr ?_
      rw [if_neg (by omega)]
      refine am_x_le [some (.inr (.inr 122)), none, none, none, some (.inl (1)), some (.inl (((15 - 15 : Nat) : Int)))] (am_lb_le _ _ ⟨rfl, rfl, rfl, trivial⟩) ?_
      have hg1 : xgb B M1 2 := xgb_eq hg (fun c a b => h1 c (by omega) (by omega) (by omega))
      have hs1 : sOK B M1 := sOK_c hs (fun c a b => h1 c (by omega) (by omega) (by omega))
      refine x_runLoop (M0 := M1) (x := cn tp n) (N := n) (st := st) hg1 hW hs1 hρ hst (fun M2 t y K q1 q2 q3 q4 => ?_) 15 M1 (cn tp n) n (by omega) (by omega) (fun t y K q => ⟨t, q⟩) ⟨h5, hn1, hn, fun j hj => ?_, h3⟩ skF_rf (cgI_st (cgI_M hc (by rw [h1 2 (by decide) (by decide) (by decide)]) (fun c a b => h1 c (by omega) (by omega) (by omega))) (by omega))
      · have e2 : M2 2 = M 2 := by rw [q3.1 2 (by omega) (by decide) (by decide) (by decide), h1 2 (by decide) (by decide) (by decide)]
        have e122 : M2 122 = M1 122 := q3.1 122 (by omega) (by decide) (by decide) (by decide)
        have e3 : M2 121 3 = M2 2 0 := by rw [q3.2 3 (by decide), h2, e2]
        refine hQ M2 t K y q1 q2.1 q2.2.2.1 (fun j hj => (q2.2.2.2.1 j hj).1) e3 ⟨n, K, ρ, t, tp, y, q2.2.2.2.2, by rw [q3.2 6 (by decide)]; exact h4, hn, fun j hj => by rw [e122]; exact (h6 j hj).1, hsh, q1, q2.1, q2.2.2.1, fun j hj => (q2.2.2.2.1 j hj).1⟩ (fun c hc' => ?_) q4
        rw [q3.1 c (by omega) (by omega) (by omega) (by omega)]; exact h1 c (by omega) (by omega) (by omega)
      · unfold cn
        rw [if_pos hj]
        have := hlt j hj
        exact ⟨(h6 j hj).2, by omega⟩
    · rintro b M1 hb ⟨h1, h2, h3, h4, h5, h6⟩ go
      refine (h_139_40_122_2 _ _ _ _ _).mpr ?_
      have := hlt b hb
      rw [if_pos (by omega), if_pos (by omega), if_pos (by omega), if_pos (by omega), if_pos (by omega), h1 1 (by decide) (by decide) (by decide), htp b hb, w32_s (by omega), show w32 ((tp b : Int) - 97) = ((tp b - 97 : Nat) : Int) by rw [w32_i (by omega) (by omega)]; omega]
      refine go _ ⟨fun c q1 q2 q3 => by rw [up_nc _ _ _ _ q3, up_nc _ _ _ _ q2]; exact h1 c q1 q2 q3, by rw [up_nc _ _ _ _ (by decide), up_nc _ _ _ _ (by decide)]; exact h2, by rw [up_nc _ _ _ _ (by decide), up_nc _ _ _ _ (by decide)]; exact h3, by rw [up_nc _ _ _ _ (by decide), up_nc _ _ _ _ (by decide)]; exact h4, by rw [up_nc _ _ _ _ (by decide), up_nc _ _ _ _ (by decide)]; exact h5, fun j hj => ?_⟩
      rw [up_nc _ _ _ _ (show (122 : Nat) ≠ 123 by decide), up_ci, up_ci, up_nc _ _ _ _ (show (123 : Nat) ≠ 122 by decide)]
      by_cases q : j = b
      · rw [if_pos (by omega), if_pos (by omega), q]; exact ⟨rfl, rfl⟩
      · rw [if_neg (by omega), if_neg (by omega)]; exact h6 j (by omega)
end Sb6
