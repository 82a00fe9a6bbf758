/-! readers of both: yields, yielded, context, around -/
section Sc5
variable {s s' : sS} {B B' : Nat → Nat} {k k' d : Nat} {M M' M0 : (Nat → Int → Int)} {Q : Int → (Nat → Int → Int) → Prop} {l : List Nat}
theorem yl_180 {n : Nat} (hQ : am_s am_P am_gg d 205 [.inr (.inr 1), .inl (M (33 + 6 * n) 1)] M (fun r1 M1 => Q r1 M1)) (hn : n < 8) : am_x am_P am_gg d am_k180 1 Q 92 [none, none, none, none] [.inr (.inr (33 + 6 * n + 1)), .inr (.inr 1)] M 0 0 := by
  match n, hn with
  | 0, _ => exact (h_180_92_s34_s1 _ _ _).mpr hQ
  | 1, _ => exact (h_180_92_s40_s1 _ _ _).mpr hQ
  | 2, _ => exact (h_180_92_s46_s1 _ _ _).mpr hQ
  | 3, _ => exact (h_180_92_s52_s1 _ _ _).mpr hQ
  | 4, _ => exact (h_180_92_s58_s1 _ _ _).mpr hQ
  | 5, _ => exact (h_180_92_s64_s1 _ _ _).mpr hQ
  | 6, _ => exact (h_180_92_s70_s1 _ _ _).mpr hQ
  | 7, _ => exact (h_180_92_s76_s1 _ _ _).mpr hQ
theorem yl_181 {n : Nat} {a : Int} (hQ : am_s am_P am_gg d 206 [.inr (.inr 1), .inr (.inr (33 + 6 * n + 1)), .inl a] M (fun r1 M1 => Q r1 M1)) (hn : n < 8) : am_x am_P am_gg d am_k181 1 Q 36 [none, none, some (.inl (a)), none] [.inr (.inr (33 + 6 * n + 1)), .inr (.inr 1)] M 0 0 := by
  match n, hn with
  | 0, _ => exact (h_181_36_s34_s1 _ _ _ _).mpr hQ
  | 1, _ => exact (h_181_36_s40_s1 _ _ _ _).mpr hQ
  | 2, _ => exact (h_181_36_s46_s1 _ _ _ _).mpr hQ
  | 3, _ => exact (h_181_36_s52_s1 _ _ _ _).mpr hQ
  | 4, _ => exact (h_181_36_s58_s1 _ _ _ _).mpr hQ
  | 5, _ => exact (h_181_36_s64_s1 _ _ _ _).mpr hQ
  | 6, _ => exact (h_181_36_s70_s1 _ _ _ _).mpr hQ
  | 7, _ => exact (h_181_36_s76_s1 _ _ _ _).mpr hQ
theorem yl_182a {n : Nat} (hQ : am_s am_P am_gg d 205 [.inr (.inr 1), .inl (M (35 + 6 * n) 1)] M (fun r1 M1 => Q r1 M1)) (hn : n < 8) : am_x am_P am_gg d am_k182 1 Q 100 [none, none, none, none] [.inr (.inr (35 + 6 * n + 1)), .inr (.inr 1)] M 0 0 := by
  match n, hn with
  | 0, _ => exact (h_182_100_s36_s1 _ _ _).mpr hQ
  | 1, _ => exact (h_182_100_s42_s1 _ _ _).mpr hQ
  | 2, _ => exact (h_182_100_s48_s1 _ _ _).mpr hQ
  | 3, _ => exact (h_182_100_s54_s1 _ _ _).mpr hQ
  | 4, _ => exact (h_182_100_s60_s1 _ _ _).mpr hQ
  | 5, _ => exact (h_182_100_s66_s1 _ _ _).mpr hQ
  | 6, _ => exact (h_182_100_s72_s1 _ _ _).mpr hQ
  | 7, _ => exact (h_182_100_s78_s1 _ _ _).mpr hQ
theorem yl_182b {n : Nat} (hQ : am_s am_P am_gg d 205 [.inr (.inr 1), .inl (M (37 + 6 * n) 1)] M (fun r1 M1 => Q r1 M1)) (hn : n < 8) : am_x am_P am_gg d am_k182 1 Q 117 [none, none, none, none] [.inr (.inr (37 + 6 * n + 1)), .inr (.inr 1)] M 0 0 := by
  match n, hn with
  | 0, _ => exact (h_182_117_s38_s1 _ _ _).mpr hQ
  | 1, _ => exact (h_182_117_s44_s1 _ _ _).mpr hQ
  | 2, _ => exact (h_182_117_s50_s1 _ _ _).mpr hQ
  | 3, _ => exact (h_182_117_s56_s1 _ _ _).mpr hQ
  | 4, _ => exact (h_182_117_s62_s1 _ _ _).mpr hQ
  | 5, _ => exact (h_182_117_s68_s1 _ _ _).mpr hQ
  | 6, _ => exact (h_182_117_s74_s1 _ _ _).mpr hQ
  | 7, _ => exact (h_182_117_s80_s1 _ _ _).mpr hQ
theorem yl_183l {n : Nat} {a : Int} (hQ : am_s am_P am_gg d 206 [.inr (.inr 1), .inr (.inr (35 + 6 * n + 1)), .inl a] M (fun r1 M1 => Q r1 M1)) (hn : n < 8) : am_x am_P am_gg d am_k183 1 Q 53 [none, none, none, some (.inl (a)), none] [.inr (.inr (35 + 6 * n + 1)), .inr (.inr 1)] M 0 0 := by
  match n, hn with
  | 0, _ => exact (h_183_53_s36_s1 _ _ _ _).mpr hQ
  | 1, _ => exact (h_183_53_s42_s1 _ _ _ _).mpr hQ
  | 2, _ => exact (h_183_53_s48_s1 _ _ _ _).mpr hQ
  | 3, _ => exact (h_183_53_s54_s1 _ _ _ _).mpr hQ
  | 4, _ => exact (h_183_53_s60_s1 _ _ _ _).mpr hQ
  | 5, _ => exact (h_183_53_s66_s1 _ _ _ _).mpr hQ
  | 6, _ => exact (h_183_53_s72_s1 _ _ _ _).mpr hQ
  | 7, _ => exact (h_183_53_s78_s1 _ _ _ _).mpr hQ
theorem yl_183r {n : Nat} {a : Int} (hQ : am_s am_P am_gg d 206 [.inr (.inr 1), .inr (.inr (37 + 6 * n + 1)), .inl a] M (fun r1 M1 => Q r1 M1)) (hn : n < 8) : am_x am_P am_gg d am_k183 1 Q 41 [none, none, none, some (.inl (a)), none] [.inr (.inr (37 + 6 * n + 1)), .inr (.inr 1)] M 0 0 := by
  match n, hn with
  | 0, _ => exact (h_183_41_s38_s1 _ _ _ _).mpr ((h_183_53_s38_s1 _ _ _ _).mpr hQ)
  | 1, _ => exact (h_183_41_s44_s1 _ _ _ _).mpr ((h_183_53_s44_s1 _ _ _ _).mpr hQ)
  | 2, _ => exact (h_183_41_s50_s1 _ _ _ _).mpr ((h_183_53_s50_s1 _ _ _ _).mpr hQ)
  | 3, _ => exact (h_183_41_s56_s1 _ _ _ _).mpr ((h_183_53_s56_s1 _ _ _ _).mpr hQ)
  | 4, _ => exact (h_183_41_s62_s1 _ _ _ _).mpr ((h_183_53_s62_s1 _ _ _ _).mpr hQ)
  | 5, _ => exact (h_183_41_s68_s1 _ _ _ _).mpr ((h_183_53_s68_s1 _ _ _ _).mpr hQ)
  | 6, _ => exact (h_183_41_s74_s1 _ _ _ _).mpr ((h_183_53_s74_s1 _ _ _ _).mpr hQ)
  | 7, _ => exact (h_183_41_s80_s1 _ _ _ _).mpr ((h_183_53_s80_s1 _ _ _ _).mpr hQ)
theorem eR_let {R : Int → sS → Prop} {L i : Nat} (hL : ltB L = true) (h : xJ k s M) (hf : hiF M0 M) (hw : lw l L M) (hl : l.length ≤ 200) (h1 : i < l.length → R ((l.getD i 0 : Nat) : Int) (s.S 0)) (h0 : ¬ i < l.length → R (-1) (s.S ((6 : Nat) : Int))) : am_s am_P am_gg (d + 3) 206 [.inr (.inr 1), .inr (.inr (L + 1)), .inl (i : Int)] M (fun r M2 => ∃ s', R r s' ∧ xJ (k + 1) s' M2 ∧ hiF M0 M2) := by
  refine (w_206_1_L _ _ _ _ _).mpr (lt_bif hL ?_)
  rw [hw.1]
  refine @p_if _ _ _ _ ?_ ?_
  · intro e
    exact lt_isR hL (x_ltat (d := d + 1) hL hw hl (by omega) (eR_ans (by omega) h hf _ (h1 (by omega))))
  · intro e; exact eR_ref (by omega) h hf 6 (by decide) (h0 (by omega))
theorem chF_hi (h : chF M M') : hiF M M' := fun c hc => h c (by omega)
theorem xj_yield (h : xJ k s M) {a : Int} (h1 : ¬ (0 ≤ a ∧ a < 8) → Q 1 M) (h2 : 0 ≤ a ∧ a < 8 → ¬ gT s.B a → Q 2 M) (h6 : 0 ≤ a ∧ a < 8 → gT s.B a → gK s.B a.toNat = NK → ∀ M', xJ k s M' → hiF M M' → Q 6 M') (h0 : 0 ≤ a ∧ a < 8 → gT s.B a → gK s.B a.toNat ≠ NK → ∀ M', xJ k s M' → hiF M M' → chOK s.B M' → Q 0 M') : am_s am_P am_gg (d + 6) 213 [.inr (.inr 1), .inl a] M Q := by
  refine (v_213_1 _ _ _ _).mpr (xj_sym h (fun q => ?_) (fun q1 q2 => ?_) (fun q1 q2 => ?_))
  · rw [if_neg (by decide)]; exact h1 q
  · rw [if_neg (by decide)]; exact h2 q1 q2
  · rw [if_pos rfl]
    refine xj_cheap h (fun M1 g1 g2 g3 => ?_)
    obtain ⟨n, rfl⟩ := p_nat q1.1
    refine x_hasYield g3.1 (by omega) (fun z => ?_) (fun z => ?_)
    · rw [if_neg (by decide)]; exact h0 q1 q2 z M1 g1 (chF_hi g2) g3
    · rw [if_pos rfl]; exact h6 q1 q2 z M1 g1 (chF_hi g2)
theorem xj_context (h : xJ k s M) {a : Int} (h1 : ¬ (0 ≤ a ∧ a < 8) → Q 1 M) (h2 : 0 ≤ a ∧ a < 8 → ¬ gT s.B a → Q 2 M) (h6 : 0 ≤ a ∧ a < 8 → gT s.B a → gX s.B a.toNat = NK → ∀ M', xJ k s M' → hiF M M' → Q 6 M') (h0 : 0 ≤ a ∧ a < 8 → gT s.B a → gX s.B a.toNat ≠ NK → ∀ M', xJ k s M' → hiF M M' → chOK s.B M' → Q 0 M') : am_s am_P am_gg (d + 6) 214 [.inr (.inr 1), .inl a] M Q := by
  refine (v_214_1 _ _ _ _).mpr (xj_sym h (fun q => ?_) (fun q1 q2 => ?_) (fun q1 q2 => ?_))
  · rw [if_neg (by decide)]; exact h1 q
  · rw [if_neg (by decide)]; exact h2 q1 q2
  · rw [if_pos rfl]
    refine xj_cheap h (fun M1 g1 g2 g3 => ?_)
    obtain ⟨n, rfl⟩ := p_nat q1.1
    refine x_hasContext g3.2.1 (by omega) (fun z => ?_) (fun z => ?_)
    · rw [if_neg (by decide)]; exact h0 q1 q2 z M1 g1 (chF_hi g2) g3
    · rw [if_pos rfl]; exact h6 q1 q2 z M1 g1 (chF_hi g2)
theorem yl_le (hW : gW B) {n : Nat} (hn : n < 8) (h : gK B n ≠ NK) : (yW B (gK B) n).length ≤ 200 := by
  have h1 := yW_len hW (gpos_ok hW) (gK_ok hW).1 (gK B n + 1) n hn h (by omega)
  have h2 := ((gK_ok hW).1.1 n hn h).2.1
  omega
theorem xl_le (hW : gW B) {n : Nat} (hn : n < 8) (h : gX B n ≠ NK) : (xL B (gK B) (gX B) n).length + (xRt B (gK B) (gX B) n).length ≤ 200 := by
  have h1 := xLR_len hW (gpos_ok hW) (gK_ok hW).1 (gX_ok hW).1 (gX B n + 1) n hn h (by omega)
  have h2 := ((gX_ok hW).1.1 n hn h).1
  omega
theorem rJ_row (h : rJ s M) (e : ∀ c, c ≠ 173 → c ≠ 186 → M' c = M c) (e2 : ∀ i : Int, i ≠ 29 → M' 173 i = M 173 i) : rJ s M' := by
  refine ⟨rS_ly h.1 (fun i hi => e2 i (by omega)) (e 174 (by decide) (by decide)) (e 175 (by decide) (by decide)), ?_⟩
  rw [e2 11 (by decide)]
  rcases h.2 with q | ⟨q1, q2, q3⟩
  · exact Or.inl q
  · refine Or.inr ⟨q1, ?_, tI_M q3 (by rw [e 174 (by decide) (by decide)]; exact q3.1) (e 193 (by decide) (by decide)) (e 194 (by decide) (by decide))⟩
    unfold rL yR xR pI bR cR at q2 ⊢
    rw [e2 12 (by decide), e2 13 (by decide), e2 14 (by decide), e2 15 (by decide), e2 34 (by decide), e2 37 (by decide), e 176 (by decide) (by decide), e 177 (by decide) (by decide), e 178 (by decide) (by decide), e 179 (by decide) (by decide), e 180 (by decide) (by decide), e 181 (by decide) (by decide), e 182 (by decide) (by decide), e 183 (by decide) (by decide), e 184 (by decide) (by decide), e 185 (by decide) (by decide), e 187 (by decide) (by decide), e 188 (by decide) (by decide), e 189 (by decide) (by decide), e 190 (by decide) (by decide), e 191 (by decide) (by decide)]; exact q2
theorem yR_n {K : Nat → Nat} (h : yR K M) {n : Nat} (hn : n < 8) (hK : K n = NK) : M 179 (n : Int) = -1 := by
  rcases h n hn with q | q
  · exact q.2
  · have := q.1; omega
theorem yR_y {K : Nat → Nat} (h : yR K M) {n : Nat} (hn : n < 8) (hK : K n ≠ NK) : M 179 (n : Int) = ((K n / 65536 : Nat) : Int) ∧ M 180 (n : Int) = ((K n / 16 % 4096 : Nat) : Int) ∧ M 181 (n : Int) = ((K n % 16 : Nat) : Int) := by
  rcases h n hn with q | q
  · exact absurd q.1 hK
  · exact q.2
/-- the reference writes a yield -/
theorem rj_yield (h : rJ s M) (hL : rL s.B M) {n : Nat} (hn : n < 8) (hK : gK s.B n ≠ NK) (hQ : ∀ M', rJ s M' → loF M M' → yR (gK s.B) M' → M' 173 29 = ((yW s.B (gK s.B) n).length : Int) → (∀ i : Nat, i < (yW s.B (gK s.B) n).length → M' 186 (i : Int) = (((yW s.B (gK s.B) n).getD i 0 : Nat) : Int)) → Q 0 M') : am_s am_P am_gg (d + 11) 267 [.inr (.inr 174), .inl (n : Int)] (am_up M 173 29 0) Q := by
  have hW := rJ_W h
  have e : sgW (yW s.B (gK s.B)) n = yW s.B (gK s.B) n := by unfold sgW; rw [if_pos hn]
  have hl := yl_le hW hn hK
  refine m_writes (k := 0) hW (gpos_ok hW) (gK_ok hW).1 (Or.inl hn) (fun _ => hK) (by rw [up_nc _ _ _ _ (by decide)]; exact rb_of h) (by unfold yR; rw [up_nc _ _ _ _ (by decide), up_nc _ _ _ _ (by decide), up_nc _ _ _ _ (by decide)]; exact hL.1) (up_eq _ _ _ _) (by rw [e]; omega) (fun M' w => ?_)
  rw [e] at w
  obtain ⟨w1, w2, w3, w4, w5⟩ := w
  refine hQ M' (rJ_row h (fun c a b => by rw [w4 c a b, up_nc _ _ _ _ a]) (fun i a => by rw [w5 i a, up_ni _ _ _ _ a])) (fun c hc => by rw [w4 c (by omega) (by omega), up_nc _ _ _ _ (by omega)]) ?_ (by rw [w1, Nat.zero_add]) (fun i hi => by have := w2 i hi; rwa [Nat.zero_add] at this)
  unfold yR
  rw [w4 179 (by decide) (by decide), w4 180 (by decide) (by decide), w4 181 (by decide) (by decide), up_nc _ _ _ _ (by decide), up_nc _ _ _ _ (by decide), up_nc _ _ _ _ (by decide)]; exact hL.1
def ylP (s : sS) (n : Nat) (P : Int → sS → Prop) (r : Int) (s' : sS) : Prop := (gK s.B n = NK ∧ r = -1 ∧ s' = s.S 6) ∨ (gK s.B n ≠ NK ∧ P r s')
theorem p_yields (a b : Int) : lm_pr (J k) (J (k + 1)) 180 297 [.inl a, .inl b] := pr_R (fun s => ⟨syR s (0 ≤ b ∧ b ≤ 3) a (ylP s a.toNat (fun r s' => s' = s.S 0 ∧ (b = 0 ∧ r = ((gK s.B a.toNat / 65536 : Nat) : Int) ∨ b = 1 ∧ r = ((gK s.B a.toNat / 16 % 4096 : Nat) : Int) ∨ b = 2 ∧ r = ((yW s.B (gK s.B) a.toNat).length : Int) ∨ b = 3 ∧ r = ((gK s.B a.toNat % 16 : Nat) : Int)))), fun M h => by
  refine (v_180_1 1599 _ _ _ _).mpr ?_
  refine @p_if _ _ _ _ ?_ ?_
  · intro e; exact eR_ref (by decide) h hiF_rf 1 (by decide) (Or.inl ⟨Or.inl (by omega), rfl, rfl⟩)
  intro e1
  refine @p_if _ _ _ _ ?_ ?_
  · intro e; exact eR_ref (by decide) h hiF_rf 1 (by decide) (Or.inl ⟨Or.inl (by omega), rfl, rfl⟩)
  intro e2
  refine xj_yield (d := 1593) h (fun ha => ?_) (fun ha hT => ?_) (fun ha hT hK M1 h1 f1 => ?_) (fun ha hT hK M1 h1 f1 c1 => ?_)
  · rw [if_neg (by decide)]; exact eR_ref (by decide) h hiF_rf 1 (by decide) (Or.inl ⟨Or.inr ha, rfl, rfl⟩)
  · rw [if_neg (by decide)]; exact eR_ref (by decide) h hiF_rf 2 (by decide) (Or.inr (Or.inl ⟨by omega, ha, hT, rfl, rfl⟩))
  · rw [if_neg (by decide)]; exact eR_ref (by decide) h1 f1 6 (by decide) (Or.inr (Or.inr ⟨by omega, ha, hT, Or.inl ⟨hK, rfl, rfl⟩⟩))
  · rw [if_pos rfl]
    obtain ⟨n, rfl⟩ := p_nat ha.1
    have hn : n < 8 := by omega
    have hK' : gK s.B n ≠ NK := hK
    have good : ∀ v : Int, (b = 0 ∧ v = ((gK s.B n / 65536 : Nat) : Int) ∨ b = 1 ∧ v = ((gK s.B n / 16 % 4096 : Nat) : Int) ∨ b = 2 ∧ v = ((yW s.B (gK s.B) n).length : Int) ∨ b = 3 ∧ v = ((gK s.B n % 16 : Nat) : Int)) → am_s am_P am_gg 1599 205 [.inr (.inr 1), .inl v] M1 (fun r M2 => ∃ s', syR s (0 ≤ b ∧ b ≤ 3) (n : Int) (ylP s ((n : Int).toNat) (fun r s' => s' = s.S 0 ∧ (b = 0 ∧ r = ((gK s.B ((n : Int).toNat) / 65536 : Nat) : Int) ∨ b = 1 ∧ r = ((gK s.B ((n : Int).toNat) / 16 % 4096 : Nat) : Int) ∨ b = 2 ∧ r = ((yW s.B (gK s.B) ((n : Int).toNat)).length : Int) ∨ b = 3 ∧ r = ((gK s.B ((n : Int).toNat) % 16 : Nat) : Int)))) r s' ∧ xJ (k + 1) s' M2 ∧ hiF M M2) := fun v hv => eR_ans (by decide) h1 f1 v (Or.inr (Or.inr ⟨by omega, ha, hT, Or.inr ⟨hK, rfl, hv⟩⟩))
    refine @p_if _ _ _ _ ?_ ?_
    · intro e
      refine x_yieldCost (d := 1598) c1.1 hn ?_
      exact good _ (Or.inl ⟨e, by unfold cx; rw [if_pos hn, if_neg hK']⟩)
    intro e0
    refine @p_if _ _ _ _ ?_ ?_
    · intro e
      refine x_yieldRules (d := 1598) c1.1 hn ?_
      exact good _ (Or.inr (Or.inl ⟨e, by unfold mx; rw [if_pos hn, if_neg hK']⟩))
    intro e1'
    refine @p_if _ _ _ _ ?_ ?_
    · intro e
      rw [if_pos ha, (rf_made n hn).1]
      refine am_x_le [none, none, none, none] (am_lb_le _ _ trivial) ?_
      refine yl_180 ?_ hn
      rw [(c1.2.2.2.2.2.1 n hn hK').1]
      exact good _ (Or.inr (Or.inr (Or.inl ⟨e, rfl⟩)))
    · intro e
      refine x_yieldRule (d := 1598) c1.1 hn ?_
      exact good _ (Or.inr (Or.inr (Or.inr ⟨by omega, rfl⟩))), fun r s' hR M h => by
  refine (v_297_174 1599 _ _ _ _).mpr ?_
  have main : ∀ is : Int, (is = 1 ∧ (0 ≤ b ∧ b ≤ 3) ∨ is = 0 ∧ ¬ (0 ≤ b ∧ b ≤ 3)) → am_s am_P am_gg 1599 288 [.inr (.inr 174), .inl is, .inl a] M (fun r2 M2 => (if r2 = 0 then (-1 = r ∧ rJ s' M2 ∧ loF M M2) else (if 0 ≤ a ∧ a < 8 then (if M2 179 a < 0 then am_s am_P am_gg 1599 224 [.inr (.inr 174), .inl 6] M2 (fun r3 M3 => r3 = r ∧ rJ s' M3 ∧ loF M M3) else am_s am_P am_gg 1599 267 [.inr (.inr 174), .inl a] (am_up M2 173 29 0) (fun r4 M4 => (if b = 0 then (if 0 ≤ a ∧ a < 8 then M4 179 a = r ∧ rJ s' M4 ∧ loF M M4 else False) else (if b = 1 then (if 0 ≤ a ∧ a < 8 then M4 180 a = r ∧ rJ s' M4 ∧ loF M M4 else False) else (if b = 2 then M4 173 29 = r ∧ rJ s' M4 ∧ loF M M4 else (if 0 ≤ a ∧ a < 8 then M4 181 a = r ∧ rJ s' M4 ∧ loF M M4 else False)))))) else False))) := by
    intro is his
    refine rj_asks (d := 1569) (by omega) h (fun q M1 h1 f1 => ?_) (fun q1 q2 q3 M1 h1 f1 => ?_) (fun q1 q2 q3 M1 h1 f1 g1 g2 g3 => ?_)
    · rw [if_pos rfl]
      rcases hR with ⟨_, z2, z3⟩ | ⟨z1, z2, _⟩ | ⟨z1, z2, _⟩
      · exact ⟨z2.symm, by rw [z3]; exact h1, f1⟩
      · omega
      · omega
    · rw [if_pos rfl]
      rcases hR with ⟨z1, _⟩ | ⟨_, _, _, z4, z5⟩ | ⟨_, _, z3, _⟩
      · omega
      · exact ⟨z4.symm, by rw [z5]; exact h1, f1⟩
      · exact absurd z3 q3
    · rw [if_neg (by decide), if_pos q2]
      rcases hR with ⟨z1, _⟩ | ⟨_, _, z3, _⟩ | ⟨z1, _, _, z4⟩
      · omega
      · exact absurd q3 z3
      · obtain ⟨n, rfl⟩ := p_nat q2.1
        have hn : n < 8 := by omega
        rcases z4 with ⟨z5, z6, z7⟩ | ⟨z5, z6, z7⟩
        · rw [yR_n g2.1 hn z5, if_pos (by decide)]
          exact eR_rr (by decide) h1 f1 6 (by decide) z6 z7
        · have hy := yR_y g2.1 hn z5
          rw [hy.1, if_neg (by omega)]
          refine rj_yield (d := 1588) (s := s.S 0) h1 g2 hn z5 (fun M3 h3 f3 y3 w1 w2 => ?_)
          have hy3 := yR_y y3 hn z5
          have fin : ∀ v : Int, v = r → (v = r ∧ rJ s' M3 ∧ loF M M3) := fun v e => ⟨e, by rw [z6]; exact h3, loF_tr f1 f3⟩
          rcases z7 with ⟨e, z8⟩ | ⟨e, z8⟩ | ⟨e, z8⟩ | ⟨e, z8⟩
          · rw [if_pos e, if_pos q2]; exact fin _ (by rw [z8]; exact hy3.1)
          · rw [if_neg (by omega), if_pos e, if_pos q2]; exact fin _ (by rw [z8]; exact hy3.2.1)
          · rw [if_neg (by omega), if_neg (by omega), if_pos e]; exact fin _ (by rw [z8]; exact w1)
          · rw [if_neg (by omega), if_neg (by omega), if_neg (by omega), if_pos q2]; exact fin _ (by rw [z8]; exact hy3.2.2)
  refine m_isIn (d := 1598) (fun q => ?_) (fun q => ?_)
  · exact main 1 (Or.inl ⟨rfl, by omega⟩)
  · exact main 0 (Or.inr ⟨rfl, by omega⟩)⟩)
/-- a letter of a row -/
def ltP (s : sS) (l : List Nat) (b : Int) (r : Int) (s' : sS) : Prop := (b < l.length ∧ r = ((l.getD b.toNat 0 : Nat) : Int) ∧ s' = s.S 0) ∨ (¬ b < l.length ∧ r = -1 ∧ s' = s.S 6)
theorem p_yielded (a b : Int) : lm_pr (J k) (J (k + 1)) 181 298 [.inl a, .inl b] := pr_R (fun s => ⟨syR s (0 ≤ b) a (ylP s a.toNat (ltP s (yW s.B (gK s.B) a.toNat) b)), fun M h => by
  refine (v_181_1 1599 _ _ _ _).mpr ?_
  refine @p_if _ _ _ _ ?_ ?_
  · intro e; exact eR_ref (by decide) h hiF_rf 1 (by decide) (Or.inl ⟨Or.inl (by omega), rfl, rfl⟩)
  intro e1
  obtain ⟨i, rfl⟩ := p_nat (show 0 ≤ b by omega)
  refine xj_yield (d := 1593) h (fun ha => ?_) (fun ha hT => ?_) (fun ha hT hK M1 h1 f1 => ?_) (fun ha hT hK M1 h1 f1 c1 => ?_)
  · rw [if_neg (by decide)]; exact eR_ref (by decide) h hiF_rf 1 (by decide) (Or.inl ⟨Or.inr ha, rfl, rfl⟩)
  · rw [if_neg (by decide)]; exact eR_ref (by decide) h hiF_rf 2 (by decide) (Or.inr (Or.inl ⟨by omega, ha, hT, rfl, rfl⟩))
  · rw [if_neg (by decide)]; exact eR_ref (by decide) h1 f1 6 (by decide) (Or.inr (Or.inr ⟨by omega, ha, hT, Or.inl ⟨hK, rfl, rfl⟩⟩))
  · rw [if_pos rfl, if_pos ha]
    obtain ⟨n, rfl⟩ := p_nat ha.1
    have hn : n < 8 := by omega
    rw [(rf_made n hn).1]
    refine am_x_le [none, none, some (.inl ((i : Int))), none] (am_lb_le _ _ ⟨rfl, trivial⟩) ?_
    refine yl_181 ?_ hn
    exact eR_let (d := 1596) (ltB_m hn).1 h1 f1 (c1.2.2.2.2.2.1 n hn hK) (yl_le (xJ_W h) hn hK) (fun z => Or.inr (Or.inr ⟨by omega, ha, hT, Or.inr ⟨hK, Or.inl ⟨by show (i : Int) < ((yW s.B (gK s.B) n).length : Int); omega, rfl, rfl⟩⟩⟩)) (fun z => Or.inr (Or.inr ⟨by omega, ha, hT, Or.inr ⟨hK, Or.inr ⟨by show ¬ (i : Int) < ((yW s.B (gK s.B) n).length : Int); omega, rfl, rfl⟩⟩⟩)), fun r s' hR M h => by
  have main : ∀ is : Int, (is = 1 ∧ 0 ≤ b ∨ is = 0 ∧ b < 0) → am_s am_P am_gg 1599 288 [.inr (.inr 174), .inl is, .inl a] M (fun r2 M2 => (if r2 = 0 then (-1 = r ∧ rJ s' M2 ∧ loF M M2) else (if 0 ≤ a ∧ a < 8 then (if M2 179 a < 0 then am_s am_P am_gg 1599 224 [.inr (.inr 174), .inl 6] M2 (fun r3 M3 => r3 = r ∧ rJ s' M3 ∧ loF M M3) else am_s am_P am_gg 1599 267 [.inr (.inr 174), .inl a] (am_up M2 173 29 0) (fun r4 M4 => (if b < M4 173 29 then (if 0 ≤ b ∧ b < 256 then M4 186 b = r ∧ rJ s' M4 ∧ loF M M4 else False) else am_s am_P am_gg 1599 224 [.inr (.inr 174), .inl 6] M4 (fun r5 M5 => r5 = r ∧ rJ s' M5 ∧ loF M M5)))) else False))) := by
    intro is his
    refine rj_asks (d := 1569) (by omega) h (fun q M1 h1 f1 => ?_) (fun q1 q2 q3 M1 h1 f1 => ?_) (fun q1 q2 q3 M1 h1 f1 g1 g2 g3 => ?_)
    · rw [if_pos rfl]
      rcases hR with ⟨_, z2, z3⟩ | ⟨z1, z2, _⟩ | ⟨z1, z2, _⟩
      · exact ⟨z2.symm, by rw [z3]; exact h1, f1⟩
      · omega
      · omega
    · rw [if_pos rfl]
      rcases hR with ⟨z1, _⟩ | ⟨_, _, _, z4, z5⟩ | ⟨_, _, z3, _⟩
      · omega
      · exact ⟨z4.symm, by rw [z5]; exact h1, f1⟩
      · exact absurd z3 q3
    · rw [if_neg (by decide), if_pos q2]
      rcases hR with ⟨z1, _⟩ | ⟨_, _, z3, _⟩ | ⟨z1, _, _, z4⟩
      · omega
      · exact absurd q3 z3
      · obtain ⟨n, rfl⟩ := p_nat q2.1
        obtain ⟨i, rfl⟩ := p_nat z1
        have hn : n < 8 := by omega
        rcases z4 with ⟨z5, z6, z7⟩ | ⟨z5, z6⟩
        · rw [yR_n g2.1 hn z5, if_pos (by decide)]
          exact eR_rr (by decide) h1 f1 6 (by decide) z6 z7
        · have hy := yR_y g2.1 hn z5
          have hl := yl_le (rJ_W h) hn z5
          rw [hy.1, if_neg (by omega)]
          refine rj_yield (d := 1588) (s := s.S 0) h1 g2 hn z5 (fun M3 h3 f3 y3 w1 w2 => ?_)
          have w1 : M3 173 29 = ((yW s.B (gK s.B) n).length : Int) := w1
          rw [w1]
          rcases z6 with ⟨z7, z8, z9⟩ | ⟨z7, z8, z9⟩
          · have z7 : (i : Int) < ((yW s.B (gK s.B) n).length : Int) := z7
            rw [if_pos z7, if_pos (by omega)]
            exact ⟨by rw [z8]; exact w2 i (by show i < (yW s.B (gK s.B) n).length; omega), by rw [z9]; exact h3, loF_tr f1 f3⟩
          · have z7 : ¬ (i : Int) < ((yW s.B (gK s.B) n).length : Int) := z7
            rw [if_neg z7]
            exact eR_rr (by decide) h3 (loF_tr f1 f3) 6 (by decide) z8 z9
  refine (v_298_174 1599 _ _ _ _).mpr ?_
  refine @p_if _ _ _ _ ?_ ?_
  · intro e; exact main 0 (Or.inr ⟨rfl, e⟩)
  · intro e; exact main 1 (Or.inl ⟨rfl, by omega⟩)⟩)
end Sc5
