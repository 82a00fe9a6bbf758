/-! readers of both: context, around -/
section Sc6
variable {s s' : sS} {B B' : Nat → Nat} {k k' d : Nat} {M M' M0 : (Nat → Int → Int)} {Q : Int → (Nat → Int → Int) → Prop} {l : List Nat}
theorem xR_n {X : Nat → Nat} (h : xR B X M) {n : Nat} (hn : n < 8) (hK : X n = NK) : M 182 (n : Int) = -1 := by
  rcases h n hn with q | q
  · exact q.2
  · have := q.1; omega
theorem xR_y {X : Nat → Nat} (h : xR B X M) {n : Nat} (hn : n < 8) (hK : X n ≠ NK) : M 182 (n : Int) = ((X n / 262144 : Nat) : Int) ∧ M 183 (n : Int) = ((X n / 64 % 4096 : Nat) : Int) ∧ (n ≠ B 2 → M 184 (n : Int) = ((X n / 4 % 16 : Nat) : Int) ∧ M 185 (n : Int) = ((X n % 4 : Nat) : Int)) ∧ (n = B 2 → M 184 (n : Int) = -1 ∧ M 185 (n : Int) = -1) := by
  rcases h n hn with q | q
  · exact absurd q.1 hK
  · exact q.2
theorem x_ctxRoot (hg : xgb B M 2) {n : Nat} (hn : n = B 2) (h0 : Q (-1) M) : am_s am_P am_gg (d + 1) 26 [.inr (.inr 23), .inl (n : Int)] M Q := by
  refine (v_26_23 _ _ _ _).mpr ?_
  rw [xg_rt hg]
  refine @p_if _ _ _ _ ?_ ?_
  · intro _; exact h0
  · intro e; omega
theorem x_ctxRoot2 (hg : xgb B M 2) {n : Nat} (hn : n = B 2) (h0 : Q (-1) M) : am_s am_P am_gg (d + 1) 27 [.inr (.inr 23), .inl (n : Int)] M Q := by
  refine (v_27_23 _ _ _ _).mpr ?_
  rw [xg_rt hg]
  refine @p_if _ _ _ _ ?_ ?_
  · intro _; exact h0
  · intro e; omega
def cxP (s : sS) (n : Nat) (P : Int → sS → Prop) (r : Int) (s' : sS) : Prop := (gX s.B n = NK ∧ r = -1 ∧ s' = s.S 6) ∨ (gX s.B n ≠ NK ∧ P r s')
def cxV (B : Nat → Nat) (n : Nat) (b r : Int) : Prop := (b = 0 ∧ r = ((gX B n / 262144 : Nat) : Int)) ∨ (b = 1 ∧ r = ((gX B n / 64 % 4096 : Nat) : Int)) ∨ (b = 2 ∧ r = ((xL B (gK B) (gX B) n).length : Int)) ∨ (b = 3 ∧ r = ((xRt B (gK B) (gX B) n).length : Int)) ∨ (b = 4 ∧ r = if n = B 2 then -1 else ((gX B n / 4 % 16 : Nat) : Int)) ∨ (b = 5 ∧ r = if n = B 2 then -1 else ((gX B n % 4 : Nat) : Int))
/-- the reference writes what stands left, right of a symbol -/
theorem rj_left (h : rJ s M) (hL : rL s.B M) {n : Nat} (hn : n < 8) (hX : gX s.B n ≠ NK) (hQ : ∀ M', rJ s M' → loF M M' → M' 173 29 = ((xL s.B (gK s.B) (gX s.B) n).length : Int) → (∀ i : Nat, i < (xL s.B (gK s.B) (gX s.B) n).length → M' 186 (i : Int) = (((xL s.B (gK s.B) (gX s.B) n).getD i 0 : Nat) : Int)) → Q 0 M') : am_s am_P am_gg (d + 21) 269 [.inr (.inr 174), .inl (n : Int)] (am_up M 173 29 0) Q := by
  have hW := rJ_W h
  have hl := xl_le hW hn hX
  refine m_writesLeft (k := 0) hW (gpos_ok hW) (gK_ok hW).1 (gX_ok hW).1 hn hX (by rw [up_nc _ _ _ _ (by decide)]; exact rb_of h) (by unfold yR; rw [up_nc _ _ _ _ (by decide), up_nc _ _ _ _ (by decide), up_nc _ _ _ _ (by decide)]; exact hL.1) (by unfold xR; rw [up_nc _ _ _ _ (by decide), up_nc _ _ _ _ (by decide), up_nc _ _ _ _ (by decide), up_nc _ _ _ _ (by decide)]; exact hL.2.1) (up_eq _ _ _ _) (by omega) (fun M' w => ?_)
  obtain ⟨w1, w2, w3, w4, w5⟩ := w
  exact hQ M' (rJ_row h (fun c a b => by rw [w4 c a b, up_nc _ _ _ _ a]) (fun i a => by rw [w5 i a, up_ni _ _ _ _ a])) (fun c hc => by rw [w4 c (by omega) (by omega), up_nc _ _ _ _ (by omega)]) (by rw [w1, Nat.zero_add]) (fun i hi => by have := w2 i hi; rwa [Nat.zero_add] at this)
theorem rj_right (h : rJ s M) (hL : rL s.B M) {n : Nat} (hn : n < 8) (hX : gX s.B n ≠ NK) (hQ : ∀ M', rJ s M' → loF M M' → M' 173 29 = ((xRt s.B (gK s.B) (gX s.B) n).length : Int) → (∀ i : Nat, i < (xRt s.B (gK s.B) (gX s.B) n).length → M' 186 (i : Int) = (((xRt s.B (gK s.B) (gX s.B) n).getD i 0 : Nat) : Int)) → Q 0 M') : am_s am_P am_gg (d + 21) 270 [.inr (.inr 174), .inl (n : Int)] (am_up M 173 29 0) Q := by
  have hW := rJ_W h
  have hl := xl_le hW hn hX
  refine m_writesRight (k := 0) hW (gpos_ok hW) (gK_ok hW).1 (gX_ok hW).1 hn hX (by rw [up_nc _ _ _ _ (by decide)]; exact rb_of h) (by unfold yR; rw [up_nc _ _ _ _ (by decide), up_nc _ _ _ _ (by decide), up_nc _ _ _ _ (by decide)]; exact hL.1) (by unfold xR; rw [up_nc _ _ _ _ (by decide), up_nc _ _ _ _ (by decide), up_nc _ _ _ _ (by decide), up_nc _ _ _ _ (by decide)]; exact hL.2.1) (up_eq _ _ _ _) (by omega) (fun M' w => ?_)
  obtain ⟨w1, w2, w3, w4, w5⟩ := w
  exact hQ M' (rJ_row h (fun c a b => by rw [w4 c a b, up_nc _ _ _ _ a]) (fun i a => by rw [w5 i a, up_ni _ _ _ _ a])) (fun c hc => by rw [w4 c (by omega) (by omega), up_nc _ _ _ _ (by omega)]) (by rw [w1, Nat.zero_add]) (fun i hi => by have := w2 i hi; rwa [Nat.zero_add] at this)
noncomputable def arW (B : Nat → Nat) (n : Nat) (b : Int) : List Nat := if b = 0 then xL B (gK B) (gX B) n else xRt B (gK B) (gX B) n
theorem rj_around (h : rJ s M) (hL : rL s.B M) {n : Nat} (hn : n < 8) (hX : gX s.B n ≠ NK) {b : Int} (hQ : ∀ M', rJ s M' → loF M M' → (∀ i : Nat, i < (arW s.B n b).length → M' 186 (i : Int) = (((arW s.B n b).getD i 0 : Nat) : Int)) → Q ((arW s.B n b).length : Int) M') : am_s am_P am_gg (d + 22) 299 [.inr (.inr 174), .inl (n : Int), .inl b] M Q := by
  refine (v_299_174 _ _ _ _ _).mpr ?_
  unfold arW at hQ
  refine @p_if _ _ _ _ ?_ ?_
  · intro e
    rw [if_pos e] at hQ
    exact rj_left h hL hn hX (fun M' g1 g2 g3 g4 => by rw [g3]; exact hQ M' g1 g2 g4)
  · intro e
    rw [if_neg e] at hQ
    exact rj_right h hL hn hX (fun M' g1 g2 g3 g4 => by rw [g3]; exact hQ M' g1 g2 g4)
theorem arW_le (hW : gW B) {n : Nat} (hn : n < 8) (h : gX B n ≠ NK) {b : Int} : (arW B n b).length ≤ 200 := by
  have := xl_le hW hn h
  unfold arW
  split <;> omega
theorem p_context (a b : Int) : lm_pr (J k) (J (k + 1)) 182 300 [.inl a, .inl b] := pr_R (fun s => ⟨syR s (0 ≤ b ∧ b ≤ 5) a (cxP s a.toNat (fun r s' => s' = s.S 0 ∧ cxV s.B a.toNat b r)), fun M h => by
  refine (v_182_1 1599 _ _ _ _).mpr ?_
  refine @p_if _ _ _ _ ?_ ?_
  · intro e; exact eR_ref (by decide) h hiF_rf 1 (by decide) (Or.inl ⟨Or.inl (by omega), rfl, rfl⟩)
  intro e1
  refine @p_if _ _ _ _ ?_ ?_
  · intro e; exact eR_ref (by decide) h hiF_rf 1 (by decide) (Or.inl ⟨Or.inl (by omega), rfl, rfl⟩)
  intro e2
  refine xj_context (d := 1593) h (fun ha => ?_) (fun ha hT => ?_) (fun ha hT hK M1 h1 f1 => ?_) (fun ha hT hK M1 h1 f1 c1 => ?_)
  · rw [if_neg (by decide)]; exact eR_ref (by decide) h hiF_rf 1 (by decide) (Or.inl ⟨Or.inr ha, rfl, rfl⟩)
  · rw [if_neg (by decide)]; exact eR_ref (by decide) h hiF_rf 2 (by decide) (Or.inr (Or.inl ⟨by omega, ha, hT, rfl, rfl⟩))
  · rw [if_neg (by decide)]; exact eR_ref (by decide) h1 f1 6 (by decide) (Or.inr (Or.inr ⟨by omega, ha, hT, Or.inl ⟨hK, rfl, rfl⟩⟩))
  · rw [if_pos rfl]
    obtain ⟨n, rfl⟩ := p_nat ha.1
    have hn : n < 8 := by omega
    have hw := c1.2.2.2.2.2.2 n hn hK
    have good : ∀ v : Int, cxV s.B n b v → am_s am_P am_gg 1599 205 [.inr (.inr 1), .inl v] M1 (fun r M2 => ∃ s', syR s (0 ≤ b ∧ b ≤ 5) (n : Int) (cxP s ((n : Int).toNat) (fun r s' => s' = s.S 0 ∧ cxV s.B ((n : Int).toNat) b r)) r s' ∧ xJ (k + 1) s' M2 ∧ hiF M M2) := fun v hv => eR_ans (by decide) h1 f1 v (Or.inr (Or.inr ⟨by omega, ha, hT, Or.inr ⟨hK, rfl, hv⟩⟩))
    refine @p_if _ _ _ _ ?_ ?_
    · intro e
      exact x_contextCost (d := 1598) c1.2.1 hn (good _ (Or.inl ⟨e, rfl⟩))
    intro e0
    refine @p_if _ _ _ _ ?_ ?_
    · intro e
      exact x_contextRules (d := 1598) c1.2.1 hn (good _ (Or.inr (Or.inl ⟨e, rfl⟩)))
    intro e1'
    refine @p_if _ _ _ _ ?_ ?_
    · intro e
      rw [if_pos ha, (rf_made n hn).2.1]
      refine am_x_le [none, none, none, none] (am_lb_le _ _ trivial) ?_
      refine yl_182a ?_ hn
      rw [hw.1.1]
      exact good _ (Or.inr (Or.inr (Or.inl ⟨e, rfl⟩)))
    intro e2'
    refine @p_if _ _ _ _ ?_ ?_
    · intro e
      rw [if_pos ha, (rf_made n hn).2.2]
      refine am_x_le [none, none, none, none] (am_lb_le _ _ trivial) ?_
      refine yl_182b ?_ hn
      rw [hw.2.1]
      exact good _ (Or.inr (Or.inr (Or.inr (Or.inl ⟨e, rfl⟩))))
    intro e3
    refine @p_if _ _ _ _ ?_ ?_
    · intro e
      by_cases q : n = s.B 2
      · exact x_ctxRoot (d := 1598) (xJ_g h1) q (good _ (Or.inr (Or.inr (Or.inr (Or.inr (Or.inl ⟨e, by rw [if_pos q]⟩))))))
      · exact x_contextRule (d := 1598) (xJ_g h1) c1.2.1 hn q (good _ (Or.inr (Or.inr (Or.inr (Or.inr (Or.inl ⟨e, by rw [if_neg q]⟩))))))
    · intro e
      by_cases q : n = s.B 2
      · exact x_ctxRoot2 (d := 1598) (xJ_g h1) q (good _ (Or.inr (Or.inr (Or.inr (Or.inr (Or.inr ⟨by omega, by rw [if_pos q]⟩))))))
      · exact x_contextPlace (d := 1598) (xJ_g h1) c1.2.1 hn q (good _ (Or.inr (Or.inr (Or.inr (Or.inr (Or.inr ⟨by omega, by rw [if_neg q]⟩)))))), fun r s' hR M h => by
  refine (v_300_174 1599 _ _ _ _).mpr ?_
  have main : ∀ is : Int, (is = 1 ∧ (0 ≤ b ∧ b ≤ 5) ∨ is = 0 ∧ ¬ (0 ≤ b ∧ b ≤ 5)) → am_s am_P am_gg 1599 288 [.inr (.inr 174), .inl is, .inl a] M (fun r2 M2 => (if r2 = 0 then (-1 = r ∧ rJ s' M2 ∧ loF M M2) else (if 0 ≤ a ∧ a < 8 then (if M2 182 a < 0 then am_s am_P am_gg 1599 224 [.inr (.inr 174), .inl 6] M2 (fun r3 M3 => r3 = r ∧ rJ s' M3 ∧ loF M M3) else (if b = 0 then (if 0 ≤ a ∧ a < 8 then M2 182 a = r ∧ rJ s' M2 ∧ loF M M2 else False) else (if b = 1 then (if 0 ≤ a ∧ a < 8 then M2 183 a = r ∧ rJ s' M2 ∧ loF M M2 else False) else (if b = 2 then am_s am_P am_gg 1599 299 [.inr (.inr 174), .inl a, .inl 0] M2 (fun r4 M4 => r4 = r ∧ rJ s' M4 ∧ loF M M4) else (if b = 3 then am_s am_P am_gg 1599 299 [.inr (.inr 174), .inl a, .inl 1] M2 (fun r5 M5 => r5 = r ∧ rJ s' M5 ∧ loF M M5) else (if b = 4 then (if 0 ≤ a ∧ a < 8 then M2 184 a = r ∧ rJ s' M2 ∧ loF M M2 else False) else (if 0 ≤ a ∧ a < 8 then M2 185 a = r ∧ rJ s' M2 ∧ loF M M2 else False))))))) else False))) := by
    intro is his
    refine rj_asks (d := 1569) (by omega) h (fun q M1 h1 f1 => ?_) (fun q1 q2 q3 M1 h1 f1 => ?_) (fun q1 q2 q3 M1 h1 f1 g1 g2 g3 => ?_)
    · rw [if_pos rfl]
      rcases hR with ⟨_, z2, z3⟩ | ⟨z1, z2, _⟩ | ⟨z1, z2, _⟩
      · exact ⟨z2.symm, by rw [z3]; exact h1, f1⟩
      · omega
      · omega
    · rw [if_pos rfl]
      rcases hR with ⟨z1, _⟩ | ⟨_, _, _, z4, z5⟩ | ⟨_, _, z3, _⟩
      · omega
      · exact ⟨z4.symm, by rw [z5]; exact h1, f1⟩
      · exact absurd z3 q3
    · rw [if_neg (by decide), if_pos q2]
      rcases hR with ⟨z1, _⟩ | ⟨_, _, z3, _⟩ | ⟨z1, _, _, z4⟩
      · omega
      · exact absurd q3 z3
      · obtain ⟨n, rfl⟩ := p_nat q2.1
        have hn : n < 8 := by omega
        rcases z4 with ⟨z5, z6, z7⟩ | ⟨z5, z6, z7⟩
        · rw [xR_n g2.2.1 hn z5, if_pos (by decide)]
          exact eR_rr (by decide) h1 f1 6 (by decide) z6 z7
        · have z5 : gX s.B n ≠ NK := z5
          have hy := xR_y g2.2.1 hn z5
          have z7 : cxV s.B n b r := z7
          have fin : ∀ v : Int, v = r → (v = r ∧ rJ s' M1 ∧ loF M M1) := fun v e => ⟨e, by rw [z6]; exact h1, f1⟩
          rw [if_neg (by rw [hy.1]; omega)]
          rcases z7 with ⟨e, z8⟩ | ⟨e, z8⟩ | ⟨e, z8⟩ | ⟨e, z8⟩ | ⟨e, z8⟩ | ⟨e, z8⟩
          · rw [if_pos e, if_pos q2]; exact fin _ (by rw [z8]; exact hy.1)
          · rw [if_neg (by omega), if_pos e, if_pos q2]; exact fin _ (by rw [z8]; exact hy.2.1)
          · rw [if_neg (by omega), if_neg (by omega), if_pos e]
            exact rj_around (d := 1577) (s := s.S 0) h1 g2 hn z5 (fun M3 k1 k2 k3 => ⟨by rw [z8]; rfl, by rw [z6]; exact k1, loF_tr f1 k2⟩)
          · rw [if_neg (by omega), if_neg (by omega), if_neg (by omega), if_pos e]
            exact rj_around (d := 1577) (s := s.S 0) h1 g2 hn z5 (fun M3 k1 k2 k3 => ⟨by rw [z8]; rfl, by rw [z6]; exact k1, loF_tr f1 k2⟩)
          · rw [if_neg (by omega), if_neg (by omega), if_neg (by omega), if_neg (by omega), if_pos e, if_pos q2]
            by_cases q : n = s.B 2
            · rw [if_pos q] at z8; exact fin _ (by rw [z8]; exact (hy.2.2.2 q).1)
            · rw [if_neg q] at z8; exact fin _ (by rw [z8]; exact (hy.2.2.1 q).1)
          · rw [if_neg (by omega), if_neg (by omega), if_neg (by omega), if_neg (by omega), if_neg (by omega), if_pos q2]
            by_cases q : n = s.B 2
            · rw [if_pos q] at z8; exact fin _ (by rw [z8]; exact (hy.2.2.2 q).2)
            · rw [if_neg q] at z8; exact fin _ (by rw [z8]; exact (hy.2.2.1 q).2)
  refine m_isIn (d := 1598) (fun q => ?_) (fun q => ?_)
  · exact main 1 (Or.inl ⟨rfl, by omega⟩)
  · exact main 0 (Or.inr ⟨rfl, by omega⟩)⟩)
theorem p_around (a b c : Int) (hb : b = 0 ∨ b = 1) : lm_pr (J k) (J (k + 1)) 183 301 [.inl a, .inl b, .inl c] := pr_R (fun s => ⟨syR s (0 ≤ c) a (cxP s a.toNat (ltP s (arW s.B a.toNat b) c)), fun M h => by
  refine (v_183_1 1599 _ _ _ _ _).mpr ?_
  refine @p_if _ _ _ _ ?_ ?_
  · intro e; exact eR_ref (by decide) h hiF_rf 1 (by decide) (Or.inl ⟨Or.inl (by omega), rfl, rfl⟩)
  intro e1
  obtain ⟨i, rfl⟩ := p_nat (show 0 ≤ c by omega)
  refine xj_context (d := 1593) h (fun ha => ?_) (fun ha hT => ?_) (fun ha hT hK M1 h1 f1 => ?_) (fun ha hT hK M1 h1 f1 c1 => ?_)
  · rw [if_neg (by decide)]; exact eR_ref (by decide) h hiF_rf 1 (by decide) (Or.inl ⟨Or.inr ha, rfl, rfl⟩)
  · rw [if_neg (by decide)]; exact eR_ref (by decide) h hiF_rf 2 (by decide) (Or.inr (Or.inl ⟨by omega, ha, hT, rfl, rfl⟩))
  · rw [if_neg (by decide)]; exact eR_ref (by decide) h1 f1 6 (by decide) (Or.inr (Or.inr ⟨by omega, ha, hT, Or.inl ⟨hK, rfl, rfl⟩⟩))
  · rw [if_pos rfl]
    obtain ⟨n, rfl⟩ := p_nat ha.1
    have hn : n < 8 := by omega
    have hw := c1.2.2.2.2.2.2 n hn hK
    have hl := xl_le (xJ_W h) hn hK
    rcases hb with rfl | rfl
    · rw [if_pos rfl, if_pos ha, (rf_made n hn).2.1]
      refine am_x_le [none, none, none, some (.inl ((i : Int))), none] (am_lb_le _ _ ⟨rfl, trivial⟩) ?_
      refine yl_183l ?_ hn
      exact eR_let (d := 1596) (ltB_m hn).2.1 h1 f1 hw.1 (by omega) (fun z => Or.inr (Or.inr ⟨by omega, ha, hT, Or.inr ⟨hK, Or.inl ⟨by show (i : Int) < ((xL s.B (gK s.B) (gX s.B) n).length : Int); omega, rfl, rfl⟩⟩⟩)) (fun z => Or.inr (Or.inr ⟨by omega, ha, hT, Or.inr ⟨hK, Or.inr ⟨by show ¬ (i : Int) < ((xL s.B (gK s.B) (gX s.B) n).length : Int); omega, rfl, rfl⟩⟩⟩))
    · rw [if_neg (by decide), if_pos ha, (rf_made n hn).2.2]
      refine am_x_le [none, none, none, some (.inl ((i : Int))), none] (am_lb_le _ _ ⟨rfl, trivial⟩) ?_
      refine yl_183r ?_ hn
      exact eR_let (d := 1596) (ltB_m hn).2.2 h1 f1 hw.2 (by omega) (fun z => Or.inr (Or.inr ⟨by omega, ha, hT, Or.inr ⟨hK, Or.inl ⟨by show (i : Int) < ((xRt s.B (gK s.B) (gX s.B) n).length : Int); omega, rfl, rfl⟩⟩⟩)) (fun z => Or.inr (Or.inr ⟨by omega, ha, hT, Or.inr ⟨hK, Or.inr ⟨by show ¬ (i : Int) < ((xRt s.B (gK s.B) (gX s.B) n).length : Int); omega, rfl, rfl⟩⟩⟩)), fun r s' hR M h => by
  have main : ∀ is : Int, (is = 1 ∧ 0 ≤ c ∨ is = 0 ∧ c < 0) → am_s am_P am_gg 1599 288 [.inr (.inr 174), .inl is, .inl a] M (fun r2 M2 => (if r2 = 0 then (-1 = r ∧ rJ s' M2 ∧ loF M M2) else (if 0 ≤ a ∧ a < 8 then (if M2 182 a < 0 then am_s am_P am_gg 1599 224 [.inr (.inr 174), .inl 6] M2 (fun r3 M3 => r3 = r ∧ rJ s' M3 ∧ loF M M3) else am_s am_P am_gg 1599 299 [.inr (.inr 174), .inl a, .inl b] M2 (fun r4 M4 => (if c < r4 then (if 0 ≤ c ∧ c < 256 then M4 186 c = r ∧ rJ s' M4 ∧ loF M M4 else False) else am_s am_P am_gg 1599 224 [.inr (.inr 174), .inl 6] M4 (fun r5 M5 => r5 = r ∧ rJ s' M5 ∧ loF M M5)))) else False))) := by
    intro is his
    refine rj_asks (d := 1569) (by omega) h (fun q M1 h1 f1 => ?_) (fun q1 q2 q3 M1 h1 f1 => ?_) (fun q1 q2 q3 M1 h1 f1 g1 g2 g3 => ?_)
    · rw [if_pos rfl]
      rcases hR with ⟨_, z2, z3⟩ | ⟨z1, z2, _⟩ | ⟨z1, z2, _⟩
      · exact ⟨z2.symm, by rw [z3]; exact h1, f1⟩
      · omega
      · omega
    · rw [if_pos rfl]
      rcases hR with ⟨z1, _⟩ | ⟨_, _, _, z4, z5⟩ | ⟨_, _, z3, _⟩
      · omega
      · exact ⟨z4.symm, by rw [z5]; exact h1, f1⟩
      · exact absurd z3 q3
    · rw [if_neg (by decide), if_pos q2]
      rcases hR with ⟨z1, _⟩ | ⟨_, _, z3, _⟩ | ⟨z1, _, _, z4⟩
      · omega
      · exact absurd q3 z3
      · obtain ⟨n, rfl⟩ := p_nat q2.1
        obtain ⟨i, rfl⟩ := p_nat z1
        have hn : n < 8 := by omega
        rcases z4 with ⟨z5, z6, z7⟩ | ⟨z5, z6⟩
        · rw [xR_n g2.2.1 hn z5, if_pos (by decide)]
          exact eR_rr (by decide) h1 f1 6 (by decide) z6 z7
        · have z5 : gX s.B n ≠ NK := z5
          have hy := xR_y g2.2.1 hn z5
          have hl := arW_le (b := b) (rJ_W h) hn z5
          rw [if_neg (by rw [hy.1]; omega)]
          refine rj_around (d := 1577) (s := s.S 0) h1 g2 hn z5 (fun M3 k1 k2 k3 => ?_)
          show (if (i : Int) < ((arW s.B n b).length : Int) then _ else _)
          rcases z6 with ⟨z7, z8, z9⟩ | ⟨z7, z8, z9⟩
          · have z7 : (i : Int) < ((arW s.B n b).length : Int) := z7
            rw [if_pos z7, if_pos (by omega)]
            exact ⟨by rw [z8]; exact k3 i (by show i < (arW s.B n b).length; omega), by rw [z9]; exact k1, loF_tr f1 k2⟩
          · have z7 : ¬ (i : Int) < ((arW s.B n b).length : Int) := z7
            rw [if_neg z7]
            exact eR_rr (by decide) k1 (loF_tr f1 k2) 6 (by decide) z8 z9
  refine (v_301_174 1599 _ _ _ _ _).mpr ?_
  refine @p_if _ _ _ _ ?_ ?_
  · intro e; exact main 0 (Or.inr ⟨rfl, e⟩)
  · intro e; exact main 1 (Or.inl ⟨rfl, by omega⟩)⟩)
end Sc6
