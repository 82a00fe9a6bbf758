/-! readers of both: pair, shown, pairOf, has -/
section Sc7
variable {s s' : sS} {B B' : Nat → Nat} {k k' d : Nat} {M M' M0 : (Nat → Int → Int)} {Q : Int → (Nat → Int → Int) → Prop} {l : List Nat}
theorem xj_noPair (h : xJ k s M) {a : Int} (h1 : a < 0 → Q 1 M) (h6 : 0 ≤ a → ¬ a < gN s.B → ∀ M', xJ k s M' → (∀ c, c < 22 ∨ 92 < c → M' c = M c) → Q 6 M') (h0 : 0 ≤ a → a < gN s.B → ∀ M', xJ k s M' → (∀ c, c < 22 ∨ 92 < c → M' c = M c) → chOK s.B M' → pOK s.B M' → spI s.B M' → Q 0 M') : am_s am_P am_gg (d + 7) 215 [.inr (.inr 1), .inl a] M Q := by
  refine (v_215_1 _ _ _ _).mpr ?_
  refine @p_if _ _ _ _ ?_ ?_
  · intro e; exact h1 e
  · intro e
    refine xj_pairs h (fun M1 g1 g2 g3 g4 g5 g6 => ?_)
    rw [show M1 81 3 = (gN s.B : Int) from g5.1.1.1]
    refine @p_if _ _ _ _ ?_ ?_
    · intro z; exact h0 (by omega) z M1 g1 g2 g3 g5 g6
    · intro z; exact h6 (by omega) z M1 g1 g2
theorem rj_asksPair {is a : Int} (his : is = 0 ∨ is = 1) (h : rJ s M) (h1 : (is = 0 ∨ a < 0) → ∀ M', rJ (s.S ((1 : Nat) : Int)) M' → loF M M' → Q 0 M') (h6 : is = 1 → 0 ≤ a → ¬ a < gN s.B → ∀ M', rJ (s.S ((6 : Nat) : Int)) M' → loF M M' → Q 0 M') (h0 : is = 1 → 0 ≤ a → a < gN s.B → ∀ M', rJ (s.S ((0 : Nat) : Int)) M' → loF M M' → rL s.B M' → Q 1 M') : am_s am_P am_gg (d + 30) 306 [.inr (.inr 174), .inl is, .inl a] M Q := by
  have ht := rJ_t (v := 0) h
  refine (v_306_174 _ _ _ _ _).mpr (rj_lays ht (fun M1 g1 g2 g3 g4 f1 => ?_))
  have hf : loF M M1 := loF_tr lo_up (rLF_lo f1)
  refine @p_if _ _ _ _ ?_ ?_
  · intro e; exact h1 (Or.inl e) _ (rJ_s2 g1 1) (loF_tr hf lo_up)
  intro e
  refine @p_if _ _ _ _ ?_ ?_
  · intro e2; exact h1 (Or.inr e2) _ (rJ_s2 g1 1) (loF_tr hf lo_up)
  intro e2
  rw [show M1 173 34 = (gN s.B : Int) from g3.2.2.2.2.2.2.2.2.2.1.1]
  refine @p_if _ _ _ _ ?_ ?_
  · intro z
    exact h0 (by omega) (by omega) z _ (rJ_s2 g1 0) (loF_tr hf lo_up) (rL_M g3 (fun i hi => up_ni _ _ _ _ (by omega) _) (fun c a b _ => up_nc _ _ _ _ (by omega)))
  · intro z; exact h6 (by omega) (by omega) z _ (rJ_s2 g1 6) (loF_tr hf lo_up)
/-- of a pair: asked wrongly, not so many, or as it should be -/
def paR (s : sS) (ok : Prop) (a : Int) (P : Int → sS → Prop) (r : Int) (s' : sS) : Prop := ((¬ ok ∨ a < 0) ∧ r = -1 ∧ s' = s.S 1) ∨ (ok ∧ 0 ≤ a ∧ ¬ a < gN s.B ∧ r = -1 ∧ s' = s.S 6) ∨ (ok ∧ 0 ≤ a ∧ a < gN s.B ∧ P r s')
def paV (B : Nat → Nat) (n : Nat) (b r : Int) : Prop := (b = 0 ∧ r = ((cd (gp B) n / 64 : Nat) : Int)) ∨ (b = 1 ∧ r = ((cd (gp B) n / 16 % 4 : Nat) : Int)) ∨ (b = 2 ∧ r = ((cd (gp B) n % 16 : Nat) : Int)) ∨ (b = 3 ∧ r = (pco B (gK B) (gX B) (cd (gp B) n) : Int)) ∨ (b = 4 ∧ r = ((pW B n).length : Int)) ∨ (b = 5 ∧ r = ((cnt (dc (nH B n)) 1024 : Nat) : Int))
theorem rL_row (q2 : rL B M) (e : ∀ c, c ≠ 173 → c ≠ 186 → M' c = M c) (e2 : ∀ i : Int, i ≠ 29 → M' 173 i = M 173 i) : rL B M' := by
  unfold rL yR xR pI bR cR at q2 ⊢
  rw [e2 12 (by decide), e2 13 (by decide), e2 14 (by decide), e2 15 (by decide), e2 34 (by decide), e2 37 (by decide), e 176 (by decide) (by decide), e 177 (by decide) (by decide), e 178 (by decide) (by decide), e 179 (by decide) (by decide), e 180 (by decide) (by decide), e 181 (by decide) (by decide), e 182 (by decide) (by decide), e 183 (by decide) (by decide), e 184 (by decide) (by decide), e 185 (by decide) (by decide), e 187 (by decide) (by decide), e 188 (by decide) (by decide), e 189 (by decide) (by decide), e 190 (by decide) (by decide), e 191 (by decide) (by decide)]; exact q2
theorem pOK_sp (hf : spF M M') (h : pOK B M) : pOK B M' := by
  unfold pOK pnI xpI xfF xrows havI ffI lrw at h ⊢
  rw [hf.2 3 (by decide), hf.2 4 (by decide), hf.2 10 (by decide), hf.1 82 (by decide) (by decide) (by decide), hf.1 83 (by decide) (by decide) (by decide), hf.1 84 (by decide) (by decide) (by decide), hf.1 85 (by decide) (by decide) (by decide), hf.1 86 (by decide) (by decide) (by decide), hf.1 87 (by decide) (by decide) (by decide), hf.1 88 (by decide) (by decide) (by decide), hf.1 89 (by decide) (by decide) (by decide), hf.1 90 (by decide) (by decide) (by decide)]; exact h
theorem xK_sp (h : xJ k s M) (hf : spF M M') (hp : pOK s.B M) (hw : ∀ n : Nat, n < gN s.B → M' 81 16 = (n : Int) → lw (pW s.B n) 91 M') : xJ k s M' := by
  obtain ⟨h0, h1, h2, h3, h4, h5, h6, h7⟩ := h
  have e2 : M' 2 0 = M 2 0 := by rw [hf.1 2 (by decide) (by decide) (by decide)]
  refine ⟨xS_c h0 (fun c hc => hf.1 c (by omega) (by omega) (by omega)), k1_M h1 e2 (fun c a b => hf.1 c (by omega) (by omega) (by omega)), k2_M h2 e2 (fun c a b => hf.1 c (by omega) (by omega) (by omega)), ⟨by rw [hf.2 2 (by decide), e2]; exact h3.1, fun _ => ⟨pOK_sp hf hp, hw⟩⟩, k4_M h4 e2 (hf.2 2 (by decide)) (fun c a b => hf.1 c (by omega) (by omega) (by omega)), k5_M h5 e2 (fun c a b => hf.1 c (by omega) (by omega) (by omega)), k6_M h6 e2 (fun c a b => hf.1 c (by omega) (by omega) (by omega)), k7_M h7 e2 (fun c a b => hf.1 c (by omega) (by omega) (by omega))⟩
theorem xj_spell (h : xJ k s M) (hc : chOK s.B M) (hp : pOK s.B M) (hs : spI s.B M) {n : Nat} (hn : n < gN s.B) (hQ : ∀ M', xJ k s M' → spF M M' → lw (pW s.B n) 91 M' → Q 92 M') : am_s am_P am_gg (d + 4) 103 [.inr (.inr 82), .inl (n : Int)] M Q := by
  refine x_spell (xJ_W h) (xJ_g h) hc hp hs hn (fun M' f w e => hQ M' (xK_sp h f hp (fun m hm e' => ?_)) f w)
  have : m = n := by omega
  rw [this]; exact w
theorem spF_hi (h : spF M M') : hiF M M' := fun c hc => h.1 c (by omega) (by omega) (by omega)
theorem p_pair (a b : Int) : lm_pr (J k) (J (k + 1)) 184 308 [.inl a, .inl b] := pr_R (fun s => ⟨paR s (0 ≤ b ∧ b ≤ 5) a (fun r s' => s' = s.S 0 ∧ paV s.B a.toNat b r), fun M h => by
  have hgN := gN_le (B := s.B)
  refine (w_184_1 1599 _ _ _ _).mpr ?_
  refine @p_if _ _ _ _ ?_ ?_
  · intro e; exact eR_ref (by decide) h hiF_rf 1 (by decide) (Or.inl ⟨Or.inl (by omega), rfl, rfl⟩)
  intro e1
  refine @p_if _ _ _ _ ?_ ?_
  · intro e; exact eR_ref (by decide) h hiF_rf 1 (by decide) (Or.inl ⟨Or.inl (by omega), rfl, rfl⟩)
  intro e2
  refine xj_noPair (d := 1592) h (fun ha => ?_) (fun ha hN M1 h1 f1 => ?_) (fun ha hN M1 h1 f1 c1 p1 s1 => ?_)
  · rw [if_neg (by decide)]; exact eR_ref (by decide) h hiF_rf 1 (by decide) (Or.inl ⟨Or.inr ha, rfl, rfl⟩)
  · rw [if_neg (by decide)]; exact eR_ref (by decide) h1 (fun c hc => f1 c (by omega)) 6 (by decide) (Or.inr (Or.inl ⟨by omega, ha, hN, rfl, rfl⟩))
  · rw [if_pos rfl]
    obtain ⟨n, rfl⟩ := p_nat ha
    have hn : n < gN s.B := by omega
    have hcd := cdP hn
    have hf1 : hiF M M1 := fun c hc => f1 c (by omega)
    have e82 : M1 82 (n : Int) = (cd (gp s.B) n : Int) ∧ M1 84 (n : Int) = (pco s.B (gK s.B) (gX s.B) (cd (gp s.B) n) : Int) := by
      have q := p1.1.1.2.2 (cd (gp s.B) n) hcd.1 (gp_iff.mpr hcd.2.1)
      rw [hcd.2.2] at q; exact q
    have good : ∀ (M2 : (Nat → Int → Int)) (v : Int), xJ k s M2 → hiF M M2 → paV s.B n b v → am_s am_P am_gg 1599 205 [.inr (.inr 1), .inl v] M2 (fun r M2 => ∃ s', paR s (0 ≤ b ∧ b ≤ 5) (n : Int) (fun r s' => s' = s.S 0 ∧ paV s.B ((n : Int).toNat) b r) r s' ∧ xJ (k + 1) s' M2 ∧ hiF M M2) := fun M2 v h2 f2 hv => eR_ans (by decide) h2 f2 v (Or.inr (Or.inr ⟨by omega, ha, hN, rfl, hv⟩))
    refine @p_if _ _ _ _ ?_ ?_
    · intro e; exact x_80 (d := 1598) (by omega) hcd.1 e82.1 (good M1 _ h1 hf1 (Or.inl ⟨e, rfl⟩))
    intro e0
    refine @p_if _ _ _ _ ?_ ?_
    · intro e; exact x_81 (d := 1598) (by omega) hcd.1 e82.1 (good M1 _ h1 hf1 (Or.inr (Or.inl ⟨e, rfl⟩)))
    intro e1'
    refine @p_if _ _ _ _ ?_ ?_
    · intro e; exact x_82 (d := 1598) p1 hn (good M1 _ h1 hf1 (Or.inr (Or.inr (Or.inl ⟨e, rfl⟩))))
    intro e2'
    refine @p_if _ _ _ _ ?_ ?_
    · intro e
      rw [if_pos (by omega), e82.2]
      exact good M1 _ h1 hf1 (Or.inr (Or.inr (Or.inr (Or.inl ⟨e, rfl⟩))))
    intro e3
    refine @p_if _ _ _ _ ?_ ?_
    · intro e
      refine xj_spell (d := 1595) h1 c1 p1 s1 hn (fun M2 h2 f2 w2 => ?_)
      refine am_x_le [none, none, none, none] (am_lb_le _ _ trivial) ?_
      refine (g_184_126_s92_s1 _ _ _).mpr ?_
      rw [w2.1]
      exact good M2 _ h2 (hiF_tr hf1 (spF_hi f2)) (Or.inr (Or.inr (Or.inr (Or.inr (Or.inl ⟨e, rfl⟩)))))
    · intro e
      exact x_countHad (d := 1596) p1 hn (good M1 _ h1 hf1 (Or.inr (Or.inr (Or.inr (Or.inr (Or.inr ⟨by omega, rfl⟩)))))), fun r s' hR M h => by
  have hgN := gN_le (B := s.B)
  refine (v_308_174 1599 _ _ _ _).mpr ?_
  have main : ∀ is : Int, (is = 1 ∧ (0 ≤ b ∧ b ≤ 5) ∨ is = 0 ∧ ¬ (0 ≤ b ∧ b ≤ 5)) → am_s am_P am_gg 1599 306 [.inr (.inr 174), .inl is, .inl a] M (fun r2 M2 => (if r2 = 0 then (-1 = r ∧ rJ s' M2 ∧ loF M M2) else am_s am_P am_gg 1599 305 [.inr (.inr 174), .inl a] M2 (fun r3 M3 => (if b = 0 then am_s am_P am_gg 1599 302 [.inr (.inr 174), .inl a] M3 (fun r4 M4 => r4 = r ∧ rJ s' M4 ∧ loF M M4) else (if b = 1 then am_s am_P am_gg 1599 303 [.inr (.inr 174), .inl a] M3 (fun r5 M5 => r5 = r ∧ rJ s' M5 ∧ loF M M5) else (if b = 2 then am_s am_P am_gg 1599 304 [.inr (.inr 174), .inl a] M3 (fun r6 M6 => r6 = r ∧ rJ s' M6 ∧ loF M M6) else (if b = 3 then (if 0 ≤ a ∧ a < 1024 then M3 188 a = r ∧ rJ s' M3 ∧ loF M M3 else False) else (if b = 4 then M3 173 29 = r ∧ rJ s' M3 ∧ loF M M3 else am_s am_P am_gg 1599 307 [.inr (.inr 174), .inl a] M3 (fun r7 M7 => r7 = r ∧ rJ s' M7 ∧ loF M M7))))))))) := by
    intro is his
    refine rj_asksPair (d := 1569) (by omega) h (fun q M1 h1 f1 => ?_) (fun q1 q2 q3 M1 h1 f1 => ?_) (fun q1 q2 q3 M1 h1 f1 g2 => ?_)
    · rw [if_pos rfl]
      rcases hR with ⟨_, z2, z3⟩ | ⟨z1, z2, _⟩ | ⟨z1, z2, _⟩
      · exact ⟨z2.symm, by rw [z3]; exact h1, f1⟩
      · omega
      · omega
    · rw [if_pos rfl]
      rcases hR with ⟨z1, _⟩ | ⟨_, _, _, z4, z5⟩ | ⟨_, _, z3, _⟩
      · omega
      · exact ⟨z4.symm, by rw [z5]; exact h1, f1⟩
      · exact absurd z3 q3
    · rw [if_neg (by decide)]
      rcases hR with ⟨z1, _⟩ | ⟨_, _, z3, _⟩ | ⟨z1, _, _, z6, z7⟩
      · omega
      · exact absurd q3 z3
      · obtain ⟨n, rfl⟩ := p_nat q2
        have hn : n < gN s.B := by omega
        have hcd := cdP hn
        have z7 : paV s.B n b r := z7
        refine m_writesPair (d := 1576) (B := s.B) (rJ_W h) (rb_of (s := s.S 0) h1) g2 hn (fun M3 f3 w3 => ?_)
        have h3 : rJ (s.S 0) M3 := rJ_row h1 f3.1 f3.2
        have f3' : loF M M3 := loF_tr f1 (fun c hc => f3.1 c (by omega) (by omega))
        have g3 : rL s.B M3 := rL_row g2 f3.1 f3.2
        have fin : ∀ v : Int, v = r → (v = r ∧ rJ s' M3 ∧ loF M M3) := fun v e => ⟨e, by rw [z6]; exact h3, f3'⟩
        have e87 := pI_cd g3.2.2.2.2.2.2.2.2.2.1 hn
        rcases z7 with ⟨e, z8⟩ | ⟨e, z8⟩ | ⟨e, z8⟩ | ⟨e, z8⟩ | ⟨e, z8⟩ | ⟨e, z8⟩
        · rw [if_pos e]; exact m_302 (d := 1598) (by omega) hcd.1 e87.1 (fin _ z8.symm)
        · rw [if_neg (by omega), if_pos e]; exact m_303 (d := 1598) (by omega) hcd.1 e87.1 (fin _ z8.symm)
        · rw [if_neg (by omega), if_neg (by omega), if_pos e]; exact m_304 (d := 1598) (by omega) hcd.1 e87.1 (fin _ z8.symm)
        · rw [if_neg (by omega), if_neg (by omega), if_neg (by omega), if_pos e, if_pos (by omega)]; exact fin _ (by rw [z8]; exact e87.2.1)
        · rw [if_neg (by omega), if_neg (by omega), if_neg (by omega), if_neg (by omega), if_pos e]; exact fin _ (by rw [z8]; exact w3.1)
        · rw [if_neg (by omega), if_neg (by omega), if_neg (by omega), if_neg (by omega), if_neg (by omega)]
          exact m_pairsIn (d := 1597) g3 hn (fin _ (by rw [z8, had_num (rJ_W h) hn]))
  refine m_isIn (d := 1598) (fun q => ?_) (fun q => ?_)
  · exact main 1 (Or.inl ⟨rfl, by omega⟩)
  · exact main 0 (Or.inr ⟨rfl, by omega⟩)⟩)
theorem p_shown (a b : Int) : lm_pr (J k) (J (k + 1)) 185 309 [.inl a, .inl b] := pr_R (fun s => ⟨paR s (0 ≤ b) a (ltP s (pW s.B a.toNat) b), fun M h => by
  refine (w_185_1 1599 _ _ _ _).mpr ?_
  refine @p_if _ _ _ _ ?_ ?_
  · intro e; exact eR_ref (by decide) h hiF_rf 1 (by decide) (Or.inl ⟨Or.inl (by omega), rfl, rfl⟩)
  intro e1
  obtain ⟨i, rfl⟩ := p_nat (show 0 ≤ b by omega)
  refine xj_noPair (d := 1592) h (fun ha => ?_) (fun ha hN M1 h1 f1 => ?_) (fun ha hN M1 h1 f1 c1 p1 s1 => ?_)
  · rw [if_neg (by decide)]; exact eR_ref (by decide) h hiF_rf 1 (by decide) (Or.inl ⟨Or.inr ha, rfl, rfl⟩)
  · rw [if_neg (by decide)]; exact eR_ref (by decide) h1 (fun c hc => f1 c (by omega)) 6 (by decide) (Or.inr (Or.inl ⟨by omega, ha, hN, rfl, rfl⟩))
  · rw [if_pos rfl]
    obtain ⟨n, rfl⟩ := p_nat ha
    have hn : n < gN s.B := by omega
    refine xj_spell (d := 1595) h1 c1 p1 s1 hn (fun M2 h2 f2 w2 => ?_)
    refine am_x_le [none, none, some (.inl ((i : Int))), none] (am_lb_le _ _ ⟨rfl, trivial⟩) ?_
    refine (g_185_35_s92_s1 _ _ _ _).mpr ?_
    exact eR_let (d := 1596) (L := 91) (by decide) h2 (hiF_tr (fun c hc => f1 c (by omega)) (spF_hi f2)) w2 (pW_len (xJ_W h) hn) (fun z => Or.inr (Or.inr ⟨by omega, ha, hN, Or.inl ⟨by show (i : Int) < ((pW s.B n).length : Int); omega, rfl, rfl⟩⟩)) (fun z => Or.inr (Or.inr ⟨by omega, ha, hN, Or.inr ⟨by show ¬ (i : Int) < ((pW s.B n).length : Int); omega, rfl, rfl⟩⟩)), fun r s' hR M h => by
  have main : ∀ is : Int, (is = 1 ∧ 0 ≤ b ∨ is = 0 ∧ b < 0) → am_s am_P am_gg 1599 306 [.inr (.inr 174), .inl is, .inl a] M (fun r2 M2 => (if r2 = 0 then (-1 = r ∧ rJ s' M2 ∧ loF M M2) else am_s am_P am_gg 1599 305 [.inr (.inr 174), .inl a] M2 (fun r3 M3 => (if b < M3 173 29 then (if 0 ≤ b ∧ b < 256 then M3 186 b = r ∧ rJ s' M3 ∧ loF M M3 else False) else am_s am_P am_gg 1599 224 [.inr (.inr 174), .inl 6] M3 (fun r5 M5 => r5 = r ∧ rJ s' M5 ∧ loF M M5))))) := by
    intro is his
    refine rj_asksPair (d := 1569) (by omega) h (fun q M1 h1 f1 => ?_) (fun q1 q2 q3 M1 h1 f1 => ?_) (fun q1 q2 q3 M1 h1 f1 g2 => ?_)
    · rw [if_pos rfl]
      rcases hR with ⟨_, z2, z3⟩ | ⟨z1, z2, _⟩ | ⟨z1, z2, _⟩
      · exact ⟨z2.symm, by rw [z3]; exact h1, f1⟩
      · omega
      · omega
    · rw [if_pos rfl]
      rcases hR with ⟨z1, _⟩ | ⟨_, _, _, z4, z5⟩ | ⟨_, _, z3, _⟩
      · omega
      · exact ⟨z4.symm, by rw [z5]; exact h1, f1⟩
      · exact absurd z3 q3
    · rw [if_neg (by decide)]
      rcases hR with ⟨z1, _⟩ | ⟨_, _, z3, _⟩ | ⟨z1, _, _, z6⟩
      · omega
      · exact absurd q3 z3
      · obtain ⟨n, rfl⟩ := p_nat q2
        obtain ⟨i, rfl⟩ := p_nat z1
        have hn : n < gN s.B := by omega
        have hl := pW_len (rJ_W h) hn
        refine m_writesPair (d := 1576) (B := s.B) (rJ_W h) (rb_of (s := s.S 0) h1) g2 hn (fun M3 f3 w3 => ?_)
        have h3 : rJ (s.S 0) M3 := rJ_row h1 f3.1 f3.2
        have f3' : loF M M3 := loF_tr f1 (fun c hc => f3.1 c (by omega) (by omega))
        rw [w3.1]
        rcases z6 with ⟨z7, z8, z9⟩ | ⟨z7, z8, z9⟩
        · have z7 : (i : Int) < ((pW s.B n).length : Int) := z7
          rw [if_pos z7, if_pos (by omega)]
          exact ⟨by rw [z8]; exact w3.2 i (by omega), by rw [z9]; exact h3, f3'⟩
        · have z7 : ¬ (i : Int) < ((pW s.B n).length : Int) := z7
          rw [if_neg z7]
          exact eR_rr (by decide) h3 f3' 6 (by decide) z8 z9
  refine (v_309_174 1599 _ _ _ _).mpr ?_
  refine @p_if _ _ _ _ ?_ ?_
  · intro e; exact main 0 (Or.inr ⟨rfl, e⟩)
  · intro e; exact main 1 (Or.inl ⟨rfl, by omega⟩)⟩)
def poR (s : sS) (a b c r : Int) (s' : sS) : Prop := (b < 0 ∧ r = -1 ∧ s' = s.S 1) ∨ (0 ≤ b ∧ ¬ ((0 ≤ a ∧ a < s.B 0) ∧ (0 ≤ c ∧ c < s.B 0)) ∧ r = -1 ∧ s' = s.S 2) ∨ ((0 ≤ b ∧ (0 ≤ a ∧ a < s.B 0) ∧ (0 ≤ c ∧ c < s.B 0)) ∧ ((b < 4 ∧ gp s.B (cde a.toNat b.toNat c.toNat) = true ∧ r = (cnt (gp s.B) (cde a.toNat b.toNat c.toNat) : Int) ∧ s' = s.S 0) ∨ (¬ (b < 4 ∧ gp s.B (cde a.toNat b.toNat c.toNat) = true) ∧ r = -1 ∧ s' = s.S 6)))
theorem p_pairOf (a b c : Int) : lm_pr (J k) (J (k + 1)) 186 310 [.inl a, .inl b, .inl c] := pr_R (fun s => ⟨poR s a b c, fun M h => by
  have hg := xJ_g h
  have hn16 := (xJ_W h).1
  refine (v_186_1 1599 _ _ _ _ _).mpr ?_
  refine @p_if _ _ _ _ ?_ ?_
  · intro e; exact eR_ref (by decide) h hiF_rf 1 (by decide) (Or.inl ⟨e, rfl, rfl⟩)
  intro e1
  refine x_hasRule (d := 1598) hg (fun ha => ?_) (fun ha => ?_)
  · rw [if_neg (by decide)]
    refine x_hasRule (d := 1598) hg (fun hc => ?_) (fun hc => ?_)
    · rw [if_neg (by decide)]
      refine xj_pairs (d := 1593) h (fun M1 h1 f1 c1 g0 p1 s1 => ?_)
      have hf1 : hiF M M1 := fun c hc => f1 c (by omega)
      obtain ⟨x, rfl⟩ := p_nat ha.1
      obtain ⟨y, rfl⟩ := p_nat (show 0 ≤ b by omega)
      obtain ⟨z, rfl⟩ := p_nat hc.1
      refine @p_if _ _ _ _ ?_ ?_
      · intro e4
        refine x_numberOf (d := 1598) p1.1.1 (by omega) (by omega) (by omega) ?_
        by_cases q : gp s.B (cde x y z) = true
        · rw [if_pos q, if_neg (by omega)]
          exact eR_ans (by decide) h1 hf1 _ (Or.inr (Or.inr ⟨⟨by omega, ha, hc⟩, Or.inl ⟨e4, q, rfl, rfl⟩⟩))
        · rw [if_neg q, if_pos rfl]
          exact eR_ref (by decide) h1 hf1 6 (by decide) (Or.inr (Or.inr ⟨⟨by omega, ha, hc⟩, Or.inr ⟨fun w => q w.2, rfl, rfl⟩⟩))
      · intro e4
        exact eR_ref (by decide) h1 hf1 6 (by decide) (Or.inr (Or.inr ⟨⟨by omega, ha, hc⟩, Or.inr ⟨fun w => e4 w.1, rfl, rfl⟩⟩))
    · rw [if_pos rfl]; exact eR_ref (by decide) h hiF_rf 2 (by decide) (Or.inr (Or.inl ⟨by omega, fun z => hc z.2, rfl, rfl⟩))
  · rw [if_pos rfl]; exact eR_ref (by decide) h hiF_rf 2 (by decide) (Or.inr (Or.inl ⟨by omega, fun z => ha z.1, rfl, rfl⟩)), fun r s' hR M h => by
  have hn16 := (rJ_W h).1
  have ht : rJ (s.S 0) (am_up (am_up M 173 3 0) 173 2 0) := rJ_s2 (rJ_t h) 0
  have hB := rb_of ht
  refine (v_310_174 1599 _ _ _ _ _).mpr ?_
  refine @p_if _ _ _ _ ?_ ?_
  · intro e
    rcases hR with ⟨_, z2, z3⟩ | ⟨z1, _⟩ | ⟨⟨z1, _⟩, _⟩
    · exact eR_rr (by decide) ht (loF_tr lo_up lo_up) 1 (by decide) z2 z3
    · omega
    · omega
  intro e
  refine m_isRule (d := 1597) hB hn16 (fun ha => ?_) (fun ha => ?_)
  · rw [if_neg (by decide)]
    refine m_isRule (d := 1597) hB hn16 (fun hc => ?_) (fun hc => ?_)
    · rw [if_neg (by decide)]
      rcases hR with ⟨z1, _⟩ | ⟨_, z2, _⟩ | ⟨_, z4⟩
      · omega
      · exact absurd ⟨ha, hc⟩ z2
      · refine rj_lays (d := 1573) ht (fun M1 h1 g1 g2 g3 f1 => ?_)
        have hf : loF M M1 := loF_tr (loF_tr lo_up lo_up) (rLF_lo f1)
        have ha : 0 ≤ a ∧ a < (s.B 0 : Int) := ha
        have hc : 0 ≤ c ∧ c < (s.B 0 : Int) := hc
        obtain ⟨x, rfl⟩ := p_nat ha.1
        obtain ⟨y, rfl⟩ := p_nat (show 0 ≤ b by omega)
        obtain ⟨z, rfl⟩ := p_nat hc.1
        refine @p_if _ _ _ _ ?_ ?_
        · intro e4
          refine m_code (d := 1598) (by omega) (by omega) (by omega) ?_
          have hcd : cde x y z < 1024 := by unfold cde; omega
          rw [if_pos (by omega)]
          have e190 := g2.2.2.2.2.2.2.2.2.2.1.2.1 (cde x y z) hcd
          have e190 : M1 190 (cde x y z : Int) = if cde x y z < 1024 ∧ gp s.B (cde x y z) = true then (cnt (gp s.B) (cde x y z) : Int) else -1 := e190
          rcases z4 with ⟨_, z5, z6, z7⟩ | ⟨z5, z6, z7⟩
          · have z5 : gp s.B (cde x y z) = true := z5
            rw [if_pos ⟨hcd, z5⟩] at e190
            rw [e190, if_neg (by omega)]
            exact ⟨by rw [z6]; rfl, by rw [z7]; exact h1, hf⟩
          · have z5 : ¬ ((y : Int) < 4 ∧ gp s.B (cde x y z) = true) := z5
            rw [if_neg (fun w => z5 ⟨e4, w.2⟩)] at e190
            rw [e190, if_pos (by decide)]
            exact eR_rr (by decide) h1 hf 6 (by decide) z6 z7
        · intro e4
          rcases z4 with ⟨z5, _⟩ | ⟨_, z6, z7⟩
          · omega
          · exact eR_rr (by decide) h1 hf 6 (by decide) z6 z7
    · rw [if_pos rfl]
      rcases hR with ⟨z1, _⟩ | ⟨_, _, z3, z4⟩ | ⟨⟨_, _, z3⟩, _⟩
      · omega
      · exact eR_rr (by decide) ht (loF_tr lo_up lo_up) 2 (by decide) z3 z4
      · exact absurd z3 hc
  · rw [if_pos rfl]
    rcases hR with ⟨z1, _⟩ | ⟨_, _, z3, z4⟩ | ⟨⟨_, z3, _⟩, _⟩
    · omega
    · exact eR_rr (by decide) ht (loF_tr lo_up lo_up) 2 (by decide) z3 z4
    · exact absurd z3 ha⟩)
end Sc7
