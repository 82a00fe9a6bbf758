/-! readers of both: trees, tree, treeRule -/
section Sd1
variable {s s' : sS} {B B' : Nat → Nat} {k k' d : Nat} {M M' M0 : (Nat → Int → Int)} {Q : Int → (Nat → Int → Int) → Prop} {l : List Nat}
theorem xj_trees (h : xJ k s M) {n : Nat} (h1 : 1 ≤ n) (hn : n ≤ 24) (hQ : ∀ M' f, xJ k s M' → tcF M M' → f ≤ 24 → n ≤ f → cT s.B f M' → pkO s.B M' → Q 0 M') : am_s am_P am_gg (d + 5) 144 [.inr (.inr 101), .inl (n : Int)] M Q := by
  have hW := xJ_W h
  have hg := xJ_g h
  obtain ⟨h0, a1, a2, a3, a4, a5, a6, a7⟩ := h
  refine x_prepTrees hg hW a5.1 a5.2.2 h1 hn (fun M' f g1 g2 g3 g4 g5 g6 g7 g8 => ?_)
  have e2 : M' 2 0 = M 2 0 := by rw [g1 2 (by omega)]
  exact hQ M' f ⟨xS_c h0 (fun c hc => g1 c (by omega)), k1_M a1 e2 (fun c a b => g1 c (by omega)), k2_M a2 e2 (fun c a b => g1 c (by omega)), k3_M a3 e2 (fun c a b => g1 c (by omega)), k4_M a4 e2 (by rw [g1 81 (by omega)]) (fun c a b => g1 c (by omega)), ⟨g2, by omega, fun _ => ⟨⟨f, g4, g6, g7⟩, g8⟩⟩, k6_M a6 e2 (fun c a b => g1 c (by omega)), k7_M a7 e2 (fun c a b => g1 c (by omega))⟩ g1 g4 g5 g7 g8
theorem tcF_hi (h : tcF M M') : hiF M M' := fun c hc => h c (by omega)
theorem rJ_tF (h : rJ s M) (f : tF M M') (ht : tI s.B M') : rJ s M' := by
  refine ⟨rS_ly h.1 (fun i _ => by rw [f 173 (by decide) (by decide)]) (f 174 (by decide) (by decide)) (f 175 (by decide) (by decide)), ?_⟩
  rw [f 173 (by decide) (by decide)]
  rcases h.2 with q | ⟨q1, q2, q3⟩
  · exact Or.inl q
  · exact Or.inr ⟨q1, rL_M q2 (fun i _ => by rw [f 173 (by decide) (by decide)]) (fun c a b _ => f c (by omega) (by omega)), ht⟩
theorem p_trees (a b : Int) : lm_pr (J k) (J (k + 1)) 194 328 [.inl a, .inl b] := pr_R (fun s => ⟨syR s (1 ≤ b ∧ b ≤ 24) a (fun r s' => r = (tT s.B a.toNat b.toNat : Int) ∧ s' = s.S 0), fun M h => by
  refine (v_194_1 1599 _ _ _ _).mpr ?_
  refine @p_if _ _ _ _ ?_ ?_
  · intro e; exact eR_ref (by decide) h hiF_rf 1 (by decide) (Or.inl ⟨Or.inl (by omega), rfl, rfl⟩)
  intro e1
  refine @p_if _ _ _ _ ?_ ?_
  · intro e; exact eR_ref (by decide) h hiF_rf 1 (by decide) (Or.inl ⟨Or.inl (by omega), rfl, rfl⟩)
  intro e2
  refine xj_sym (d := 1597) h (fun ha => ?_) (fun ha hT => ?_) (fun ha hT => ?_)
  · rw [if_neg (by decide)]; exact eR_ref (by decide) h hiF_rf 1 (by decide) (Or.inl ⟨Or.inr ha, rfl, rfl⟩)
  · rw [if_neg (by decide)]; exact eR_ref (by decide) h hiF_rf 2 (by decide) (Or.inr (Or.inl ⟨by omega, ha, hT, rfl, rfl⟩))
  · rw [if_pos rfl]
    obtain ⟨n, rfl⟩ := p_nat ha.1
    obtain ⟨m, rfl⟩ := p_nat (show 0 ≤ b by omega)
    have hs0 := xJ_C h (Nat.le_refl k) (show xC k s (s.S 0) 0 M 0 (am_up M 0 2 0) from ⟨rfl, xS_st h.1 am_0, xA_st⟩)
    refine xj_trees (d := 1594) (s := s.S 0) hs0.2.1 (by omega) (by omega) (fun M1 f h1 f1 g1 g2 g3 g4 => ?_)
    refine x_of (d := 1598) (B := s.B) (by omega) (by omega) ((g3.2 m (by omega) g2).1 n (by omega)) ?_
    rw [cv_sg (by omega)]
    exact ⟨s.S 0, Or.inr (Or.inr ⟨by omega, ha, hT, rfl, rfl⟩), xJ_mono h1 (by omega), hiF_tr hs0.2.2 (tcF_hi f1)⟩, fun r s' hR M h => by
  refine (v_328_174 1599 _ _ _ _).mpr ?_
  have main : ∀ is : Int, (is = 1 ∧ (1 ≤ b ∧ b ≤ 24) ∨ is = 0 ∧ ¬ (1 ≤ b ∧ b ≤ 24)) → am_s am_P am_gg 1599 288 [.inr (.inr 174), .inl is, .inl a] M (fun r2 M2 => (if r2 = 0 then (-1 = r ∧ rJ s' M2 ∧ loF M M2) else am_s am_P am_gg 1599 324 [.inr (.inr 174), .inl a, .inl b] M2 (fun r3 M3 => r3 = r ∧ rJ s' M3 ∧ loF M M3))) := by
    intro is his
    refine rj_asks (d := 1569) (by omega) h (fun q M1 h1 f1 => ?_) (fun q1 q2 q3 M1 h1 f1 => ?_) (fun q1 q2 q3 M1 h1 f1 g1 g2 g3 => ?_)
    · rw [if_pos rfl]
      rcases hR with ⟨_, z2, z3⟩ | ⟨z1, z2, _⟩ | ⟨z1, z2, _⟩
      · exact ⟨z2.symm, by rw [z3]; exact h1, f1⟩
      · omega
      · omega
    · rw [if_pos rfl]
      rcases hR with ⟨z1, _⟩ | ⟨_, _, _, z4, z5⟩ | ⟨_, _, z3, _⟩
      · omega
      · exact ⟨z4.symm, by rw [z5]; exact h1, f1⟩
      · exact absurd z3 q3
    · rw [if_neg (by decide)]
      rcases hR with ⟨z1, _⟩ | ⟨_, _, z3, _⟩ | ⟨z1, _, _, z4, z5⟩
      · omega
      · exact absurd q3 z3
      · obtain ⟨n, rfl⟩ := p_nat q2.1
        obtain ⟨m, rfl⟩ := p_nat (show 0 ≤ b by omega)
        exact rTO_mono (m_trees (rJ_W h) (Or.inl (by omega)) (by omega)) (by omega) M1 _ g3 (fun M3 k1 k2 => ⟨z4.symm, by rw [z5]; exact rJ_tF h1 k2 k1, loF_tr f1 (fun c hc => k2 c (by omega) (by omega))⟩)
  refine m_isIn (d := 1598) (fun q => ?_) (fun q => ?_)
  · exact main 1 (Or.inl ⟨rfl, by omega⟩)
  · exact main 0 (Or.inr ⟨rfl, by omega⟩)⟩)
/-- the class: no tree -/
theorem xj_noTree (h : xJ k s M) {a b c : Int} (h1 : (¬ (1 ≤ b ∧ b ≤ 24 ∧ 0 ≤ c) ∨ ¬ (0 ≤ a ∧ a < 8)) → Q 1 M) (h2 : (1 ≤ b ∧ b ≤ 24 ∧ 0 ≤ c) → 0 ≤ a ∧ a < 8 → ¬ gT s.B a → Q 2 M) (h6 : (1 ≤ b ∧ b ≤ 24 ∧ 0 ≤ c) → 0 ≤ a ∧ a < 8 → gT s.B a → ¬ c < tT s.B a.toNat b.toNat → ∀ M', xJ k s M' → hiF M M' → Q 6 M') (h0 : (1 ≤ b ∧ b ≤ 24 ∧ 0 ≤ c) → 0 ≤ a ∧ a < 8 → gT s.B a → c < tT s.B a.toNat b.toNat → ∀ M' f, xJ k s M' → hiF M M' → f ≤ 24 → b.toNat ≤ f → cT s.B f M' → pkO s.B M' → Q 0 M') : am_s am_P am_gg (d + 6) 216 [.inr (.inr 1), .inl a, .inl b, .inl c] M Q := by
  refine (v_216_1 _ _ _ _ _ _).mpr ?_
  refine @p_if _ _ _ _ ?_ ?_
  · intro e; exact h1 (Or.inl (by omega))
  intro e1
  refine @p_if _ _ _ _ ?_ ?_
  · intro e; exact h1 (Or.inl (by omega))
  intro e2
  refine @p_if _ _ _ _ ?_ ?_
  · intro e; exact h1 (Or.inl (by omega))
  intro e3
  refine xj_sym h (fun ha => ?_) (fun ha hT => ?_) (fun ha hT => ?_)
  · rw [if_neg (by decide)]; exact h1 (Or.inr ha)
  · rw [if_neg (by decide)]; exact h2 (by omega) ha hT
  · rw [if_pos rfl]
    obtain ⟨n, rfl⟩ := p_nat ha.1
    obtain ⟨m, rfl⟩ := p_nat (show 0 ≤ b by omega)
    refine xj_trees h (by omega) (by omega) (fun M1 f g0 f1 g1 g2 g3 g4 => ?_)
    refine x_of (B := s.B) (by omega) (by omega) ((g3.2 m (by omega) g2).1 n (by omega)) ?_
    rw [cv_sg (by omega)]
    refine @p_if _ _ _ _ ?_ ?_
    · intro e; exact h0 (by omega) ha hT (lc_lt.mp e) M1 f g0 (tcF_hi f1) g1 g2 g3 g4
    · intro e; exact h6 (by omega) ha hT (fun z => e (lc_lt.mpr z)) M1 g0 (tcF_hi f1)
theorem xj_pick (h : xJ k s M) {n m x f : Nat} (hT : cT s.B f M) (hf : m ≤ f) (h1 : 1 ≤ m) (hm : m ≤ 24) (hn : n < 8) (hx3 : x < 4294967296) (hx : x < tT s.B n m) (hpk : pkO s.B M) (hQ : ∀ M', xJ k s M' → hiF M M' → lsI M' (uT s.B n m x).1 (uT s.B n m x).2 → Q 0 M') : am_s am_P am_gg (d + 5) 152 [.inr (.inr 101), .inl (n : Int), .inl (m : Int), .inl (x : Int)] M Q := by
  have hW := xJ_W h
  have hg := xJ_g h
  obtain ⟨h0, a1, a2, a3, a4, a5, a6, a7⟩ := h
  refine x_pick hg hW hT hf h1 hm hn hx3 hx hpk (fun M' g1 g2 g3 g4 g5 => ?_)
  have e2 : M' 2 0 = M 2 0 := by rw [g1 2 (by omega)]
  refine hQ M' ⟨xS_c h0 (fun c hc => g1 c (by omega)), k1_M a1 e2 (fun c a b => g1 c (by omega)), k2_M a2 e2 (fun c a b => g1 c (by omega)), k3_M a3 e2 (fun c a b => g1 c (by omega)), k4_M a4 e2 (by rw [g1 81 (by omega)]) (fun c a b => g1 c (by omega)), ⟨cLet_M a5.1 g2, by rw [g3 1 (by decide), e2]; exact a5.2.1, fun q => ?_⟩, k6_M a6 e2 (fun c a b => g1 c (by omega)), k7_M a7 e2 (fun c a b => g1 c (by omega))⟩ (tcF_hi g1) g5
  rw [g3 1 (by decide), e2] at q
  obtain ⟨⟨f', q1, q2, q3⟩, _⟩ := a5.2.2 q
  refine ⟨⟨f', q1, by rw [g3 2 (by decide)]; exact q2, ?_⟩, g4⟩
  unfold cT cL tbl at q3 ⊢
  rw [g2]; exact q3
def trP (s : sS) (n m : Nat) (c : Int) (P : Int → sS → Prop) (r : Int) (s' : sS) : Prop := (¬ c < tT s.B n m ∧ r = -1 ∧ s' = s.S 6) ∨ (c < tT s.B n m ∧ P r s')
/-- the reference: a tree -/
theorem rj_asksTree {is a b c : Int} (his : is = 0 ∨ is = 1) (hc32 : am_i32 c) (h : rJ s M) (h1 : (¬ (is = 1 ∧ 1 ≤ b ∧ b ≤ 24 ∧ 0 ≤ c) ∨ ¬ (0 ≤ a ∧ a < 8)) → ∀ M', rJ (s.S ((1 : Nat) : Int)) M' → loF M M' → Q 0 M') (h2 : (is = 1 ∧ 1 ≤ b ∧ b ≤ 24 ∧ 0 ≤ c) → 0 ≤ a ∧ a < 8 → ¬ gT s.B a → ∀ M', rJ (s.S ((2 : Nat) : Int)) M' → loF M M' → Q 0 M') (h6 : (is = 1 ∧ 1 ≤ b ∧ b ≤ 24 ∧ 0 ≤ c) → 0 ≤ a ∧ a < 8 → gT s.B a → ¬ c < tT s.B a.toNat b.toNat → ∀ M', rJ (s.S ((6 : Nat) : Int)) M' → loF M M' → Q 0 M') (h0 : (is = 1 ∧ 1 ≤ b ∧ b ≤ 24 ∧ 0 ≤ c) → 0 ≤ a ∧ a < 8 → gT s.B a → c < tT s.B a.toNat b.toNat → ∀ M', rJ (s.S ((0 : Nat) : Int)) M' → loF M M' → uI s.B M' (uT s.B a.toNat b.toNat c.toNat).1 (uT s.B a.toNat b.toNat c.toNat).2 → Q 1 M') : am_s am_P am_gg (d + 1400) 329 [.inr (.inr 174), .inl is, .inl a, .inl b, .inl c] M Q := by
  unfold am_i32 at hc32
  have main : ∀ is' : Int, (is' = 1 ∧ (is = 1 ∧ 1 ≤ b ∧ b ≤ 24 ∧ 0 ≤ c) ∨ is' = 0 ∧ ¬ (is = 1 ∧ 1 ≤ b ∧ b ≤ 24 ∧ 0 ≤ c)) → am_s am_P am_gg (d + 1399) 288 [.inr (.inr 174), .inl is', .inl a] M (fun r2 M2 => (if r2 = 0 then Q 0 M2 else am_s am_P am_gg (d + 1399) 324 [.inr (.inr 174), .inl a, .inl b] M2 (fun r3 M3 => (if l_cmp c r3 < 0 then am_s am_P am_gg (d + 1399) 327 [.inr (.inr 174), .inl a, .inl b, .inr (.inl c)] (am_up (am_up M3 173 29 0) 173 44 0) (fun r4 M4 => Q 1 M4) else Q 0 (am_up M3 173 2 6))))) := by
    intro is' his'
    refine rj_asks (d := d + 1369) (by omega) h (fun q M1 g1 f1 => ?_) (fun q1 q2 q3 M1 g1 f1 => ?_) (fun q1 q2 q3 M1 g1 f1 g2 g3 g4 => ?_)
    · rw [if_pos rfl]; exact h1 (by omega) M1 g1 f1
    · rw [if_pos rfl]; exact h2 (by omega) q2 q3 M1 g1 f1
    · rw [if_neg (by decide)]
      have hok : is = 1 ∧ 1 ≤ b ∧ b ≤ 24 ∧ 0 ≤ c := by omega
      obtain ⟨n, rfl⟩ := p_nat q2.1
      obtain ⟨m, rfl⟩ := p_nat (show 0 ≤ b by omega)
      obtain ⟨x, rfl⟩ := p_nat hok.2.2.2
      refine rTO_mono (m_trees (rJ_W h) (Or.inl (by omega)) (by omega)) (by omega) M1 _ g4 (fun M3 k1 k2 => ?_)
      have h3 : rJ (s.S 0) M3 := rJ_tF g1 k2 k1
      have f3 : loF M M3 := loF_tr f1 (fun c hc => k2 c (by omega) (by omega))
      refine @p_if _ _ _ _ ?_ ?_
      · intro e
        have e := lc_lt.mp e
        have e : x < tT s.B n m := by omega
        have hl := uT_len (rJ_W h) (s := n) (Or.inl (by omega)) (show m ≤ 24 by omega) e
        refine m_unr (d := d + 1399) (rJ_W h) (show n < 8 by omega) (show m ≤ 24 by omega) (by omega) e (by omega) _ _ [] [] ⟨tI_M k1 (by rw [up_nc _ _ _ _ (by decide), up_nc _ _ _ _ (by decide)]; exact k1.1) (by rw [up_nc _ _ _ _ (by decide), up_nc _ _ _ _ (by decide)]) (by rw [up_nc _ _ _ _ (by decide), up_nc _ _ _ _ (by decide)]), by rw [up_ni _ _ _ _ (by decide), up_eq]; rfl, by rw [up_eq]; rfl, fun j hj => absurd hj (Nat.not_lt_zero j), fun j hj => absurd hj (Nat.not_lt_zero j)⟩ (by show 0 + _ ≤ _; omega) (by show 0 + _ ≤ _; omega) (fun M4 u1 u2 => ?_)
        have fr : ∀ c, c ≠ 173 → c ≠ 186 → c ≠ 193 → c ≠ 194 → c ≠ 197 → M4 c = M3 c := fun c a1 a2 a3 a4 a5 => by rw [u2.1 c a1 a2 a3 a4 a5, up_nc _ _ _ _ a1, up_nc _ _ _ _ a1]
        have fi : ∀ i : Int, i ≠ 29 → i ≠ 44 → M4 173 i = M3 173 i := fun i a1 a2 => by rw [u2.2 i a1 a2, up_ni _ _ _ _ a2, up_ni _ _ _ _ a1]
        refine h0 hok q2 q3 (by show (x : Int) < (tT s.B n m : Int); omega) M4 ⟨rS_ly h3.1 (fun i hi => fi i (by omega) (by omega)) (fr 174 (by decide) (by decide) (by decide) (by decide) (by decide)) (fr 175 (by decide) (by decide) (by decide) (by decide) (by decide)), ?_⟩ (fun c hc => by rw [fr c (by omega) (by omega) (by omega) (by omega) (by omega)]; exact f3 c hc) u1
        rw [fi 11 (by decide) (by decide)]
        rcases h3.2 with q | ⟨w1, w2, w3⟩
        · exact Or.inl q
        · refine Or.inr ⟨w1, ?_, u1.1⟩
          have w2 : rL s.B M3 := w2
          show rL s.B M4
          unfold rL yR xR pI bR cR at w2 ⊢
          rw [fi 12 (by decide) (by decide), fi 13 (by decide) (by decide), fi 14 (by decide) (by decide), fi 15 (by decide) (by decide), fi 34 (by decide) (by decide), fi 37 (by decide) (by decide)]
          rw [fr 176 (by decide) (by decide) (by decide) (by decide) (by decide), fr 177 (by decide) (by decide) (by decide) (by decide) (by decide), fr 178 (by decide) (by decide) (by decide) (by decide) (by decide), fr 179 (by decide) (by decide) (by decide) (by decide) (by decide), fr 180 (by decide) (by decide) (by decide) (by decide) (by decide), fr 181 (by decide) (by decide) (by decide) (by decide) (by decide), fr 182 (by decide) (by decide) (by decide) (by decide) (by decide), fr 183 (by decide) (by decide) (by decide) (by decide) (by decide), fr 184 (by decide) (by decide) (by decide) (by decide) (by decide), fr 185 (by decide) (by decide) (by decide) (by decide) (by decide), fr 187 (by decide) (by decide) (by decide) (by decide) (by decide), fr 188 (by decide) (by decide) (by decide) (by decide) (by decide), fr 189 (by decide) (by decide) (by decide) (by decide) (by decide), fr 190 (by decide) (by decide) (by decide) (by decide) (by decide), fr 191 (by decide) (by decide) (by decide) (by decide) (by decide)]; exact w2
      · intro e
        exact h6 hok q2 q3 (fun z => e (lc_lt.mpr z)) _ (rJ_s2 h3 6) (loF_tr f3 lo_up)
  refine (v_329_174 _ _ _ _ _ _ _).mpr ?_
  refine @p_if _ _ _ _ ?_ ?_
  · intro e; exact main 0 (Or.inr ⟨rfl, by omega⟩)
  intro e
  refine m_isIn (d := d + 1398) (fun q => ?_) (fun q => ?_)
  · rw [if_neg (by decide)]
    refine @p_if _ _ _ _ ?_ ?_
    · intro e2; exact main 0 (Or.inr ⟨rfl, by omega⟩)
    · intro e2; exact main 1 (Or.inl ⟨rfl, by omega⟩)
  · rw [if_pos rfl]; exact main 0 (Or.inr ⟨rfl, by omega⟩)
end Sd1
