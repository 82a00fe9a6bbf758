/-! readers of both: has, by, bound, wrong, cover -/
section Sc8
variable {s s' : sS} {B B' : Nat → Nat} {k k' d : Nat} {M M' M0 : (Nat → Int → Int)} {Q : Int → (Nat → Int → Int) → Prop} {l : List Nat}
theorem gH_cd (hW : gW B) {n m : Nat} (hn : n < gN B) (hm : m < gN B) : gH B n (cd (gp B) m) ↔ nH B n m := by
  have hcd := cdP hm
  rw [gH_num hW hn, hcd.2.2]
  exact ⟨fun q => q.2, fun q => ⟨gp_iff.mpr hcd.2.1, q⟩⟩
theorem p_has (a b : Int) : lm_pr (J k) (J (k + 1)) 187 311 [.inl a, .inl b] := pr_R (fun s => ⟨fun r s' => ((a < 0 ∨ b < 0) ∧ r = -1 ∧ s' = s.S 1) ∨ ((0 ≤ a ∧ 0 ≤ b) ∧ ((¬ (a < gN s.B ∧ b < gN s.B) ∧ r = -1 ∧ s' = s.S 6) ∨ ((a < gN s.B ∧ b < gN s.B) ∧ (nH s.B a.toNat b.toNat ∧ r = 1 ∨ ¬ nH s.B a.toNat b.toNat ∧ r = 0) ∧ s' = s.S 0))), fun M h => by
  refine (v_187_1 1599 _ _ _ _).mpr ?_
  refine @p_if _ _ _ _ ?_ ?_
  · intro e; exact eR_ref (by decide) h hiF_rf 1 (by decide) (Or.inl ⟨Or.inl e, rfl, rfl⟩)
  intro e1
  refine @p_if _ _ _ _ ?_ ?_
  · intro e; exact eR_ref (by decide) h hiF_rf 1 (by decide) (Or.inl ⟨Or.inr e, rfl, rfl⟩)
  intro e2
  refine xj_noPair (d := 1592) h (fun ha => by omega) (fun ha hN M1 h1 f1 => ?_) (fun ha hN M1 h1 f1 c1 p1 s1 => ?_)
  · refine xj_noPair (d := 1592) h1 (fun ha => by omega) (fun hb hN2 M2 h2 f2 => ?_) (fun hb hN2 M2 h2 f2 c2 p2 s2 => ?_)
    · rw [show i_max 6 6 = 6 from rfl, if_neg (by decide)]
      exact eR_ref (by decide) h2 (fun c hc => by rw [f2 c (by omega)]; exact f1 c (by omega)) 6 (by decide) (Or.inr ⟨⟨ha, hb⟩, Or.inl ⟨fun z => hN z.1, rfl, rfl⟩⟩)
    · rw [show i_max 6 0 = 6 from rfl, if_neg (by decide)]
      exact eR_ref (by decide) h2 (fun c hc => by rw [f2 c (by omega)]; exact f1 c (by omega)) 6 (by decide) (Or.inr ⟨⟨ha, hb⟩, Or.inl ⟨fun z => hN z.1, rfl, rfl⟩⟩)
  · refine xj_noPair (d := 1592) h1 (fun ha => by omega) (fun hb hN2 M2 h2 f2 => ?_) (fun hb hN2 M2 h2 f2 c2 p2 s2 => ?_)
    · rw [show i_max 0 6 = 6 from rfl, if_neg (by decide)]
      exact eR_ref (by decide) h2 (fun c hc => by rw [f2 c (by omega)]; exact f1 c (by omega)) 6 (by decide) (Or.inr ⟨⟨ha, hb⟩, Or.inl ⟨fun z => hN2 z.2, rfl, rfl⟩⟩)
    · rw [show i_max 0 0 = 0 from rfl, if_pos rfl]
      obtain ⟨n, rfl⟩ := p_nat ha
      obtain ⟨m, rfl⟩ := p_nat hb
      have f12 : hiF M M2 := fun c hc => by rw [f2 c (by omega)]; exact f1 c (by omega)
      refine x_includes (d := 1596) p2 (by omega) (by omega) (fun z => ?_) (fun z => ?_)
      · rw [if_neg (by decide)]
        exact eR_ans (by decide) h2 f12 _ (Or.inr ⟨⟨ha, hb⟩, Or.inr ⟨⟨hN, hN2⟩, Or.inl ⟨z, rfl⟩, rfl⟩⟩)
      · rw [if_pos rfl]
        exact eR_ans (by decide) h2 f12 _ (Or.inr ⟨⟨ha, hb⟩, Or.inr ⟨⟨hN, hN2⟩, Or.inr ⟨z, rfl⟩, rfl⟩⟩), fun r s' hR M h => by
  have hgN := gN_le (B := s.B)
  have ht : rJ (s.S 0) (am_up (am_up M 173 3 0) 173 2 0) := rJ_s2 (rJ_t h) 0
  refine (v_311_174 1599 _ _ _ _).mpr ?_
  refine @p_if _ _ _ _ ?_ ?_
  · intro e
    rcases hR with ⟨_, z2, z3⟩ | ⟨z1, _⟩
    · exact eR_rr (by decide) ht (loF_tr lo_up lo_up) 1 (by decide) z2 z3
    · omega
  intro e1
  refine @p_if _ _ _ _ ?_ ?_
  · intro e
    rcases hR with ⟨_, z2, z3⟩ | ⟨z1, _⟩
    · exact eR_rr (by decide) ht (loF_tr lo_up lo_up) 1 (by decide) z2 z3
    · omega
  intro e2
  refine rj_lays (d := 1573) ht (fun M1 h1 g1 g2 g3 f1 => ?_)
  have hf : loF M M1 := loF_tr (loF_tr lo_up lo_up) (rLF_lo f1)
  have e34 : M1 173 34 = (gN s.B : Int) := g2.2.2.2.2.2.2.2.2.2.1.1
  rw [e34]
  rcases hR with ⟨z1, _⟩ | ⟨_, z2⟩
  · omega
  · refine @p_if _ _ _ _ ?_ ?_
    · intro ha
      refine @p_if _ _ _ _ ?_ ?_
      · intro hb
        rcases z2 with ⟨z3, _⟩ | ⟨_, z4, z5⟩
        · exact absurd ⟨ha, hb⟩ z3
        · obtain ⟨n, rfl⟩ := p_nat (show 0 ≤ a by omega)
          obtain ⟨m, rfl⟩ := p_nat (show 0 ≤ b by omega)
          have hn : n < gN s.B := by omega
          have hm : m < gN s.B := by omega
          have g2 : rL s.B M1 := g2
          rw [if_pos (by omega), (pI_cd g2.2.2.2.2.2.2.2.2.2.1 hm).1]
          have z4 : nH s.B n m ∧ r = 1 ∨ ¬ nH s.B n m ∧ r = 0 := z4
          refine m_has (d := 1598) g2 hn (cdP hm).1 (fun q => ?_) (fun q => ?_)
          · rw [if_neg (by decide)]
            rw [gH_cd (rJ_W h) hn hm] at q
            rcases z4 with ⟨_, z6⟩ | ⟨z6, _⟩
            · exact ⟨z6.symm, by rw [z5]; exact h1, hf⟩
            · exact absurd q z6
          · rw [if_pos rfl]
            rw [gH_cd (rJ_W h) hn hm] at q
            rcases z4 with ⟨z6, _⟩ | ⟨_, z6⟩
            · exact absurd z6 q
            · exact ⟨z6.symm, by rw [z5]; exact h1, hf⟩
      · intro hb
        rcases z2 with ⟨_, z4, z5⟩ | ⟨z3, _⟩
        · exact eR_rr (by decide) h1 hf 6 (by decide) z4 z5
        · exact absurd z3.2 hb
    · intro ha
      rcases z2 with ⟨_, z4, z5⟩ | ⟨z3, _⟩
      · exact eR_rr (by decide) h1 hf 6 (by decide) z4 z5
      · exact absurd z3.1 ha⟩)
theorem p_bound : lm_pr (J k) (J (k + 1)) 193 320 [] := pr_R (fun s => ⟨fun r s' => apR s.B r ∧ s' = s.S 0, fun M h => by
  refine (v_193_1 1599 _ _).mpr (xj_pairs (d := 1593) h (fun M1 h1 f1 c1 g0 p1 s1 => ?_))
  obtain ⟨h0, a1, a2, a3, a4, a5, a6, a7⟩ := h1
  refine x_countApart (d := 1593) (xJ_W h) p1 (fun q => (a4.2.2 g0).2 q) (fun M2 f2 f3 g1 g2 => ?_)
  have e2 : M2 2 0 = M1 2 0 := by rw [f2 2 (by decide) (by decide) (by decide)]
  have e81 : M2 81 = M1 81 := f2 81 (by decide) (by decide) (by decide)
  refine eR_ans (by decide) (s := s) (k := k) ⟨xS_c h0 (fun c hc => f2 c (by omega) (by omega) (by omega)), k1_M a1 e2 (fun c a b => f2 c (by omega) (by omega) (by omega)), k2_M a2 e2 (fun c a b => f2 c (by omega) (by omega) (by omega)), k3_M a3 e2 (fun c a b => f2 c (by omega) (by omega) (by omega)), ?_, k5_M a5 e2 (fun c a b => f2 c (by omega) (by omega) (by omega)), k6_M a6 e2 (fun c a b => f2 c (by omega) (by omega) (by omega)), k7_M a7 e2 (fun c a b => f2 c (by omega) (by omega) (by omega))⟩ (fun c hc => by rw [f2 c (by omega) (by omega) (by omega)]; exact f1 c (by omega)) _ ⟨g2, rfl⟩
  unfold k4 at a4 ⊢
  rw [f3 2 (by decide) (by decide), e81, e2]
  rw [e81] at g1
  exact ⟨a4.1, by omega, fun q => ⟨fun z => coOK_M ((a4.2.2 q).1 z) (f3 5 (by decide) (by decide)) (f2 94 (by decide) (by decide) (by decide)) (f2 96 (by decide) (by decide) (by decide)), fun _ => g2⟩⟩, fun r s' hR M h => by
  have ht : rJ (s.S 0) (am_up (am_up M 173 3 0) 173 2 0) := rJ_s2 (rJ_t h) 0
  refine (v_320_174 1599 _ _).mpr (rj_lays (d := 1573) ht (fun M1 h1 g1 g2 g3 f1 => ?_))
  have hf : loF M M1 := loF_tr (loF_tr lo_up lo_up) (rLF_lo f1)
  have g2 : rL s.B M1 := g2
  refine m_bound2 (d := 1597) (fun M2 f2 l2 => ?_)
  have e173 : M2 173 = M1 173 := f2 173 (by decide)
  refine m_bound1 (d := 1597) (B := s.B) (rJ_W h) (fun k hk => by unfold bR; rw [f2 189 (by decide)]; exact rL_bR g2 hk) (by rw [e173]; exact g2.2.2.2.2.2.2.2.2.2.1.1) (fun k hk => by rw [f2 187 (by decide)]; exact (pI_cd g2.2.2.2.2.2.2.2.2.2.1 hk).1) l2 (fun M3 v f3 hv => ?_)
  have fr : ∀ c, c ≠ 192 → M3 c = M1 c := fun c hc => (f3 c hc).trans (f2 c hc)
  refine ⟨apR_uniq hv hR.1, ?_, loF_tr hf (fun c hc => fr c (by omega))⟩
  rw [hR.2]
  have h173 : M3 173 = M1 173 := fr 173 (by decide)
  refine ⟨rS_ly h1.1 (fun i _ => by rw [h173]) (fr 174 (by decide)) (fr 175 (by decide)), Or.inr ⟨by rw [h173]; exact g1, rL_M g2 (fun i _ => by rw [h173]) (fun c a b _ => fr c (by omega)), tI_M g3 (by rw [fr 174 (by decide)]; exact g3.1) (fr 193 (by decide)) (fr 194 (by decide))⟩⟩⟩)
theorem cov_x (hc : coOK B M) : ∃ (m : Nat) (ρ : Nat → Nat), m ≤ 1024 ∧ M 93 5 = (m : Int) ∧ (∀ i, i < m → ρ i < gN B ∧ M 94 (i : Int) = (ρ i : Int)) := by
  obtain ⟨τ, n, κ, g1, k1, n1, t1, c1, c2, c3⟩ := hc
  have cl := cnt_le (p := κ) n
  have sel : ∀ i, i < cnt κ n → ∃ j, j < n ∧ κ j = true ∧ cnt κ j = i := fun i hi => cnt_sel hi
  refine ⟨cnt κ n, fun i => @dite Nat (i < cnt κ n) (Nat.decLt _ _) (fun h => τ (Classical.choose (sel i h))) (fun _ => 0), by omega, c1, fun i hi => ?_⟩
  dsimp only
  rw [dif_pos hi]
  obtain ⟨j1, j2, j3⟩ := Classical.choose_spec (sel i hi)
  generalize Classical.choose (sel i hi) = j at *
  refine ⟨t1 j j1, ?_⟩
  have := c2 j j1 j2
  rw [j3] at this; exact this
def byP (s : sS) (n : Nat) (r : Int) (s' : sS) : Prop := ∃ Mc, coOK s.B Mc ∧ ((∃ i ρ : Nat, (i : Int) < Mc 93 5 ∧ Mc 94 (i : Int) = (ρ : Int) ∧ nH s.B ρ n ∧ (∀ j ρ' : Nat, j < i → Mc 94 (j : Int) = (ρ' : Int) → ¬ nH s.B ρ' n) ∧ r = (i : Int) ∧ s' = s.S 0) ∨ ((∀ j ρ' : Nat, (j : Int) < Mc 93 5 → Mc 94 (j : Int) = (ρ' : Int) → ¬ nH s.B ρ' n) ∧ r = -1 ∧ s' = s.S 6))
theorem p_by (a : Int) : lm_pr (J k) (J (k + 1)) 189 317 [.inl a] := pr_R (fun s => ⟨paR s True a (byP s a.toNat), fun M h => by
  refine (v_189_1 1599 _ _ _).mpr ?_
  refine xj_noPair (d := 1592) h (fun ha => ?_) (fun ha hN M1 h1 f1 => ?_) (fun ha hN M1 h1 f1 c1 p1 s1 => ?_)
  · rw [if_neg (by decide)]; exact eR_ref (by decide) h hiF_rf 1 (by decide) (Or.inl ⟨Or.inr ha, rfl, rfl⟩)
  · rw [if_neg (by decide)]; exact eR_ref (by decide) h1 (fun c hc => f1 c (by omega)) 6 (by decide) (Or.inr (Or.inl ⟨trivial, ha, hN, rfl, rfl⟩))
  · rw [if_pos rfl]
    obtain ⟨n, rfl⟩ := p_nat ha
    refine xj_cover (d := 1591) h1 (fun M2 h2 f2 c2 p2 s2 o2 => ?_)
    obtain ⟨m, ρ, m1, m2, m3⟩ := cov_x o2
    have f12 : hiF M M2 := fun c hc => by rw [f2 c (by omega)]; exact f1 c (by omega)
    refine x_firstHaving (d := 1595) p2 m1 m2 (fun i hi => ⟨(m3 i hi).2, (m3 i hi).1⟩) (show n < gN s.B by omega) (fun i hi z1 z2 => ?_) (fun z => ?_)
    · rw [if_neg (by omega)]
      refine eR_ans (by decide) h2 f12 _ (Or.inr (Or.inr ⟨trivial, ha, hN, M2, o2, Or.inl ⟨i, ρ i, by rw [m2]; omega, (m3 i hi).2, z1, fun j ρ' hj e => ?_, rfl, rfl⟩⟩))
      have := (m3 j (by omega)).2
      rw [this] at e
      have e : ρ j = ρ' := by omega
      rw [← e]; exact z2 j hj
    · rw [if_pos rfl]
      refine eR_ref (by decide) h2 f12 6 (by decide) (Or.inr (Or.inr ⟨trivial, ha, hN, M2, o2, Or.inr ⟨fun j ρ' hj e => ?_, rfl, rfl⟩⟩))
      rw [m2] at hj
      have := (m3 j (by omega)).2
      rw [this] at e
      have e : ρ j = ρ' := by omega
      rw [← e]; exact z j (by omega), fun r s' hR M h => by
  have hgN := gN_le (B := s.B)
  refine (v_317_174 1599 _ _ _).mpr ?_
  refine rj_asksPair (d := 1569) (by omega) h (fun q M1 h1 f1 => ?_) (fun q1 q2 q3 M1 h1 f1 => ?_) (fun q1 q2 q3 M1 h1 f1 g2 => ?_)
  · rw [if_pos rfl]
    rcases hR with ⟨_, z2, z3⟩ | ⟨z1, z2, _⟩ | ⟨z1, z2, _⟩
    · exact ⟨z2.symm, by rw [z3]; exact h1, f1⟩
    · omega
    · omega
  · rw [if_pos rfl]
    rcases hR with ⟨z1, _⟩ | ⟨_, _, _, z4, z5⟩ | ⟨_, _, z3, _⟩
    · rcases z1 with z1 | z1
      · exact absurd trivial z1
      · omega
    · exact ⟨z4.symm, by rw [z5]; exact h1, f1⟩
    · exact absurd z3 q3
  · rw [if_neg (by decide)]
    rcases hR with ⟨z1, _⟩ | ⟨_, _, z3, _⟩ | ⟨z1, _, _, Mc, z6, z7⟩
    · rcases z1 with z1 | z1
      · exact absurd trivial z1
      · omega
    · exact absurd q3 z3
    · obtain ⟨n, rfl⟩ := p_nat q2
      have hn : n < gN s.B := by omega
      have z7 := z7
      obtain ⟨m, ρ, m1, m2, m3, m4, m5⟩ := cov_same z6 g2.2.2.2.2.2.2.2.2.2.2
      have e87 := (pI_cd g2.2.2.2.2.2.2.2.2.2.1 hn).1
      rw [m2] at z7
      refine p_for (S := Unit) (X := fun b _ => am_x am_P am_gg 1599 am_k317 1 (fun r' M2 => r' = r ∧ rJ s' M2 ∧ loF M M2) 13 [some (.inr (.inr 174)), some (.inl ((n : Int))), some (.inl (b))] [] M1 0 0) m (fun b _ => ∀ j, j < b → ¬ nH s.B (ρ j) n) ?_ ?_ 0 () (by omega) (fun j hj => absurd hj (Nat.not_lt_zero j))
      · intro _ hI
        refine (h_317_13_174 _ _ _ _ _).mpr ?_
        rw [m3, if_neg (by omega)]
        rcases z7 with ⟨i, ρ', y1, y2, y3, _⟩ | ⟨_, y2, y3⟩
        · rw [(m4 i (by omega)).2.1] at y2
          have e : ρ i = ρ' := by omega
          rw [← e] at y3
          exact absurd y3 (hI i (by omega))
        · exact eR_rr (by decide) h1 f1 6 (by decide) y2 y3
      · intro b _ hb hI go
        refine (h_317_13_174 _ _ _ _ _).mpr ?_
        rw [m3, if_pos (by omega), if_pos (by omega), if_pos (by omega), (m4 b hb).2.2, e87]
        refine m_has (d := 1598) g2 (m4 b hb).1 (cdP hn).1 (fun q => ?_) (fun q => ?_)
        · rw [if_neg (by decide)]
          rw [gH_cd (rJ_W h) (m4 b hb).1 hn] at q
          rcases z7 with ⟨i, ρ', y1, y2, y3, y4, y5, y6⟩ | ⟨y1, _⟩
          · rw [(m4 i (by omega)).2.1] at y2
            have e : ρ i = ρ' := by omega
            rw [← e] at y3
            have eb : i = b := by
              rcases Nat.lt_trichotomy i b with w | w | w
              · exact absurd y3 (hI i w)
              · exact w
              · exact absurd q (y4 b (ρ b) w (m4 b hb).2.1)
            subst eb
            exact ⟨y5.symm, by rw [y6]; exact h1, f1⟩
          · exact absurd q (y1 b (ρ b) (by omega) (m4 b hb).2.1)
        · rw [if_pos rfl, w32_s (by omega)]
          rw [gH_cd (rJ_W h) (m4 b hb).1 hn] at q
          refine go () (fun j hj => ?_)
          by_cases w : j = b
          · subst w; exact q
          · exact hI j (by omega)⟩)
end Sc8
