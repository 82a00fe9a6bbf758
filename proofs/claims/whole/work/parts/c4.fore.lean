/-! readers of both: foretells, conflicts -/
def fo (B : Nat → Nat) (s l r : Nat) : Prop := r < B 0 ∧ gsy B r = s ∧ gSnd B r ∧ gEs B (e0 B) (gsg B r 0) l
def tw (B : Nat → Nat) (s l : Nat) : Prop := ∃ r r', r < r' ∧ fo B s l r ∧ fo B s l r'
section Sc4
variable {B : Nat → Nat} {k d a l n : Nat} {M M' M0 : (Nat → Int → Int)} {Q : Int → (Nat → Int → Int) → Prop}
theorem cnt_cut {p : Nat → Bool} {m : Nat} (h : ∀ k, m ≤ k → p k = false) : ∀ {n : Nat}, m ≤ n → cnt p n = cnt p m
  | 0, hn => by rw [show m = 0 by omega]
  | n + 1, hn => by
    by_cases e : m = n + 1
    · rw [e]
    · show cnt p n + (if p n then 1 else 0) = cnt p m
      rw [cnt_cut h (show m ≤ n by omega), h n (by omega)]; rfl
theorem cnt_two {p : Nat → Bool} : ∀ {n : Nat}, 1 < cnt p n ↔ ∃ i j, i < j ∧ j < n ∧ p i = true ∧ p j = true
  | 0 => ⟨fun h => absurd h (by unfold cnt; omega), fun ⟨i, j, _, h, _⟩ => absurd h (Nat.not_lt_zero j)⟩
  | n + 1 => by
    have ih := cnt_two (p := p) (n := n)
    have ip := cnt_pos (p := p) (n := n)
    show 1 < cnt p n + (if p n then 1 else 0) ↔ _
    constructor
    · intro h
      cases e : p n with
      | true =>
        rw [e] at h
        obtain ⟨i, h1, h2⟩ := ip.mp (by have h : 1 < cnt p n + 1 := h; omega)
        exact ⟨i, n, h1, by omega, h2, e⟩
      | false =>
        rw [e] at h
        obtain ⟨i, j, h1, h2, h3⟩ := ih.mp (by have h : 1 < cnt p n + 0 := h; omega)
        exact ⟨i, j, h1, by omega, h3⟩
    · rintro ⟨i, j, h1, h2, h3, h4⟩
      by_cases e : j = n
      · subst e
        have := ip.mpr ⟨i, h1, h3⟩
        rw [h4]
        show 1 < cnt p j + 1
        omega
      · have := ih.mpr ⟨i, j, h1, by omega, h3, h4⟩
        omega
theorem fo_l (hW : gW B) {s l r : Nat} (h : fo B s l r) : l < 16 := by
  have hz := hW.2.2.2.1 r h.1
  rcases h.2.2.2 with q | ⟨_, q⟩
  · have := hz.2.2.2.2 0 (by omega)
    omega
  · exact gE_lt hW (e0_lt hW) q
theorem sg0 (hW : gW B) {r : Nat} (hr : r < B 0) : gsg B r 0 < 8 ∨ (16 ≤ gsg B r 0 ∧ gsg B r 0 < 32) := (hW.2.2.2.1 r hr).2.2.2.2 0 (by have := (hW.2.2.2.1 r hr).2.1; omega)
theorem x_rulesBegun (hW : gW B) (hg : xgb B M 2) (hs : sOK B M) (hl : l < 16) (hQ : ∀ v, bs v (fo B a l) → Q v M) : am_s am_P am_gg (d + 2) 135 [.inr (.inr 17), .inl (a : Int), .inl (l : Int)] M Q := by
  have hn := hW.1
  refine (v_135_17 _ _ _ _ _).mpr ?_
  refine p_for (S := Int) (X := fun b v => am_x am_P am_gg (d + 1) am_k135 1 Q 5 [some (.inr (.inr 17)), some (.inl ((a : Int))), some (.inl ((l : Int))), some (.inl (v)), some (.inl (b))] [] M 0 0) (B 0) (fun b v => bs v (fun r => r < b ∧ fo B a l r)) ?_ ?_ 0 0 (by omega) (bs_cong bs_0 (fun q => ⟨fun z => z.elim, fun z => absurd z.1 (Nat.not_lt_zero q)⟩))
  · intro v hv
    refine (h_135_5_17 _ _ _ _ _ _ _).mpr ?_
    rw [xg_n hg, if_neg (by omega)]
    exact hQ v (bs_cong hv (fun q => ⟨fun z => z.2, fun z => ⟨z.1, z⟩⟩))
  · intro b v hb hv go
    have skip : ¬ fo B a l b → bs v (fun r => r < b + 1 ∧ fo B a l r) := fun hno => bs_cong hv (fun q => ⟨fun z => ⟨by omega, z.2⟩, fun z => ⟨by
      rcases Nat.lt_or_ge q b with w | w
      · exact w
      · have e : q = b := by omega
        rw [e] at z; exact absurd z.2 hno, z.2⟩⟩)
    refine (h_135_5_17 _ _ _ _ _ _ _).mpr ?_
    rw [xg_n hg, if_pos (by omega), if_pos (by omega), xg_sy hg hb, w32_s (by omega)]
    refine @p_if _ _ _ _ ?_ ?_
    · intro e
      refine x_isSound (by omega) hs.2.2.1 hb (fun hS => ?_) (fun hS => ?_)
      · rw [if_neg (by decide)]
        refine x_signAt (i := 0) hg hW hb (by have := (hW.2.2.2.1 b hb).2.1; omega) ?_
        refine x_firstOf (sg0 hW hb) ?_
        refine p_bit (sv_fin (sg0 hW hb) hs.2.2.2.2.2.1) (by omega) (fun q => ?_) (fun q => ?_)
        · exact go _ (skip (fun z => q z.2.2.2))
        · refine go _ (bs_cong (bs_add hv (by omega)) (fun z => ?_))
          constructor
          · rintro (w | w)
            · exact ⟨by omega, w.2⟩
            · rw [w]; exact ⟨by omega, hb, by omega, hS, q⟩
          · rintro ⟨w1, w2⟩
            by_cases e2 : z = b
            · exact Or.inr e2
            · exact Or.inl ⟨by omega, w2⟩
      · rw [if_pos rfl]; exact go _ (skip (fun z => hS z.2.2.1))
    · intro e; exact go _ (skip (fun z => e (by rw [z.2.1])))
theorem m_foretold (hW : gW B) (hB : rb (M 174) 0 B) (hL : rL B M) (hl : l < 16) (hQ : ∀ v, bs v (fo B a l) → Q v M) : am_s am_P am_gg (d + 6) 294 [.inr (.inr 174), .inl (a : Int), .inl (l : Int)] M Q := by
  have hn := hW.1
  refine (v_294_174 _ _ _ _ _).mpr ?_
  refine p_for (S := Int) (X := fun b v => am_x am_P am_gg (d + 5) am_k294 1 Q 5 [some (.inr (.inr 174)), some (.inl ((a : Int))), some (.inl ((l : Int))), some (.inl (v)), some (.inl (b))] [] M 0 0) (B 0) (fun b v => bs v (fun r => r < b ∧ fo B a l r)) ?_ ?_ 0 0 (by omega) (bs_cong bs_0 (fun q => ⟨fun z => z.elim, fun z => absurd z.1 (Nat.not_lt_zero q)⟩))
  · intro v hv
    refine (h_294_5_174 _ _ _ _ _ _ _).mpr (m_rules hB ?_)
    rw [if_neg (by omega)]
    exact hQ v (bs_cong hv (fun q => ⟨fun z => z.2, fun z => ⟨z.1, z⟩⟩))
  · intro b v hb hv go
    have skip : ¬ fo B a l b → bs v (fun r => r < b + 1 ∧ fo B a l r) := fun hno => bs_cong hv (fun q => ⟨fun z => ⟨by omega, z.2⟩, fun z => ⟨by
      rcases Nat.lt_or_ge q b with w | w
      · exact w
      · have e : q = b := by omega
        rw [e] at z; exact absurd z.2 hno, z.2⟩⟩)
    have goS : ¬ fo B a l b → am_x am_P am_gg (d + 5) am_k294 1 Q 5 [some (.inr (.inr 174)), some (.inl ((a : Int))), some (.inl ((l : Int))), some (.inl (i_or v 0)), some (.inl (((b + 1 : Nat) : Int)))] [] M 0 0 := fun hno => by rw [bs_or0 hv]; exact go _ (skip hno)
    refine (h_294_5_174 _ _ _ _ _ _ _).mpr (m_rules hB ?_)
    rw [if_pos (by omega), w32_s (by omega)]
    refine (v_293_174 _ _ _ _ _ _).mpr (m_sym hB (by omega) ?_)
    refine @p_if _ _ _ _ ?_ ?_
    · intro e
      refine m_isGood hW hB hL.2.2.1 hb (fun h1 h2 => ?_) (fun hno => ?_)
      · rw [if_neg (by decide)]
        refine m_sign (i := 0) hB (by omega) (by omega) ?_
        refine m_firstBy (sg0 hW hb) ?_
        obtain ⟨nn, q1, q2, q3⟩ := sv_fin (sg0 hW hb) hL.2.2.2.2.2.2.1
        rw [q2]
        refine m_bitn q1 (by omega) (fun q => ?_) (fun q => ?_)
        · rw [if_neg (by decide), if_neg (by decide)]
          refine go _ (bs_cong (bs_add hv (by omega)) (fun z => ?_))
          constructor
          · rintro (w | w)
            · exact ⟨by omega, w.2⟩
            · rw [w]; exact ⟨by omega, hb, by omega, ⟨h1, h2⟩, (q3 l).mp q⟩
          · rintro ⟨w1, w2⟩
            by_cases e2 : z = b
            · exact Or.inr e2
            · exact Or.inl ⟨by omega, w2⟩
        · rw [if_pos rfl, if_pos rfl]
          exact goS (fun z => by rw [(q3 l).mpr z.2.2.2] at q; cases q)
      · rw [if_pos rfl, if_pos rfl]; exact goS (fun z => hno ⟨z.2.2.1.1, z.2.2.1.2⟩)
    · intro e; rw [if_pos rfl]; exact goS (fun z => e (by rw [z.2.1]))
theorem p_foretells {k : Nat} (a b : Int) : lm_pr (J k) (J (k + 1)) 191 295 [.inl a, .inl b] := pr_R (fun s => ⟨syR s (0 ≤ b ∧ b < 16) a (fun r s' => bs r (fo s.B a.toNat b.toNat) ∧ s' = s.S 0), fun M h => by
  refine (v_191_1 1599 _ _ _ _).mpr ?_
  refine @p_if _ _ _ _ ?_ ?_
  · intro e; exact eR_ref (by decide) h hiF_rf 1 (by decide) (Or.inl ⟨Or.inl (by omega), rfl, rfl⟩)
  intro e1
  refine @p_if _ _ _ _ ?_ ?_
  · intro e2
    refine xj_sym (d := 1597) h (fun ha => ?_) (fun ha hT => ?_) (fun ha hT => ?_)
    · rw [if_neg (by decide)]; exact eR_ref (by decide) h hiF_rf 1 (by decide) (Or.inl ⟨Or.inr ha, rfl, rfl⟩)
    · rw [if_neg (by decide)]; exact eR_ref (by decide) h hiF_rf 2 (by decide) (Or.inr (Or.inl ⟨by omega, ha, hT, rfl, rfl⟩))
    · rw [if_pos rfl]
      obtain ⟨n, rfl⟩ := p_nat ha.1
      obtain ⟨m, rfl⟩ := p_nat (show 0 ≤ b by omega)
      refine xj_sets (d := 1595) h (fun M1 h1 f1 o1 => ?_)
      refine x_rulesBegun (d := 1597) (xJ_W h1) (xJ_g h1) o1 (by omega) (fun v hv => ?_)
      exact eR_ans (by decide) h1 (sF_hi f1) _ (Or.inr (Or.inr ⟨by omega, ha, hT, hv, rfl⟩))
  · intro e2; exact eR_ref (by decide) h hiF_rf 1 (by decide) (Or.inl ⟨Or.inl (by omega), rfl, rfl⟩), fun r s' hR M h => by
  refine (v_295_174 1599 _ _ _ _).mpr ?_
  have main : ∀ is : Int, (is = 1 ∧ (0 ≤ b ∧ b < 16) ∨ is = 0 ∧ ¬ (0 ≤ b ∧ b < 16)) → am_s am_P am_gg 1599 288 [.inr (.inr 174), .inl is, .inl a] M (fun r2 M2 => (if r2 = 0 then (-1 = r ∧ rJ s' M2 ∧ loF M M2) else am_s am_P am_gg 1599 294 [.inr (.inr 174), .inl a, .inl b] M2 (fun r3 M3 => r3 = r ∧ rJ s' M3 ∧ loF M M3))) := by
    intro is his
    refine rj_asks (d := 1569) (by omega) h (fun q M1 h1 f1 => ?_) (fun q1 q2 q3 M1 h1 f1 => ?_) (fun q1 q2 q3 M1 h1 f1 g1 g2 g3 => ?_)
    · rw [if_pos rfl]
      rcases hR with ⟨_, z2, z3⟩ | ⟨z1, z2, _⟩ | ⟨z1, z2, _⟩
      · exact ⟨z2.symm, by rw [z3]; exact h1, f1⟩
      · omega
      · omega
    · rw [if_pos rfl]
      rcases hR with ⟨z1, _⟩ | ⟨_, _, _, z4, z5⟩ | ⟨_, _, z3, _⟩
      · omega
      · exact ⟨z4.symm, by rw [z5]; exact h1, f1⟩
      · exact absurd z3 q3
    · rw [if_neg (by decide)]
      rcases hR with ⟨z1, _⟩ | ⟨_, _, z3, _⟩ | ⟨z1, _, _, z4, z5⟩
      · omega
      · exact absurd q3 z3
      · obtain ⟨n, rfl⟩ := p_nat q2.1
        obtain ⟨m, rfl⟩ := p_nat z1.1
        refine m_foretold (d := 1593) (B := s.B) (rJ_W h) (rb_of (s := s.S 0) h1) g2 (by omega) (fun v hv => ⟨bs_uniq hv z4, by rw [z5]; exact h1, f1⟩)
  refine m_isIn (d := 1598) (fun q => ?_) (fun q => ?_)
  · exact main 1 (Or.inl ⟨rfl, by omega⟩)
  · exact main 0 (Or.inr ⟨rfl, by omega⟩)⟩)
/-- how many conflicts -/
noncomputable def cfl (B : Nat → Nat) (s : Nat) : Nat := cnt (dc (tw B s)) 16
theorem cfl_le {s : Nat} : cfl B s ≤ 16 := cnt_le 16
theorem cfs_le : ∀ n, q_sm (cfl B) n ≤ 16 * n
  | 0 => Nat.zero_le _
  | n + 1 => by
    have := cfs_le n
    have := cfl_le (B := B) (s := n)
    show q_sm _ n + cfl B n ≤ _
    omega
theorem x_conf (hW : gW B) (hg : xgb B M 2) (hs : sOK B M) (hQ : Q (q_sm (cfl B) 8 : Int) M) : am_s am_P am_gg (d + 2) 136 [.inr (.inr 17)] M Q := by
  have hn := hW.1
  refine (v_136_17 _ _ _).mpr ?_
  refine p_for (S := Nat) (X := fun b v => am_x am_P am_gg (d + 1) am_k136 1 Q 4 [some (.inr (.inr 17)), some (.inl ((v : Int))), some (.inl (b)), none, none, none, none] [] M 0 0) 8 (fun b v => v = q_sm (cfl B) b) ?_ ?_ 0 0 (by omega) rfl
  · rintro v rfl
    refine (h_136_4_17 _ _ _ _ _).mpr ?_
    rw [if_neg (by omega)]; exact hQ
  · rintro b v hb rfl go
    have hcs := cfs_le (B := B) b
    refine (h_136_4_17 _ _ _ _ _).mpr ?_
    rw [if_pos (by omega)]
    refine p_for (S := Int × Int) (X := fun f z => am_x am_P am_gg (d + 1) am_k136 1 Q 18 [some (.inr (.inr 17)), some (.inl ((q_sm (cfl B) b : Int))), some (.inl ((b : Int))), some (.inl (z.1)), some (.inl (z.2)), some (.inl (f)), none] [] M 0 0) (B 0) (fun f z => bs z.1 (fun l => ∃ r, r < f ∧ fo B b l r) ∧ bs z.2 (fun l => ∃ r r', r < r' ∧ r' < f ∧ fo B b l r ∧ fo B b l r')) ?_ ?_ 0 (0, 0) (by omega) ⟨bs_cong bs_0 (fun q => ⟨fun z => z.elim, fun ⟨r, z, _⟩ => absurd z (Nat.not_lt_zero r)⟩), bs_cong bs_0 (fun q => ⟨fun z => z.elim, fun ⟨r, r', _, z, _⟩ => absurd z (Nat.not_lt_zero r')⟩)⟩
    · rintro ⟨v1, v2⟩ ⟨h1, h2⟩
      refine (h_136_18_17 _ _ _ _ _ _ _ _).mpr ?_
      rw [xg_n hg, if_neg (by omega)]
      obtain ⟨nn, q1, q2, q3⟩ := h2
      dsimp only at q2 ⊢
      rw [q2]
      refine x_bitsn q1 ?_
      have ec : cnt nn.testBit 32 = cfl B b := by
        unfold cfl
        have e1 : ∀ l, nn.testBit l = dc (tw B b) l := fun l => by
          cases e : nn.testBit l with
          | true =>
            obtain ⟨r, r', z1, z2, z3, z4⟩ := (q3 l).mp e
            exact (dc_iff.mpr ⟨r, r', z1, z3, z4⟩).symm
          | false =>
            refine (dc_f (fun z => ?_)).symm
            obtain ⟨r, r', z1, z3, z4⟩ := z
            rw [(q3 l).mpr ⟨r, r', z1, z4.1, z3, z4⟩] at e; cases e
        rw [cnt_congr (fun l _ => e1 l), cnt_cut (m := 16) (fun l hl => dc_f (fun z => by obtain ⟨r, r', z1, z3, z4⟩ := z; have := fo_l hW z3; omega)) (by decide)]
      rw [ec]
      have hcl := cfl_le (B := B) (s := b)
      refine am_x_le [some (.inr (.inr 17)), some (.inl (w32 ((q_sm (cfl B) b : Int) + (cfl B b : Int)))), some (.inl (w32 ((b : Int) + 1))), none, none, none, none] (am_lb_le _ _ ⟨rfl, rfl, rfl, trivial⟩) ?_
      rw [w32_a (by omega), w32_s (by omega)]
      exact go _ rfl
    · rintro f ⟨v1, v2⟩ hf ⟨h1, h2⟩ gof
      dsimp only at h1 h2 ⊢
      have skip : (∀ l, ¬ fo B b l f) → bs v1 (fun l => ∃ r, r < f + 1 ∧ fo B b l r) ∧ bs v2 (fun l => ∃ r r', r < r' ∧ r' < f + 1 ∧ fo B b l r ∧ fo B b l r') := fun hno => by
        refine ⟨bs_cong h1 (fun l => ⟨fun ⟨r, z1, z2⟩ => ⟨r, by omega, z2⟩, fun ⟨r, z1, z2⟩ => ⟨r, ?_, z2⟩⟩), bs_cong h2 (fun l => ⟨fun ⟨r, r', z0, z1, z2⟩ => ⟨r, r', z0, by omega, z2⟩, fun ⟨r, r', z0, z1, z2, z3⟩ => ⟨r, r', z0, ?_, z2, z3⟩⟩)⟩
        · rcases Nat.lt_or_ge r f with w | w
          · exact w
          · have e : r = f := by omega
            subst e; exact absurd z2 (hno l)
        · rcases Nat.lt_or_ge r' f with w | w
          · exact w
          · have e : r' = f := by omega
            subst e; exact absurd z3 (hno l)
      refine (h_136_18_17 _ _ _ _ _ _ _ _).mpr ?_
      rw [xg_n hg, if_pos (by omega), if_pos (by omega), xg_sy hg hf, w32_s (by omega)]
      refine @p_if _ _ _ _ ?_ ?_
      · intro e
        refine x_isSound (by omega) hs.2.2.1 hf (fun hS => ?_) (fun hS => ?_)
        · rw [if_neg (by decide)]
          refine x_signAt (i := 0) hg hW hf (by have := (hW.2.2.2.1 f hf).2.1; omega) ?_
          refine x_firstOf (sg0 hW hf) ?_
          have hsv := sv_fin (sg0 hW hf) hs.2.2.2.2.2.1
          refine am_x_le [some (.inr (.inr 17)), some (.inl ((q_sm (cfl B) b : Int))), some (.inl ((b : Int))), some (.inl (i_or v1 (sv (M 18) (gsg B f 0)))), some (.inl (i_or v2 (i_and v1 (sv (M 18) (gsg B f 0))))), some (.inl (((f + 1 : Nat) : Int))), none] (am_lb_le _ _ ⟨rfl, rfl, rfl, rfl, rfl, rfl, trivial⟩) ?_
          have hfo : ∀ l, fo B b l f ↔ gEs B (e0 B) (gsg B f 0) l := fun l => ⟨fun z => z.2.2.2, fun z => ⟨hf, by omega, hS, z⟩⟩
          refine gof (_, _) ⟨bs_cong (bs_or h1 hsv) (fun l => ?_), bs_cong (bs_or h2 (bs_and h1 hsv)) (fun l => ?_)⟩
          · constructor
            · rintro (⟨r, z1, z2⟩ | z)
              · exact ⟨r, by omega, z2⟩
              · exact ⟨f, by omega, (hfo l).mpr z⟩
            · rintro ⟨r, z1, z2⟩
              by_cases e2 : r = f
              · subst e2; exact Or.inr ((hfo l).mp z2)
              · exact Or.inl ⟨r, by omega, z2⟩
          · constructor
            · rintro (⟨r, r', z0, z1, z2⟩ | ⟨⟨r, z1, z2⟩, z3⟩)
              · exact ⟨r, r', z0, by omega, z2⟩
              · exact ⟨r, f, z1, by omega, z2, (hfo l).mpr z3⟩
            · rintro ⟨r, r', z0, z1, z2, z3⟩
              by_cases e2 : r' = f
              · subst e2; exact Or.inr ⟨⟨r, z0, z2⟩, (hfo l).mp z3⟩
              · exact Or.inl ⟨r, r', z0, by omega, z2, z3⟩
        · rw [if_pos rfl]; exact gof (v1, v2) (skip (fun l z => hS z.2.2.1))
      · intro e; exact gof (v1, v2) (skip (fun l z => e (by rw [z.2.1])))
theorem p_conflicts {k : Nat} : lm_pr (J k) (J (k + 1)) 192 296 [] := pr_mk (fun s _ _ _ => ⟨(q_sm (cfl s.B) 8 : Int), s.S 0, fun M h => by
  refine (v_192_1 1599 _ _).mpr (xj_sets (d := 1595) h (fun M1 h1 f1 o1 => ?_))
  refine x_conf (d := 1597) (xJ_W h1) (xJ_g h1) o1 ?_
  exact am_s_mono (d := 1) (by decide) (xe_ans (d := 0) (M0 := M) h1 (sF_hi f1) _) (fun r M2 q => q), fun M h => by
  have ht : rJ (s.S 0) (am_up (am_up M 173 3 0) 173 2 0) := rJ_s2 (rJ_t h) 0
  have hW := rJ_W h
  refine (v_296_174 1599 _ _).mpr (rj_lays (d := 1573) ht (fun M1 h1 g1 g2 g3 f1 => ?_))
  have hlo : loF M M1 := loF_tr (loF_tr lo_up lo_up) (rLF_lo f1)
  have hfin : ((q_sm (cfl s.B) 8 : Int) = (q_sm (cfl s.B) 8 : Int) ∧ rJ (s.S 0) M1 ∧ loF M M1) := ⟨rfl, h1, hlo⟩
  refine p_for (S := Nat) (X := fun b v => am_x am_P am_gg 1599 am_k296 1 (fun r M2 => r = (q_sm (cfl s.B) 8 : Int) ∧ rJ (s.S 0) M2 ∧ loF M M2) 18 [some (.inr (.inr 174)), some (.inl ((v : Int))), some (.inl (b)), none] [] M1 0 0) 8 (fun b v => v = q_sm (cfl s.B) b) ?_ ?_ 0 0 (by omega) rfl
  · rintro v rfl
    refine (h_296_18_174 _ _ _ _ _).mpr ?_
    rw [if_neg (by omega)]; exact hfin
  · rintro b v hb rfl go
    have hcs := cfs_le (B := s.B) b
    refine (h_296_18_174 _ _ _ _ _).mpr ?_
    rw [if_pos (by omega)]
    refine p_for (S := Nat) (X := fun c v => am_x am_P am_gg 1599 am_k296 1 (fun r M2 => r = (q_sm (cfl s.B) 8 : Int) ∧ rJ (s.S 0) M2 ∧ loF M M2) 26 [some (.inr (.inr 174)), some (.inl ((v : Int))), some (.inl ((b : Int))), some (.inl (c))] [] M1 0 0) 16 (fun c v => v = q_sm (cfl s.B) b + cnt (dc (tw s.B b)) c) ?_ ?_ 0 (q_sm (cfl s.B) b) (by omega) rfl
    · rintro v rfl
      refine (h_296_26_174 _ _ _ _ _ _).mpr ?_
      rw [if_neg (by omega), w32_s (by omega)]
      refine am_x_le [some (.inr (.inr 174)), some (.inl (((q_sm (cfl s.B) b + cnt (dc (tw s.B b)) 16 : Nat) : Int))), some (.inl (((b + 1 : Nat) : Int))), none] (am_lb_le _ _ ⟨rfl, rfl, rfl, trivial⟩) ?_
      exact go _ rfl
    · rintro c v hc rfl goc
      have hcl := cnt_le (p := dc (tw s.B b)) c
      refine (h_296_26_174 _ _ _ _ _ _).mpr ?_
      rw [if_pos (by omega)]
      refine m_foretold (d := 1593) (B := s.B) hW (rb_of (s := s.S 0) h1) g2 (by omega) (fun v hv => ?_)
      obtain ⟨nn, q1, q2, q3⟩ := hv
      rw [q2, ← w32_nat q1]
      refine m_ones (d := 1598) (by omega) ?_
      have key : 1 < cnt nn.testBit 32 ↔ tw s.B b c := by
        rw [cnt_two]
        constructor
        · rintro ⟨i, j, z1, z2, z3, z4⟩; exact ⟨i, j, z1, (q3 i).mp z3, (q3 j).mp z4⟩
        · rintro ⟨i, j, z1, z3, z4⟩; exact ⟨i, j, z1, by have := z4.1; have := hW.1; omega, (q3 i).mpr z3, (q3 j).mpr z4⟩
      have es : cnt (dc (tw s.B b)) (c + 1) = cnt (dc (tw s.B b)) c + (if dc (tw s.B b) c then 1 else 0) := rfl
      rw [w32_s (i := c) (by omega)]
      refine @p_if _ _ _ _ ?_ ?_
      · intro z
        rw [w32_s (by omega)]
        refine goc _ ?_
        rw [es, dc_iff.mpr (key.mp (by omega))]; rfl
      · intro z
        rw [Int.add_zero, w32_nat (by omega)]
        refine goc _ ?_
        rw [es, dc_f (fun w => z (by have := key.mpr w; omega))]; rfl⟩)
end Sc4
