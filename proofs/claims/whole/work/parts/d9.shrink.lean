/-! readers of both: shrink, shrunk -/
def rlO (s : sS) (b : Int) : Prop := 0 ≤ b ∧ b < s.B 0
def shC (s : sS) (a b : Int) (c : Nat) : Prop := (c = 1 ∧ ¬ txK s a) ∨ (c = 2 ∧ txK s a ∧ ¬ rlO s b) ∨ (c = 4 ∧ txK s a ∧ rlO s b ∧ ¬ ltO s a.toNat) ∨ (c = 5 ∧ txK s a ∧ rlO s b ∧ ltO s a.toNat ∧ ¬ shw s.B (tx s a.toNat) a.toNat b.toNat) ∨ (c = 0 ∧ txK s a ∧ rlO s b ∧ ltO s a.toNat ∧ shw s.B (tx s a.toNat) a.toNat b.toNat)
section Sd9
variable {s s' : sS} {B B' x : Nat → Nat} {k k' d n N ρ l f : Nat} {M M' M0 : (Nat → Int → Int)} {Q : Int → (Nat → Int → Int) → Prop} {st st' : Int}
theorem shC_u {a b : Int} {c c' : Nat} (h : shC s a b c) (h' : shC s a b c') : c = c' := by
  rcases h with ⟨e, h1⟩ | ⟨e, h1, h2⟩ | ⟨e, h1, h2, h3⟩ | ⟨e, h1, h2, h3, h4⟩ | ⟨e, h1, h2, h3, h4⟩ <;> rcases h' with ⟨e', g1⟩ | ⟨e', g1, g2⟩ | ⟨e', g1, g2, g3⟩ | ⟨e', g1, g2, g3, g4⟩ | ⟨e', g1, g2, g3, g4⟩ <;> first | (exact e.trans e'.symm) | (exact absurd h1 g1) | (exact absurd g1 h1) | (exact absurd h2 g2) | (exact absurd g2 h2) | (exact absurd h3 g3) | (exact absurd g3 h3) | (exact absurd h4 g4) | (exact absurd g4 h4)
theorem rj_shrinks (h : rJ s M) {a b : Int} (hQ : ∀ c : Nat, 0 < c → c < 10 → shC s a b c → ∀ M', rJ s M' → loF M M' → Q (c : Int) M') (h0 : shC s a b 0 → ∀ M' t y K, shR s.B b.toNat t (tx s a.toNat) a.toNat y K → tx0 s.B y K M' → rJ s M' → loF M M' → Q 0 M') : am_s am_P am_gg (d + 1112) 349 [.inr (.inr 174), .inl a, .inl b] M Q := by
  have hW := rJ_W h
  refine (v_349_174 _ _ _ _ _).mpr (rj_asksText (d := d + 1107) h (fun q M1 h1 f1 => ?_) (fun q1 q2 M1 h1 f1 => ?_) (fun q1 q2 M1 h1 f1 w1 => ?_))
  · rw [if_pos rfl]; exact hQ 1 (by decide) (by decide) (Or.inl ⟨rfl, q⟩) M1 h1 f1
  · rw [if_neg (by decide)]
    refine m_isRule (d := d + 1109) (rb_of h1) hW.1 (fun hb => ?_) (fun hb => ?_)
    · rw [if_neg (by decide), if_pos (by decide)]
      exact hQ 4 (by decide) (by decide) (Or.inr (Or.inr (Or.inl ⟨rfl, q1, hb, q2⟩))) M1 h1 f1
    · rw [if_pos rfl]
      exact hQ 2 (by decide) (by decide) (Or.inr (Or.inl ⟨rfl, q1, hb⟩)) M1 h1 f1
  · rw [if_neg (by decide)]
    refine m_isRule (d := d + 1109) (rb_of h1) hW.1 (fun hb => ?_) (fun hb => ?_)
    · rw [if_neg (by decide), if_neg (by decide)]
      have q1' := q1
      unfold txK at q1'
      obtain ⟨ρ, rfl⟩ := p_nat hb.1
      refine rj_isShow (d := d + 11) h1 (show 1 ≤ a.toNat by omega) w1 (fun hs M2 h2 f2 w2 _ => ?_) (fun hs M2 h2 f2 w2 _ => ?_)
      · rw [if_neg (by decide)]
        refine am_x_le [some (.inr (.inr 174)), none, some (.inl ((ρ : Int))), none, some (.inl (1))] (am_lb_le _ _ ⟨rfl, rfl, rfl, trivial⟩) ?_
        exact rj_cuts (M0 := M2) (x := tx s a.toNat) (N := a.toNat) (fun M3 t y K g1 g2 g3 g4 => h0 (Or.inr (Or.inr (Or.inr (Or.inr ⟨rfl, q1, hb, q2, hs⟩)))) M3 t y K g1 g2 g3 (loF_tr f1 (loF_tr f2 g4))) a.toNat M2 (tx s a.toNat) a.toNat (by omega) (by omega) (fun t y K z => ⟨t, z⟩) (wI_0 w2) h2 (fun _ _ => rfl)
      · rw [if_pos rfl]
        exact hQ 5 (by decide) (by decide) (Or.inr (Or.inr (Or.inr (Or.inl ⟨rfl, q1, hb, q2, hs⟩)))) M2 h2 (loF_tr f1 f2)
    · rw [if_pos rfl]
      exact hQ 2 (by decide) (by decide) (Or.inr (Or.inl ⟨rfl, q1, hb⟩)) M1 h1 f1
theorem xT_st (h : xT k st s M) (hs : st ≤ st') : xT k st' s M := ⟨h.1, h.2.1, h.2.2.1, h.2.2.2.1, h.2.2.2.2.1, h.2.2.2.2.2.1, ⟨h.2.2.2.2.2.2.1.1, cgI_st h.2.2.2.2.2.2.1.2 hs⟩, h.2.2.2.2.2.2.2⟩
theorem xT_ru (h : xT k st s M) (f : ruF M M') (hc : cgJ s.B st' M') (h7 : k7 s.B M') : xT k st' s M' := by
  obtain ⟨h0, a1, a2, a3, a4, a5, a6, a7⟩ := h
  have e2 : M' 2 0 = M 2 0 := by rw [f 2 (by omega)]
  exact ⟨xS_c h0 (fun c hc => f c (by omega)), k1_M a1 e2 (fun c a b => f c (by omega)), k2_M a2 e2 (fun c a b => f c (by omega)), k3_M a3 e2 (fun c a b => f c (by omega)), k4_M a4 e2 (by rw [f 81 (by omega)]) (fun c a b => f c (by omega)), k5_M a5 e2 (fun c a b => f c (by omega)), hc, h7⟩
/-- the class: why a text cannot be made shorter -/
theorem xj_whyNot (h : xJ k s M) (hk : k < 512) {a b : Int} (hQ : ∀ c : Nat, 0 < c → c < 10 → shC s a b c → ∀ M', xT k ((6100 * k : Nat) + 1) s M' → hiF M M' → Q (c : Int) M') (h0 : shC s a b 0 → ∀ M', xT k ((6100 * k : Nat) + 1) s M' → hiF M M' → (dnP M' a.toNat b ∨ sOK s.B M' ∧ shw s.B (tx s a.toNat) a.toNat b.toNat) → Q 0 M') : am_s am_P am_gg (d + 7) 221 [.inr (.inr 1), .inl a, .inl b] M Q := by
  have hW := xJ_W h
  have hT : xT k ((6100 * k : Nat) + 1) s M := xT_st (st := ((6100 * k : Nat) : Int)) h (by omega)
  refine (v_221_1 _ _ _ _ _).mpr (xj_canText h.1 (fun q1 => ?_) (fun q => ?_))
  · rw [if_neg (by decide)]
    refine x_hasRule (d := d + 5) (xJ_g h) (fun hb => ?_) (fun hb => ?_)
    · rw [if_neg (by decide)]
      have q1' := q1
      unfold txK at q1'
      have hb' : rlO s b := hb
      obtain ⟨n, rfl⟩ := p_nat (show 0 ≤ a by omega)
      refine xj_noText h.1 (fun q => absurd q1 q) (fun _ q2 => ?_) (fun _ q2 => ?_)
      · rw [if_neg (by decide)]; exact hQ 4 (by decide) (by decide) (Or.inr (Or.inr (Or.inl ⟨rfl, q1, hb', q2⟩))) M hT hiF_rf
      · rw [if_pos rfl]
        refine x_isDone (d := d + 5) (show n ≤ 16 by omega) (fun hd => ?_) (fun hd => ?_)
        · rw [if_neg (by decide)]
          have htp : ∀ j : Nat, j < n → M 1 (j : Int) = (s.tp j : Int) := fun j hj => h.1.2.2.2.2.2.1 j (by omega)
          obtain ⟨ρ, t, K, y, e, g1, _⟩ := dn_res htp hd (hT.2.2.2.2.2.2.2.2 hd.1)
          exact h0 (Or.inr (Or.inr (Or.inr (Or.inr ⟨rfl, q1, hb', q2, by rw [e]; exact g1⟩)))) M hT hiF_rf (Or.inl hd)
        · rw [if_pos rfl]
          refine xj_noSent (d := d) h hk (fun q => absurd q1 q) (fun _ q => absurd q2 q) (fun _ _ q3 M1 g1 f1 => ?_) (fun _ _ q3 M1 g1 f1 f1' f1'' o1 t1 => ?_)
          · rw [if_neg (by decide)]; exact hQ 5 (by decide) (by decide) (Or.inr (Or.inr (Or.inr (Or.inl ⟨rfl, q1, hb', q2, fun z => by have z1 := z.1; have q3 := q3; omega⟩)))) M1 g1 f1
          · rw [if_pos rfl]
            have hnd := trO_nd hW (show (n : Int).toNat ≤ 16 by omega) t1
            obtain ⟨ρ, rfl⟩ := p_nat hb.1
            have hB := hW.1
            refine x_ownHas (d := d + 5) (show ρ < 32 by omega) hnd.2.2.1 (fun q => ?_) (fun q => ?_)
            · rw [if_neg (by decide)]
              exact h0 (Or.inr (Or.inr (Or.inr (Or.inr ⟨rfl, q1, hb', q2, q3, q⟩)))) M1 g1 f1 (Or.inr ⟨o1, q3, q⟩)
            · rw [if_pos rfl]
              exact hQ 5 (by decide) (by decide) (Or.inr (Or.inr (Or.inr (Or.inl ⟨rfl, q1, hb', q2, fun z => q z.2⟩)))) M1 g1 f1
    · rw [if_pos rfl]; exact hQ 2 (by decide) (by decide) (Or.inr (Or.inl ⟨rfl, q1, hb⟩)) M hT hiF_rf
  · rw [if_pos rfl]; exact hQ 1 (by decide) (by decide) (Or.inl ⟨rfl, q⟩) M hT hiF_rf
theorem xj_run (h : xT k ((6100 * k : Nat) + 1) s M) (hk : k < 512) {a b : Int} (hC : shC s a b 0) (hs : dnP M a.toNat b ∨ sOK s.B M ∧ shw s.B (tx s a.toNat) a.toNat b.toNat) (hQ : ∀ M' t K y, shR s.B b.toNat t (tx s a.toNat) a.toNat y K → M' 121 8 = (K : Int) → K ≤ 16 → (∀ j : Nat, j < K → M' 123 (j : Int) = (y j : Int)) → xJ (k + 1) s M' → hiF M M' → Q 0 M') : am_s am_P am_gg (d + 7) 139 [.inr (.inr 122), .inr (.inr 2), .inl a, .inl b] M Q := by
  have hW : gW s.B := xJ_W (xT_J h (by omega))
  rcases hC with ⟨e, _⟩ | ⟨e, _⟩ | ⟨e, _⟩ | ⟨e, _⟩ | ⟨_, q1, q2, q3, q4⟩
  · omega
  · omega
  · omega
  · omega
  unfold txK at q1
  unfold rlO at q2
  have hB := hW.1
  obtain ⟨n, rfl⟩ := p_nat (show 0 ≤ a by omega)
  obtain ⟨ρ, rfl⟩ := p_nat q2.1
  refine x_runJ (tp := s.tp) (st := ((6100 * k : Nat) : Int) + 1) (xT_g h) hW (show ρ < 16 by omega) (by omega) (by omega) (fun j hj => h.1.2.2.2.2.2.1 j (by omega)) q3 (by omega) h.2.2.2.2.2.2.1 h.2.2.2.2.2.2.2.2 hs (fun M' t K y g1 g2 g3 g4 g5 g6 g7 g8 => ?_)
  exact hQ M' t K y g1 g2 g3 g4 (xT_J (xT_ru h g7 g8 ⟨by rw [g5]; exact Int.le_refl _, fun _ => g6⟩) (by omega)) (fun c hc => g7 c (by omega))
def shE (s : sS) (a b : Int) (P : Nat → (Nat → Nat) → Int → sS → Prop) (r : Int) (s' : sS) : Prop := (∃ c : Nat, 0 < c ∧ c < 10 ∧ shC s a b c ∧ r = -1 ∧ s' = s.S (c : Int)) ∨ (shC s a b 0 ∧ ∃ t K y, shR s.B b.toNat t (tx s a.toNat) a.toNat y K ∧ P K y r s')
theorem p_shrink (hk : k < 512) (a b : Int) : lm_pr (J k) (J (k + 1)) 201 350 [.inl a, .inl b] := pr_R (fun s => ⟨shE s a b (fun K _ r s' => r = (K : Int) ∧ s' = s.S 0), fun M h => by
  refine (v_201_1 1599 _ _ _ _).mpr (xj_whyNot (d := 1592) h hk (fun c c1 c2 c3 M1 g1 f1 => ?_) (fun c3 M1 g1 f1 hs => ?_))
  · rw [if_neg (by omega)]
    exact eT_ref (by decide) (xT_J g1 st_le) f1 c c2 (Or.inl ⟨c, c1, c2, c3, rfl, rfl⟩)
  · rw [if_pos rfl]
    refine xj_run (d := 1592) g1 hk c3 hs (fun M2 t K y y1 y2 y3 y4 y5 y6 => ?_)
    rw [y2]
    exact eT_ans (by decide) y5 (hiF_tr f1 y6) _ (Or.inr ⟨c3, t, K, y, y1, rfl, rfl⟩), fun r s' hR M h => by
  refine (v_350_174 1599 _ _ _ _).mpr (rj_shrinks (d := 487) h (fun c c1 c2 c3 M1 h1 f1 => ?_) (fun c3 M1 t y K y1 y2 h1 f1 => ?_))
  · rw [if_pos (by omega)]
    rcases hR with ⟨c', _, _, z1, z2, z3⟩ | ⟨z1, _⟩
    · rw [shC_u z1 c3] at z3
      exact ⟨z2.symm, by rw [z3]; exact rJ_s2 h1 c (hn := c2), loF_tr f1 lo_up⟩
    · have := shC_u z1 c3
      omega
  · rw [if_neg (by decide)]
    rcases hR with ⟨c', z0, _, z1, _⟩ | ⟨_, t', K', y', z1, z2, z3⟩
    · have := shC_u z1 c3
      omega
    · obtain ⟨_, e⟩ := shR_u z1 y1
      exact ⟨by rw [z2, e]; exact y2.2.1, by rw [z3]; exact rJ_s2 h1 0, loF_tr f1 lo_up⟩⟩)
theorem p_shrunk (hk : k < 512) (a b c : Int) : lm_pr (J k) (J (k + 1)) 202 351 [.inl a, .inl b, .inl c] := pr_R (fun s => ⟨fun r s' => (c < 0 ∧ r = -1 ∧ s' = s.S 1) ∨ (0 ≤ c ∧ shE s a b (fun K y r s' => (c < (K : Int) ∧ r = (y c.toNat : Int) ∧ s' = s.S 0) ∨ (¬ c < (K : Int) ∧ r = -1 ∧ s' = s.S 6)) r s'), fun M h => by
  refine (v_202_1 1599 _ _ _ _ _).mpr ?_
  refine @p_if _ _ _ _ ?_ ?_
  · intro e; exact eR_ref (by decide) h hiF_rf 1 (by decide) (Or.inl ⟨e, rfl, rfl⟩)
  intro hb
  have hb' : 0 ≤ c := by omega
  refine xj_whyNot (d := 1592) h hk (fun c c1 c2 c3 M1 g1 f1 => ?_) (fun c3 M1 g1 f1 hs => ?_)
  · rw [if_neg (by omega)]
    exact eT_ref (by decide) (xT_J g1 st_le) f1 c c2 (Or.inr ⟨hb', Or.inl ⟨c, c1, c2, c3, rfl, rfl⟩⟩)
  · rw [if_pos rfl]
    refine xj_run (d := 1592) g1 hk c3 hs (fun M2 t K y y1 y2 y3 y4 y5 y6 => ?_)
    obtain ⟨i, rfl⟩ := p_nat hb'
    rw [y2]
    refine @p_if _ _ _ _ ?_ ?_
    · intro z
      rw [if_pos (by omega), y4 i (by omega)]
      exact eT_ans (by decide) y5 (hiF_tr f1 y6) _ (Or.inr ⟨hb', Or.inr ⟨c3, t, K, y, y1, Or.inl ⟨z, rfl, rfl⟩⟩⟩)
    · intro z
      exact eT_ref (by decide) y5 (hiF_tr f1 y6) 6 (by decide) (Or.inr ⟨hb', Or.inr ⟨c3, t, K, y, y1, Or.inr ⟨z, rfl, rfl⟩⟩⟩), fun r s' hR M h => by
  refine (v_351_174 1599 _ _ _ _ _).mpr ?_
  refine @p_if _ _ _ _ ?_ ?_
  · intro e
    rcases hR with ⟨_, z2, z3⟩ | ⟨z1, _⟩
    · exact ⟨z2.symm, by rw [z3]; exact rJ_t (rJ_s2 h 1), loF_tr lo_up lo_up⟩
    · omega
  intro e
  rcases hR with ⟨z1, _⟩ | ⟨hb', hR⟩
  · omega
  refine rj_shrinks (d := 487) h (fun n c1 c2 c3 M1 h1 f1 => ?_) (fun c3 M1 t y K y1 y2 h1 f1 => ?_)
  · rw [if_pos (by omega)]
    rcases hR with ⟨c', _, _, z1, z2, z3⟩ | ⟨z1, _⟩
    · rw [shC_u z1 c3] at z3
      exact ⟨z2.symm, by rw [z3]; exact rJ_t (rJ_s2 h1 n (hn := c2)), loF_tr f1 (loF_tr lo_up lo_up)⟩
    · have := shC_u z1 c3
      omega
  · rw [if_neg (by decide)]
    rcases hR with ⟨c', z0, _, z1, _⟩ | ⟨_, t', K', y', z1, z2⟩
    · have := shC_u z1 c3
      omega
    · obtain ⟨e1, e2⟩ := shR_u z1 y1
      subst e1
      subst e2
      obtain ⟨x1, x2, x3, x4⟩ := y2
      obtain ⟨i, rfl⟩ := p_nat hb'
      have h1' : rJ (s.S 0) (am_up (am_up M1 173 2 0) 173 3 0) := rJ_t (rJ_s2 h1 0)
      have hlo : loF M (am_up (am_up M1 173 2 0) 173 3 0) := loF_tr f1 (loF_tr lo_up lo_up)
      rw [x2]
      rcases z2 with ⟨z4, z5, z6⟩ | ⟨z4, z5, z6⟩
      · rw [if_pos z4, if_pos (by omega)]
        exact ⟨by rw [z5]; exact (x4 i (by omega)).1, by rw [z6]; exact h1', hlo⟩
      · rw [if_neg z4]
        exact eR_rr (s := s.S 0) (by decide) h1' hlo 6 (by decide) z5 z6⟩)
end Sd9
