/-! readers of both: cover, wrong -/
section Sc9
variable {s s' : sS} {B B' : Nat → Nat} {k k' d : Nat} {M M' M0 : (Nat → Int → Int)} {Q : Int → (Nat → Int → Int) → Prop} {l : List Nat}
theorem rj_asksCover {is a : Int} (his : is = 0 ∨ is = 1) (h : rJ s M) (h1 : (is = 0 ∨ a < 0) → ∀ M', rJ (s.S ((1 : Nat) : Int)) M' → loF M M' → Q 0 M') (h6 : is = 1 → 0 ≤ a → ∀ M', rJ (s.S ((6 : Nat) : Int)) M' → loF M M' → rL s.B M' → ¬ a < M' 173 37 → Q 0 M') (h0 : is = 1 → 0 ≤ a → ∀ M', rJ (s.S ((0 : Nat) : Int)) M' → loF M M' → rL s.B M' → a < M' 173 37 → Q 1 M') : am_s am_P am_gg (d + 30) 312 [.inr (.inr 174), .inl is, .inl a] M Q := by
  have ht := rJ_t (v := 0) h
  refine (v_312_174 _ _ _ _ _).mpr (rj_lays ht (fun M1 g1 g2 g3 g4 f1 => ?_))
  have hf : loF M M1 := loF_tr lo_up (rLF_lo f1)
  have hL : ∀ v : Int, rL s.B (am_up M1 173 2 v) := fun v => rL_M g3 (fun i hi => up_ni _ _ _ _ (by omega) _) (fun c a b _ => up_nc _ _ _ _ (by omega))
  refine @p_if _ _ _ _ ?_ ?_
  · intro e; exact h1 (Or.inl e) _ (rJ_s2 g1 1) (loF_tr hf lo_up)
  intro e
  refine @p_if _ _ _ _ ?_ ?_
  · intro e2; exact h1 (Or.inr e2) _ (rJ_s2 g1 1) (loF_tr hf lo_up)
  intro e2
  refine @p_if _ _ _ _ ?_ ?_
  · intro z; exact h0 (by omega) (by omega) _ (rJ_s2 g1 0) (loF_tr hf lo_up) (hL _) (by rw [up_ni _ _ _ _ (by decide)]; exact z)
  · intro z; exact h6 (by omega) (by omega) _ (rJ_s2 g1 6) (loF_tr hf lo_up) (hL _) (by rw [up_ni _ _ _ _ (by decide)]; exact z)
noncomputable def alN (B : Nat → Nat) (Mc : (Nat → Int → Int)) (n : Nat) : Nat := cnt (dc (fun m => nH B n m ∧ Mc 96 (m : Int) = 1)) 1024
noncomputable def wrN (B : Nat → Nat) (n : Nat) : Nat := cnt (dc (wrq B (pW B n))) (16 * (pW B n).length)
def cvV (B : Nat → Nat) (Mc : (Nat → Int → Int)) (n : Nat) (b r : Int) : Prop := (b = 0 ∧ r = (n : Int)) ∨ (b = 1 ∧ r = ((pW B n).length : Int)) ∨ (b = 2 ∧ r = ((cnt (dc (nH B n)) 1024 : Nat) : Int)) ∨ (b = 3 ∧ r = (alN B Mc n : Int)) ∨ (b = 4 ∧ r = (wrN B n : Int))
def cvR (s : sS) (ok : Prop) (a : Int) (P : (Nat → Int → Int) → Nat → Int → sS → Prop) (r : Int) (s' : sS) : Prop := ((¬ ok ∨ a < 0) ∧ r = -1 ∧ s' = s.S 1) ∨ (ok ∧ 0 ≤ a ∧ ∃ Mc, coOK s.B Mc ∧ ((¬ a < Mc 93 5 ∧ r = -1 ∧ s' = s.S 6) ∨ (a < Mc 93 5 ∧ ∃ n : Nat, n < gN s.B ∧ Mc 94 a = (n : Int) ∧ P Mc n r s')))
/-- those that one alone has: by numbers, by codes -/
theorem al_same (hW : gW B) {ρ : Nat → Nat} {m a : Nat} (ha : a < m) (hρ : ∀ i, i < m → ρ i < gN B) {Mc : (Nat → Int → Int)} (h96 : ∀ x : Nat, x < gN B → Mc 96 (x : Int) = (cnt (dc (fun i => nH B (ρ i) x)) m : Int)) : cnt (dc (fun c => gH B (ρ a) c ∧ ∀ o, o < m → o ≠ a → ¬ gH B (ρ o) c)) 1024 = alN B Mc (ρ a) := by
  have hgN := gN_le (B := B)
  have e1 : cnt (dc (fun c => gH B (ρ a) c ∧ ∀ o, o < m → o ≠ a → ¬ gH B (ρ o) c)) 1024 = cnt (dc (fun c => gp B c = true ∧ (fun x => nH B (ρ a) x ∧ ∀ o, o < m → o ≠ a → ¬ nH B (ρ o) x) (cnt (gp B) c))) 1024 := by
    refine cnt_congr (fun c _ => dc_congr ?_)
    constructor
    · rintro ⟨z1, z2⟩
      obtain ⟨z3, z4⟩ := (gH_num hW (hρ a ha)).mp z1
      exact ⟨z3, z4, fun o ho hne z5 => z2 o ho hne ((gH_num hW (hρ o ho)).mpr ⟨z3, z5⟩)⟩
    · rintro ⟨z3, z4, z5⟩
      exact ⟨(gH_num hW (hρ a ha)).mpr ⟨z3, z4⟩, fun o ho hne z6 => z5 o ho hne ((gH_num hW (hρ o ho)).mp z6).2⟩
  have e0 : cnt (gp B) 1024 = gN B := rfl
  rw [e1, cnt_sub (κ := gp B) (R := fun x => nH B (ρ a) x ∧ ∀ o, o < m → o ≠ a → ¬ nH B (ρ o) x) 1024, e0]
  unfold alN
  rw [cnt_cut (p := dc (fun x => nH B (ρ a) x ∧ Mc 96 (x : Int) = 1)) (m := gN B) (fun x hx => dc_f (fun z => by have := nH_lt (hρ a ha) z.1; omega)) hgN]
  refine cnt_congr (fun x hx => dc_congr ?_)
  rw [h96 x hx]
  constructor
  · rintro ⟨z1, z2⟩
    refine ⟨z1, ?_⟩
    have z3 : ¬ 1 < cnt (dc (fun i => nH B (ρ i) x)) m := fun w => by
      obtain ⟨i, j, w1, w2, w3, w4⟩ := cnt_two.mp w
      have w3 := dc_iff.mp w3
      have w4 := dc_iff.mp w4
      by_cases q : i = a
      · exact z2 j w2 (by omega) w4
      · exact z2 i (by omega) q w3
    have z4 : 0 < cnt (dc (fun i => nH B (ρ i) x)) m := cnt_pos.mpr ⟨a, ha, dc_iff.mpr z1⟩
    omega
  · rintro ⟨z1, z2⟩
    refine ⟨z1, fun o ho hne z3 => ?_⟩
    have : 1 < cnt (dc (fun i => nH B (ρ i) x)) m := by
      rcases Nat.lt_trichotomy o a with w | w | w
      · exact cnt_two.mpr ⟨o, a, w, ha, dc_iff.mpr z3, dc_iff.mpr z1⟩
      · exact absurd w hne
      · exact cnt_two.mpr ⟨a, o, w, ho, dc_iff.mpr z1, dc_iff.mpr z3⟩
    omega
theorem xJ_97 (h : xJ k s M) (f : wF1 97 M M') : xJ k s M' := by
  obtain ⟨h0, a1, a2, a3, a4, a5, a6, a7⟩ := h
  have e2 : M' 2 0 = M 2 0 := by rw [f 2 (by decide)]
  refine ⟨xS_c h0 (fun c hc => f c (by omega)), k1_M a1 e2 (fun c a b => f c (by omega)), k2_M a2 e2 (fun c a b => f c (by omega)), k3_M a3 e2 (fun c a b => f c (by omega)), ?_, k5_M a5 e2 (fun c a b => f c (by omega)), k6_M a6 e2 (fun c a b => f c (by omega)), k7_M a7 e2 (fun c a b => f c (by omega))⟩
  unfold k4 at a4 ⊢
  rw [f 93 (by decide), f 81 (by decide), e2]
  exact ⟨a4.1, a4.2.1, fun q => ⟨fun z => coOK_M ((a4.2.2 q).1 z) (by rw [f 93 (by decide)]) (f 94 (by decide)) (f 96 (by decide)), (a4.2.2 q).2⟩⟩
theorem p_cover (a b : Int) : lm_pr (J k) (J (k + 1)) 188 316 [.inl a, .inl b] := pr_R (fun s => ⟨cvR s (0 ≤ b ∧ b ≤ 4) a (fun Mc n r s' => s' = s.S 0 ∧ cvV s.B Mc n b r), fun M h => by
  refine (w_188_1 1599 _ _ _ _).mpr ?_
  refine @p_if _ _ _ _ ?_ ?_
  · intro e; exact eR_ref (by decide) h hiF_rf 1 (by decide) (Or.inl ⟨Or.inr e, rfl, rfl⟩)
  intro ha
  refine @p_if _ _ _ _ ?_ ?_
  · intro e; exact eR_ref (by decide) h hiF_rf 1 (by decide) (Or.inl ⟨Or.inl (by omega), rfl, rfl⟩)
  intro e1
  refine @p_if _ _ _ _ ?_ ?_
  · intro e; exact eR_ref (by decide) h hiF_rf 1 (by decide) (Or.inl ⟨Or.inl (by omega), rfl, rfl⟩)
  intro e2
  refine xj_cover (d := 1591) h (fun M1 h1 f1 c1 p1 s1 o1 => ?_)
  have hf1 : hiF M M1 := fun c hc => f1 c (by omega)
  obtain ⟨m, ρ, m1, m2, m3⟩ := cov_x o1
  refine @p_if _ _ _ _ ?_ ?_
  · intro hlt
    rw [m2] at hlt
    obtain ⟨i, rfl⟩ := p_nat (show 0 ≤ a by omega)
    have hn := (m3 i (by omega)).1
    have e94 := (m3 i (by omega)).2
    have good : ∀ (M2 : (Nat → Int → Int)) (v : Int), xJ k s M2 → hiF M M2 → cvV s.B M1 (ρ i) b v → am_s am_P am_gg 1599 205 [.inr (.inr 1), .inl v] M2 (fun r M2 => ∃ s', cvR s (0 ≤ b ∧ b ≤ 4) (i : Int) (fun Mc n r s' => s' = s.S 0 ∧ cvV s.B Mc n b r) r s' ∧ xJ (k + 1) s' M2 ∧ hiF M M2) := fun M2 v h2 f2 hv => eR_ans (by decide) h2 f2 v (Or.inr ⟨by omega, by omega, M1, o1, Or.inr ⟨by rw [m2]; omega, ρ i, hn, e94, rfl, hv⟩⟩)
    rw [if_pos (by omega), e94]
    refine @p_if _ _ _ _ ?_ ?_
    · intro e; exact good M1 _ h1 hf1 (Or.inl ⟨e, rfl⟩)
    intro b0
    refine @p_if _ _ _ _ ?_ ?_
    · intro e
      refine xj_spell (d := 1595) h1 c1 p1 s1 hn (fun M2 h2 f2 w2 => ?_)
      refine am_x_le [none, none, none, none] (am_lb_le _ _ trivial) ?_
      refine (g_188_99_s92_s1 _ _ _).mpr ?_
      rw [w2.1]
      exact good M2 _ h2 (hiF_tr hf1 (spF_hi f2)) (Or.inr (Or.inl ⟨e, rfl⟩))
    intro b1
    refine @p_if _ _ _ _ ?_ ?_
    · intro e; exact x_countHad (d := 1596) p1 hn (good M1 _ h1 hf1 (Or.inr (Or.inr (Or.inl ⟨e, rfl⟩))))
    intro b2
    refine @p_if _ _ _ _ ?_ ?_
    · intro e
      refine x_countAlone (d := 1595) p1 hn (fun M2 f2 => ?_)
      exact good M2 _ (xJ_97 h1 f2) (hiF_tr hf1 (fun c hc => f2 c (by omega))) (Or.inr (Or.inr (Or.inr (Or.inl ⟨e, rfl⟩))))
    · intro e
      refine xj_sets (d := 1595) h1 (fun M2 h2 f2 o2 => ?_)
      have c2 : chOK s.B M2 := chOK_cong c1 (fun i _ => by rw [f2 22 (by omega)]) (fun c a b => f2 c (by omega))
      have p2 : pOK s.B M2 := pOK_eq p1 (fun c a b => f2 c (by omega))
      have s2 : spI s.B M2 := spI_M s1 (by rw [f2 81 (by omega)]) (f2 91 (by omega)) (f2 92 (by omega))
      refine x_countSpoilt (d := 1594) (xJ_W h) (xJ_g h2) c2 p2 s2 o2 hn (fun M3 f3 w3 e3 => ?_)
      refine good M3 _ (xK_sp h2 f3 p2 (fun m' hm' e' => ?_)) (hiF_tr hf1 (hiF_tr (sF_hi f2) (spF_hi f3))) (Or.inr (Or.inr (Or.inr (Or.inr ⟨by omega, rfl⟩))))
      have : m' = ρ i := by omega
      rw [this]; exact w3
  · intro hlt
    exact eR_ref (by decide) h1 hf1 6 (by decide) (Or.inr ⟨by omega, by omega, M1, o1, Or.inl ⟨hlt, rfl, rfl⟩⟩), fun r s' hR M h => by
  have hgN := gN_le (B := s.B)
  refine (v_316_174 1599 _ _ _ _).mpr ?_
  have main : ∀ is : Int, (is = 1 ∧ (0 ≤ b ∧ b ≤ 4) ∨ is = 0 ∧ ¬ (0 ≤ b ∧ b ≤ 4)) → am_s am_P am_gg 1599 312 [.inr (.inr 174), .inl is, .inl a] M (fun r2 M2 => (if r2 = 0 then (-1 = r ∧ rJ s' M2 ∧ loF M M2) else (if 0 ≤ a ∧ a < 1024 then am_s am_P am_gg 1599 305 [.inr (.inr 174), .inl (M2 191 a)] M2 (fun r3 M3 => (if b = 0 then (if 0 ≤ a ∧ a < 1024 then M3 191 a = r ∧ rJ s' M3 ∧ loF M M3 else False) else (if b = 1 then M3 173 29 = r ∧ rJ s' M3 ∧ loF M M3 else (if b = 2 then (if 0 ≤ a ∧ a < 1024 then am_s am_P am_gg 1599 307 [.inr (.inr 174), .inl (M3 191 a)] M3 (fun r4 M4 => r4 = r ∧ rJ s' M4 ∧ loF M M4) else False) else (if b = 3 then am_s am_P am_gg 1599 313 [.inr (.inr 174), .inl a] M3 (fun r5 M5 => r5 = r ∧ rJ s' M5 ∧ loF M M5) else am_s am_P am_gg 1599 315 [.inr (.inr 174), .inl (-1)] M3 (fun r6 M6 => w32 ((-1) - r6) = r ∧ rJ s' M6 ∧ loF M M6)))))) else False))) := by
    intro is his
    refine rj_asksCover (d := 1569) (by omega) h (fun q M1 h1 f1 => ?_) (fun q1 q2 M1 h1 f1 g2 q3 => ?_) (fun q1 q2 M1 h1 f1 g2 q3 => ?_)
    · rw [if_pos rfl]
      rcases hR with ⟨_, z2, z3⟩ | ⟨z1, z2, z3⟩
      · exact ⟨z2.symm, by rw [z3]; exact h1, f1⟩
      · clear z3; omega
    · rw [if_pos rfl]
      rcases hR with ⟨z1, _⟩ | ⟨_, _, Mc, z4, z5⟩
      · omega
      · obtain ⟨m, ρ, m1, m2, m3, m4, m5⟩ := cov_same z4 g2.2.2.2.2.2.2.2.2.2.2
        rw [m3] at q3
        rcases z5 with ⟨_, z6, z7⟩ | ⟨z6, _⟩
        · exact ⟨z6.symm, by rw [z7]; exact h1, f1⟩
        · rw [m2] at z6; omega
    · rw [if_neg (by decide)]
      rcases hR with ⟨z1, _⟩ | ⟨_, _, Mc, z4, z5⟩
      · omega
      · obtain ⟨m, ρ, m1, m2, m3, m4, m5⟩ := cov_same z4 g2.2.2.2.2.2.2.2.2.2.2
        rw [m3] at q3
        rcases z5 with ⟨z6, _⟩ | ⟨z6, n, z7, z8, z9, z10⟩
        · rw [m2] at z6; omega
        · obtain ⟨i, rfl⟩ := p_nat q2
          have hi : i < m := by omega
          have en : n = ρ i := by
            have := (m4 i hi).2.1
            rw [z8] at this; omega
          subst en
          have hl := pW_len (rJ_W h) z7
          rw [if_pos (by omega), (m4 i hi).2.2]
          refine m_writesPair (d := 1576) (B := s.B) (rJ_W h) (rb_of (s := s.S 0) h1) g2 z7 (fun M3 f3 w3 => ?_)
          have h3 : rJ (s.S 0) M3 := rJ_row h1 f3.1 f3.2
          have f3' : loF M M3 := loF_tr f1 (fun c hc => f3.1 c (by omega) (by omega))
          have g3 : rL s.B M3 := rL_row g2 f3.1 f3.2
          have e191 : ∀ o, o < m → M3 191 (o : Int) = (ρ o : Int) := fun o ho => by rw [f3.1 191 (by decide) (by decide)]; exact (m4 o ho).2.2
          have fin : ∀ v : Int, v = r → (v = r ∧ rJ s' M3 ∧ loF M M3) := fun v e => ⟨e, by rw [z9]; exact h3, f3'⟩
          rcases z10 with ⟨e, z8⟩ | ⟨e, z8⟩ | ⟨e, z8⟩ | ⟨e, z8⟩ | ⟨e, z8⟩
          · rw [if_pos e, if_pos (by omega)]; exact fin _ (by rw [z8]; exact e191 i hi)
          · rw [if_neg (by omega), if_pos e]; exact fin _ (by rw [z8]; exact w3.1)
          · rw [if_neg (by omega), if_neg (by omega), if_pos e, if_pos (by omega), e191 i hi]
            exact m_pairsIn (d := 1597) g3 z7 (fin _ (by rw [z8, had_num (rJ_W h) z7]))
          · rw [if_neg (by omega), if_neg (by omega), if_neg (by omega), if_pos e]
            exact m_aloneIn (d := 1597) (B := s.B) (fun k hk => rL_bR g3 hk) m1 hi (fun o ho => ⟨(m4 o ho).1, e191 o ho⟩) (by rw [f3.2 37 (by decide)]; exact m3) (fin _ (by rw [z8, al_same (rJ_W h) hi (fun o ho => (m4 o ho).1) m5]))
          · rw [if_neg (by omega), if_neg (by omega), if_neg (by omega), if_neg (by omega)]
            have hcl := cnt_le (p := dc (wrq s.B (pW s.B (ρ i)))) (16 * (pW s.B (ρ i)).length)
            refine m_wrongAt (d := 1596) (B := s.B) (rJ_W h) ((rb_of (s := s.S 0) h3).at (k := 2) (by omega)) g3 w3 (pcW_lts (rJ_W h) (cdP z7).2.1) hl (fun q _ _ e => by omega) (fun _ => fin _ ?_)
            rw [z8]
            unfold wrN
            rw [w32_i (by omega) (by omega)]
            omega
  refine m_isIn (d := 1598) (fun q => ?_) (fun q => ?_)
  · exact main 1 (Or.inl ⟨rfl, by omega⟩)
  · exact main 0 (Or.inr ⟨rfl, by omega⟩)⟩)
end Sc9
