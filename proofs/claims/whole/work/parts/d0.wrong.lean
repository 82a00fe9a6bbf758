/-! readers of both: wrong, trees -/
section Sd0
variable {s s' : sS} {B B' : Nat → Nat} {k k' d : Nat} {M M' M0 : (Nat → Int → Int)} {Q : Int → (Nat → Int → Int) → Prop} {l : List Nat}
def wrP (s : sS) (n i : Nat) (c : Int) (r : Int) (s' : sS) : Prop := (∃ q : Nat, q < 16 * (pW s.B n).length ∧ wrq s.B (pW s.B n) q ∧ cnt (dc (wrq s.B (pW s.B n))) q = i ∧ s' = s.S 0 ∧ (c = 0 ∧ r = ((q / 16 : Nat) : Int) ∨ c = 1 ∧ r = ((q % 16 : Nat) : Int))) ∨ (wrN s.B n ≤ i ∧ r = -1 ∧ s' = s.S 6)
set_option maxRecDepth 8000 in
theorem p_wrong (a b c : Int) (hb32 : am_i32 b) : lm_pr (J k) (J (k + 1)) 190 318 [.inl a, .inl b, .inl c] := pr_R (fun s => ⟨cvR s (0 ≤ b ∧ 0 ≤ c ∧ c ≤ 1) a (fun _ n r s' => wrP s n b.toNat c r s'), fun M h => by
  refine (v_190_1 1599 _ _ _ _ _).mpr ?_
  refine @p_if _ _ _ _ ?_ ?_
  · intro e; exact eR_ref (by decide) h hiF_rf 1 (by decide) (Or.inl ⟨Or.inr e, rfl, rfl⟩)
  intro ha
  refine @p_if _ _ _ _ ?_ ?_
  · intro e; exact eR_ref (by decide) h hiF_rf 1 (by decide) (Or.inl ⟨Or.inl (by omega), rfl, rfl⟩)
  intro hb
  refine @p_if _ _ _ _ ?_ ?_
  · intro e; exact eR_ref (by decide) h hiF_rf 1 (by decide) (Or.inl ⟨Or.inl (by omega), rfl, rfl⟩)
  intro e1
  refine @p_if _ _ _ _ ?_ ?_
  · intro e; exact eR_ref (by decide) h hiF_rf 1 (by decide) (Or.inl ⟨Or.inl (by omega), rfl, rfl⟩)
  intro e2
  refine xj_cover (d := 1591) h (fun M1 h1 f1 c1 p1 s1 o1 => ?_)
  refine xj_sets (d := 1595) h1 (fun M2 h2 f2 o2 => ?_)
  have hf2 : hiF M M2 := hiF_tr (fun c hc => f1 c (by omega)) (sF_hi f2)
  have c2 : chOK s.B M2 := chOK_cong c1 (fun i _ => by rw [f2 22 (by omega)]) (fun c a b => f2 c (by omega))
  have p2 : pOK s.B M2 := pOK_eq p1 (fun c a b => f2 c (by omega))
  have s2 : spI s.B M2 := spI_M s1 (by rw [f2 81 (by omega)]) (f2 91 (by omega)) (f2 92 (by omega))
  have co2 : coOK s.B M2 := coOK_M o1 (by rw [f2 93 (by omega)]) (f2 94 (by omega)) (f2 96 (by omega))
  obtain ⟨m, ρ, m1, m2, m3⟩ := cov_x co2
  unfold am_i32 at hb32
  refine @p_if _ _ _ _ ?_ ?_
  · intro hlt
    rw [m2] at hlt
    obtain ⟨i, rfl⟩ := p_nat (show 0 ≤ a by omega)
    obtain ⟨j, rfl⟩ := p_nat (show 0 ≤ b by omega)
    have hn := (m3 i (by omega)).1
    have e94 := (m3 i (by omega)).2
    have hl := pW_len (xJ_W h) hn
    have mk' : ∀ r s', wrP s (ρ i) j c r s' → cvR s (0 ≤ (j : Int) ∧ 0 ≤ c ∧ c ≤ 1) (i : Int) (fun _ n r s' => wrP s n ((j : Int).toNat) c r s') r s' := fun r s' q => Or.inr ⟨by omega, by omega, M2, co2, Or.inr ⟨by rw [m2]; omega, ρ i, hn, e94, q⟩⟩
    rw [if_pos (by omega), e94]
    refine x_findSpoilt (d := 1594) (xJ_W h) (xJ_g h2) c2 p2 s2 o2 hn (by omega) (fun M3 f3 w3 e3 => ?_)
    have h3 : xJ k s M3 := xK_sp h2 f3 p2 (fun m' hm' e' => by
      have : m' = ρ i := by omega
      rw [this]; exact w3)
    have hf3 : hiF M M3 := hiF_tr hf2 (spF_hi f3)
    refine ⟨fun q q1 q2 q3 => ?_, fun q => ?_⟩
    · rw [if_neg (by omega)]
      refine @p_if _ _ _ _ ?_ ?_
      · intro e
        rw [show Int.tdiv (q : Int) 16 = ((q / 16 : Nat) : Int) from tdiv_n (b := 16), w32_nat (by omega)]
        exact eR_ans (by decide) h3 hf3 _ (mk' _ _ (Or.inl ⟨q, q1, q2, q3, rfl, Or.inl ⟨e, rfl⟩⟩))
      · intro e
        rw [show Int.tmod (q : Int) 16 = ((q % 16 : Nat) : Int) from tmod_n (b := 16), w32_nat (by omega)]
        exact eR_ans (by decide) h3 hf3 _ (mk' _ _ (Or.inl ⟨q, q1, q2, q3, rfl, Or.inr ⟨by omega, rfl⟩⟩))
    · rw [if_pos rfl]
      exact eR_ref (by decide) h3 hf3 6 (by decide) (mk' _ _ (Or.inr ⟨q, rfl, rfl⟩))
  · intro hlt
    exact eR_ref (by decide) h2 hf2 6 (by decide) (Or.inr ⟨by omega, by omega, M2, co2, Or.inl ⟨hlt, rfl, rfl⟩⟩), fun r s' hR M h => by
  have hgN := gN_le (B := s.B)
  have main : ∀ is : Int, (is = 1 ∧ (0 ≤ b ∧ 0 ≤ c ∧ c ≤ 1) ∨ is = 0 ∧ ¬ (0 ≤ b ∧ 0 ≤ c ∧ c ≤ 1)) → am_s am_P am_gg 1599 312 [.inr (.inr 174), .inl is, .inl a] M (fun r2 M2 => (if r2 = 0 then (-1 = r ∧ rJ s' M2 ∧ loF M M2) else (if 0 ≤ a ∧ a < 1024 then am_s am_P am_gg 1599 305 [.inr (.inr 174), .inl (M2 191 a)] M2 (fun r3 M3 => am_s am_P am_gg 1599 315 [.inr (.inr 174), .inl b] M3 (fun r4 M4 => (if r4 < 0 then am_s am_P am_gg 1599 224 [.inr (.inr 174), .inl 6] M4 (fun r5 M5 => r5 = r ∧ rJ s' M5 ∧ loF M M5) else (if c = 0 then w32 (Int.tdiv r4 16) = r ∧ rJ s' M4 ∧ loF M M4 else w32 (Int.tmod r4 16) = r ∧ rJ s' M4 ∧ loF M M4)))) else False))) := by
    intro is his
    refine rj_asksCover (d := 1569) (by omega) h (fun q M1 h1 f1 => ?_) (fun q1 q2 M1 h1 f1 g2 q3 => ?_) (fun q1 q2 M1 h1 f1 g2 q3 => ?_)
    · rw [if_pos rfl]
      rcases hR with ⟨_, z2, z3⟩ | ⟨z1, z2, z3⟩
      · exact ⟨z2.symm, by rw [z3]; exact h1, f1⟩
      · clear z3; omega
    · rw [if_pos rfl]
      rcases hR with ⟨z1, _⟩ | ⟨_, _, Mc, z4, z5⟩
      · omega
      · obtain ⟨m, ρ, m1, m2, m3, m4, m5⟩ := cov_same z4 g2.2.2.2.2.2.2.2.2.2.2
        rw [m3] at q3
        rcases z5 with ⟨_, z6, z7⟩ | ⟨z6, z7⟩
        · exact ⟨z6.symm, by rw [z7]; exact h1, f1⟩
        · clear z7; rw [m2] at z6; omega
    · rw [if_neg (by decide)]
      rcases hR with ⟨z1, _⟩ | ⟨zc, _, Mc, z4, z5⟩
      · omega
      · obtain ⟨m, ρ, m1, m2, m3, m4, m5⟩ := cov_same z4 g2.2.2.2.2.2.2.2.2.2.2
        rw [m3] at q3
        rcases z5 with ⟨z6, _⟩ | ⟨z6, n, z7, z8, z9⟩
        · rw [m2] at z6; omega
        · obtain ⟨i, rfl⟩ := p_nat q2
          obtain ⟨j, rfl⟩ := p_nat zc.1
          have hi : i < m := by clear z9; omega
          have en : n = ρ i := by
            have := (m4 i hi).2.1
            rw [z8] at this
            clear z9; omega
          subst en
          have z9 : wrP s (ρ i) j c r s' := z9
          have hl := pW_len (rJ_W h) z7
          rw [if_pos (by clear z9; omega), (m4 i hi).2.2]
          refine m_writesPair (d := 1576) (B := s.B) (rJ_W h) (rb_of (s := s.S 0) h1) g2 z7 (fun M3 f3 w3 => ?_)
          have h3 : rJ (s.S 0) M3 := rJ_row h1 f3.1 f3.2
          have f3' : loF M M3 := loF_tr f1 (fun c hc => f3.1 c (by omega) (by omega))
          have g3 : rL s.B M3 := rL_row g2 f3.1 f3.2
          refine m_wrongAt (d := 1596) (B := s.B) (rJ_W h) ((rb_of (s := s.S 0) h3).at (k := 2) (by omega)) g3 w3 (pcW_lts (rJ_W h) (cdP z7).2.1) hl (fun q x1 x2 x3 => ?_) (fun x => ?_)
          · rw [if_neg (by omega)]
            rcases z9 with ⟨q', y1, y2, y3, y4, y5⟩ | ⟨y1, _⟩
            · have eq : q' = q := cnt_inj (dc_iff.mpr y2) (dc_iff.mpr x2) (by omega)
              subst eq
              rw [show Int.tdiv (q' : Int) 16 = ((q' / 16 : Nat) : Int) from tdiv_n (b := 16), show Int.tmod (q' : Int) 16 = ((q' % 16 : Nat) : Int) from tmod_n (b := 16), w32_nat (by omega), w32_nat (by omega)]
              rcases y5 with ⟨e, y6⟩ | ⟨e, y6⟩
              · rw [if_pos e]; exact ⟨y6.symm, by rw [y4]; exact h3, f3'⟩
              · rw [if_neg (by omega)]; exact ⟨y6.symm, by rw [y4]; exact h3, f3'⟩
            · have := cnt_lt_of (p := dc (wrq s.B (pW s.B (ρ i)))) (dc_iff.mpr x2) x1
              unfold wrN at y1
              omega
          · rw [if_pos (by omega)]
            rcases z9 with ⟨q', y1, y2, y3, _⟩ | ⟨_, y2, y3⟩
            · exact absurd (by rw [y3]) (x q' y1 y2)
            · exact eR_rr (by decide) h3 f3' 6 (by decide) y2 y3
  refine (v_318_174 1599 _ _ _ _ _).mpr ?_
  refine @p_if _ _ _ _ ?_ ?_
  · intro e; exact main 0 (Or.inr ⟨rfl, by omega⟩)
  · intro e
    refine m_isIn (d := 1598) (fun q => ?_) (fun q => ?_)
    · rw [if_neg (by decide)]; exact main 1 (Or.inl ⟨rfl, by omega⟩)
    · rw [if_pos rfl]; exact main 0 (Or.inr ⟨rfl, by omega⟩)⟩)
end Sd0
