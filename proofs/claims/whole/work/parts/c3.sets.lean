/-! readers of both: ends, beside -/
section Sc3
variable {s s' : sS} {B B' : Nat → Nat} {k k' d : Nat} {M M' M0 : (Nat → Int → Int)} {Q : Int → (Nat → Int → Int) → Prop}
/-- ends of calls in the form that pr_R asks for -/
theorem eR_ans {R : Int → sS → Prop} {D : Nat} (hD : 1 ≤ D) (h : xJ k s M) (hf : hiF M0 M) (v : Int) (hR : R v (s.S 0)) : am_s am_P am_gg D 205 [.inr (.inr 1), .inl v] M (fun r M2 => ∃ s', R r s' ∧ xJ (k + 1) s' M2 ∧ hiF M0 M2) := am_s_mono (d := 1) hD (xe_ans (d := 0) (M0 := M0) h hf v) (fun r M2 q => ⟨s.S 0, by rw [q.1]; exact hR, q.2.1, q.2.2⟩)
theorem eR_ref {R : Int → sS → Prop} {D : Nat} (hD : 1 ≤ D) (h : xJ k s M) (hf : hiF M0 M) (n : Nat) (hn : n < 10) (hR : R (-1) (s.S (n : Int))) : am_s am_P am_gg D 204 [.inr (.inr 1), .inl (n : Int)] M (fun r M2 => ∃ s', R r s' ∧ xJ (k + 1) s' M2 ∧ hiF M0 M2) := am_s_mono (d := 1) hD (xe_ref (d := 0) (M0 := M0) h hf n hn) (fun r M2 q => ⟨s.S (n : Int), by rw [q.1]; exact hR, q.2.1, q.2.2⟩)
theorem eR_rr {r : Int} {D : Nat} (hD : 1 ≤ D) (h : rJ s M) (hf : loF M0 M) (n : Nat) (hn : n < 10) (hr : r = -1) (hs : s' = s.S (n : Int)) : am_s am_P am_gg D 224 [.inr (.inr 174), .inl (n : Int)] M (fun r' M2 => r' = r ∧ rJ s' M2 ∧ loF M0 M2) := am_s_mono (d := 1) hD (re_ref (d := 0) (M0 := M0) h hf n hn) (fun r' M2 q => ⟨by rw [q.1, hr], by rw [hs]; exact q.2.1, q.2.2⟩)
/-- of a symbol: asked wrongly, not told, or as it should be -/
def syR (s : sS) (ok : Prop) (a : Int) (P : Int → sS → Prop) (r : Int) (s' : sS) : Prop := ((¬ ok ∨ ¬ (0 ≤ a ∧ a < 8)) ∧ r = -1 ∧ s' = s.S 1) ∨ (ok ∧ (0 ≤ a ∧ a < 8) ∧ ¬ gT s.B a ∧ r = -1 ∧ s' = s.S 2) ∨ (ok ∧ (0 ≤ a ∧ a < 8) ∧ gT s.B a ∧ P r s')
theorem p_ends (a b : Int) : lm_pr (J k) (J (k + 1)) 178 289 [.inl a, .inl b] := pr_R (fun s => ⟨syR s (0 ≤ b ∧ b ≤ 1) a (fun r s' => (b = 0 ∧ bs r (gE s.B (e0 s.B) a.toNat) ∨ b = 1 ∧ bs r (gE s.B (e1 s.B) a.toNat)) ∧ s' = s.S 0), fun M h => by
  refine (v_178_1 1599 _ _ _ _).mpr ?_
  refine @p_if _ _ _ _ ?_ ?_
  · intro e; exact eR_ref (by decide) h hiF_rf 1 (by decide) (Or.inl ⟨Or.inl (by omega), rfl, rfl⟩)
  intro e1
  refine @p_if _ _ _ _ ?_ ?_
  · intro e; exact eR_ref (by decide) h hiF_rf 1 (by decide) (Or.inl ⟨Or.inl (by omega), rfl, rfl⟩)
  intro e2
  refine xj_sym (d := 1597) h (fun ha => ?_) (fun ha hT => ?_) (fun ha hT => ?_)
  · rw [if_neg (by decide)]; exact eR_ref (by decide) h hiF_rf 1 (by decide) (Or.inl ⟨Or.inr ha, rfl, rfl⟩)
  · rw [if_neg (by decide)]; exact eR_ref (by decide) h hiF_rf 2 (by decide) (Or.inr (Or.inl ⟨by omega, ha, hT, rfl, rfl⟩))
  · rw [if_pos rfl]
    obtain ⟨n, rfl⟩ := p_nat ha.1
    refine xj_sets (d := 1595) h (fun M1 h1 f1 o1 => ?_)
    refine @p_if _ _ _ _ ?_ ?_
    · intro e
      rw [if_pos (by omega)]
      exact eR_ans (by decide) h1 (sF_hi f1) _ (Or.inr (Or.inr ⟨by omega, ha, hT, Or.inl ⟨e, o1.2.2.2.2.2.1 n (by omega)⟩, rfl⟩))
    · intro e
      rw [if_pos (by omega)]
      exact eR_ans (by decide) h1 (sF_hi f1) _ (Or.inr (Or.inr ⟨by omega, ha, hT, Or.inr ⟨by omega, o1.2.2.2.2.2.2.1 n (by omega)⟩, rfl⟩)), fun r s' hR M h => by
  refine (v_289_174 1599 _ _ _ _).mpr ?_
  have main : ∀ is : Int, (is = 1 ∧ (0 ≤ b ∧ b ≤ 1) ∨ is = 0 ∧ ¬ (0 ≤ b ∧ b ≤ 1)) → am_s am_P am_gg 1599 288 [.inr (.inr 174), .inl is, .inl a] M (fun r2 M2 => (if r2 = 0 then (-1 = r ∧ rJ s' M2 ∧ loF M M2) else (if b = 0 then (if 0 ≤ a ∧ a < 8 then (M2 176 a = r ∧ rJ s' M2 ∧ loF M M2) else False) else (if 0 ≤ a ∧ a < 8 then (M2 177 a = r ∧ rJ s' M2 ∧ loF M M2) else False)))) := by
    intro is his
    refine rj_asks (d := 1569) (by omega) h (fun q M1 h1 f1 => ?_) (fun q1 q2 q3 M1 h1 f1 => ?_) (fun q1 q2 q3 M1 h1 f1 g1 g2 g3 => ?_)
    · rw [if_pos rfl]
      rcases hR with ⟨_, z2, z3⟩ | ⟨z1, z2, _⟩ | ⟨z1, z2, _⟩
      · exact ⟨z2.symm, by rw [z3]; exact h1, f1⟩
      · omega
      · omega
    · rw [if_pos rfl]
      rcases hR with ⟨z1, _⟩ | ⟨_, _, _, z4, z5⟩ | ⟨_, _, z3, _⟩
      · omega
      · exact ⟨z4.symm, by rw [z5]; exact h1, f1⟩
      · exact absurd z3 q3
    · rw [if_neg (by decide)]
      rcases hR with ⟨z1, _⟩ | ⟨_, _, z3, _⟩ | ⟨_, _, _, z4, z5⟩
      · omega
      · exact absurd q3 z3
      · obtain ⟨n, rfl⟩ := p_nat q2.1
        rcases z4 with ⟨z6, z7⟩ | ⟨z6, z7⟩
        · rw [if_pos z6, if_pos q2]
          exact ⟨bs_uniq (g2.2.2.2.2.2.2.1 n (by omega)) z7, by rw [z5]; exact h1, f1⟩
        · rw [if_neg (by omega), if_pos q2]
          exact ⟨bs_uniq (g2.2.2.2.2.2.2.2.1 n (by omega)) z7, by rw [z5]; exact h1, f1⟩
  refine m_isIn (d := 1598) (fun q => ?_) (fun q => ?_)
  · exact main 1 (Or.inl ⟨rfl, by omega⟩)
  · exact main 0 (Or.inr ⟨rfl, by omega⟩)⟩)
theorem p_beside (a : Int) : lm_pr (J k) (J (k + 1)) 179 292 [.inl a] := pr_R (fun s => ⟨fun r s' => (¬ (-1 ≤ a ∧ a < 16) ∧ r = -1 ∧ s' = s.S 1) ∨ ((a = -1 ∧ bs r (gE s.B (e0 s.B) (s.B 2)) ∨ (0 ≤ a ∧ a < 16) ∧ bs r (gBes s.B a.toNat)) ∧ s' = s.S 0), fun M h => by
  have hb2 := (xJ_W h).2.2.1
  refine (v_179_1 1599 _ _ _).mpr ?_
  refine @p_if _ _ _ _ ?_ ?_
  · intro e; exact eR_ref (by decide) h hiF_rf 1 (by decide) (Or.inl ⟨by omega, rfl, rfl⟩)
  intro e1
  refine @p_if _ _ _ _ ?_ ?_
  · intro e2
    refine xj_sets (d := 1595) h (fun M1 h1 f1 o1 => ?_)
    refine @p_if _ _ _ _ ?_ ?_
    · intro e
      rw [xg_rt (xJ_g h1), if_pos (by omega)]
      exact eR_ans (by decide) h1 (sF_hi f1) _ (Or.inr ⟨Or.inl ⟨e, o1.2.2.2.2.2.1 (s.B 2) hb2⟩, rfl⟩)
    · intro e
      obtain ⟨n, rfl⟩ := p_nat (show 0 ≤ a by omega)
      rw [if_pos (by omega)]
      exact eR_ans (by decide) h1 (sF_hi f1) _ (Or.inr ⟨Or.inr ⟨by omega, o1.2.2.2.2.2.2.2.1 n (by omega)⟩, rfl⟩)
  · intro e2; exact eR_ref (by decide) h hiF_rf 1 (by decide) (Or.inl ⟨by omega, rfl, rfl⟩), fun r s' hR M h => by
  have hb2 := (rJ_W h).2.2.1
  have ht : rJ (s.S 0) (am_up (am_up M 173 3 0) 173 2 0) := rJ_s2 (rJ_t h) 0
  refine (v_292_174 1599 _ _ _).mpr (m_isIn (d := 1598) (fun q => ?_) (fun q => ?_))
  · rw [if_neg (by decide)]
    refine rj_lays (d := 1573) ht (fun M1 h1 g1 g2 g3 f1 => ?_)
    have hlo : loF M M1 := loF_tr (loF_tr lo_up lo_up) (rLF_lo f1)
    rcases hR with ⟨z1, _⟩ | ⟨z1, z2⟩
    · omega
    · rcases z1 with ⟨z3, z4⟩ | ⟨z3, z4⟩
      · rw [if_pos z3]
        refine (v_290_174 1598 _ _).mpr ?_
        rw [show M1 174 2 = (s.B 2 : Int) from (rb_of h1).at (k := 2) (by omega), if_pos (by omega)]
        exact ⟨bs_uniq (g2.2.2.2.2.2.2.1 (s.B 2) hb2) z4, by rw [z2]; exact h1, hlo⟩
      · obtain ⟨n, rfl⟩ := p_nat z3.1
        rw [if_neg (by omega), if_pos z3]
        exact ⟨bs_uniq (g2.2.2.2.2.2.2.2.2.1 n (by omega)) z4, by rw [z2]; exact h1, hlo⟩
  · rw [if_pos rfl]
    rcases hR with ⟨_, z2, z3⟩ | ⟨z1, z2⟩
    · exact eR_rr (by decide) ht (loF_tr lo_up lo_up) 1 (by decide) z2 z3
    · omega⟩)
end Sc3
