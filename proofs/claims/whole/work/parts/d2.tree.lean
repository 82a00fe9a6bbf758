/-! readers of both: tree, treeRule -/
section Sd2
variable {s s' : sS} {B B' : Nat → Nat} {k k' d : Nat} {M M' M0 : (Nat → Int → Int)} {Q : Int → (Nat → Int → Int) → Prop} {l : List Nat}
theorem p_tree (a b c e : Int) (hc32 : am_i32 c) : lm_pr (J k) (J (k + 1)) 195 330 [.inl a, .inl b, .inl c, .inl e] := pr_R (fun s => ⟨syR s (0 ≤ e ∧ 1 ≤ b ∧ b ≤ 24 ∧ 0 ≤ c) a (trP s a.toNat b.toNat c (ltP s (uT s.B a.toNat b.toNat c.toNat).2 e)), fun M h => by
  refine (v_195_1 1599 _ _ _ _ _ _).mpr ?_
  have hc' := hc32
  unfold am_i32 at hc'
  refine @p_if _ _ _ _ ?_ ?_
  · intro z; exact eR_ref (by decide) h hiF_rf 1 (by decide) (Or.inl ⟨Or.inl (by omega), rfl, rfl⟩)
  intro he
  refine xj_noTree (d := 1593) h (fun q => ?_) (fun q1 q2 q3 => ?_) (fun q1 q2 q3 q4 M1 h1 f1 => ?_) (fun q1 q2 q3 q4 M1 f h1 f1 g1 g2 g3 g4 => ?_)
  · rw [if_neg (by decide)]; exact eR_ref (by decide) h hiF_rf 1 (by decide) (Or.inl ⟨by omega, rfl, rfl⟩)
  · rw [if_neg (by decide)]; exact eR_ref (by decide) h hiF_rf 2 (by decide) (Or.inr (Or.inl ⟨by omega, q2, q3, rfl, rfl⟩))
  · rw [if_neg (by decide)]; exact eR_ref (by decide) h1 f1 6 (by decide) (Or.inr (Or.inr ⟨by omega, q2, q3, Or.inl ⟨q4, rfl, rfl⟩⟩))
  · rw [if_pos rfl]
    obtain ⟨n, rfl⟩ := p_nat q2.1
    obtain ⟨m, rfl⟩ := p_nat (show 0 ≤ b by omega)
    obtain ⟨x, rfl⟩ := p_nat q1.2.2
    obtain ⟨i, rfl⟩ := p_nat (show 0 ≤ e by omega)
    have hx : x < tT s.B n m := by have q4 : (x : Int) < (tT s.B n m : Int) := q4; omega
    have hl := uT_len (xJ_W h) (s := n) (Or.inl (by omega)) (show m ≤ 24 by omega) hx
    refine xj_pick (d := 1594) h1 g3 g2 (by omega) (by omega) (by omega) (by omega) hx g4 (fun M2 h2 f2 ls => ?_)
    rw [ls.2.1]
    refine @p_if _ _ _ _ ?_ ?_
    · intro z
      rw [if_pos (by omega), ls.2.2.2 i (by omega)]
      exact eR_ans (by decide) h2 (hiF_tr f1 f2) _ (Or.inr (Or.inr ⟨by omega, q2, q3, Or.inr ⟨q4, Or.inl ⟨z, rfl, rfl⟩⟩⟩))
    · intro z
      exact eR_ref (by decide) h2 (hiF_tr f1 f2) 6 (by decide) (Or.inr (Or.inr ⟨by omega, q2, q3, Or.inr ⟨q4, Or.inr ⟨z, rfl, rfl⟩⟩⟩)), fun r s' hR M h => by
  have main : ∀ is : Int, (is = 1 ∧ 0 ≤ e ∨ is = 0 ∧ e < 0) → am_s am_P am_gg 1599 329 [.inr (.inr 174), .inl is, .inl a, .inl b, .inl c] M (fun r2 M2 => (if r2 = 0 then (-1 = r ∧ rJ s' M2 ∧ loF M M2) else (if e < M2 173 29 then (if 0 ≤ e ∧ e < 256 then M2 186 e = r ∧ rJ s' M2 ∧ loF M M2 else False) else am_s am_P am_gg 1599 224 [.inr (.inr 174), .inl 6] M2 (fun r3 M3 => r3 = r ∧ rJ s' M3 ∧ loF M M3)))) := by
    intro is his
    refine rj_asksTree (d := 199) (by omega) hc32 h (fun q M1 h1 f1 => ?_) (fun q1 q2 q3 M1 h1 f1 => ?_) (fun q1 q2 q3 q4 M1 h1 f1 => ?_) (fun q1 q2 q3 q4 M1 h1 f1 g1 => ?_)
    · rw [if_pos rfl]
      rcases hR with ⟨_, z2, z3⟩ | ⟨z1, z2, _⟩ | ⟨z1, z2, _⟩
      · exact ⟨z2.symm, by rw [z3]; exact h1, f1⟩
      · omega
      · omega
    · rw [if_pos rfl]
      rcases hR with ⟨z1, _⟩ | ⟨_, _, _, z4, z5⟩ | ⟨_, _, z3, _⟩
      · omega
      · exact ⟨z4.symm, by rw [z5]; exact h1, f1⟩
      · exact absurd z3 q3
    · rw [if_pos rfl]
      rcases hR with ⟨z1, _⟩ | ⟨_, _, z3, _⟩ | ⟨_, _, _, z4⟩
      · omega
      · exact absurd q3 z3
      · rcases z4 with ⟨_, z5, z6⟩ | ⟨z5, _⟩
        · exact ⟨z5.symm, by rw [z6]; exact h1, f1⟩
        · exact absurd z5 q4
    · rw [if_neg (by decide)]
      rcases hR with ⟨z1, _⟩ | ⟨_, _, z3, _⟩ | ⟨z1, _, _, z4⟩
      · omega
      · exact absurd q3 z3
      · rcases z4 with ⟨z5, _⟩ | ⟨_, z5⟩
        · exact absurd q4 z5
        · obtain ⟨n, rfl⟩ := p_nat q2.1
          obtain ⟨m, rfl⟩ := p_nat (show 0 ≤ b by omega)
          obtain ⟨x, rfl⟩ := p_nat q1.2.2.2
          obtain ⟨i, rfl⟩ := p_nat z1.1
          have hx : x < tT s.B n m := by have q4 : (x : Int) < (tT s.B n m : Int) := q4; omega
          have hl := uT_len (rJ_W h) (s := n) (Or.inl (by omega)) (show m ≤ 24 by omega) hx
          have g1 : uI s.B M1 (uT s.B n m x).1 (uT s.B n m x).2 := g1
          have z5 : ltP s (uT s.B n m x).2 (i : Int) r s' := z5
          rw [g1.2.1]
          rcases z5 with ⟨z6, z7, z8⟩ | ⟨z6, z7, z8⟩
          · rw [if_pos z6, if_pos (by omega)]
            exact ⟨by rw [z7]; exact g1.2.2.2.1 i (by omega), by rw [z8]; exact h1, f1⟩
          · rw [if_neg z6]
            exact eR_rr (by decide) h1 f1 6 (by decide) z7 z8
  refine (v_330_174 1599 _ _ _ _ _ _).mpr ?_
  refine @p_if _ _ _ _ ?_ ?_
  · intro z; exact main 0 (Or.inr ⟨rfl, z⟩)
  · intro z; exact main 1 (Or.inl ⟨rfl, by omega⟩)⟩)
theorem p_treeRule (a b c e : Int) (hc32 : am_i32 c) : lm_pr (J k) (J (k + 1)) 196 331 [.inl a, .inl b, .inl c, .inl e] := pr_R (fun s => ⟨syR s (0 ≤ e ∧ 1 ≤ b ∧ b ≤ 24 ∧ 0 ≤ c) a (trP s a.toNat b.toNat c (ltP s (uT s.B a.toNat b.toNat c.toNat).1 e)), fun M h => by
  refine (v_196_1 1599 _ _ _ _ _ _).mpr ?_
  have hc' := hc32
  unfold am_i32 at hc'
  refine @p_if _ _ _ _ ?_ ?_
  · intro z; exact eR_ref (by decide) h hiF_rf 1 (by decide) (Or.inl ⟨Or.inl (by omega), rfl, rfl⟩)
  intro he
  refine xj_noTree (d := 1593) h (fun q => ?_) (fun q1 q2 q3 => ?_) (fun q1 q2 q3 q4 M1 h1 f1 => ?_) (fun q1 q2 q3 q4 M1 f h1 f1 g1 g2 g3 g4 => ?_)
  · rw [if_neg (by decide)]; exact eR_ref (by decide) h hiF_rf 1 (by decide) (Or.inl ⟨by omega, rfl, rfl⟩)
  · rw [if_neg (by decide)]; exact eR_ref (by decide) h hiF_rf 2 (by decide) (Or.inr (Or.inl ⟨by omega, q2, q3, rfl, rfl⟩))
  · rw [if_neg (by decide)]; exact eR_ref (by decide) h1 f1 6 (by decide) (Or.inr (Or.inr ⟨by omega, q2, q3, Or.inl ⟨q4, rfl, rfl⟩⟩))
  · rw [if_pos rfl]
    obtain ⟨n, rfl⟩ := p_nat q2.1
    obtain ⟨m, rfl⟩ := p_nat (show 0 ≤ b by omega)
    obtain ⟨x, rfl⟩ := p_nat q1.2.2
    obtain ⟨i, rfl⟩ := p_nat (show 0 ≤ e by omega)
    have hx : x < tT s.B n m := by have q4 : (x : Int) < (tT s.B n m : Int) := q4; omega
    have hl := uT_len (xJ_W h) (s := n) (Or.inl (by omega)) (show m ≤ 24 by omega) hx
    refine xj_pick (d := 1594) h1 g3 g2 (by omega) (by omega) (by omega) (by omega) hx g4 (fun M2 h2 f2 ls => ?_)
    rw [ls.1]
    refine @p_if _ _ _ _ ?_ ?_
    · intro z
      rw [if_pos (by omega), ls.2.2.1 i (by omega)]
      exact eR_ans (by decide) h2 (hiF_tr f1 f2) _ (Or.inr (Or.inr ⟨by omega, q2, q3, Or.inr ⟨q4, Or.inl ⟨z, rfl, rfl⟩⟩⟩))
    · intro z
      exact eR_ref (by decide) h2 (hiF_tr f1 f2) 6 (by decide) (Or.inr (Or.inr ⟨by omega, q2, q3, Or.inr ⟨q4, Or.inr ⟨z, rfl, rfl⟩⟩⟩)), fun r s' hR M h => by
  have main : ∀ is : Int, (is = 1 ∧ 0 ≤ e ∨ is = 0 ∧ e < 0) → am_s am_P am_gg 1599 329 [.inr (.inr 174), .inl is, .inl a, .inl b, .inl c] M (fun r2 M2 => (if r2 = 0 then (-1 = r ∧ rJ s' M2 ∧ loF M M2) else (if e < M2 173 44 then (if 0 ≤ e ∧ e < 512 then M2 197 e = r ∧ rJ s' M2 ∧ loF M M2 else False) else am_s am_P am_gg 1599 224 [.inr (.inr 174), .inl 6] M2 (fun r3 M3 => r3 = r ∧ rJ s' M3 ∧ loF M M3)))) := by
    intro is his
    refine rj_asksTree (d := 199) (by omega) hc32 h (fun q M1 h1 f1 => ?_) (fun q1 q2 q3 M1 h1 f1 => ?_) (fun q1 q2 q3 q4 M1 h1 f1 => ?_) (fun q1 q2 q3 q4 M1 h1 f1 g1 => ?_)
    · rw [if_pos rfl]
      rcases hR with ⟨_, z2, z3⟩ | ⟨z1, z2, _⟩ | ⟨z1, z2, _⟩
      · exact ⟨z2.symm, by rw [z3]; exact h1, f1⟩
      · omega
      · omega
    · rw [if_pos rfl]
      rcases hR with ⟨z1, _⟩ | ⟨_, _, _, z4, z5⟩ | ⟨_, _, z3, _⟩
      · omega
      · exact ⟨z4.symm, by rw [z5]; exact h1, f1⟩
      · exact absurd z3 q3
    · rw [if_pos rfl]
      rcases hR with ⟨z1, _⟩ | ⟨_, _, z3, _⟩ | ⟨_, _, _, z4⟩
      · omega
      · exact absurd q3 z3
      · rcases z4 with ⟨_, z5, z6⟩ | ⟨z5, _⟩
        · exact ⟨z5.symm, by rw [z6]; exact h1, f1⟩
        · exact absurd z5 q4
    · rw [if_neg (by decide)]
      rcases hR with ⟨z1, _⟩ | ⟨_, _, z3, _⟩ | ⟨z1, _, _, z4⟩
      · omega
      · exact absurd q3 z3
      · rcases z4 with ⟨z5, _⟩ | ⟨_, z5⟩
        · exact absurd q4 z5
        · obtain ⟨n, rfl⟩ := p_nat q2.1
          obtain ⟨m, rfl⟩ := p_nat (show 0 ≤ b by omega)
          obtain ⟨x, rfl⟩ := p_nat q1.2.2.2
          obtain ⟨i, rfl⟩ := p_nat z1.1
          have hx : x < tT s.B n m := by have q4 : (x : Int) < (tT s.B n m : Int) := q4; omega
          have hl := uT_len (rJ_W h) (s := n) (Or.inl (by omega)) (show m ≤ 24 by omega) hx
          have g1 : uI s.B M1 (uT s.B n m x).1 (uT s.B n m x).2 := g1
          have z5 : ltP s (uT s.B n m x).1 (i : Int) r s' := z5
          rw [g1.2.2.1]
          rcases z5 with ⟨z6, z7, z8⟩ | ⟨z6, z7, z8⟩
          · rw [if_pos z6, if_pos (by omega)]
            exact ⟨by rw [z7]; exact g1.2.2.2.2 i (by omega), by rw [z8]; exact h1, f1⟩
          · rw [if_neg z6]
            exact eR_rr (by decide) h1 f1 6 (by decide) z7 z8
  refine (v_331_174 1599 _ _ _ _ _ _).mpr ?_
  refine @p_if _ _ _ _ ?_ ?_
  · intro z; exact main 0 (Or.inr ⟨rfl, z⟩)
  · intro z; exact main 1 (Or.inl ⟨rfl, by omega⟩)⟩)
end Sd2
