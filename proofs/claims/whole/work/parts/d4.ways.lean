/-! readers of both: ways, parse, parsed, number -/
section Sd4
variable {s s' : sS} {B B' : Nat → Nat} {k k' d n : Nat} {st st' : Int} {M M' M0 : (Nat → Int → Int)} {Q : Int → (Nat → Int → Int) → Prop} {l : List Nat}
def txR (s : sS) (a : Int) (P : Int → sS → Prop) (r : Int) (s' : sS) : Prop := (¬ txK s a ∧ r = -1 ∧ s' = s.S 1) ∨ (txK s a ∧ ¬ ltO s a.toNat ∧ r = -1 ∧ s' = s.S 4) ∨ (txK s a ∧ ltO s a.toNat ∧ P r s')
noncomputable def wyN (s : sS) (n : Nat) : Nat := wT s.B (tx s n) (s.B 2) 0 n
def seP (s : sS) (n : Nat) (P : Int → sS → Prop) (r : Int) (s' : sS) : Prop := (wyN s n = 0 ∧ r = -1 ∧ s' = s.S 5) ∨ (0 < wyN s n ∧ P r s')
theorem st_le : ((6100 * k : Nat) : Int) + 1 ≤ ((6100 * (k + 1) : Nat) : Int) := by omega
theorem rJ_196 (h : rJ s M) (f : f196 M M') : rJ s M' := rJ_gen h (fun c a1 a2 a3 => f c (by omega)) (fun i _ _ _ _ => by rw [f 173 (by decide)]) (fun t => tI_f t f)
/-- the reference asks whether the text is a sentence -/
theorem rj_isSent (h : rJ s M) {x : Nat → Nat} {N : Nat} (hN : 1 ≤ N) (hw : wI s.B x N M) (h1 : 0 < wT s.B x (s.B 2) 0 N → ∀ M', rJ s M' → f196 M M' → wI s.B x N M' → Q 1 M') (h0 : wT s.B x (s.B 2) 0 N = 0 → ∀ M', rJ s M' → f196 M M' → wI s.B x N M' → Q 0 M') : am_s am_P am_gg (d + 800) 339 [.inr (.inr 174)] M Q := by
  have hW := rJ_W h
  refine (v_339_174 _ _ _).mpr ?_
  rw [show M 174 2 = (s.B 2 : Int) from (rb_of h).at (k := 2) (by omega), hw.2.1]
  have q := rWO_mono (d' := d + 799) (m_ways (x := x) (N := N) (s := s.B 2) (a := 0) (n := N) hW hw.2.2.1 (Or.inl hW.2.2.1) hN (by omega)) (by have := hw.2.2.1; omega) M (fun r1 M1 => (if 0 < r1 then Q 1 M1 else Q 0 M1)) hw (fun M1 g1 g2 => ?_)
  · rw [Nat.zero_add] at q; exact q
  · refine @p_if _ _ _ _ ?_ ?_
    · intro e; exact h1 (by omega) M1 (rJ_196 h g2) g2 g1
    · intro e; exact h0 (by omega) M1 (rJ_196 h g2) g2 g1
theorem p_ways (hk : k < 512) (a : Int) : lm_pr (J k) (J (k + 1)) 198 340 [.inl a] := pr_R (fun s => ⟨txR s a (fun r s' => r = (wyN s a.toNat : Int) ∧ s' = s.S 0), fun M h => by
  refine (v_198_1 1599 _ _ _).mpr (xj_noText (d := 1597) h.1 (fun q => ?_) (fun q1 q2 => ?_) (fun q1 q2 => ?_))
  · rw [if_neg (by decide)]; exact eR_ref (by decide) h hiF_rf 1 (by decide) (Or.inl ⟨q, rfl, rfl⟩)
  · rw [if_neg (by decide)]; exact eR_ref (by decide) h hiF_rf 4 (by decide) (Or.inr (Or.inl ⟨q1, q2, rfl, rfl⟩))
  · rw [if_pos rfl]
    have q1' := q1
    unfold txK at q1'
    obtain ⟨n, rfl⟩ := p_nat (show 0 ≤ a by omega)
    refine xj_hold (d := 1594) h hk q1 q2 (fun M1 g1 f1 f1' f1'' o1 c1 => ?_)
    refine x_waysC (d := 1592) (xJ_W h) (xT_g g1) c1 (fun M2 f2 c2 => ?_)
    exact eT_ans (by decide) (xT_J (xT_ct g1 f2 c2) st_le) (hiF_tr f1 (ctF_hi f2)) _ (Or.inr (Or.inr ⟨q1, q2, rfl, rfl⟩)), fun r s' hR M h => by
  refine (v_340_174 1599 _ _ _).mpr (rj_asksText (d := 1595) h (fun q M1 h1 f1 => ?_) (fun q1 q2 M1 h1 f1 => ?_) (fun q1 q2 M1 h1 f1 w1 => ?_))
  · rw [if_pos (by decide)]
    rcases hR with ⟨_, z2, z3⟩ | ⟨z1, _⟩ | ⟨z1, _⟩
    · exact ⟨z2.symm, by rw [z3]; exact rJ_s2 h1 1, loF_tr f1 lo_up⟩
    · exact absurd z1 q
    · exact absurd z1 q
  · rw [if_pos (by decide)]
    rcases hR with ⟨z1, _⟩ | ⟨_, _, z2, z3⟩ | ⟨_, z1, _⟩
    · exact absurd q1 z1
    · exact ⟨z2.symm, by rw [z3]; exact rJ_s2 h1 4, loF_tr f1 lo_up⟩
    · exact absurd z1 q2
  · rw [if_neg (by decide)]
    rcases hR with ⟨z1, _⟩ | ⟨_, z1, _⟩ | ⟨_, _, z2, z3⟩
    · exact absurd q1 z1
    · exact absurd q2 z1
    · have q1' := q1
      unfold txK at q1'
      obtain ⟨n, rfl⟩ := p_nat (show 0 ≤ a by omega)
      have hW := rJ_W h
      have w1 : wI s.B (tx s n) n M1 := w1
      have h1' : rJ (s.S 0) (am_up M1 173 2 0) := rJ_s2 h1 0
      have w2 : wI s.B (tx s n) n (am_up M1 173 2 0) := by
        obtain ⟨y1, y2, y3, y4, y5⟩ := w1
        exact ⟨by rw [up_nc _ _ _ _ (by decide)]; exact y1, by rw [up_ni _ _ _ _ (by decide)]; exact y2, y3, by rw [up_nc _ _ _ _ (by decide)]; exact y4, by rw [up_nc _ _ _ _ (by decide)]; exact y5⟩
      rw [show M1 174 2 = (s.B 2 : Int) from (rb_of h1).at (k := 2) (by omega), w1.2.1]
      have q := rWO_mono (d' := 1599) (m_ways (x := tx s n) (N := n) (s := s.B 2) (a := 0) (n := n) hW (by omega) (Or.inl hW.2.2.1) (by omega) (by omega)) (by omega) (am_up M1 173 2 0) (fun r2 M2 => r2 = r ∧ rJ s' M2 ∧ loF M M2) w2 (fun M3 g1 g2 => ⟨z2.symm, by rw [z3]; exact rJ_196 h1' g2, loF_tr f1 (loF_tr lo_up (fun c hc => g2 c (by omega)))⟩)
      rw [Nat.zero_add] at q
      exact q⟩)
/-- the reference finds the own tree of its text -/
theorem rj_order (h : rJ s M) {x : Nat → Nat} {N : Nat} (hN : 1 ≤ N) (hw : wI s.B x N M) (hp : 0 < wT s.B x (s.B 2) 0 N) (hQ : ∀ M', rJ s M' → loF M M' → wI s.B x N M' → oI M' (nds (yT s.B x (s.B 2) 0 N).1) → Q 0 M') : am_s am_P am_gg (d + 1001) 343 [.inr (.inr 174)] M Q := by
  have hW := rJ_W h
  have hN16 := hw.2.2.1
  have hl := yT_len hW (by omega) hN hp
  refine (v_343_174 _ _ _).mpr ?_
  rw [show M 174 2 = (s.B 2 : Int) from (rb_of h).at (k := 2) (by omega), hw.2.1]
  have hw' : wI s.B x N (am_up M 173 44 0) := by
    obtain ⟨y1, y2, y3, y4, y5⟩ := hw
    exact ⟨by rw [up_nc _ _ _ _ (by decide)]; exact y1, by rw [up_ni _ _ _ _ (by decide)]; exact y2, y3, by rw [up_nc _ _ _ _ (by decide)]; exact y4, by rw [up_nc _ _ _ _ (by decide)]; exact y5⟩
  have q := pTO_mono (d' := d + 1000) (m_parse (x := x) (N := N) (s := s.B 2) (a := 0) (n := N) hW hN16 hW.2.2.1 (by omega) hp) (by omega) (am_up M 173 44 0) (fun r1 M1 => Q 0 M1) [] hw' ⟨up_eq _ _ _ _, fun j hj => absurd hj (Nat.not_lt_zero j)⟩ (by show 0 + _ ≤ _; omega) (fun M1 g1 g2 g3 => ?_)
  · rw [Nat.zero_add] at q; exact q
  · have fr : ∀ c, c ≠ 173 → c ≠ 196 → c ≠ 197 → M1 c = M c := fun c a1 a2 a3 => by rw [g3.1 c a1 a2 a3, up_nc _ _ _ _ a1]
    have fi : ∀ i : Int, i ≠ 44 → M1 173 i = M 173 i := fun i hi => by rw [g3.2 i hi, up_ni _ _ _ _ hi]
    exact hQ M1 (rJ_gen h (fun c a1 a2 a3 => fr c a2 (by omega) (by omega)) (fun i _ _ _ a4 => fi i a4) (fun t => tI_M t (by rw [fr 174 (by decide) (by decide) (by decide)]; exact t.1) (fr 193 (by decide) (by decide) (by decide)) (fr 194 (by decide) (by decide) (by decide)))) (fun c hc => fr c (by omega) (by omega) (by omega)) g1 g2
theorem wI_2 {x : Nat → Nat} {N : Nat} {i v : Int} (hi : i ≠ 42) (h : wI B x N M) : wI B x N (am_up M 173 i v) := by
  obtain ⟨y1, y2, y3, y4, y5⟩ := h
  exact ⟨by rw [up_nc _ _ _ _ (by decide)]; exact y1, by rw [up_ni _ _ _ _ (fun e => hi e.symm)]; exact y2, y3, by rw [up_nc _ _ _ _ (by decide)]; exact y4, by rw [up_nc _ _ _ _ (by decide)]; exact y5⟩
noncomputable def owL (s : sS) (n : Nat) : List Nat := nds (yT s.B (tx s n) (s.B 2) 0 n).1
theorem p_parse (hk : k < 512) (a : Int) : lm_pr (J k) (J (k + 1)) 199 344 [.inl a] := pr_R (fun s => ⟨txR s a (seP s a.toNat (fun r s' => r = ((owL s a.toNat).length : Int) ∧ s' = s.S 0)), fun M h => by
  refine (v_199_1 1599 _ _ _).mpr (xj_noSent (d := 1593) h hk (fun q => ?_) (fun q1 q2 => ?_) (fun q1 q2 q3 M1 g1 f1 => ?_) (fun q1 q2 q3 M1 g1 f1 f1' f1'' o1 t1 => ?_))
  · rw [if_neg (by decide)]; exact eR_ref (by decide) h hiF_rf 1 (by decide) (Or.inl ⟨q, rfl, rfl⟩)
  · rw [if_neg (by decide)]; exact eR_ref (by decide) h hiF_rf 4 (by decide) (Or.inr (Or.inl ⟨q1, q2, rfl, rfl⟩))
  · rw [if_neg (by decide)]; exact eT_ref (by decide) (xT_J g1 st_le) f1 5 (by decide) (Or.inr (Or.inr ⟨q1, q2, Or.inl ⟨q3, rfl, rfl⟩⟩))
  · rw [if_pos rfl]
    have q1' := q1
    unfold txK at q1'
    rw [(trO_nd (xJ_W h) (by omega) t1).1]
    refine eT_ans (by decide) (xT_J g1 st_le) f1 _ (Or.inr (Or.inr ⟨q1, q2, Or.inr ⟨q3, ?_, rfl⟩⟩))
    unfold owL nds
    rw [List.length_map], fun r s' hR M h => by
  refine (v_344_174 1599 _ _ _).mpr (rj_asksText (d := 1595) h (fun q M1 h1 f1 => ?_) (fun q1 q2 M1 h1 f1 => ?_) (fun q1 q2 M1 h1 f1 w1 => ?_))
  · rw [if_pos (by decide)]
    rcases hR with ⟨_, z2, z3⟩ | ⟨z1, _⟩ | ⟨z1, _⟩
    · exact ⟨z2.symm, by rw [z3]; exact rJ_s2 h1 1, loF_tr f1 lo_up⟩
    · exact absurd z1 q
    · exact absurd z1 q
  · rw [if_pos (by decide)]
    rcases hR with ⟨z1, _⟩ | ⟨_, _, z2, z3⟩ | ⟨_, z1, _⟩
    · exact absurd q1 z1
    · exact ⟨z2.symm, by rw [z3]; exact rJ_s2 h1 4, loF_tr f1 lo_up⟩
    · exact absurd z1 q2
  · rw [if_neg (by decide)]
    rcases hR with ⟨z1, _⟩ | ⟨_, z1, _⟩ | ⟨_, _, z2⟩
    · exact absurd q1 z1
    · exact absurd q2 z1
    · have q1' := q1
      unfold txK at q1'
      have h1' : rJ (s.S 0) (am_up M1 173 2 0) := rJ_s2 h1 0
      refine rj_isSent (d := 799) (s := s.S 0) h1' (show 1 ≤ a.toNat by omega) (wI_2 (by decide) w1) (fun hp M2 h2 f2 w2 => ?_) (fun hz M2 h2 f2 w2 => ?_)
      · rw [if_neg (by decide)]
        rcases z2 with ⟨z3, _⟩ | ⟨_, z3, z4⟩
        · have hp : 0 < wyN s a.toNat := hp
          omega
        · refine rj_order (d := 598) (s := s.S 0) h2 (by omega) w2 hp (fun M3 h3 f3 w3 o3 => ⟨by rw [z3]; exact o3.1, by rw [z4]; exact h3, loF_tr f1 (loF_tr lo_up (loF_tr (fun c hc => f2 c (by omega)) f3))⟩)
      · rw [if_pos rfl]
        rcases z2 with ⟨_, z3, z4⟩ | ⟨z3, _⟩
        · exact eR_rr (s := s.S 0) (by decide) h2 (loF_tr f1 (loF_tr lo_up (fun c hc => f2 c (by omega)))) 5 (by decide) z3 z4
        · have hz : wyN s a.toNat = 0 := hz
          omega⟩)
theorem p_parsed (hk : k < 512) (a b : Int) : lm_pr (J k) (J (k + 1)) 200 345 [.inl a, .inl b] := pr_R (fun s => ⟨fun r s' => (b < 0 ∧ r = -1 ∧ s' = s.S 1) ∨ (0 ≤ b ∧ txR s a (seP s a.toNat (ltP s (owL s a.toNat) b)) r s'), fun M h => by
  refine (v_200_1 1599 _ _ _ _).mpr ?_
  refine @p_if _ _ _ _ ?_ ?_
  · intro e; exact eR_ref (by decide) h hiF_rf 1 (by decide) (Or.inl ⟨e, rfl, rfl⟩)
  intro hb
  have hb' : 0 ≤ b := by omega
  refine xj_noSent (d := 1593) h hk (fun q => ?_) (fun q1 q2 => ?_) (fun q1 q2 q3 M1 g1 f1 => ?_) (fun q1 q2 q3 M1 g1 f1 f1' f1'' o1 t1 => ?_)
  · rw [if_neg (by decide)]; exact eR_ref (by decide) h hiF_rf 1 (by decide) (Or.inr ⟨hb', Or.inl ⟨q, rfl, rfl⟩⟩)
  · rw [if_neg (by decide)]; exact eR_ref (by decide) h hiF_rf 4 (by decide) (Or.inr ⟨hb', Or.inr (Or.inl ⟨q1, q2, rfl, rfl⟩)⟩)
  · rw [if_neg (by decide)]; exact eT_ref (by decide) (xT_J g1 st_le) f1 5 (by decide) (Or.inr ⟨hb', Or.inr (Or.inr ⟨q1, q2, Or.inl ⟨q3, rfl, rfl⟩⟩)⟩)
  · rw [if_pos rfl]
    have q1' := q1
    unfold txK at q1'
    have hnd := trO_nd (xJ_W h) (by omega) t1
    have hl := yT_len (xJ_W h) (show a.toNat ≤ 24 by omega) (by omega) q3
    have elen : (owL s a.toNat).length = (yT s.B (tx s a.toNat) (s.B 2) 0 a.toNat).1.length := by unfold owL nds; rw [List.length_map]
    obtain ⟨i, rfl⟩ := p_nat hb'
    rw [hnd.1]
    refine @p_if _ _ _ _ ?_ ?_
    · intro z
      rw [if_pos (by omega), hnd.2.1 i (by omega)]
      exact eT_ans (by decide) (xT_J g1 st_le) f1 _ (Or.inr ⟨hb', Or.inr (Or.inr ⟨q1, q2, Or.inr ⟨q3, Or.inl ⟨by rw [elen]; exact z, rfl, rfl⟩⟩⟩)⟩)
    · intro z
      exact eT_ref (by decide) (xT_J g1 st_le) f1 6 (by decide) (Or.inr ⟨hb', Or.inr (Or.inr ⟨q1, q2, Or.inr ⟨q3, Or.inr ⟨by rw [elen]; exact z, rfl, rfl⟩⟩⟩)⟩), fun r s' hR M h => by
  refine (v_345_174 1599 _ _ _ _).mpr ?_
  refine @p_if _ _ _ _ ?_ ?_
  · intro e
    rcases hR with ⟨_, z2, z3⟩ | ⟨z1, _⟩
    · exact ⟨z2.symm, by rw [z3]; exact rJ_t (rJ_s2 h 1), loF_tr lo_up lo_up⟩
    · omega
  intro hb
  have hR : txR s a (seP s a.toNat (ltP s (owL s a.toNat) b)) r s' := by
    rcases hR with ⟨z1, _⟩ | ⟨_, z1⟩
    · omega
    · exact z1
  refine rj_asksText (d := 1595) h (fun q M1 h1 f1 => ?_) (fun q1 q2 M1 h1 f1 => ?_) (fun q1 q2 M1 h1 f1 w1 => ?_)
  · rw [if_pos (by decide)]
    rcases hR with ⟨_, z2, z3⟩ | ⟨z1, _⟩ | ⟨z1, _⟩
    · exact ⟨z2.symm, by rw [z3]; exact rJ_t (rJ_s2 h1 1), loF_tr f1 (loF_tr lo_up lo_up)⟩
    · exact absurd z1 q
    · exact absurd z1 q
  · rw [if_pos (by decide)]
    rcases hR with ⟨z1, _⟩ | ⟨_, _, z2, z3⟩ | ⟨_, z1, _⟩
    · exact absurd q1 z1
    · exact ⟨z2.symm, by rw [z3]; exact rJ_t (rJ_s2 h1 4), loF_tr f1 (loF_tr lo_up lo_up)⟩
    · exact absurd z1 q2
  · rw [if_neg (by decide)]
    rcases hR with ⟨z1, _⟩ | ⟨_, z1, _⟩ | ⟨_, _, z2⟩
    · exact absurd q1 z1
    · exact absurd q2 z1
    · have q1' := q1
      unfold txK at q1'
      have h1' : rJ (s.S 0) (am_up (am_up M1 173 2 0) 173 3 0) := rJ_t (rJ_s2 h1 0)
      refine rj_isSent (d := 799) (s := s.S 0) h1' (show 1 ≤ a.toNat by omega) (wI_2 (by decide) (wI_2 (by decide) w1)) (fun hp M2 h2 f2 w2 => ?_) (fun hz M2 h2 f2 w2 => ?_)
      · rw [if_neg (by decide)]
        rcases z2 with ⟨z3, _⟩ | ⟨_, z3⟩
        · have hp : 0 < wyN s a.toNat := hp
          omega
        · have hl := yT_len (rJ_W h) (show a.toNat ≤ 24 by omega) (by omega) hp
          have elen : (owL s a.toNat).length = (yT s.B (tx s a.toNat) (s.B 2) 0 a.toNat).1.length := by unfold owL nds; rw [List.length_map]
          have hl : (yT s.B (tx s a.toNat) (s.B 2) 0 a.toNat).1.length + 8 ≤ 16 * a.toNat := hl
          obtain ⟨i, rfl⟩ := p_nat (show 0 ≤ b by omega)
          refine rj_order (d := 598) (s := s.S 0) h2 (by omega) w2 hp (fun M3 h3 f3 w3 o3 => ?_)
          have o3 : oI M3 (owL s a.toNat) := o3
          have hlo : loF M M3 := loF_tr f1 (loF_tr lo_up (loF_tr lo_up (loF_tr (fun c hc => f2 c (by omega)) f3)))
          rw [o3.1]
          rcases z3 with ⟨z4, z5, z6⟩ | ⟨z4, z5, z6⟩
          · rw [if_pos z4, if_pos (by omega)]
            exact ⟨by rw [z5]; exact o3.2 i (by omega), by rw [z6]; exact h3, hlo⟩
          · rw [if_neg z4]
            exact eR_rr (s := s.S 0) (by decide) h3 hlo 6 (by decide) z5 z6
      · rw [if_pos rfl]
        rcases z2 with ⟨_, z3, z4⟩ | ⟨z3, _⟩
        · exact eR_rr (s := s.S 0) (by decide) h2 (loF_tr f1 (loF_tr lo_up (loF_tr lo_up (fun c hc => f2 c (by omega))))) 5 (by decide) z3 z4
        · have hz : wyN s a.toNat = 0 := hz
          omega⟩)
end Sd4
