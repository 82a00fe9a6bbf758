/-! readers of both: many, ends, beside -/
section Sc2
variable {s s' : sS} {B B' : Nat → Nat} {k k' d : Nat} {M M' M0 : (Nat → Int → Int)} {Q : Int → (Nat → Int → Int) → Prop}
theorem rLF_lo (h : rLF M M') : loF M M' := fun c hc => h.1 c (by omega)
theorem lo_up {i v : Int} : loF M (am_up M 173 i v) := fun c hc => up_nc _ _ _ _ (by omega)
theorem i32_s {n : Nat} (h : n < 10) : am_i32 (n : Int) := by unfold am_i32; omega
/-- the end of a call of the reference: its status -/
theorem rJ_s2 (h : rJ s M) (n : Nat) (hn : n < 10 := by decide) : rJ (s.S (n : Int)) (am_up M 173 2 (n : Int)) := rJ_st h (i32_s hn) (up_eq _ _ _ _) (fun i a _ => up_ni _ _ _ _ a _) (fun c hc => up_nc _ _ _ _ hc)
theorem rJ_t (h : rJ s M) {v : Int} : rJ s (am_up M 173 3 v) := by
  have := rJ_st (M' := am_up M 173 3 v) (v := s.st) h h.1.1.1 (by rw [up_ni _ _ _ _ (by decide)]; exact h.1.2.1) (fun i _ b => up_ni _ _ _ _ b _) (fun c hc => up_nc _ _ _ _ hc)
  exact this
theorem re_ref (h : rJ s M) (hf : loF M0 M) (n : Nat) (hn : n < 10 := by decide) : am_s am_P am_gg (d + 1) 224 [.inr (.inr 174), .inl (n : Int)] M (fun r M' => rG (s.S (n : Int)) (-1) M0 r M') := m_refuse ⟨rfl, rJ_s2 h n hn, loF_tr hf lo_up⟩
theorem rj_asks {is a : Int} (his : is = 0 ∨ is = 1) (h : rJ s M) (h1 : (is = 0 ∨ ¬ (0 ≤ a ∧ a < 8)) → ∀ M', rJ (s.S ((1 : Nat) : Int)) M' → loF M M' → Q 0 M') (h2 : is = 1 → 0 ≤ a ∧ a < 8 → ¬ gT s.B a → ∀ M', rJ (s.S ((2 : Nat) : Int)) M' → loF M M' → Q 0 M') (h3 : is = 1 → 0 ≤ a ∧ a < 8 → gT s.B a → ∀ M', rJ (s.S ((0 : Nat) : Int)) M' → loF M M' → M' 173 11 = 1 → rL s.B M' → tI s.B M' → Q 1 M') : am_s am_P am_gg (d + 30) 288 [.inr (.inr 174), .inl is, .inl a] M Q := by
  have ht := rJ_t (v := 0) h
  have hn := (rJ_W h).1
  refine (v_288_174 _ _ _ _ _).mpr ?_
  refine @p_if _ _ _ _ ?_ ?_
  · intro e; exact h1 (Or.inl e) _ (rJ_s2 ht 1) (loF_tr lo_up lo_up)
  · intro e
    have e1 : is = 1 := by omega
    refine m_isSymbol (fun ha => ?_) (fun ha => ?_)
    · rw [if_neg (by decide)]
      refine m_isTold (rb_of ht) hn (fun hT => ?_) (fun hT => ?_)
      · rw [if_neg (by decide)]
        refine rj_lays (rJ_s2 ht 0) (fun M' g1 g2 g3 g4 g5 => h3 e1 ha hT M' g1 (loF_tr (loF_tr lo_up lo_up) (rLF_lo g5)) g2 g3 g4)
      · rw [if_pos rfl]
        exact h2 e1 ha hT _ (rJ_s2 ht 2) (loF_tr lo_up lo_up)
    · rw [if_pos rfl]
      exact h1 (Or.inr ha) _ (rJ_s2 ht 1) (loF_tr lo_up lo_up)
/-- for the class: no symbol -/
theorem xj_sym (h : xJ k s M) {a : Int} (h1 : ¬ (0 ≤ a ∧ a < 8) → Q 1 M) (h2 : 0 ≤ a ∧ a < 8 → ¬ gT s.B a → Q 2 M) (h0 : 0 ≤ a ∧ a < 8 → gT s.B a → Q 0 M) : am_s am_P am_gg (d + 2) 212 [.inr (.inr 1), .inl a] M Q := x_whyNoSymbol (xJ_g h) (xJ_W h) h1 h2 h0
theorem sF_hi (h : sF M M') : hiF M M' := fun c hc => h c (by omega)
theorem gtold_bs (hW : gW B) : bs (gtold B : Int) (fun q => ∃ r, r < B 0 ∧ gsy B r = q) := ⟨gtold B, by have := gtold_lt hW; omega, rfl, fun q => gtold_bit B q⟩
theorem m_toldAll (hW : gW B) (hB : rb (M 174) 0 B) (hQ : ∀ v, bs v (fun q => ∃ r, r < B 0 ∧ gsy B r = q) → Q v M) : am_s am_P am_gg (d + 2) 284 [.inr (.inr 174)] M Q := by
  have hn := hW.1
  refine (v_284_174 _ _ _).mpr ?_
  refine p_for (S := Int) (X := fun b v => am_x am_P am_gg (d + 1) am_k284 1 Q 4 [some (.inr (.inr 174)), some (.inl (v)), some (.inl (b))] [] M 0 0) (B 0) (fun b v => bs v (fun q => ∃ r, r < b ∧ gsy B r = q)) ?_ ?_ 0 0 (by omega) (bs_cong bs_0 (fun q => ⟨fun z => z.elim, fun ⟨r, z, _⟩ => absurd z (Nat.not_lt_zero r)⟩))
  · intro v hv
    refine (h_284_4_174 _ _ _ _ _).mpr (m_rules hB ?_)
    rw [if_neg (by omega)]; exact hQ v hv
  · intro b v hb hv go
    refine (h_284_4_174 _ _ _ _ _).mpr (m_rules hB ?_)
    rw [if_pos (by omega)]
    refine m_sym hB (by omega) ?_
    rw [w32_s (by omega)]
    refine go _ (bs_cong (bs_add hv (by have := (hW.2.2.2.1 b hb).1; omega)) (fun q => ?_))
    constructor
    · rintro (⟨r, z1, z2⟩ | z)
      · exact ⟨r, by omega, z2⟩
      · exact ⟨b, by omega, z.symm⟩
    · rintro ⟨r, z1, z2⟩
      by_cases e : r = b
      · subst e; exact Or.inr z2.symm
      · exact Or.inl ⟨r, by omega, z2⟩
/-- what many is asked -/
def mnR (s : sS) (a r : Int) (s' : sS) : Prop := (a = 0 ∧ r = (s.B 0 : Int) ∨ a = 1 ∧ r = (s.B 1 : Int) ∨ a = 2 ∧ r = (s.B 2 : Int) ∨ a = 3 ∧ r = (gtold s.B : Int) ∨ a = 4 ∧ bs r (gGood s.B) ∨ a = 5 ∧ bs r (gRch s.B) ∨ a = 6 ∧ bs r (gUsd s.B) ∨ a = 7 ∧ bs r (gUL s.B) ∨ a = 8 ∧ r = (gN s.B : Int) ∨ a = 9 ∧ (∃ Mc, coOK s.B Mc ∧ r = Mc 93 5) ∨ a = 10 ∧ r = (s.H.length : Int)) ∧ s' = s.S 0 ∨ (a < 0 ∨ 10 < a) ∧ r = -1 ∧ s' = s.S 1
theorem p_many (a : Int) : lm_pr (J k) (J (k + 1)) 175 285 [.inl a] := pr_R (fun s => ⟨mnR s a, fun M h => by
  have hg := xJ_g h
  have hW := xJ_W h
  have ans : ∀ (M1 : (Nat → Int → Int)) (v : Int), xJ k s M1 → hiF M M1 → mnR s a v (s.S 0) → am_s am_P am_gg 1599 205 [.inr (.inr 1), .inl v] M1 (fun r M2 => ∃ s', mnR s a r s' ∧ xJ (k + 1) s' M2 ∧ hiF M M2) := fun M1 v h1 h2 h3 => am_s_mono (d := 1) (by decide) (xe_ans (d := 0) (M0 := M) h1 h2 v) (fun r M2 q => ⟨s.S 0, by rw [q.1]; exact h3, q.2.1, q.2.2⟩)
  have sets : (a < 0 ∨ 10 < a ∨ a = 4 ∨ a = 5 ∨ a = 6 ∨ a = 7) → am_s am_P am_gg 1599 209 [.inr (.inr 1), .inl a] M (fun r M2 => ∃ s', mnR s a r s' ∧ xJ (k + 1) s' M2 ∧ hiF M M2) := by
    intro ha
    refine (v_209_1 1598 _ _ _).mpr (xj_sets (d := 1594) h (fun M1 h1 f1 o1 => ?_))
    have ans' : ∀ v : Int, mnR s a v (s.S 0) → am_s am_P am_gg 1598 205 [.inr (.inr 1), .inl v] M1 (fun r M2 => ∃ s', mnR s a r s' ∧ xJ (k + 1) s' M2 ∧ hiF M M2) := fun v h3 => am_s_mono (d := 1) (by decide) (xe_ans (d := 0) (M0 := M) h1 (sF_hi f1) v) (fun r M2 q => ⟨s.S 0, by rw [q.1]; exact h3, q.2.1, q.2.2⟩)
    refine @p_if _ _ _ _ ?_ ?_
    · intro e; exact ans' _ (Or.inl ⟨by right; right; right; right; left; exact ⟨e, o1.1⟩, rfl⟩)
    intro e4
    refine @p_if _ _ _ _ ?_ ?_
    · intro e; exact ans' _ (Or.inl ⟨by right; right; right; right; right; left; exact ⟨e, o1.2.1⟩, rfl⟩)
    intro e5
    refine @p_if _ _ _ _ ?_ ?_
    · intro e; exact ans' _ (Or.inl ⟨by right; right; right; right; right; right; left; exact ⟨e, o1.2.2.2.1⟩, rfl⟩)
    intro e6
    refine @p_if _ _ _ _ ?_ ?_
    · intro e; exact ans' _ (Or.inl ⟨by right; right; right; right; right; right; right; left; exact ⟨e, o1.2.2.2.2.1⟩, rfl⟩)
    intro e7
    exact am_s_mono (d := 1) (by decide) (xe_ref (d := 0) (M0 := M) h1 (sF_hi f1) 1) (fun r M2 q => ⟨s.S 1, Or.inr ⟨by omega, q.1, rfl⟩, q.2.1, q.2.2⟩)
  refine (v_175_1 1599 _ _ _).mpr ?_
  refine @p_if _ _ _ _ ?_ ?_
  · intro e; rw [xg_n hg]; exact ans M _ h hiF_rf (Or.inl ⟨Or.inl ⟨e, rfl⟩, rfl⟩)
  intro e0
  refine @p_if _ _ _ _ ?_ ?_
  · intro e; rw [xg_o hg]; exact ans M _ h hiF_rf (Or.inl ⟨by right; left; exact ⟨e, rfl⟩, rfl⟩)
  intro e1
  refine @p_if _ _ _ _ ?_ ?_
  · intro e; rw [xg_rt hg]; exact ans M _ h hiF_rf (Or.inl ⟨by right; right; left; exact ⟨e, rfl⟩, rfl⟩)
  intro e2
  refine @p_if _ _ _ _ ?_ ?_
  · intro e; rw [show M 2 3 = (gtold s.B : Int) from hg.2.2.1]; exact ans M _ h hiF_rf (Or.inl ⟨by right; right; right; left; exact ⟨e, rfl⟩, rfl⟩)
  intro e3
  refine @p_if _ _ _ _ ?_ ?_
  · intro e; exact sets (by omega)
  intro e4
  refine @p_if _ _ _ _ ?_ ?_
  · intro e; exact sets (by omega)
  intro e5
  refine @p_if _ _ _ _ ?_ ?_
  · intro e; exact sets (by omega)
  intro e6
  refine @p_if _ _ _ _ ?_ ?_
  · intro e; exact sets (by omega)
  intro e7
  refine @p_if _ _ _ _ ?_ ?_
  · intro e
    refine xj_pairs (d := 1593) h (fun M1 h1 f1 c1 g0 p1 s1 => ?_)
    rw [show M1 81 3 = (gN s.B : Int) from p1.1.1.1]
    exact ans M1 _ h1 (fun c hc => f1 c (by omega)) (Or.inl ⟨by right; right; right; right; right; right; right; right; left; exact ⟨e, rfl⟩, rfl⟩)
  intro e8
  refine @p_if _ _ _ _ ?_ ?_
  · intro e
    refine xj_cover (d := 1591) h (fun M1 h1 f1 c1 p1 s1 o1 => ?_)
    exact ans M1 _ h1 (fun c hc => f1 c (by omega)) (Or.inl ⟨by right; right; right; right; right; right; right; right; right; left; exact ⟨e, M1, o1, rfl⟩, rfl⟩)
  intro e9
  refine @p_if _ _ _ _ ?_ ?_
  · intro e
    rw [show M 0 8 = (s.H.length : Int) from h.1.2.2.2.2.2.2.2.2.1]
    exact ans M _ h hiF_rf (Or.inl ⟨by right; right; right; right; right; right; right; right; right; right; exact ⟨e, rfl⟩, rfl⟩)
  intro e10
  exact sets (by omega), fun r s' hR M h => by
  have ht : rJ (s.S 0) (am_up (am_up M 173 3 0) 173 2 0) := rJ_s2 (rJ_t h) 0
  have hW := rJ_W h
  refine (v_285_174 1599 _ _ _).mpr (rj_lays (d := 1573) ht (fun M1 h1 g1 g2 g3 f1 => ?_))
  have hlo : loF M M1 := loF_tr (loF_tr lo_up lo_up) (rLF_lo f1)
  have fin : ∀ v : Int, s' = s.S 0 → v = r → (v = r ∧ rJ s' M1 ∧ loF M M1) := fun v e1 e2 => ⟨e2, by rw [e1]; exact h1, hlo⟩
  rcases hR with ⟨hR, hs⟩ | ⟨ha, hr, hs⟩
  · rcases hR with ⟨e, hr⟩ | ⟨e, hr⟩ | ⟨e, hr⟩ | ⟨e, hr⟩ | ⟨e, hr⟩ | ⟨e, hr⟩ | ⟨e, hr⟩ | ⟨e, hr⟩ | ⟨e, hr⟩ | ⟨e, Mc, hc, hr⟩ | ⟨e, hr⟩ <;> subst e
    · rw [if_pos rfl]
      exact m_rules (d := 1598) (rb_of h1) (fin _ hs hr.symm)
    · rw [if_neg (by decide), if_pos rfl]
      exact fin _ hs (by rw [hr]; exact (rb_of h1).at (k := 1) (by omega))
    · rw [if_neg (by decide), if_neg (by decide), if_pos rfl]
      exact fin _ hs (by rw [hr]; exact (rb_of h1).at (k := 2) (by omega))
    · rw [if_neg (by decide), if_neg (by decide), if_neg (by decide), if_pos rfl]
      exact m_toldAll (d := 1597) hW (rb_of (s := s.S 0) h1) (fun v hv => fin _ hs (by rw [hr]; exact bs_uniq hv (gtold_bs hW)))
    · rw [if_neg (by decide), if_neg (by decide), if_neg (by decide), if_neg (by decide), if_pos rfl]
      exact fin _ hs (bs_uniq g2.2.2.1 hr)
    · rw [if_neg (by decide), if_neg (by decide), if_neg (by decide), if_neg (by decide), if_neg (by decide), if_pos rfl]
      exact fin _ hs (bs_uniq g2.2.2.2.1 hr)
    · rw [if_neg (by decide), if_neg (by decide), if_neg (by decide), if_neg (by decide), if_neg (by decide), if_neg (by decide), if_pos rfl]
      exact fin _ hs (bs_uniq g2.2.2.2.2.1 hr)
    · rw [if_neg (by decide), if_neg (by decide), if_neg (by decide), if_neg (by decide), if_neg (by decide), if_neg (by decide), if_neg (by decide), if_pos rfl]
      exact fin _ hs (bs_uniq g2.2.2.2.2.2.1 hr)
    · rw [if_neg (by decide), if_neg (by decide), if_neg (by decide), if_neg (by decide), if_neg (by decide), if_neg (by decide), if_neg (by decide), if_neg (by decide), if_pos rfl]
      exact fin _ hs (by rw [hr]; exact g2.2.2.2.2.2.2.2.2.2.1.1)
    · rw [if_neg (by decide), if_neg (by decide), if_neg (by decide), if_neg (by decide), if_neg (by decide), if_neg (by decide), if_neg (by decide), if_neg (by decide), if_neg (by decide), if_pos rfl]
      obtain ⟨m, ρ, q1, q2, q3, q4⟩ := cov_same hc g2.2.2.2.2.2.2.2.2.2.2
      exact fin _ hs (by rw [hr, q2]; exact q3)
    · rw [if_neg (by decide), if_neg (by decide), if_neg (by decide), if_neg (by decide), if_neg (by decide), if_neg (by decide), if_neg (by decide), if_neg (by decide), if_neg (by decide), if_neg (by decide), if_pos rfl]
      exact fin _ hs (by rw [hr]; exact h1.1.2.2.2.2.2.2.2.1)
  · rw [if_neg (by omega), if_neg (by omega), if_neg (by omega), if_neg (by omega), if_neg (by omega), if_neg (by omega), if_neg (by omega), if_neg (by omega), if_neg (by omega), if_neg (by omega), if_neg (by omega)]
    exact am_s_mono (d := 1) (by decide) (re_ref (d := 0) (M0 := M) h1 hlo 1) (fun r' M2 q => ⟨by rw [q.1, hr], by rw [hs]; exact q.2.1, q.2.2⟩)⟩)
end Sc2
