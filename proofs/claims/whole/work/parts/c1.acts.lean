/-! calls of both that change the state; what is made ready by the class, laid by the reference -/
section Sc1
variable {s s' : sS} {B B' : Nat → Nat} {k k' d : Nat} {M M' : (Nat → Int → Int)} {Q : Int → (Nat → Int → Int) → Prop}
theorem pr_C {zx zm : Nat} {as : List am_v} (v : sS → Int) (f : sS → sS) (hx : ∀ s M, xS k s M → am_s am_P am_gg 1600 zx (.inr (.inr 1) :: as) M (xC (k + 1) s (f s) (v s) M)) (hr : ∀ s M, rS s M → am_s am_P am_gg 1600 zm (.inr (.inr 174) :: as) M (rC s (f s) (v s) M)) : lm_pr (J k) (J (k + 1)) zx zm as :=
  pr_mk (fun s _ _ _ => ⟨v s, f s, fun M h => am_s_mono (Nat.le_refl _) (hx s M h.1) (fun r M' q => xJ_C h (by omega) q), fun M h => am_s_mono (Nat.le_refl _) (hr s M h.1) (fun r M' q => rJ_C h q)⟩)
/-- a call of both, where the answer is known by what it is of -/
theorem pr_R {zx zm : Nat} {as : List am_v} (h : ∀ s, ∃ R : Int → sS → Prop, (∀ M, xJ k s M → am_s am_P am_gg 1600 zx (.inr (.inr 1) :: as) M (fun r M1 => ∃ s', R r s' ∧ xJ (k + 1) s' M1 ∧ hiF M M1)) ∧ (∀ r s', R r s' → ∀ M, rJ s M → am_s am_P am_gg 1600 zm (.inr (.inr 174) :: as) M (fun r' M2 => r' = r ∧ rJ s' M2 ∧ loF M M2))) : lm_pr (J k) (J (k + 1)) zx zm as := by
  intro M ⟨s, hx, hr⟩
  obtain ⟨R, h1, h2⟩ := h s
  refine am_s_mono (Nat.le_refl _) (h1 M hx) (fun r M1 ⟨s', q1, q2, q3⟩ => ?_)
  refine am_s_mono (Nat.le_refl _) (h2 r s' q1 M1 (rJ_lo hr q3)) (fun r' M2 ⟨p1, p2, p3⟩ => ⟨p1.symm, s', xJ_hi q2 p3, p2⟩)
theorem p_status : lm_pr (J k) (J (k + 1)) 167 223 [] := pr_C (fun s => (sp_status s).1) (fun s => (sp_status s).2) (fun s M h => am_s_mono (d := 1) (by decide) (x_status (d := 0) h) (fun r M' q => xC_mono q (by omega))) (fun s M h => am_s_mono (d := 1) (by decide) (r_status (d := 0) h) (fun _ _ q => q))
theorem p_feed (a b c e f : Int) (ha : am_i32 a) (hb : am_i32 b) (hc : am_i32 c) (he : am_i32 e) (hf : am_i32 f) : lm_pr (J k) (J (k + 1)) 168 239 [.inl a, .inl b, .inl c, .inl e, .inl f] := pr_C (fun s => (sp_feed s a b c e f).1) (fun s => (sp_feed s a b c e f).2) (fun s M h => am_s_mono (d := 2) (by decide) (x_feed (d := 0) h ha hb hc he hf) (fun r M' q => xC_mono q (by omega))) (fun s M h => am_s_mono (d := 2) (by decide) (r_feed (d := 0) h ha hb hc he hf) (fun _ _ q => q))
theorem p_fault (a : Int) : lm_pr (J k) (J (k + 1)) 170 254 [.inl a] := pr_C (fun s => (sp_fault s a).1) (fun s => (sp_fault s a).2) (fun s M h => am_s_mono (d := 1) (by decide) (x_fault (d := 0) h a) (fun r M' q => xC_mono q (by omega))) (fun s M h => am_s_mono (d := 1) (by decide) (r_fault (d := 0) h a) (fun _ _ q => q))
theorem p_drop (a : Int) : lm_pr (J k) (J (k + 1)) 203 240 [.inl a] := pr_C (fun s => (sp_drop s a).1) (fun s => (sp_drop s a).2) (fun s M h => am_s_mono (d := 2) (by decide) (x_drop (d := 0) h a) (fun r M' q => xC_mono q (by omega))) (fun s M h => am_s_mono (d := 2) (by decide) (r_drop (d := 0) h a) (fun _ _ q => q))
theorem p_turn (hk : k < 512) (a b : Int) (hb : b = 0 ∨ b = 1) : lm_pr (J k) (J (k + 1)) 171 255 [.inl a, .inl b] := pr_C (fun s => (sp_turn s a b).1) (fun s => (sp_turn s a b).2) (fun s M h => am_s_mono (d := 3) (by decide) (x_turn (d := 0) h (by omega) a hb) (fun r M' q => q)) (fun s M h => am_s_mono (d := 3) (by decide) (r_turn (d := 0) h a hb) (fun _ _ q => q))
theorem p_weigh (hk : k < 512) (a b : Int) : lm_pr (J k) (J (k + 1)) 172 256 [.inl a, .inl b] := pr_C (fun s => (sp_weigh s a b).1) (fun s => (sp_weigh s a b).2) (fun s M h => am_s_mono (d := 3) (by decide) (x_weigh (d := 0) h (by omega) a b) (fun r M' q => q)) (fun s M h => am_s_mono (d := 3) (by decide) (r_weigh (d := 0) h a b) (fun _ _ q => q))
theorem p_start (hk : k < 512) (a : Int) : lm_pr (J k) (J (k + 1)) 173 257 [.inl a] := pr_C (fun s => (sp_start s a).1) (fun s => (sp_start s a).2) (fun s M h => am_s_mono (d := 3) (by decide) (x_start (d := 0) h (by omega) a) (fun r M' q => q)) (fun s M h => am_s_mono (d := 3) (by decide) (r_start (d := 0) h a) (fun _ _ q => q))
theorem p_undo (hk : k < 512) : lm_pr (J k) (J (k + 1)) 174 258 [] := pr_C (fun s => (sp_undo s).1) (fun s => (sp_undo s).2) (fun s M h => am_s_mono (d := 2) (by decide) (x_undo (d := 0) h (by omega)) (fun r M' q => q)) (fun s M h => am_s_mono (d := 2) (by decide) (r_undo (d := 0) h) (fun _ _ q => q))
theorem p_rule (a b : Int) : lm_pr (J k) (J (k + 1)) 176 286 [.inl a, .inl b] := pr_C (fun s => (sp_rule s a b).1) (fun s => (sp_rule s a b).2) (fun s M h => am_s_mono (d := 2) (by decide) (x_rule (d := 0) h a b) (fun r M' q => xC_mono q (by omega))) (fun s M h => am_s_mono (d := 3) (by decide) (r_rule (d := 0) h a b) (fun _ _ q => q))
theorem p_sign (a b : Int) : lm_pr (J k) (J (k + 1)) 177 287 [.inl a, .inl b] := pr_C (fun s => (sp_sign s a b).1) (fun s => (sp_sign s a b).2) (fun s M h => am_s_mono (d := 2) (by decide) (x_sign (d := 0) h a b) (fun r M' q => xC_mono q (by omega))) (fun s M h => am_s_mono (d := 3) (by decide) (r_sign (d := 0) h a b) (fun _ _ q => q))
/-! the class: made ready -/
theorem xS_c (h : xS k s M) (e : ∀ c, c < 16 ∨ 124 < c → M' c = M c) : xS k s M' := by
  obtain ⟨a1, a2, a3, a4, a5, a6, a7, a8, a9, top, t1, t2, t3⟩ := h
  exact ⟨a1, by rw [e 0 (by omega)]; exact a2, by rw [e 0 (by omega)]; exact a3, by rw [e 0 (by omega)]; exact a4, by rw [e 0 (by omega)]; exact a5, by rw [e 1 (by omega)]; exact a6, xgb_eq a7 (fun c b1 b2 => e c (by omega)), by rw [e 2 (by omega)]; exact a8, by rw [e 0 (by omega)]; exact a9, top, t1, by rw [e 0 (by omega)]; exact t2, fun j hj => xgb_eq (t3 j hj) (fun c b1 b2 => e c (by omega))⟩
theorem xJ_g (h : xJ k s M) : xgb s.B M 2 := h.1.2.2.2.2.2.2.1
theorem xJ_W (h : xJ k s M) : gW s.B := h.1.1.2.2.2.2.2.1
theorem hiF_rf : hiF M M := fun _ _ => rfl
theorem hiF_tr {M'' : (Nat → Int → Int)} (h : hiF M M') (h' : hiF M' M'') : hiF M M'' := fun c hc => (h' c hc).trans (h c hc)
theorem loF_rf : loF M M := fun _ _ => rfl
theorem loF_tr {M'' : (Nat → Int → Int)} (h : loF M M') (h' : loF M' M'') : loF M M'' := fun c hc => (h' c hc).trans (h c hc)
theorem xj_sets (h : xJ k s M) (hQ : ∀ M', xJ k s M' → sF M M' → sOK s.B M' → Q 0 M') : am_s am_P am_gg (d + 4) 118 [.inr (.inr 17)] M Q := by
  obtain ⟨h0, h1, h2, h3, h4, h5, h6, h7⟩ := h
  refine x_sets (xJ_W ⟨h0, h1, h2, h3, h4, h5, h6, h7⟩) (xJ_g ⟨h0, h1, h2, h3, h4, h5, h6, h7⟩) h1.2 (fun M' f g1 g2 => hQ M' ⟨xS_c h0 (fun c hc => f c (by omega)), ⟨by omega, fun _ => g2⟩, k2_M h2 (by rw [f 2 (by omega)]) (fun c a b => f c (by omega)), k3_M h3 (by rw [f 2 (by omega)]) (fun c a b => f c (by omega)), k4_M h4 (by rw [f 2 (by omega)]) (by rw [f 81 (by omega)]) (fun c a b => f c (by omega)), k5_M h5 (by rw [f 2 (by omega)]) (fun c a b => f c (by omega)), k6_M h6 (by rw [f 2 (by omega)]) (fun c a b => f c (by omega)), k7_M h7 (by rw [f 2 (by omega)]) (fun c a b => f c (by omega))⟩ f g2)
theorem xj_cheap (h : xJ k s M) (hQ : ∀ M', xJ k s M' → chF M M' → chOK s.B M' → Q 0 M') : am_s am_P am_gg (d + 5) 18 [.inr (.inr 23)] M Q := by
  obtain ⟨h0, h1, h2, h3, h4, h5, h6, h7⟩ := h
  refine x_cheap (xJ_W ⟨h0, h1, h2, h3, h4, h5, h6, h7⟩) (xJ_g ⟨h0, h1, h2, h3, h4, h5, h6, h7⟩) h2.2 (fun M' f g1 g2 => hQ M' ⟨xS_c h0 (fun c hc => f c (by omega)), k1_M h1 (by rw [f 2 (by omega)]) (fun c a b => f c (by omega)), ⟨by omega, fun _ => g2⟩, k3_M h3 (by rw [f 2 (by omega)]) (fun c a b => f c (by omega)), k4_M h4 (by rw [f 2 (by omega)]) (by rw [f 81 (by omega)]) (fun c a b => f c (by omega)), k5_M h5 (by rw [f 2 (by omega)]) (fun c a b => f c (by omega)), k6_M h6 (by rw [f 2 (by omega)]) (fun c a b => f c (by omega)), k7_M h7 (by rw [f 2 (by omega)]) (fun c a b => f c (by omega))⟩ f g2)
theorem xj_pairs (h : xJ k s M) (hQ : ∀ M', xJ k s M' → (∀ c, c < 22 ∨ 92 < c → M' c = M c) → chOK s.B M' → M' 81 2 = M' 2 0 → pOK s.B M' → spI s.B M' → Q 0 M') : am_s am_P am_gg (d + 6) 210 [.inr (.inr 1)] M Q := by
  refine (v_210_1 _ _ _).mpr (xj_cheap h (fun M1 hJ f1 c1 => ?_))
  have hJ' := hJ
  obtain ⟨h0, h1, h2, h3, h4, h5, h6, h7⟩ := hJ
  refine x_pairs (xJ_W hJ') (xJ_g hJ') c1 (fun q => (h3.2 q).1) (fun M2 f g1 g2 g3 => ?_)
  have e2 : M2 2 0 = M1 2 0 := by rw [f 2 (by omega)]
  have c2 : chOK s.B M2 := chOK_cong c1 (fun i _ => by rw [f 22 (by omega)]) (fun c a b => f c (by omega))
  have hsp : spI s.B M2 := by
    rcases g2 with q | q
    · intro n hn e; rw [q] at e; omega
    · rw [q] at g1 ⊢; exact (h3.2 g1).2
  refine hQ M2 ⟨xS_c h0 (fun c hc => f c (by omega)), k1_M h1 e2 (fun c a b => f c (by omega)), k2_M h2 e2 (fun c a b => f c (by omega)), ⟨by omega, fun _ => ⟨g3, hsp⟩⟩, ?_, k5_M h5 e2 (fun c a b => f c (by omega)), k6_M h6 e2 (fun c a b => f c (by omega)), k7_M h7 e2 (fun c a b => f c (by omega))⟩ (fun c hc => by rw [f c (by omega)]; exact f1 c (by omega)) c2 g1 g3 hsp
  have h31 := h3.1
  by_cases q : M1 81 2 = M1 2 0
  · exact k4_M h4 e2 (by omega) (fun c a b => f c (by omega))
  · unfold k4 at h4 ⊢
    rw [f 93 (by omega)]
    exact ⟨by omega, by omega, fun _ => ⟨fun z => by omega, fun z => by omega⟩⟩
theorem xj_cover (h : xJ k s M) (hQ : ∀ M', xJ k s M' → (∀ c, c < 22 ∨ 99 < c → M' c = M c) → chOK s.B M' → pOK s.B M' → spI s.B M' → coOK s.B M' → Q 0 M') : am_s am_P am_gg (d + 8) 211 [.inr (.inr 1)] M Q := by
  refine (v_211_1 _ _ _).mpr (xj_pairs h (fun M1 hJ f1 c1 g0 p1 s1 => ?_))
  obtain ⟨h0, h1, h2, h3, h4, h5, h6, h7⟩ := hJ
  refine x_cover (xJ_W h) p1 (fun q => (h4.2.2 g0).1 q) (fun M2 f g1 g2 => ?_)
  have e2 : M2 2 0 = M1 2 0 := by rw [f.1 2 (by omega)]
  have e81 : M2 81 = M1 81 := f.1 81 (by omega)
  have p2 : pOK s.B M2 := pOK_eq p1 (fun c a b => f.1 c (by omega))
  refine hQ M2 ⟨xS_c h0 (fun c hc => f.1 c (by omega)), k1_M h1 e2 (fun c a b => f.1 c (by omega)), k2_M h2 e2 (fun c a b => f.1 c (by omega)), k3_M h3 e2 (fun c a b => f.1 c (by omega)), ?_, k5_M h5 e2 (fun c a b => f.1 c (by omega)), k6_M h6 e2 (fun c a b => f.1 c (by omega)), k7_M h7 e2 (fun c a b => f.1 c (by omega))⟩ (fun c hc => by rw [f.1 c (by omega)]; exact f1 c (by omega)) (chOK_cong c1 (fun i _ => by rw [f.1 22 (by omega)]) (fun c a b => f.1 c (by omega))) p2 (spI_M s1 (by rw [e81]) (f.1 91 (by omega)) (f.1 92 (by omega))) g2
  unfold k4 at h4 ⊢
  rw [e81, e2, f.2 3 (by decide) (by decide) (by decide), f.2 4 (by decide) (by decide) (by decide)]
  rw [e81] at g1
  exact ⟨by omega, h4.2.1, fun q => ⟨fun _ => g2, (h4.2.2 q).2⟩⟩
theorem xj_refuse (h : xJ k s M) {v : Int} (hv : am_i32 v) : am_s am_P am_gg (d + 1) 204 [.inr (.inr 1), .inl v] M (xG k (s.S v) (-1) M) := am_s_mono (Nat.le_refl _) (x_refuse h.1 hv) (fun r M' q => xJ_C h (Nat.le_refl _) q)
theorem xj_answer (h : xJ k s M) (v : Int) : am_s am_P am_gg (d + 1) 205 [.inr (.inr 1), .inl v] M (xG k (s.S 0) v M) := am_s_mono (Nat.le_refl _) (x_answer h.1 v) (fun r M' q => xJ_C h (Nat.le_refl _) q)
/-- a refusal, an answer at the end of a call -/
theorem xe_ref {M0 : (Nat → Int → Int)} (h : xJ k s M) (hf : hiF M0 M) (n : Nat) (hn : n < 10 := by decide) : am_s am_P am_gg (d + 1) 204 [.inr (.inr 1), .inl (n : Int)] M (fun r M' => xG (k + 1) (s.S (n : Int)) (-1) M0 r M') := am_s_mono (Nat.le_refl _) (xj_refuse h (by unfold am_i32; omega)) (fun r M' q => ⟨q.1, xJ_mono q.2.1 (by omega), hiF_tr hf q.2.2⟩)
theorem xe_ans {M0 : (Nat → Int → Int)} (h : xJ k s M) (hf : hiF M0 M) (v : Int) : am_s am_P am_gg (d + 1) 205 [.inr (.inr 1), .inl v] M (fun r M' => xG (k + 1) (s.S 0) v M0 r M') := am_s_mono (Nat.le_refl _) (xj_answer h v) (fun r M' q => ⟨q.1, xJ_mono q.2.1 (by omega), hiF_tr hf q.2.2⟩)
/-! the reference: laid -/
theorem rb_of (h : rJ s M) : rb (M 174) 0 s.B := h.1.2.2.2.2.2.2.1
theorem rJ_W (h : rJ s M) : gW s.B := h.1.1.2.2.2.2.2.1
theorem rS_ly (h : rS s M) (e : ∀ i : Int, i < 11 → M' 173 i = M 173 i) (e4 : M' 174 = M 174) (e5 : M' 175 = M 175) : rS s M' := by
  obtain ⟨hw, g2, g6, g7, g5, g75, hB, g1, hH, hD⟩ := h
  exact ⟨hw, by rw [e 2 (by decide)]; exact g2, by rw [e 6 (by decide)]; exact g6, by rw [e 7 (by decide)]; exact g7, by rw [e 5 (by decide)]; exact g5, by rw [e5]; exact g75, by rw [e4]; exact hB, by rw [e 1 (by decide)]; exact g1, by rw [e4]; exact hH, by rw [e4]; exact hD⟩
theorem rj_lays (h : rJ s M) (hQ : ∀ M', rJ s M' → M' 173 11 = 1 → rL s.B M' → tI s.B M' → rLF M M' → Q 0 M') : am_s am_P am_gg (d + 26) 283 [.inr (.inr 174)] M Q := by
  rcases h.2 with q | ⟨q1, q2, q3⟩
  · refine m_laysAll1 (rJ_W h) (rb_of h) q (fun M' f g1 g2 g3 g4 => ?_)
    have e4 : M' 174 = M 174 := f.1 174 (by omega)
    have ht : tI s.B M' := by
      refine ⟨by rw [e4]; exact rb_of h, fun a n h1 h2 => Or.inl (g3 _ (by omega)), fun r i n h1 h2 h3 => Or.inl (g4 _ ?_)⟩
      have := (rJ_W h).1
      have := ((rJ_W h).2.2.2.1 r h1).2.2.1
      omega
    exact hQ M' ⟨rS_ly h.1 (fun i hi => f.2 i (Or.inl hi)) e4 (f.1 175 (by omega)), Or.inr ⟨g1, g2, ht⟩⟩ g1 g2 ht f
  · refine (v_283_174 _ _ _).mpr ?_
    rw [if_neg (by omega)]
    exact hQ M h q1 q2 q3 ⟨fun _ _ => rfl, fun _ _ => rfl⟩
theorem rJ_st (h : rJ s M) {v : Int} (hv : am_i32 v) (h2 : M' 173 2 = v) (hi : ∀ i : Int, i ≠ 2 → i ≠ 3 → M' 173 i = M 173 i) (hc : ∀ c, c ≠ 173 → M' c = M c) : rJ (s.S v) M' := (rJ_C h (rC_st (x := 0) h.1 hv h2 hi hc)).2.1
end Sc1
