/-! the class counts the ways of a span, of a text: the walk -/
section Sb2
variable {B x o : Nat → Nat} {a n r i j s k c e f d m N a0 e0 f0 : Nat} {T : Nat → Nat × Nat} {M M0 : (Nat → Int → Int)} {Q : Int → (Nat → Int → Int) → Prop}
theorem i_min_n {a b : Nat} (ha : a ≤ wC) (hb : b ≤ wC) : i_min (w32 ((a : Int) + (b : Int))) 1000000 = ((min (a + b) wC : Nat) : Int) := by
  unfold wC at ha hb ⊢
  rw [w32_i (by omega) (by omega)]
  unfold i_min
  split <;> omega
theorem min_wC {a b : Nat} : min (min a wC + b) wC = min (a + b) wC := by omega
theorem chT_w {n' : Nat} {M' : (Nat → Int → Int)} (h : chT B x o N f n' T M) (hF : ∀ c, c < 115 → M' c = M c) : chT B x o N f n' T M' := by
  obtain ⟨t1, t2, t3, t4, t5, t6, t7, t8, t9, t10⟩ := h
  refine ⟨t1, stI_M t2 (by rw [hF 108 (by omega)]) (hF 112 (by omega)) (hF 113 (by omega)) (hF 114 (by omega)), by rw [hF 108 (by omega)]; exact t3, t4, t5, t6, by rw [hF 108 (by omega)]; exact t7, by unfold txI; rw [hF 109 (by omega)]; exact t8, fun e h1 h2 => by unfold colF; rw [hF 111 (by omega)]; exact t9 e h1 h2, by unfold endF; rw [hF 110 (by omega)]; exact t10⟩
theorem x_cs4 {rs cd w : Nat} (hn : n ≤ 64) (hf : f < n) (ha : a0 < e0) (he : e0 ≤ 16) (hrs : rs < 96) (hcd : cd < 8) (hcol : colF B x e0 M) (e13 : M 108 13 = (n : Int)) (e112 : M 112 (f : Int) = -1) (e113 : M 113 (f : Int) = (rs : Int)) (e114 : M 114 (f : Int) = (cd : Int)) (old : M 119 ((17 * (17 * cd + a0) + e0 : Nat) : Int) = ((min k wC : Nat) : Int)) (hw : w ≤ wC) (hw2 : mk B x (dF B) rs a0 (e0 - a0) → ∀ Q' : Int → (Nat → Int → Int) → Prop, Q' (w : Int) M → am_s am_P am_gg (d + 2) 165 [.inr (.inr 119), .inl (rs : Int), .inl (a0 : Int), .inl (e0 : Int)] M Q')
    (skip : ¬ mk B x (dF B) rs a0 (e0 - a0) → am_x am_P am_gg (d + 2) am_k163 0 Q 28 [some (.inr (.inr 119)), some (.inl ((a0 : Int))), some (.inl ((e0 : Int))), some (.inl (((f + 1 : Nat) : Int))), none, none, none, none] [] M 0 0)
    (yes : mk B x (dF B) rs a0 (e0 - a0) → am_x am_P am_gg (d + 2) am_k163 0 Q 28 [some (.inr (.inr 119)), some (.inl ((a0 : Int))), some (.inl ((e0 : Int))), some (.inl (((f + 1 : Nat) : Int))), none, none, none, none] [] (am_up M 119 ((17 * (17 * cd + a0) + e0 : Nat) : Int) ((min (k + w) wC : Nat) : Int)) 0 0) :
    am_x am_P am_gg (d + 2) am_k163 0 Q 28 [some (.inr (.inr 119)), some (.inl ((a0 : Int))), some (.inl ((e0 : Int))), some (.inl ((f : Int))), none, none, none, none] [] M 0 0 := by
  have f64 : 0 ≤ (f : Int) ∧ (f : Int) < 64 := by omega
  have fn : (f : Int) < (n : Int) := by omega
  have ha17 : a0 < 17 := by omega
  have he17 : e0 < 17 := by omega
  refine (h_163_28_119 _ _ _ _ _ _).mpr ?_
  rw [e13, if_pos fn, if_pos f64, if_pos f64, if_pos f64, e112, if_pos rfl, e113, e114, w32_s (by omega)]
  refine x_makes hrs he ha hcol (fun hm => ?_) (fun hm => ?_)
  · rw [if_neg (by decide)]
    refine (v_162 _ _ _ _ _ _).mpr ?_
    rw [w_sp hcd ha17 he17, if_pos (b_sp hcd ha17 he17)]
    refine hw2 hm _ ?_
    rw [if_pos (b_sp hcd ha17 he17), old, i_min_n (Nat.min_le_right _ _) hw, min_wC]
    refine am_x_le [some (.inr (.inr 119)), some (.inl ((a0 : Int))), some (.inl ((e0 : Int))), some (.inl (((f + 1 : Nat) : Int))), none, none, none, none] (am_lb_le _ _ ⟨rfl, rfl, rfl, rfl, trivial⟩) ?_
    exact yes hm
  · rw [if_pos rfl, if_pos rfl]
    refine am_x_le [some (.inr (.inr 119)), some (.inl ((a0 : Int))), some (.inl ((e0 : Int))), some (.inl (((f + 1 : Nat) : Int))), none, none, none, none] (am_lb_le _ _ ⟨rfl, rfl, rfl, rfl, trivial⟩) ?_
    exact skip hm
theorem x_csN {g rs w : Nat} (hn : n ≤ 64) (hf : f < n) (ha : a0 < e0) (he : e0 ≤ 16) (hr : r < 16) (hi : i < 3) (hcol : colF B x e0 M) (e13 : M 108 13 = (n : Int)) (e112 : M 112 (f : Int) = (g : Int)) (e113 : M 113 (f : Int) = (rs : Int)) (e114 : M 114 (f : Int) = ((32 + 4 * r + i : Nat) : Int)) (hw2 : mk B x (dF B) (32 + 4 * r + i) a0 (e0 - a0) → ∀ Q' : Int → (Nat → Int → Int) → Prop, Q' (w : Int) M → am_s am_P am_gg (d + 2) 164 [.inr (.inr 119), .inl (g : Int), .inl (rs : Int), .inl (a0 : Int), .inl (e0 : Int)] M Q')
    (skip : ¬ mk B x (dF B) (32 + 4 * r + i) a0 (e0 - a0) → am_x am_P am_gg (d + 2) am_k163 0 Q 28 [some (.inr (.inr 119)), some (.inl ((a0 : Int))), some (.inl ((e0 : Int))), some (.inl (((f + 1 : Nat) : Int))), none, none, none, none] [] M 0 0)
    (yes : mk B x (dF B) (32 + 4 * r + i) a0 (e0 - a0) → am_x am_P am_gg (d + 2) am_k163 0 Q 28 [some (.inr (.inr 119)), some (.inl ((a0 : Int))), some (.inl ((e0 : Int))), some (.inl (((f + 1 : Nat) : Int))), none, none, none, none] [] (am_up M 120 ((17 * (4 * r + i) + a0 : Nat) : Int) (w : Int)) 0 0) :
    am_x am_P am_gg (d + 2) am_k163 0 Q 28 [some (.inr (.inr 119)), some (.inl ((a0 : Int))), some (.inl ((e0 : Int))), some (.inl ((f : Int))), none, none, none, none] [] M 0 0 := by
  have f64 : 0 ≤ (f : Int) ∧ (f : Int) < 64 := by omega
  have fn : (f : Int) < (n : Int) := by omega
  have ha17 : a0 < 17 := by omega
  have hi4 : i < 4 := by omega
  have g0 : ¬ (g : Int) = -1 := by omega
  refine (h_163_28_119 _ _ _ _ _ _).mpr ?_
  rw [e13, if_pos fn, if_pos f64, if_pos f64, if_pos f64, e112, if_neg g0, if_neg g0, e113, e114, w32_s (by omega)]
  refine x_makes (by omega) he ha hcol (fun hm => ?_) (fun hm => ?_)
  · rw [if_neg (by decide)]
    refine hw2 hm _ ?_
    rw [w_re hr hi4 ha17, if_pos (b_re hr hi4 ha17)]
    refine am_x_le [some (.inr (.inr 119)), some (.inl ((a0 : Int))), some (.inl ((e0 : Int))), some (.inl (((f + 1 : Nat) : Int))), none, none, none, none] (am_lb_le _ _ ⟨rfl, rfl, rfl, rfl, trivial⟩) ?_
    exact yes hm
  · rw [if_pos rfl]
    refine am_x_le [some (.inr (.inr 119)), some (.inl ((a0 : Int))), some (.inl ((e0 : Int))), some (.inl (((f + 1 : Nat) : Int))), none, none, none, none] (am_lb_le _ _ ⟨rfl, rfl, rfl, rfl, trivial⟩) ?_
    exact skip hm
theorem x_countSpan (hW : gW B) (hC : chT B x o N f n T M0) (ha : a0 < e0) (he : e0 ≤ N) (hs : swI B x e0 (a0 + 1) M0) (hre : reI B x e0 (a0 + 1) M0) (hQ : ∀ M', (∀ c, c ≠ 119 → c ≠ 120 → M' c = M0 c) → swI B x e0 a0 M' → reI B x e0 a0 M' → Q 0 M') : am_s am_P am_gg (d + 5) 163 [.inr (.inr 119), .inl (a0 : Int), .inl (e0 : Int)] M0 Q := by
  have hC' := hC
  obtain ⟨t1, t2, t3, t4, t5, t6, t7, t8, t9, t10⟩ := hC
  have hn := st_n hW (fun j hj => (t2.2.1 j hj).1) t2.2.2.1
  have he16 : e0 ≤ 16 := by omega
  have hz4 : ∀ r, gUsd B r → gsz B r ≤ 4 := fun r hr => (hW.2.2.2.1 r hr.1).2.2.1
  have ha17 : a0 < 17 := by omega
  have he17 : e0 < 17 := by omega
  refine (v_163_119 _ _ _ _ _).mpr ?_
  refine p_for (S := (Nat → Int → Int)) (X := fun c M => am_x am_P am_gg (d + 4) am_k163 0 Q 2 [some (.inr (.inr 119)), some (.inl ((a0 : Int))), some (.inl ((e0 : Int))), some (.inl (c)), none, none, none, none] [] M 0 0) 8 (fun c M => (∀ k, k ≠ 119 → M k = M0 k) ∧ swI B x e0 (a0 + 1) M ∧ ∀ s : Nat, s < c → M 119 ((17 * (17 * s + a0) + e0 : Nat) : Int) = 0) ?_ ?_ 0 M0 (by omega) ⟨fun _ _ => rfl, hs, fun s hs => absurd hs (Nat.not_lt_zero s)⟩
  · rintro M1 ⟨h1, h2, h3⟩
    refine (h_163_2_119 _ _ _ _ _ _).mpr ?_
    rw [if_neg (by omega)]
    refine p_for (S := (Nat → Int → Int)) (X := fun c M => am_x am_P am_gg (d + 4) am_k163 0 Q 28 [some (.inr (.inr 119)), some (.inl ((a0 : Int))), some (.inl ((e0 : Int))), some (.inl (c)), none, none, none, none] [] M 0 0) n (fun f M => zwI B x T e0 a0 f M0 M) ?_ ?_ 0 M1 (by omega) ⟨fun c g1 g2 => h1 c g1, h2, fun r i a g1 g2 g3 g4 g5 => by rw [h1 120 (by decide)]; exact hre r i a g1 g2 g3 g4 g5, fun s hs => ?_, fun r i g1 => ?_⟩
    · rintro M2 ⟨i1, i2, i3, i4, i5⟩
      refine (h_163_28_119 _ _ _ _ _ _).mpr ?_
      rw [i1 108 (by decide) (by decide), t2.1]
      rw [if_neg (by omega)]
      refine hQ M2 i1 (fun s a e g1 g2 g3 g4 => ?_) (fun r i a g1 g2 g3 g4 g5 => ?_)
      · by_cases q : e = e0 ∧ a = a0
        · rw [q.1, q.2, i4 s g1, sS_full hW g1 g2 (by omega) (dS_dF t2 (Nat.le_refl _)) (fun r h1 _ => (dS_full t2 hW t1 r 4).mpr ⟨h1, Or.inr rfl⟩)]
        · exact i2 s a e g1 g2 g3 (by omega)
      · by_cases q : a = a0
        · rw [q]
          rw [q] at g5
          exact i5 r i ((dS_full t2 hW t1 r i).mpr ⟨g1, Or.inl g2⟩) g1 g2 g5
        · exact i3 r i a g1 g2 (by omega) g4 g5
    · rintro f' M2 hf' hI go
      have i1 := hI.1
      obtain ⟨hd, -, e112, e113, e114⟩ := t2.2.1 f' hf'
      rw [← i1 112 (by decide) (by decide)] at e112
      rw [← i1 113 (by decide) (by decide)] at e113
      rw [← i1 114 (by decide) (by decide)] at e114
      have e13 : M2 108 13 = (n : Int) := by rw [i1 108 (by decide) (by decide)]; exact t2.1
      have hcol : colF B x e0 M2 := by unfold colF; rw [i1 111 (by decide) (by decide)]; exact t9 e0 (by omega) (by omega)
      have a1 := dF_lt hW hd
      have hrl := rsC_lt hW hd
      by_cases t4' : (T f').2 = 4
      · have ht : T f' = ((T f').1, 4) := Prod.ext rfl t4'
        have e112' : M2 112 (f' : Int) = -1 := by rw [e112]; unfold sgC; rw [if_pos t4']
        have ers : rsC B (T f') = rwc B (T f').1 := by unfold rsC; rw [if_pos t4']
        have ecd : cdC B (T f') = gsy B (T f').1 := by unfold cdC; rw [if_pos t4']
        rw [ers] at e113 hrl
        rw [ecd] at e114
        have hmk := mk_rwcF (x := x) (a := a0) (n := e0 - a0) hW hd.1 (by omega) (by omega)
        refine x_cs4 (x := x) (B := B) (w := wR B x (T f').1 0 a0 (e0 - a0)) (k := sS0 B x T f' (gsy B (T f').1) a0 (e0 - a0)) hn hf' ha he16 hrl a1.2.2.2 hcol e13 e112' e113 e114 (hI.2.2.2.1 _ a1.2.2.2) wR_le (fun hm Q' hQ' => x_waysRow (o := o) (n := n) (M0 := M0) hW t1 t2 hf' ht ha he16 (hmk.mp hm) hI hQ') (fun hm => go M2 (zwI_skip hI (fun r q => ?_) (fun r i q z => ?_))) (fun hm => go _ (zwI_add4 hd.1 a1.2.2.2 ht (hz4 _ hd.1) ?_ ha he16 hI))
        · rw [ht] at q
          rw [← (Prod.mk.inj q).1]
          rcases Nat.eq_zero_or_pos (wR B x (T f').1 0 a0 (e0 - a0)) with w | w
          · exact w
          · exact absurd (hmk.mpr w) hm
        · rw [ht] at q
          have := Prod.mk.inj q
          rw [← this.1, ← this.2] at z
          have := hz4 _ hd.1
          omega
        · exact dS_new t2 hf' ht
      · have hi : (T f').2 + 1 < gsz B (T f').1 := by
          rcases hd.2 with h | h
          · exact h
          · exact absurd h t4'
        have hz := hz4 _ hd.1
        have e112' : M2 112 (f' : Int) = (gsg B (T f').1 (T f').2 : Int) := by rw [e112]; unfold sgC; rw [if_neg t4']
        have ers : rsC B (T f') = rsc B (T f').1 (T f').2 := by unfold rsC; rw [if_neg t4']
        have ecd : cdC B (T f') = 32 + 4 * (T f').1 + (T f').2 := by unfold cdC; rw [if_neg t4']
        rw [ers] at e113
        rw [ecd] at e114
        have hmk := mk_rest (B := B) (x := x) (D := dF B) (r := (T f').1) (i := (T f').2) (a := a0) (n := e0 - a0) (by omega)
        refine x_csN (x := x) (B := B) (w := wR B x (T f').1 (T f').2 a0 (e0 - a0)) hn hf' ha he16 a1.1 (by omega) hcol e13 e112' e113 e114 (fun hm Q' hQ' => x_sumCutsW (o := o) (N := N) (f := f) (n := n) (T := T) hW (chT_w hC' (fun c hc => i1 c (by omega) (by omega))) hd.1 hi ha he hI.2.1 hI.2.2.1 hQ') (fun hm => go M2 (zwI_skip hI (fun r q => ?_) (fun r i q z w => ?_))) (fun hm => go _ (zwI_addN hd.1 rfl hi hz4 ha he16 hI))
        · exact absurd (by rw [q]) t4'
        · refine hm (hmk.mpr ⟨hd, ?_⟩)
          rw [q]; exact w
    · rw [h3 s hs, show sS0 B x T 0 s a0 (e0 - a0) = 0 from q_sm_0 (fun r _ => su_n (fun q => by obtain ⟨j, hj, _⟩ := q.1; omega))]; rfl
    · obtain ⟨j, hj, _⟩ := g1; omega
  · rintro c M1 hc ⟨h1, h2, h3⟩ go
    refine (h_163_2_119 _ _ _ _ _ _).mpr ?_
    rw [if_pos (by omega)]
    refine (v_162 _ _ _ _ _ _).mpr ?_
    rw [w_sp hc ha17 he17, if_pos (b_sp hc ha17 he17), w32_s (by omega)]
    refine go _ ⟨fun k hk => by rw [up_nc _ _ _ _ hk]; exact h1 k hk, fun s a e g1 g2 g3 g4 => ?_, fun s hs => ?_⟩
    · rw [up_ni _ _ _ _ (sp_ne (by omega) (by omega) (by omega) (by omega) (fun q => by omega))]; exact h2 s a e g1 g2 g3 g4
    · rw [up_ci]
      by_cases q : s = c
      · rw [q, if_pos rfl]
      · rw [if_neg (sp_ne (by omega) (by omega) (by omega) (by omega) (fun z => q z.1))]; exact h3 s (by omega)
end Sb2
