/-! the class fills a span, a column -/
def fsF (e0 : Nat) (M M' : (Nat → Int → Int)) : Prop := (∀ c, c ≠ 110 → c ≠ 111 → M' c = M c) ∧ ∀ j : Int, (j < ((96 * e0 : Nat) : Int) ∨ ((96 * e0 + 96 : Nat) : Int) ≤ j) → M' 111 j = M 111 j
section Sa1
variable {B x o : Nat → Nat} {a n r i s k c e f d a0 e0 f0 N : Nat} {T : Nat → Nat × Nat} {M M0 : (Nat → Int → Int)} {Q : Int → (Nat → Int → Int) → Prop}
theorem fsF_rf : fsF e0 M M := ⟨fun _ _ _ => rfl, fun _ _ => rfl⟩
theorem fsF_tr {M' M'' : (Nat → Int → Int)} (h : fsF e0 M M') (h' : fsF e0 M' M'') : fsF e0 M M'' := ⟨fun c h1 h2 => (h'.1 c h1 h2).trans (h.1 c h1 h2), fun j hj => (h'.2 j hj).trans (h.2 j hj)⟩
theorem mk_DD : mk B x (DD B T a0 (f + 1) a) c a n ↔ mk B x (DD B T a0 f a) c a n ∨ (a = a0 ∧ c = cdC B (T f) ∧ (c < 8 ∨ (T f).2 < 4) ∧ ((T f).2 = 4 → c < 8) ∧ 0 < wR B x (T f).1 (pl0 (T f).2) a n) := by
  by_cases e : a = a0
  · subst e
    rw [DD_at, DD_at, mk_dS]
    constructor
    · rintro (h | h)
      · exact Or.inl h
      · exact Or.inr ⟨rfl, h⟩
    · rintro (h | h)
      · exact Or.inl h
      · exact Or.inr h.2
  · have q : mk B x (DD B T a0 (f + 1) a) c a n ↔ mk B x (DD B T a0 f a) c a n := mk_cg (fun r i => by
      unfold DD
      constructor
      · rintro (h | h)
        · exact Or.inl h
        · exact absurd h.1 e
      · rintro (h | h)
        · exact Or.inl h
        · exact absurd h.1 e)
    rw [q]
    constructor
    · intro h; exact Or.inl h
    · rintro (h | h)
      · exact h
      · exact absurd h.1 e
theorem colD_skip (h : colD B x T e0 a0 f M) (hno : ¬ 0 < wR B x (T f).1 (pl0 (T f).2) a0 (e0 - a0)) : colD B x T e0 a0 (f + 1) M := by
  intro c hc
  refine bs_cong (h c hc) (fun a => ?_)
  rw [mk_DD]
  constructor
  · rintro ⟨h1, h2⟩; exact ⟨h1, Or.inl h2⟩
  · rintro ⟨h1, h2 | ⟨rfl, _, _, _, h3⟩⟩
    · exact ⟨h1, h2⟩
    · exact absurd h3 hno
theorem endD_skip (h : endD B x T e0 a0 f M) (hno : (T f).2 = 4 → ¬ 0 < wR B x (T f).1 (pl0 (T f).2) a0 (e0 - a0)) : endD B x T e0 a0 (f + 1) M := by
  intro s a hs ha
  refine bs_cong (h s a hs ha) (fun e => ?_)
  rw [mk_DD]
  constructor
  · rintro ⟨h1, h2 | ⟨h2, h3⟩⟩
    · exact ⟨h1, Or.inl h2⟩
    · exact ⟨h1, Or.inr ⟨h2, Or.inl h3⟩⟩
  · rintro ⟨h1, h2 | ⟨h2, h3 | ⟨rfl, h4, h5, h6, h7⟩⟩⟩
    · exact ⟨h1, Or.inl h2⟩
    · exact ⟨h1, Or.inr ⟨h2, h3⟩⟩
    · by_cases q : (T f).2 = 4
      · exact absurd h7 (hno q)
      · unfold cdC at h4
        rw [if_neg q] at h4
        omega
theorem cdC_ok (hW : gW B) (hd : dF B (T f).1 (T f).2) : cdC B (T f) < 96 ∧ (cdC B (T f) < 8 ∨ (T f).2 < 4) ∧ ((T f).2 = 4 → cdC B (T f) < 8) := by
  have a1 := dF_lt hW hd
  unfold cdC
  split <;> omega
theorem colD_add (hW : gW B) (hd : dF B (T f).1 (T f).2) (ha : a0 < e0) (ha2 : a0 < 31) (h : colD B x T e0 a0 f M) (hy : 0 < wR B x (T f).1 (pl0 (T f).2) a0 (e0 - a0)) : colD B x T e0 a0 (f + 1) (am_up M 111 ((96 * e0 + cdC B (T f) : Nat) : Int) (i_or (M 111 ((96 * e0 + cdC B (T f) : Nat) : Int)) (i_shl 1 (a0 : Int)))) := by
  have hc0 := cdC_ok hW hd
  intro c hc
  rw [up_ci]
  by_cases q : c = cdC B (T f)
  · rw [if_pos (by rw [q]), ← q]
    refine bs_cong (bs_add (h c hc) ha2) (fun a => ?_)
    rw [mk_DD]
    constructor
    · rintro (⟨h1, h2⟩ | rfl)
      · exact ⟨h1, Or.inl h2⟩
      · exact ⟨ha, Or.inr ⟨rfl, q, by rw [q]; exact hc0.2.1, by rw [q]; exact hc0.2.2, hy⟩⟩
    · rintro ⟨h1, h2 | ⟨h2, _⟩⟩
      · exact Or.inl ⟨h1, h2⟩
      · exact Or.inr h2
  · rw [if_neg (by omega)]
    refine bs_cong (h c hc) (fun a => ?_)
    rw [mk_DD]
    constructor
    · rintro ⟨h1, h2⟩; exact ⟨h1, Or.inl h2⟩
    · rintro ⟨h1, h2 | ⟨_, h2, _⟩⟩
      · exact ⟨h1, h2⟩
      · exact absurd h2 q
theorem endD_add (hW : gW B) (hd : dF B (T f).1 (T f).2) (h4 : (T f).2 = 4) (ha : a0 < e0) (he : e0 < 17) (h : endD B x T e0 a0 f M) (hy : 0 < wR B x (T f).1 (pl0 (T f).2) a0 (e0 - a0)) : endD B x T e0 a0 (f + 1) (am_up M 110 ((17 * gsy B (T f).1 + a0 : Nat) : Int) (i_or (M 110 ((17 * gsy B (T f).1 + a0 : Nat) : Int)) (i_shl 1 (e0 : Int)))) := by
  have hc0 := cdC_ok hW hd
  have ec : cdC B (T f) = gsy B (T f).1 := by unfold cdC; rw [if_pos h4]
  intro s a hs ha'
  rw [up_ci]
  by_cases q : s = gsy B (T f).1 ∧ a = a0
  · obtain ⟨q1, q2⟩ := q
    subst q2
    rw [if_pos (by rw [q1]), ← q1]
    refine bs_cong (bs_add (h s a hs ha') (by omega)) (fun e => ?_)
    rw [mk_DD]
    constructor
    · rintro (⟨h1, h2 | ⟨h2, h3⟩⟩ | rfl)
      · exact ⟨h1, Or.inl h2⟩
      · exact ⟨h1, Or.inr ⟨h2, Or.inl h3⟩⟩
      · exact ⟨ha, Or.inr ⟨rfl, Or.inr ⟨rfl, by rw [ec]; exact q1, Or.inl hs, fun _ => hs, hy⟩⟩⟩
    · rintro ⟨h1, h2 | ⟨h2, h3 | h3⟩⟩
      · exact Or.inl ⟨h1, Or.inl h2⟩
      · exact Or.inl ⟨h1, Or.inr ⟨h2, h3⟩⟩
      · exact Or.inr h2
  · rw [if_neg (by omega)]
    refine bs_cong (h s a hs ha') (fun e => ?_)
    rw [mk_DD]
    constructor
    · rintro ⟨h1, h2 | ⟨h2, h3⟩⟩
      · exact ⟨h1, Or.inl h2⟩
      · exact ⟨h1, Or.inr ⟨h2, Or.inl h3⟩⟩
    · rintro ⟨h1, h2 | ⟨h2, h3 | ⟨h4, h5, _⟩⟩⟩
      · exact ⟨h1, Or.inl h2⟩
      · exact ⟨h1, Or.inr ⟨h2, h3⟩⟩
      · exact absurd ⟨by rw [h5, ec], h4⟩ q
theorem cond_cut (hW : gW B) (hr : gUsd B r) (hi : i + 1 < gsz B r) (ha : a0 < e0) (hN : e0 ≤ N) (he : e0 ≤ 16) : 0 < wR B x r i a0 (e0 - a0) ↔ ∃ m, enS B x T e0 a0 f N (gsg B r i) a0 m ∧ (m < e0 ∧ mk B x (DD B T a0 f m) (rsc B r i) m (e0 - m)) := by
  rw [wR_cut hW hr hi (by omega), show a0 + (e0 - a0) = e0 by omega]
  constructor
  · rintro ⟨m, h1, h2, h3, h4⟩
    refine ⟨m, ?_, h2, (DD_gt h1).mpr h4⟩
    rcases (hW.2.2.2.1 r hr.1).2.2.2.2 i (by omega) with g | g
    · exact Or.inl ⟨g, h1, Or.inl ⟨h2, h3⟩⟩
    · rw [mk_let (D' := dN) g] at h3
      exact Or.inr ⟨g.1, g.2, by omega, by omega, h3.2⟩
  · rintro ⟨m, h1 | h1, h2, h3⟩
    · obtain ⟨g, h4, h5⟩ := h1
      refine ⟨m, h4, h2, ?_, (DD_gt h4).mp h3⟩
      rcases h5 with h5 | h5
      · exact h5.2
      · omega
    · obtain ⟨g1, g2, h4, h5, h6⟩ := h1
      exact ⟨m, by omega, h2, (mk_let (D' := dN) ⟨g1, g2⟩).mpr ⟨by omega, h6⟩, (DD_gt (by omega)).mp h3⟩
theorem enS_of (h : endD B x T e0 a0 f M) : ∀ s a : Nat, s < 8 → a < 17 → bs (M 110 ((17 * s + a : Nat) : Int)) (fun e => enS B x T e0 a0 f N s a e) := by
  intro s a hs ha
  refine bs_cong (h s a hs ha) (fun e => ?_)
  unfold enS
  constructor
  · intro q; exact Or.inl ⟨hs, q⟩
  · rintro (q | q)
    · exact q.2
    · omega
theorem rsC_lt (hW : gW B) (hd : dF B (T f).1 (T f).2) : rsC B (T f) < 96 := by
  unfold rsC
  split
  · exact rwc_lt hW hd.1.1
  · next q => exact rsc_lt hW hd.1.1 (by rcases hd.2 with h | h; exact h; exact absurd h q)
/-- a step by which a row makes its symbol -/
theorem x_fs4 {rs cd : Nat} {P : Nat → Prop} {Y : Prop} (hn : n ≤ 64) (hf : f < n) (he : e0 ≤ 16) (ha : a0 < 17) (hrs : rs < 96) (hcd : cd < 8) (e13 : M 108 13 = (n : Int)) (e112 : M 112 (f : Int) = -1) (e113 : M 113 (f : Int) = (rs : Int)) (e114 : M 114 (f : Int) = (cd : Int)) (hb : bs (M 111 ((96 * e0 + rs : Nat) : Int)) P) (cond : P a0 ↔ Y)
    (skip : ¬ Y → am_x am_P am_gg (d + 1) am_k6 0 Q 13 [some (.inr (.inr 109)), some (.inl ((a0 : Int))), some (.inl ((e0 : Int))), some (.inl (((96 * e0 : Nat) : Int))), some (.inl (i_shl 1 (a0 : Int))), some (.inl (((f + 1 : Nat) : Int))), none, none] [] M 0 0)
    (yes : Y → am_x am_P am_gg (d + 1) am_k6 0 Q 13 [some (.inr (.inr 109)), some (.inl ((a0 : Int))), some (.inl ((e0 : Int))), some (.inl (((96 * e0 : Nat) : Int))), some (.inl (i_shl 1 (a0 : Int))), some (.inl (((f + 1 : Nat) : Int))), none, none] [] (am_up (am_up M 111 ((96 * e0 + cd : Nat) : Int) (i_or (M 111 ((96 * e0 + cd : Nat) : Int)) (i_shl 1 (a0 : Int)))) 110 ((17 * cd + a0 : Nat) : Int) (i_or (M 110 ((17 * cd + a0 : Nat) : Int)) (i_shl 1 (e0 : Int)))) 0 0) :
    am_x am_P am_gg (d + 1) am_k6 0 Q 13 [some (.inr (.inr 109)), some (.inl ((a0 : Int))), some (.inl ((e0 : Int))), some (.inl (((96 * e0 : Nat) : Int))), some (.inl (i_shl 1 (a0 : Int))), some (.inl ((f : Int))), none, none] [] M 0 0 := by
  have f64 : 0 ≤ (f : Int) ∧ (f : Int) < 64 := by omega
  have fn : (f : Int) < (n : Int) := by omega
  have one := bs_one (k := a0) (by omega)
  refine (h_6_13_109 _ _ _ _ _ _ _ _).mpr ?_
  rw [e13, if_pos fn, if_pos f64, e113, w_96 he hrs, if_pos (b_96 he hrs), w32_s (by omega)]
  refine @p_if _ _ _ _ ?_ ?_
  · intro hz0
    refine am_x_le [some (.inr (.inr 109)), some (.inl ((a0 : Int))), some (.inl ((e0 : Int))), some (.inl (((96 * e0 : Nat) : Int))), some (.inl (i_shl 1 (a0 : Int))), some (.inl (((f + 1 : Nat) : Int))), none, none] (am_lb_le _ _ ⟨rfl, rfl, rfl, rfl, rfl, rfl, trivial⟩) ?_
    exact skip (fun q => (bs_z hb).mp hz0 a0 (cond.mpr q))
  · intro _
    rw [if_pos f64, e112, if_pos rfl]
    refine @p_if _ _ _ _ ?_ ?_
    · intro hz0
      refine am_x_le [some (.inr (.inr 109)), some (.inl ((a0 : Int))), some (.inl ((e0 : Int))), some (.inl (((96 * e0 : Nat) : Int))), some (.inl (i_shl 1 (a0 : Int))), some (.inl (((f + 1 : Nat) : Int))), none, none] (am_lb_le _ _ ⟨rfl, rfl, rfl, rfl, rfl, rfl, trivial⟩) ?_
      exact skip (fun q => (bs_z (bs_and one hb)).mp hz0 a0 ⟨rfl, cond.mpr q⟩)
    · intro hnz
      have hy : Y := by
        refine Classical.byContradiction (fun hno => hnz ((bs_z (bs_and one hb)).mpr (fun j hj => hno (cond.mp ?_))))
        have h1 : j = a0 := hj.1
        rw [← h1]; exact hj.2
      have hcd96 : cd < 96 := by omega
      rw [if_pos f64, e114, w_96 he hcd96, if_pos (b_96 he hcd96), if_pos (b_96 he hcd96), if_pos rfl, if_pos f64, w_17 hcd ha, if_pos (b_17 hcd ha), if_pos (b_17 hcd ha)]
      refine am_x_le [some (.inr (.inr 109)), some (.inl ((a0 : Int))), some (.inl ((e0 : Int))), some (.inl (((96 * e0 : Nat) : Int))), some (.inl (i_shl 1 (a0 : Int))), some (.inl (((f + 1 : Nat) : Int))), none, none] (am_lb_le _ _ ⟨rfl, rfl, rfl, rfl, rfl, rfl, trivial⟩) ?_
      exact yes hy
/-- a step by which a sign and what stands behind it make what both are -/
theorem x_fsN {g rs cd : Nat} {P E : Nat → Prop} {Y : Prop} (hn : n ≤ 64) (hf : f < n) (he : e0 ≤ 16) (ha : a0 < 17) (hrs : rs < 96) (hcd : cd < 96) (e13 : M 108 13 = (n : Int)) (e112 : M 112 (f : Int) = (g : Int)) (e113 : M 113 (f : Int) = (rs : Int)) (e114 : M 114 (f : Int) = (cd : Int)) (hb : bs (M 111 ((96 * e0 + rs : Nat) : Int)) P) (hE : ∀ Q' : Int → (Nat → Int → Int) → Prop, (∀ v, bs v E → Q' v M) → am_s am_P am_gg (d + 1) 7 [.inr (.inr 109), .inl (g : Int), .inl (a0 : Int)] M Q') (cond : (∃ m, E m ∧ P m) ↔ Y)
    (skip : ¬ Y → am_x am_P am_gg (d + 1) am_k6 0 Q 13 [some (.inr (.inr 109)), some (.inl ((a0 : Int))), some (.inl ((e0 : Int))), some (.inl (((96 * e0 : Nat) : Int))), some (.inl (i_shl 1 (a0 : Int))), some (.inl (((f + 1 : Nat) : Int))), none, none] [] M 0 0)
    (yes : Y → am_x am_P am_gg (d + 1) am_k6 0 Q 13 [some (.inr (.inr 109)), some (.inl ((a0 : Int))), some (.inl ((e0 : Int))), some (.inl (((96 * e0 : Nat) : Int))), some (.inl (i_shl 1 (a0 : Int))), some (.inl (((f + 1 : Nat) : Int))), none, none] [] (am_up M 111 ((96 * e0 + cd : Nat) : Int) (i_or (M 111 ((96 * e0 + cd : Nat) : Int)) (i_shl 1 (a0 : Int)))) 0 0) :
    am_x am_P am_gg (d + 1) am_k6 0 Q 13 [some (.inr (.inr 109)), some (.inl ((a0 : Int))), some (.inl ((e0 : Int))), some (.inl (((96 * e0 : Nat) : Int))), some (.inl (i_shl 1 (a0 : Int))), some (.inl ((f : Int))), none, none] [] M 0 0 := by
  have f64 : 0 ≤ (f : Int) ∧ (f : Int) < 64 := by omega
  have fn : (f : Int) < (n : Int) := by omega
  have g0 : ¬ (g : Int) = -1 := by omega
  refine (h_6_13_109 _ _ _ _ _ _ _ _).mpr ?_
  rw [e13, if_pos fn, if_pos f64, e113, w_96 he hrs, if_pos (b_96 he hrs), w32_s (by omega)]
  refine @p_if _ _ _ _ ?_ ?_
  · intro hz0
    refine am_x_le [some (.inr (.inr 109)), some (.inl ((a0 : Int))), some (.inl ((e0 : Int))), some (.inl (((96 * e0 : Nat) : Int))), some (.inl (i_shl 1 (a0 : Int))), some (.inl (((f + 1 : Nat) : Int))), none, none] (am_lb_le _ _ ⟨rfl, rfl, rfl, rfl, rfl, rfl, trivial⟩) ?_
    exact skip (fun q => by obtain ⟨m, h1, h2⟩ := cond.mpr q; exact (bs_z hb).mp hz0 m h2)
  · intro _
    rw [if_pos f64, e112, if_neg g0]
    refine hE _ (fun v hv => ?_)
    refine @p_if _ _ _ _ ?_ ?_
    · intro hz0
      refine am_x_le [some (.inr (.inr 109)), some (.inl ((a0 : Int))), some (.inl ((e0 : Int))), some (.inl (((96 * e0 : Nat) : Int))), some (.inl (i_shl 1 (a0 : Int))), some (.inl (((f + 1 : Nat) : Int))), none, none] (am_lb_le _ _ ⟨rfl, rfl, rfl, rfl, rfl, rfl, trivial⟩) ?_
      exact skip (fun q => by obtain ⟨m, h1, h2⟩ := cond.mpr q; exact (bs_z (bs_and hv hb)).mp hz0 m ⟨h1, h2⟩)
    · intro hnz
      have hy : Y := Classical.byContradiction (fun hno => hnz ((bs_z (bs_and hv hb)).mpr (fun j hj => hno (cond.mp ⟨j, hj.1, hj.2⟩))))
      rw [if_pos f64, e114, w_96 he hcd, if_pos (b_96 he hcd), if_pos (b_96 he hcd), if_neg g0]
      refine am_x_le [some (.inr (.inr 109)), some (.inl ((a0 : Int))), some (.inl ((e0 : Int))), some (.inl (((96 * e0 : Nat) : Int))), some (.inl (i_shl 1 (a0 : Int))), some (.inl (((f + 1 : Nat) : Int))), none, none] (am_lb_le _ _ ⟨rfl, rfl, rfl, rfl, rfl, rfl, trivial⟩) ?_
      exact yes hy
theorem x_fillSpan (hW : gW B) (ho : oO B o) (hs : stI B o 1024 n T M0) (ha : a0 < e0) (hN : e0 ≤ N) (hN16 : N ≤ 16) (h4 : M0 108 4 = (N : Int)) (hx : txI x e0 M0) (hc : colD B x T e0 a0 0 M0) (he : endD B x T e0 a0 0 M0) (hQ : ∀ M', fsF e0 M0 M' → colD B x T e0 a0 n M' → endD B x T e0 a0 n M' → Q 0 M') : am_s am_P am_gg (d + 2) 6 [.inr (.inr 109), .inl (a0 : Int), .inl (e0 : Int)] M0 Q := by
  have hn := st_n hW (fun j hj => (hs.2.1 j hj).1) hs.2.2.1
  refine (v_6_109 _ _ _ _ _).mpr ?_
  rw [show w32 ((e0 : Int) * 96) = ((96 * e0 : Nat) : Int) by rw [w32_i (by omega) (by omega)]; omega]
  refine p_for (S := (Nat → Int → Int)) (X := fun f M => am_x am_P am_gg (d + 1) am_k6 0 Q 13 [some (.inr (.inr 109)), some (.inl ((a0 : Int))), some (.inl ((e0 : Int))), some (.inl (((96 * e0 : Nat) : Int))), some (.inl (i_shl 1 (a0 : Int))), some (.inl (f)), none, none] [] M 0 0) n (fun f M => fsF e0 M0 M ∧ colD B x T e0 a0 f M ∧ endD B x T e0 a0 f M) ?_ ?_ 0 M0 (by omega) ⟨fsF_rf, hc, he⟩
  · rintro M1 ⟨hF1, hc1, he1⟩
    refine (h_6_13_109 _ _ _ _ _ _ _ _).mpr ?_
    rw [hF1.1 108 (by decide) (by decide), hs.1]
    rw [if_neg (by omega)]
    exact hQ M1 hF1 hc1 he1
  · rintro f M1 hf ⟨hF1, hc1, he1⟩ go
    obtain ⟨hd, -, e112, e113, e114⟩ := hs.2.1 f hf
    rw [← hF1.1 112 (by decide) (by decide)] at e112
    rw [← hF1.1 113 (by decide) (by decide)] at e113
    rw [← hF1.1 114 (by decide) (by decide)] at e114
    have e13 : M1 108 13 = (n : Int) := by rw [hF1.1 108 (by decide) (by decide)]; exact hs.1
    have hrl := rsC_lt hW hd
    have hcl := cdC_ok hW hd
    have hu := hd.1
    have he16 : e0 ≤ 16 := by omega
    have ha17 : a0 < 17 := by omega
    have hb := hc1 (rsC B (T f)) hrl
    by_cases t4 : (T f).2 = 4
    · have e112' : M1 112 (f : Int) = -1 := by rw [e112]; unfold sgC; rw [if_pos t4]
      have ers : rsC B (T f) = rwc B (T f).1 := by unfold rsC; rw [if_pos t4]
      have ecd : cdC B (T f) = gsy B (T f).1 := by unfold cdC; rw [if_pos t4]
      have epl : pl0 (T f).2 = 0 := by unfold pl0; rw [if_pos t4]
      refine x_fs4 (Y := 0 < wR B x (T f).1 (pl0 (T f).2) a0 (e0 - a0)) hn hf he16 ha17 hrl (hcl.2.2 t4) e13 e112' e113 e114 hb ?_ (fun hno => go M1 ⟨hF1, colD_skip hc1 hno, endD_skip he1 (fun _ => hno)⟩) (fun hy => go _ ⟨?_, ?_, ?_⟩)
      · try dsimp only
        rw [DD_at, ers, mk_rwc hs hW ho hf t4 (by omega) (by omega), epl]
        exact ⟨fun q => q.2, fun q => ⟨ha, q⟩⟩
      · refine fsF_tr hF1 ⟨fun c h1 h2 => ?_, fun j hj => ?_⟩
        · rw [up_nc _ _ _ _ h1, up_nc _ _ _ _ h2]
        · rw [up_nc _ _ _ _ (by decide), up_ni _ _ _ _ (by have := hcl.1; clear hcl e112 e113 e114; omega)]
      · intro c hc'
        have := colD_add hW hd ha (by omega) hc1 hy c hc'
        rw [up_nc _ _ _ _ (by decide)]; exact this
      · have := endD_add (M := am_up M1 111 ((96 * e0 + cdC B (T f) : Nat) : Int) (i_or (M1 111 ((96 * e0 + cdC B (T f) : Nat) : Int)) (i_shl 1 (a0 : Int)))) hW hd t4 ha (by omega) (fun s a h1 h2 => by rw [up_nc _ _ _ _ (by decide)]; exact he1 s a h1 h2) hy
        rw [up_nc M1 111 _ _ (show (110 : Nat) ≠ 111 by decide), ← ecd] at this
        exact this
    · have hi : (T f).2 + 1 < gsz B (T f).1 := by
        rcases hd.2 with h | h
        · exact h
        · exact absurd h t4
      have e112' : M1 112 (f : Int) = (gsg B (T f).1 (T f).2 : Int) := by rw [e112]; unfold sgC; rw [if_neg t4]
      have ers : rsC B (T f) = rsc B (T f).1 (T f).2 := by unfold rsC; rw [if_neg t4]
      have epl : pl0 (T f).2 = (T f).2 := by unfold pl0; rw [if_neg t4]
      have hg := (hW.2.2.2.1 _ hu.1).2.2.2.2 (T f).2 (by omega)
      refine x_fsN (Y := 0 < wR B x (T f).1 (pl0 (T f).2) a0 (e0 - a0)) (E := enS B x T e0 a0 f N (gsg B (T f).1 (T f).2) a0) hn hf he16 ha17 hrl hcl.1 e13 e112' e113 e114 hb (fun Q' hQ' => x_endsOf (N := N) (enS_of he1) (by rw [hF1.1 108 (by decide) (by decide)]; exact h4) hN16 ha17 (fun j h1 h2 => by rw [hF1.1 109 (by decide) (by decide)]; exact hx j (by omega)) hg hQ') ?_ (fun hno => go M1 ⟨hF1, colD_skip hc1 hno, endD_skip he1 (fun _ => hno)⟩) (fun hy => go _ ⟨?_, colD_add hW hd ha (by omega) hc1 hy, ?_⟩)
      · rw [epl, cond_cut (x := x) (T := T) (f := f) (N := N) hW hu hi ha hN he16, ers]
      · refine fsF_tr hF1 ⟨fun c h1 h2 => ?_, fun j hj => ?_⟩
        · rw [up_nc _ _ _ _ h2]
        · rw [up_ni _ _ _ _ (by have := hcl.1; clear hcl e112 e113 e114; omega)]
      · intro s a h1 h2
        rw [up_nc _ _ _ _ (by decide)]
        exact endD_skip he1 (fun q => absurd q t4) s a h1 h2
end Sa1
