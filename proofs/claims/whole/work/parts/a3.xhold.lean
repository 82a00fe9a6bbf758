/-! the class takes up a text -/
def chT (B x o : Nat → Nat) (N f n : Nat) (T : Nat → Nat × Nat) (M : (Nat → Int → Int)) : Prop := oO B o ∧ stI B o 1024 n T M ∧ M 108 4 = (N : Int) ∧ 1 ≤ N ∧ N ≤ f ∧ f ≤ 16 ∧ M 108 5 = (f : Int) ∧ txI x f M ∧ (∀ e, 1 ≤ e → e ≤ f → colF B x e M) ∧ endF B x f M
/-- the chart is of a text: of the version that stands -/
def chC (B x : Nat → Nat) (N : Nat) (M : (Nat → Int → Int)) : Prop := M 108 2 = M 2 0 ∧ ∃ (o : Nat → Nat) (f n : Nat) (T : Nat → Nat × Nat) (x' : Nat → Nat), (∀ j, j < N → x' j = x j) ∧ chT B x' o N f n T M
def chW (M : (Nat → Int → Int)) : Prop := ∀ s a : Nat, s < 8 → a < 17 → ∃ P, bs (M 110 ((17 * s + a : Nat) : Int)) P ∧ ¬ P 0
def hoF (M M' : (Nat → Int → Int)) : Prop := (∀ c, c < 108 ∨ 114 < c → M' c = M c) ∧ ∀ i : Int, i ≠ 2 → i ≠ 4 → i ≠ 5 → i ≠ 6 → i ≠ 13 → M' 108 i = M 108 i
section Sa3
variable {B x y o : Nat → Nat} {a n r i s k c e f d m N : Nat} {T : Nat → Nat × Nat} {M M0 : (Nat → Int → Int)} {Q : Int → (Nat → Int → Int) → Prop} {D : Nat → Nat → Prop}
theorem mk_x (h : ∀ j, a ≤ j → j < a + n → x j = y j) : mk B x D c a n ↔ mk B y D c a n := by
  unfold mk
  have e1 : ∀ r i, wR B x r i a n = wR B y r i a n := fun r i => wR_x h
  constructor
  · rintro (⟨h1, r, h2, h3, h4⟩ | ⟨h1, h2, h3, h4⟩ | ⟨r, i, h1, h2, h3, h4⟩)
    · exact Or.inl ⟨h1, r, h2, h3, by rw [← e1]; exact h4⟩
    · exact Or.inr (Or.inl ⟨h1, h2, h3, by rw [← h a (Nat.le_refl _) (by omega)]; exact h4⟩)
    · exact Or.inr (Or.inr ⟨r, i, h1, h2, h3, by rw [← e1]; exact h4⟩)
  · rintro (⟨h1, r, h2, h3, h4⟩ | ⟨h1, h2, h3, h4⟩ | ⟨r, i, h1, h2, h3, h4⟩)
    · exact Or.inl ⟨h1, r, h2, h3, by rw [e1]; exact h4⟩
    · exact Or.inr (Or.inl ⟨h1, h2, h3, by rw [h a (Nat.le_refl _) (by omega)]; exact h4⟩)
    · exact Or.inr (Or.inr ⟨r, i, h1, h2, h3, by rw [e1]; exact h4⟩)
theorem colF_x (h : ∀ j, j < e → x j = y j) (hc : colF B x e M) : colF B y e M := fun c hc' => bs_cong (hc c hc') (fun a => by
  constructor
  · rintro ⟨h1, h2⟩; exact ⟨h1, (mk_x (fun j h3 h4 => h j (by omega))).mp h2⟩
  · rintro ⟨h1, h2⟩; exact ⟨h1, (mk_x (fun j h3 h4 => h j (by omega))).mpr h2⟩)
theorem colF_M {M' : (Nat → Int → Int)} (hc : colF B x e M) (h : ∀ c : Nat, c < 96 → M' 111 ((96 * e + c : Nat) : Int) = M 111 ((96 * e + c : Nat) : Int)) : colF B x e M' := fun c hc' => by rw [h c hc']; exact hc c hc'
theorem stI_M {b : Nat} {M' : (Nat → Int → Int)} (h : stI B o b n T M) (h13 : M' 108 13 = M 108 13) (h112 : M' 112 = M 112) (h113 : M' 113 = M 113) (h114 : M' 114 = M 114) : stI B o b n T M' := by
  unfold stI; rw [h13, h112, h113, h114]; exact h
theorem endF_chW (h : endF B x f M) : chW M := fun s a h1 h2 => ⟨_, h s a h1 h2, fun q => by have := q.1; omega⟩
/-- what is known of a chart while a text is taken up -/
def chK (B x o : Nat → Nat) (f n : Nat) (T : Nat → Nat × Nat) (M : (Nat → Int → Int)) : Prop := oO B o ∧ stI B o 1024 n T M ∧ f ≤ 16 ∧ M 108 5 = (f : Int) ∧ txI x f M ∧ (∀ e, 1 ≤ e → e ≤ f → colF B x e M) ∧ ∀ s a : Nat, s < 8 → a < 17 → ∃ P : Nat → Prop, bs (M 110 ((17 * s + a : Nat) : Int)) P ∧ (∀ e, e ≤ f → (P e ↔ a < e ∧ mk B x (dF B) s a (e - a))) ∧ (1 ≤ f → ∀ e, P e → e ≤ f)
theorem x_holdFill_2 {b : Int} (hW : gW B) (ho : oO B o) (hm1 : 1 ≤ m) (hm : m ≤ 16) (hy : ∀ j : Nat, j < m → M0 1 (j : Int) - b = (y j : Int) ∧ y j < 16) (hQ : ∀ M', oO B o → stI B o 1024 n T M' → M' 108 4 = (m : Int) → M' 108 5 = (m : Int) → txI y m M' → (∀ e, 1 ≤ e → e ≤ m → colF B y e M') → endF B y m M' → (∀ c, c < 109 ∨ 111 < c → c ≠ 108 → M' c = M0 c) → (∀ i : Int, i ≠ 5 → M' 108 i = M0 108 i) → Q 0 M') (hk : k < m) (hs : stI B o 1024 n T M0) (h4 : M0 108 4 = (m : Int)) (hx : txI y k M0) (hc : ∀ e, 1 ≤ e → e ≤ k → colF B y e M0) (he : endF B y k M0) : am_x am_P am_gg (d + 3) am_k1 0 Q 121 [some (.inr (.inr 109)), some (.inr (.inr 2)), some (.inl (b)), some (.inl ((m : Int))), none, some (.inl (((k + 1 : Nat) : Int)))] [] M0 0 0 := by
  refine p_for (S := (Nat → Int → Int)) (X := fun e M => am_x am_P am_gg (d + 3) am_k1 0 Q 121 [some (.inr (.inr 109)), some (.inr (.inr 2)), some (.inl (b)), some (.inl ((m : Int))), none, some (.inl (e))] [] M 0 0) (m + 1) (fun e M => 1 ≤ e ∧ (∀ c, c < 109 ∨ 111 < c → M c = M0 c) ∧ txI y (e - 1) M ∧ (∀ e', 1 ≤ e' → e' ≤ e - 1 → colF B y e' M) ∧ endF B y (e - 1) M) ?_ ?_ (k + 1) M0 (by omega) ⟨by omega, fun _ _ => rfl, by rw [Nat.add_sub_cancel]; exact hx, fun e' h1 h2 => hc e' h1 (by omega), by rw [Nat.add_sub_cancel]; exact he⟩
  · rintro M1 ⟨_, hF1, hx1, hc1, he1⟩
    rw [Nat.add_sub_cancel] at hx1 he1
    refine (h_1_121_109_2 _ _ _ _ _ _).mpr ?_
    rw [if_pos (by omega)]
    refine hQ _ ho (stI_M hs (by rw [up_ni _ _ _ _ (by decide), hF1 108 (by omega)]) (by rw [up_nc _ _ _ _ (by decide), hF1 112 (by omega)]) (by rw [up_nc _ _ _ _ (by decide), hF1 113 (by omega)]) (by rw [up_nc _ _ _ _ (by decide), hF1 114 (by omega)])) (by rw [up_ni _ _ _ _ (by decide), hF1 108 (by omega)]; exact h4) (up_eq _ _ _ _) (by unfold txI; rw [up_nc _ _ _ _ (by decide)]; exact hx1) (fun e h1 h2 => by unfold colF; rw [up_nc _ _ _ _ (by decide)]; exact hc1 e h1 (by omega)) (by unfold endF; rw [up_nc _ _ _ _ (by decide)]; exact he1) (fun c h1 h2 => by rw [up_nc _ _ _ _ h2]; exact hF1 c h1) (fun i h => by rw [up_ni _ _ _ _ h, hF1 108 (by omega)])
  · rintro e M1 he2 ⟨h1, hF1, hx1, hc1, he1⟩ go
    refine (h_1_121_109_2 _ _ _ _ _ _).mpr ?_
    rw [if_neg (by omega), show w32 ((e : Int) - 1) = ((e - 1 : Nat) : Int) by rw [w32_i (by omega) (by omega)]; omega, if_pos (by omega), if_pos (by omega)]
    have hye := hy (e - 1) (by omega)
    rw [hF1 1 (by omega), hye.1, w32_nat (by omega)]
    refine x_fillColumn (x := y) (N := m) (o := o) (n := n) (T := T) hW ho (stI_M hs (by rw [up_nc _ _ _ _ (by decide), hF1 108 (by omega)]) (by rw [up_nc _ _ _ _ (by decide), hF1 112 (by omega)]) (by rw [up_nc _ _ _ _ (by decide), hF1 113 (by omega)]) (by rw [up_nc _ _ _ _ (by decide), hF1 114 (by omega)])) h1 (by omega) hm (by rw [up_nc _ _ _ _ (by decide), hF1 108 (by omega)]; exact h4) ?_ (by unfold endF; rw [up_nc _ _ _ _ (by decide)]; exact he1) (fun M2 hF2 hc2 he3 => ?_)
    · intro j hj
      rw [up_ci]
      by_cases q : j = e - 1
      · rw [if_pos (by omega), q]; exact ⟨rfl, hye.2⟩
      · rw [if_neg (by omega)]; exact hx1 j (by omega)
    · rw [w32_s (by omega)]
      refine go M2 ⟨by omega, fun c hc' => ?_, ?_, fun e' g1 g2 => ?_, by rw [Nat.add_sub_cancel]; exact he3⟩
      · rw [hF2.1 c (by omega) (by omega), up_nc _ _ _ _ (by omega)]; exact hF1 c hc'
      · intro j hj
        rw [hF2.1 109 (by decide) (by decide), up_ci]
        by_cases q : j = e - 1
        · rw [if_pos (by omega), q]; exact ⟨rfl, hye.2⟩
        · rw [if_neg (by omega)]; exact hx1 j (by omega)
      · by_cases q : e' = e
        · rw [q]; exact hc2
        · refine colF_M (hc1 e' g1 (by omega)) (fun c hc' => ?_)
          rw [hF2.2 _ (by omega), up_nc _ _ _ _ (by decide)]
theorem x_hold37_2 {b : Int} (hW : gW B) (hm1 : 1 ≤ m) (hm : m ≤ 16) (hy : ∀ j : Nat, j < m → M 1 (j : Int) - b = (y j : Int) ∧ y j < 16) (hst : 0 ≤ M 108 6 ∧ M 108 6 < 2147483647) (hK : chK B x o f n T M) (hcur : M 108 2 = M 2 0) (hQ : ∀ M', chC B y m M' → (∀ c, c < 108 ∨ 111 < c → M' c = M c) → (∀ i : Int, i ≠ 4 → i ≠ 5 → i ≠ 6 → M' 108 i = M 108 i) → (M' 108 6 = M 108 6 + 1 ∨ M 108 4 = (m : Int) ∧ m ≤ f ∧ ∀ c i, M' c i = M c i) → Q 0 M') : am_x am_P am_gg (d + 3) am_k1 0 Q 37 [some (.inr (.inr 109)), some (.inr (.inr 2)), some (.inl (b)), some (.inl ((m : Int))), some (.inl (((0 : Nat) : Int))), none] [] M 0 0 := by
  obtain ⟨ho, hs, hf, h5, hx, hc, hE⟩ := hK
  -- what is left to do once so many letters are the same
  have stale : ∀ c : Nat, c < m → c ≤ f → (∀ j, j < c → x j = y j) → am_s am_P am_gg (d + 3) 4 [.inr (.inr 109), .inl (c : Int)] (am_up (am_up M 108 6 (w32 (M 108 6 + 1))) 108 4 (m : Int)) (fun r1 M1 => am_x am_P am_gg (d + 3) am_k1 0 Q 121 [some (.inr (.inr 109)), some (.inr (.inr 2)), some (.inl (b)), some (.inl ((m : Int))), some (.inl ((c : Int))), some (.inl (w32 ((c : Int) + 1)))] [] M1 0 0) := by
    intro c hcm hcf hxy
    have hEx : ∃ P : Nat → Nat → Nat → Prop, ∀ s a : Nat, s < 8 → a < 17 → bs (M 110 ((17 * s + a : Nat) : Int)) (P s a) ∧ (∀ e, e ≤ f → (P s a e ↔ a < e ∧ mk B x (dF B) s a (e - a))) ∧ (1 ≤ f → ∀ e, P s a e → e ≤ f) := by
      refine ⟨fun s a => if h : s < 8 ∧ a < 17 then Classical.choose (hE s a h.1 h.2) else fun _ => False, fun s a h1 h2 => ?_⟩
      dsimp only
      rw [dif_pos (show s < 8 ∧ a < 17 from ⟨h1, h2⟩)]
      exact Classical.choose_spec (hE s a h1 h2)
    obtain ⟨P, hP⟩ := hEx
    refine x_forget (P := P) (by omega) (fun s a h1 h2 => by rw [up_nc _ _ _ _ (by decide), up_nc _ _ _ _ (by decide)]; exact (hP s a h1 h2).1) (fun M1 hF1 he1 => ?_)
    refine am_x_le [some (.inr (.inr 109)), some (.inr (.inr 2)), some (.inl (b)), some (.inl ((m : Int))), none, some (.inl (w32 ((c : Int) + 1)))] (am_lb_le _ _ ⟨rfl, rfl, rfl, rfl, rfl, trivial⟩) ?_
    rw [w32_s (by omega)]
    have e108 : ∀ i : Int, i ≠ 4 → i ≠ 6 → M1 108 i = M 108 i := fun i h1 h2 => by rw [hF1 108 (by decide), up_ni _ _ _ _ h1, up_ni _ _ _ _ h2]
    have eo : ∀ c, c ≠ 108 → c ≠ 110 → M1 c = M c := fun c h1 h2 => by rw [hF1 c h2, up_nc _ _ _ _ h1, up_nc _ _ _ _ h1]
    refine x_holdFill_2 (o := o) (n := n) (T := T) (y := y) hW ho hm1 hm (fun j hj => by rw [eo 1 (by decide) (by decide)]; exact hy j hj) (fun M2 g1 g2 g3 g4 g5 g6 g7 g8 g9 => ?_) hcm (stI_M hs (e108 13 (by decide) (by decide)) (eo 112 (by decide) (by decide)) (eo 113 (by decide) (by decide)) (eo 114 (by decide) (by decide))) (by rw [hF1 108 (by decide), up_eq]) (fun j hj => ?_) (fun e h1 h2 => ?_) (fun s a h1 h2 => bs_cong (he1 s a h1 h2) (fun e => ?_))
    · refine hQ M2 ⟨?_, o, m, n, T, y, fun _ _ => rfl, g1, g2, g3, hm1, Nat.le_refl _, hm, g4, g5, g6, g7⟩ (fun c hc' => by rw [g8 c (by omega) (by omega)]; exact eo c (by omega) (by omega)) (fun i h1 h2 h3 => by rw [g9 i h2]; exact e108 i h1 h3) (Or.inl ?_)
      · rw [g9 2 (by decide), g8 2 (by omega) (by decide), e108 2 (by decide) (by decide), eo 2 (by decide) (by decide)]; exact hcur
      · rw [g9 6 (by decide), hF1 108 (by decide), up_ni _ _ _ _ (by decide), up_eq, w32_i (by omega) (by omega)]
    · rw [eo 109 (by decide) (by decide), ← hxy j hj]; exact hx j (by omega)
    · refine colF_x (fun j hj => hxy j (by omega)) ?_
      unfold colF
      rw [eo 111 (by decide) (by decide)]; exact hc e h1 (by omega)
    · have hPe := (hP s a h1 h2).2.1 e
      constructor
      · rintro ⟨q1, q2⟩
        obtain ⟨q3, q4⟩ := (hPe (by omega)).mp q1
        exact ⟨q3, q2, (mk_x (fun j g1 g2 => hxy j (by omega))).mp q4⟩
      · rintro ⟨q1, q2, q3⟩
        exact ⟨(hPe (by omega)).mpr ⟨q1, (mk_x (fun j g1 g2 => hxy j (by omega))).mpr q3⟩, q2⟩
  have keep : m ≤ f → (∀ j, j < m → x j = y j) → ∀ M', (∀ c i, (c = 108 ∧ (i = 4 ∨ i = 6)) ∨ M' c i = M c i) → M' 108 4 = (m : Int) → chC B y m M' := by
    intro hmf hxy M' hF h4
    have e108 : ∀ i : Int, i ≠ 4 → i ≠ 6 → M' 108 i = M 108 i := fun i h1 h2 => by
      rcases hF 108 i with q | q
      · omega
      · exact q
    have eo : ∀ c, c ≠ 108 → M' c = M c := fun c h1 => by
      funext i
      rcases hF c i with q | q
      · omega
      · exact q
    refine ⟨by rw [e108 2 (by decide) (by decide), eo 2 (by decide)]; exact hcur, o, f, n, T, x, hxy, ho, stI_M hs (e108 13 (by decide) (by decide)) (eo 112 (by decide)) (eo 113 (by decide)) (eo 114 (by decide)), h4, hm1, hmf, hf, by rw [e108 5 (by decide) (by decide)]; exact h5, by unfold txI; rw [eo 109 (by decide)]; exact hx, fun e h1 h2 => by unfold colF; rw [eo 111 (by decide)]; exact hc e h1 h2, fun s a h1 h2 => ?_⟩
    rw [eo 110 (by decide)]
    obtain ⟨P, hP1, hP2, hle⟩ := hE s a h1 h2
    have hle : ∀ e, P e → e ≤ f := hle (by omega)
    refine bs_cong hP1 (fun e => ?_)
    constructor
    · intro q
      have := hle e q
      obtain ⟨q1, q2⟩ := (hP2 e this).mp q
      exact ⟨q1, this, q2⟩
    · rintro ⟨q1, q2, q3⟩; exact (hP2 e q2).mpr ⟨q1, q3⟩
  refine p_for (S := Unit) (X := fun c _ => am_x am_P am_gg (d + 3) am_k1 0 Q 37 [some (.inr (.inr 109)), some (.inr (.inr 2)), some (.inl (b)), some (.inl ((m : Int))), some (.inl (c)), none] [] M 0 0) (min m f) (fun c _ => ∀ j, j < c → x j = y j) ?_ ?_ 0 () (by omega) (fun j hj => absurd hj (Nat.not_lt_zero j))
  · intro _ hxy
    refine (h_1_37_109_2 _ _ _ _ _ _).mpr ?_
    by_cases hmf : m ≤ f
    · rw [show min m f = m by omega] at hxy ⊢
      rw [if_neg (by omega), if_neg (by omega)]
      refine @p_if _ _ _ _ ?_ ?_
      · intro e4
        rw [if_neg (by omega)]
        have same : ∀ c i, am_up M 108 4 (m : Int) c i = M c i := fun c i => by
          rw [up_if]; split
          · next q => rw [q.1, q.2]; exact e4
          · rfl
        exact hQ _ (keep hmf hxy _ (fun c i => Or.inr (same c i)) (up_eq _ _ _ _)) (fun c hc' => funext (same c)) (fun i _ _ _ => same 108 i) (Or.inr ⟨e4.symm, hmf, same⟩)
      · intro e4
        rw [if_neg (by omega)]
        refine hQ _ (keep hmf hxy _ (fun c i => ?_) (up_eq _ _ _ _)) (fun c hc' => by rw [up_nc _ _ _ _ (by omega), up_nc _ _ _ _ (by omega)]) (fun i h1 _ h3 => by rw [up_ni _ _ _ _ h1, up_ni _ _ _ _ h3]) (Or.inl (by rw [up_ni _ _ _ _ (by decide), up_eq, w32_i (by omega) (by omega)]))
        rw [up_if, up_if]
        split
        · next q => exact Or.inl ⟨q.1, Or.inl q.2⟩
        · split
          · next q => exact Or.inl ⟨q.1, Or.inr q.2⟩
          · exact Or.inr rfl
    · rw [show min m f = f by omega] at hxy ⊢
      rw [if_pos (by omega), if_neg (by omega), if_pos (by omega), if_pos (by omega)]
      exact stale f (by omega) (Nat.le_refl _) hxy
  · intro c _ hcm hxy go
    have hxc := hx c (by omega)
    have hyc := hy c (by omega)
    refine (h_1_37_109_2 _ _ _ _ _ _).mpr ?_
    rw [if_pos (by omega), if_pos (by omega), if_pos (by omega), if_pos (by omega), hxc.1, hyc.1, w32_nat (by omega)]
    refine @p_if _ _ _ _ ?_ ?_
    · intro e
      rw [w32_s (by omega)]
      refine go () (fun j hj => ?_)
      by_cases q : j = c
      · rw [q]; omega
      · exact hxy j (by omega)
    · intro e
      rw [if_pos (by omega), if_pos (by omega)]
      exact stale c (by omega) (by omega) hxy
theorem x_hold_2 {b : Int} (hW : gW B) (hg : xgb B M 2) (hu : bs (M 16 5) (gUsd B)) (hm1 : 1 ≤ m) (hm : m ≤ 16) (hy : ∀ j : Nat, j < m → M 1 (j : Int) - b = (y j : Int) ∧ y j < 16) (hst : 0 ≤ M 108 6 ∧ M 108 6 < 2147483647) (hw : chW M) (hO : M 108 2 = M 2 0 → ∃ x N, chC B x N M) (hQ : ∀ M', chC B y m M' → hoF M M' → (M' 108 6 = M 108 6 + 1 ∨ M 108 2 = M 2 0 ∧ ∀ c i, M' c i = M c i) → Q 0 M') : am_s am_P am_gg (d + 4) 1 [.inr (.inr 109), .inr (.inr 2), .inl b, .inl (m : Int)] M Q := by
  refine (v_1_109_2 _ _ _ _ _).mpr ?_
  refine @p_if _ _ _ _ ?_ ?_
  · intro hcur
    obtain ⟨x, N, -, o, f, n, T, x', hxx, t1, t2, t3, t4, t5, t6, t7, t8, t9, t10⟩ := hO hcur
    refine x_hold37_2 (x := x') (o := o) (f := f) (n := n) (T := T) hW hm1 hm hy hst ⟨t1, t2, t6, t7, t8, t9, fun s a h1 h2 => ⟨_, t10 s a h1 h2, fun e he => ⟨fun q => ⟨q.1, q.2.2⟩, fun q => ⟨q.1, he, q.2⟩⟩, fun _ e q => q.2.1⟩⟩ hcur (fun M' g1 g2 g3 g4 => hQ M' g1 ⟨fun c hc => g2 c (by omega), fun i h1 h2 h3 h4 h5 => g3 i h2 h3 h4⟩ ?_)
    rcases g4 with g4 | g4
    · exact Or.inl g4
    · exact Or.inr ⟨hcur, g4.2.2⟩
  · intro hcur
    obtain ⟨o, ho1, ho2, ho3, ho4⟩ := hg.2.2.2.2.2
    have ho : oO B o := ⟨fun i hi => (ho1 i hi).2, ho2, ho3, ho4⟩
    have hg' : xgb B (am_up M 108 2 (M 2 0)) 2 := xgb_eq hg (fun c h1 h2 => up_nc _ _ _ _ (by omega))
    refine x_listSteps (o := o) hW hg' ho (fun i hi => by rw [up_nc _ _ _ _ (by decide)]; exact (ho1 i hi).1) (by rw [up_nc _ _ _ _ (by decide)]; exact hu) (fun M1 h1 => ?_)
    obtain ⟨hF1, n, T, hs⟩ := h1
    have e108 : ∀ i : Int, i ≠ 2 → i ≠ 5 → i ≠ 13 → am_up M1 108 5 0 108 i = M 108 i := fun i h1 h2 h3 => by rw [up_ni _ _ _ _ h2, hF1.2 i h3, up_ni _ _ _ _ h1]
    have eo : ∀ c, c < 108 ∨ 114 < c ∨ c = 109 ∨ c = 110 ∨ c = 111 → am_up M1 108 5 0 c = M c := fun c hc => by rw [up_nc _ _ _ _ (by omega), hF1.1 c (by omega) (by omega) (by omega) (by omega), up_nc _ _ _ _ (by omega)]
    refine x_hold37_2 (x := fun _ => 0) (o := o) (f := 0) (n := n) (T := T) hW hm1 hm (fun j hj => by rw [eo 1 (by omega)]; exact hy j hj) (by rw [e108 6 (by decide) (by decide) (by decide)]; exact hst) ⟨ho, stI_M hs (up_ni _ _ _ _ (by decide) _) (up_nc _ _ _ _ (by decide)) (up_nc _ _ _ _ (by decide)) (up_nc _ _ _ _ (by decide)), by omega, up_eq _ _ _ _, fun j hj => absurd hj (Nat.not_lt_zero j), fun e h1 h2 => by omega, fun s a h1 h2 => ?_⟩ ?_ (fun M' g1 g2 g3 g4 => hQ M' g1 ⟨fun c hc => ?_, fun i h1 h2 h3 h4 h5 => ?_⟩ ?_)
    · obtain ⟨P, hP1, hP2⟩ := hw s a h1 h2
      refine ⟨P, by rw [eo 110 (by omega)]; exact hP1, fun e he => ?_, fun h => by omega⟩
      have e0 : e = 0 := by omega
      subst e0
      exact ⟨fun q => absurd q hP2, fun q => by have := q.1; omega⟩
    · rw [up_ni _ _ _ _ (by decide), hF1.2 2 (by decide), up_eq, eo 2 (by omega)]
    · rw [g2 c (by omega)]; exact eo c (by omega)
    · rw [g3 i h2 h3 h4]; exact e108 i h1 h3 h5
    · rcases g4 with g4 | g4
      · left; rw [g4, e108 6 (by decide) (by decide) (by decide)]
      · omega
theorem x_holdFill_125 {b : Int} (hW : gW B) (ho : oO B o) (hm1 : 1 ≤ m) (hm : m ≤ 16) (hy : ∀ j : Nat, j < m → M0 124 (j : Int) - b = (y j : Int) ∧ y j < 16) (hQ : ∀ M', oO B o → stI B o 1024 n T M' → M' 108 4 = (m : Int) → M' 108 5 = (m : Int) → txI y m M' → (∀ e, 1 ≤ e → e ≤ m → colF B y e M') → endF B y m M' → (∀ c, c < 109 ∨ 111 < c → c ≠ 108 → M' c = M0 c) → (∀ i : Int, i ≠ 5 → M' 108 i = M0 108 i) → Q 0 M') (hk : k < m) (hs : stI B o 1024 n T M0) (h4 : M0 108 4 = (m : Int)) (hx : txI y k M0) (hc : ∀ e, 1 ≤ e → e ≤ k → colF B y e M0) (he : endF B y k M0) : am_x am_P am_gg (d + 3) am_k1 0 Q 121 [some (.inr (.inr 109)), some (.inr (.inr 125)), some (.inl (b)), some (.inl ((m : Int))), none, some (.inl (((k + 1 : Nat) : Int)))] [] M0 0 0 := by
  refine p_for (S := (Nat → Int → Int)) (X := fun e M => am_x am_P am_gg (d + 3) am_k1 0 Q 121 [some (.inr (.inr 109)), some (.inr (.inr 125)), some (.inl (b)), some (.inl ((m : Int))), none, some (.inl (e))] [] M 0 0) (m + 1) (fun e M => 1 ≤ e ∧ (∀ c, c < 109 ∨ 111 < c → M c = M0 c) ∧ txI y (e - 1) M ∧ (∀ e', 1 ≤ e' → e' ≤ e - 1 → colF B y e' M) ∧ endF B y (e - 1) M) ?_ ?_ (k + 1) M0 (by omega) ⟨by omega, fun _ _ => rfl, by rw [Nat.add_sub_cancel]; exact hx, fun e' h1 h2 => hc e' h1 (by omega), by rw [Nat.add_sub_cancel]; exact he⟩
  · rintro M1 ⟨_, hF1, hx1, hc1, he1⟩
    rw [Nat.add_sub_cancel] at hx1 he1
    refine (h_1_121_109_125 _ _ _ _ _ _).mpr ?_
    rw [if_pos (by omega)]
    refine hQ _ ho (stI_M hs (by rw [up_ni _ _ _ _ (by decide), hF1 108 (by omega)]) (by rw [up_nc _ _ _ _ (by decide), hF1 112 (by omega)]) (by rw [up_nc _ _ _ _ (by decide), hF1 113 (by omega)]) (by rw [up_nc _ _ _ _ (by decide), hF1 114 (by omega)])) (by rw [up_ni _ _ _ _ (by decide), hF1 108 (by omega)]; exact h4) (up_eq _ _ _ _) (by unfold txI; rw [up_nc _ _ _ _ (by decide)]; exact hx1) (fun e h1 h2 => by unfold colF; rw [up_nc _ _ _ _ (by decide)]; exact hc1 e h1 (by omega)) (by unfold endF; rw [up_nc _ _ _ _ (by decide)]; exact he1) (fun c h1 h2 => by rw [up_nc _ _ _ _ h2]; exact hF1 c h1) (fun i h => by rw [up_ni _ _ _ _ h, hF1 108 (by omega)])
  · rintro e M1 he2 ⟨h1, hF1, hx1, hc1, he1⟩ go
    refine (h_1_121_109_125 _ _ _ _ _ _).mpr ?_
    rw [if_neg (by omega), show w32 ((e : Int) - 1) = ((e - 1 : Nat) : Int) by rw [w32_i (by omega) (by omega)]; omega, if_pos (by omega), if_pos (by omega)]
    have hye := hy (e - 1) (by omega)
    rw [hF1 124 (by omega), hye.1, w32_nat (by omega)]
    refine x_fillColumn (x := y) (N := m) (o := o) (n := n) (T := T) hW ho (stI_M hs (by rw [up_nc _ _ _ _ (by decide), hF1 108 (by omega)]) (by rw [up_nc _ _ _ _ (by decide), hF1 112 (by omega)]) (by rw [up_nc _ _ _ _ (by decide), hF1 113 (by omega)]) (by rw [up_nc _ _ _ _ (by decide), hF1 114 (by omega)])) h1 (by omega) hm (by rw [up_nc _ _ _ _ (by decide), hF1 108 (by omega)]; exact h4) ?_ (by unfold endF; rw [up_nc _ _ _ _ (by decide)]; exact he1) (fun M2 hF2 hc2 he3 => ?_)
    · intro j hj
      rw [up_ci]
      by_cases q : j = e - 1
      · rw [if_pos (by omega), q]; exact ⟨rfl, hye.2⟩
      · rw [if_neg (by omega)]; exact hx1 j (by omega)
    · rw [w32_s (by omega)]
      refine go M2 ⟨by omega, fun c hc' => ?_, ?_, fun e' g1 g2 => ?_, by rw [Nat.add_sub_cancel]; exact he3⟩
      · rw [hF2.1 c (by omega) (by omega), up_nc _ _ _ _ (by omega)]; exact hF1 c hc'
      · intro j hj
        rw [hF2.1 109 (by decide) (by decide), up_ci]
        by_cases q : j = e - 1
        · rw [if_pos (by omega), q]; exact ⟨rfl, hye.2⟩
        · rw [if_neg (by omega)]; exact hx1 j (by omega)
      · by_cases q : e' = e
        · rw [q]; exact hc2
        · refine colF_M (hc1 e' g1 (by omega)) (fun c hc' => ?_)
          rw [hF2.2 _ (by omega), up_nc _ _ _ _ (by decide)]
theorem x_hold37_125 {b : Int} (hW : gW B) (hm1 : 1 ≤ m) (hm : m ≤ 16) (hy : ∀ j : Nat, j < m → M 124 (j : Int) - b = (y j : Int) ∧ y j < 16) (hst : 0 ≤ M 108 6 ∧ M 108 6 < 2147483647) (hK : chK B x o f n T M) (hcur : M 108 2 = M 2 0) (hQ : ∀ M', chC B y m M' → (∀ c, c < 108 ∨ 111 < c → M' c = M c) → (∀ i : Int, i ≠ 4 → i ≠ 5 → i ≠ 6 → M' 108 i = M 108 i) → (M' 108 6 = M 108 6 + 1 ∨ M 108 4 = (m : Int) ∧ m ≤ f ∧ ∀ c i, M' c i = M c i) → Q 0 M') : am_x am_P am_gg (d + 3) am_k1 0 Q 37 [some (.inr (.inr 109)), some (.inr (.inr 125)), some (.inl (b)), some (.inl ((m : Int))), some (.inl (((0 : Nat) : Int))), none] [] M 0 0 := by
  obtain ⟨ho, hs, hf, h5, hx, hc, hE⟩ := hK
  -- what is left to do once so many letters are the same
  have stale : ∀ c : Nat, c < m → c ≤ f → (∀ j, j < c → x j = y j) → am_s am_P am_gg (d + 3) 4 [.inr (.inr 109), .inl (c : Int)] (am_up (am_up M 108 6 (w32 (M 108 6 + 1))) 108 4 (m : Int)) (fun r1 M1 => am_x am_P am_gg (d + 3) am_k1 0 Q 121 [some (.inr (.inr 109)), some (.inr (.inr 125)), some (.inl (b)), some (.inl ((m : Int))), some (.inl ((c : Int))), some (.inl (w32 ((c : Int) + 1)))] [] M1 0 0) := by
    intro c hcm hcf hxy
    have hEx : ∃ P : Nat → Nat → Nat → Prop, ∀ s a : Nat, s < 8 → a < 17 → bs (M 110 ((17 * s + a : Nat) : Int)) (P s a) ∧ (∀ e, e ≤ f → (P s a e ↔ a < e ∧ mk B x (dF B) s a (e - a))) ∧ (1 ≤ f → ∀ e, P s a e → e ≤ f) := by
      refine ⟨fun s a => if h : s < 8 ∧ a < 17 then Classical.choose (hE s a h.1 h.2) else fun _ => False, fun s a h1 h2 => ?_⟩
      dsimp only
      rw [dif_pos (show s < 8 ∧ a < 17 from ⟨h1, h2⟩)]
      exact Classical.choose_spec (hE s a h1 h2)
    obtain ⟨P, hP⟩ := hEx
    refine x_forget (P := P) (by omega) (fun s a h1 h2 => by rw [up_nc _ _ _ _ (by decide), up_nc _ _ _ _ (by decide)]; exact (hP s a h1 h2).1) (fun M1 hF1 he1 => ?_)
    refine am_x_le [some (.inr (.inr 109)), some (.inr (.inr 125)), some (.inl (b)), some (.inl ((m : Int))), none, some (.inl (w32 ((c : Int) + 1)))] (am_lb_le _ _ ⟨rfl, rfl, rfl, rfl, rfl, trivial⟩) ?_
    rw [w32_s (by omega)]
    have e108 : ∀ i : Int, i ≠ 4 → i ≠ 6 → M1 108 i = M 108 i := fun i h1 h2 => by rw [hF1 108 (by decide), up_ni _ _ _ _ h1, up_ni _ _ _ _ h2]
    have eo : ∀ c, c ≠ 108 → c ≠ 110 → M1 c = M c := fun c h1 h2 => by rw [hF1 c h2, up_nc _ _ _ _ h1, up_nc _ _ _ _ h1]
    refine x_holdFill_125 (o := o) (n := n) (T := T) (y := y) hW ho hm1 hm (fun j hj => by rw [eo 124 (by decide) (by decide)]; exact hy j hj) (fun M2 g1 g2 g3 g4 g5 g6 g7 g8 g9 => ?_) hcm (stI_M hs (e108 13 (by decide) (by decide)) (eo 112 (by decide) (by decide)) (eo 113 (by decide) (by decide)) (eo 114 (by decide) (by decide))) (by rw [hF1 108 (by decide), up_eq]) (fun j hj => ?_) (fun e h1 h2 => ?_) (fun s a h1 h2 => bs_cong (he1 s a h1 h2) (fun e => ?_))
    · refine hQ M2 ⟨?_, o, m, n, T, y, fun _ _ => rfl, g1, g2, g3, hm1, Nat.le_refl _, hm, g4, g5, g6, g7⟩ (fun c hc' => by rw [g8 c (by omega) (by omega)]; exact eo c (by omega) (by omega)) (fun i h1 h2 h3 => by rw [g9 i h2]; exact e108 i h1 h3) (Or.inl ?_)
      · rw [g9 2 (by decide), g8 2 (by omega) (by decide), e108 2 (by decide) (by decide), eo 2 (by decide) (by decide)]; exact hcur
      · rw [g9 6 (by decide), hF1 108 (by decide), up_ni _ _ _ _ (by decide), up_eq, w32_i (by omega) (by omega)]
    · rw [eo 109 (by decide) (by decide), ← hxy j hj]; exact hx j (by omega)
    · refine colF_x (fun j hj => hxy j (by omega)) ?_
      unfold colF
      rw [eo 111 (by decide) (by decide)]; exact hc e h1 (by omega)
    · have hPe := (hP s a h1 h2).2.1 e
      constructor
      · rintro ⟨q1, q2⟩
        obtain ⟨q3, q4⟩ := (hPe (by omega)).mp q1
        exact ⟨q3, q2, (mk_x (fun j g1 g2 => hxy j (by omega))).mp q4⟩
      · rintro ⟨q1, q2, q3⟩
        exact ⟨(hPe (by omega)).mpr ⟨q1, (mk_x (fun j g1 g2 => hxy j (by omega))).mpr q3⟩, q2⟩
  have keep : m ≤ f → (∀ j, j < m → x j = y j) → ∀ M', (∀ c i, (c = 108 ∧ (i = 4 ∨ i = 6)) ∨ M' c i = M c i) → M' 108 4 = (m : Int) → chC B y m M' := by
    intro hmf hxy M' hF h4
    have e108 : ∀ i : Int, i ≠ 4 → i ≠ 6 → M' 108 i = M 108 i := fun i h1 h2 => by
      rcases hF 108 i with q | q
      · omega
      · exact q
    have eo : ∀ c, c ≠ 108 → M' c = M c := fun c h1 => by
      funext i
      rcases hF c i with q | q
      · omega
      · exact q
    refine ⟨by rw [e108 2 (by decide) (by decide), eo 2 (by decide)]; exact hcur, o, f, n, T, x, hxy, ho, stI_M hs (e108 13 (by decide) (by decide)) (eo 112 (by decide)) (eo 113 (by decide)) (eo 114 (by decide)), h4, hm1, hmf, hf, by rw [e108 5 (by decide) (by decide)]; exact h5, by unfold txI; rw [eo 109 (by decide)]; exact hx, fun e h1 h2 => by unfold colF; rw [eo 111 (by decide)]; exact hc e h1 h2, fun s a h1 h2 => ?_⟩
    rw [eo 110 (by decide)]
    obtain ⟨P, hP1, hP2, hle⟩ := hE s a h1 h2
    have hle : ∀ e, P e → e ≤ f := hle (by omega)
    refine bs_cong hP1 (fun e => ?_)
    constructor
    · intro q
      have := hle e q
      obtain ⟨q1, q2⟩ := (hP2 e this).mp q
      exact ⟨q1, this, q2⟩
    · rintro ⟨q1, q2, q3⟩; exact (hP2 e q2).mpr ⟨q1, q3⟩
  refine p_for (S := Unit) (X := fun c _ => am_x am_P am_gg (d + 3) am_k1 0 Q 37 [some (.inr (.inr 109)), some (.inr (.inr 125)), some (.inl (b)), some (.inl ((m : Int))), some (.inl (c)), none] [] M 0 0) (min m f) (fun c _ => ∀ j, j < c → x j = y j) ?_ ?_ 0 () (by omega) (fun j hj => absurd hj (Nat.not_lt_zero j))
  · intro _ hxy
    refine (h_1_37_109_125 _ _ _ _ _ _).mpr ?_
    by_cases hmf : m ≤ f
    · rw [show min m f = m by omega] at hxy ⊢
      rw [if_neg (by omega), if_neg (by omega)]
      refine @p_if _ _ _ _ ?_ ?_
      · intro e4
        rw [if_neg (by omega)]
        have same : ∀ c i, am_up M 108 4 (m : Int) c i = M c i := fun c i => by
          rw [up_if]; split
          · next q => rw [q.1, q.2]; exact e4
          · rfl
        exact hQ _ (keep hmf hxy _ (fun c i => Or.inr (same c i)) (up_eq _ _ _ _)) (fun c hc' => funext (same c)) (fun i _ _ _ => same 108 i) (Or.inr ⟨e4.symm, hmf, same⟩)
      · intro e4
        rw [if_neg (by omega)]
        refine hQ _ (keep hmf hxy _ (fun c i => ?_) (up_eq _ _ _ _)) (fun c hc' => by rw [up_nc _ _ _ _ (by omega), up_nc _ _ _ _ (by omega)]) (fun i h1 _ h3 => by rw [up_ni _ _ _ _ h1, up_ni _ _ _ _ h3]) (Or.inl (by rw [up_ni _ _ _ _ (by decide), up_eq, w32_i (by omega) (by omega)]))
        rw [up_if, up_if]
        split
        · next q => exact Or.inl ⟨q.1, Or.inl q.2⟩
        · split
          · next q => exact Or.inl ⟨q.1, Or.inr q.2⟩
          · exact Or.inr rfl
    · rw [show min m f = f by omega] at hxy ⊢
      rw [if_pos (by omega), if_neg (by omega), if_pos (by omega), if_pos (by omega)]
      exact stale f (by omega) (Nat.le_refl _) hxy
  · intro c _ hcm hxy go
    have hxc := hx c (by omega)
    have hyc := hy c (by omega)
    refine (h_1_37_109_125 _ _ _ _ _ _).mpr ?_
    rw [if_pos (by omega), if_pos (by omega), if_pos (by omega), if_pos (by omega), hxc.1, hyc.1, w32_nat (by omega)]
    refine @p_if _ _ _ _ ?_ ?_
    · intro e
      rw [w32_s (by omega)]
      refine go () (fun j hj => ?_)
      by_cases q : j = c
      · rw [q]; omega
      · exact hxy j (by omega)
    · intro e
      rw [if_pos (by omega), if_pos (by omega)]
      exact stale c (by omega) (by omega) hxy
theorem x_hold_125 {b : Int} (hW : gW B) (hg : xgb B M 2) (hu : bs (M 16 5) (gUsd B)) (hm1 : 1 ≤ m) (hm : m ≤ 16) (hy : ∀ j : Nat, j < m → M 124 (j : Int) - b = (y j : Int) ∧ y j < 16) (hst : 0 ≤ M 108 6 ∧ M 108 6 < 2147483647) (hw : chW M) (hO : M 108 2 = M 2 0 → ∃ x N, chC B x N M) (hQ : ∀ M', chC B y m M' → hoF M M' → (M' 108 6 = M 108 6 + 1 ∨ M 108 2 = M 2 0 ∧ ∀ c i, M' c i = M c i) → Q 0 M') : am_s am_P am_gg (d + 4) 1 [.inr (.inr 109), .inr (.inr 125), .inl b, .inl (m : Int)] M Q := by
  refine (v_1_109_125 _ _ _ _ _).mpr ?_
  refine @p_if _ _ _ _ ?_ ?_
  · intro hcur
    obtain ⟨x, N, -, o, f, n, T, x', hxx, t1, t2, t3, t4, t5, t6, t7, t8, t9, t10⟩ := hO hcur
    refine x_hold37_125 (x := x') (o := o) (f := f) (n := n) (T := T) hW hm1 hm hy hst ⟨t1, t2, t6, t7, t8, t9, fun s a h1 h2 => ⟨_, t10 s a h1 h2, fun e he => ⟨fun q => ⟨q.1, q.2.2⟩, fun q => ⟨q.1, he, q.2⟩⟩, fun _ e q => q.2.1⟩⟩ hcur (fun M' g1 g2 g3 g4 => hQ M' g1 ⟨fun c hc => g2 c (by omega), fun i h1 h2 h3 h4 h5 => g3 i h2 h3 h4⟩ ?_)
    rcases g4 with g4 | g4
    · exact Or.inl g4
    · exact Or.inr ⟨hcur, g4.2.2⟩
  · intro hcur
    obtain ⟨o, ho1, ho2, ho3, ho4⟩ := hg.2.2.2.2.2
    have ho : oO B o := ⟨fun i hi => (ho1 i hi).2, ho2, ho3, ho4⟩
    have hg' : xgb B (am_up M 108 2 (M 2 0)) 2 := xgb_eq hg (fun c h1 h2 => up_nc _ _ _ _ (by omega))
    refine x_listSteps (o := o) hW hg' ho (fun i hi => by rw [up_nc _ _ _ _ (by decide)]; exact (ho1 i hi).1) (by rw [up_nc _ _ _ _ (by decide)]; exact hu) (fun M1 h1 => ?_)
    obtain ⟨hF1, n, T, hs⟩ := h1
    have e108 : ∀ i : Int, i ≠ 2 → i ≠ 5 → i ≠ 13 → am_up M1 108 5 0 108 i = M 108 i := fun i h1 h2 h3 => by rw [up_ni _ _ _ _ h2, hF1.2 i h3, up_ni _ _ _ _ h1]
    have eo : ∀ c, c < 108 ∨ 114 < c ∨ c = 109 ∨ c = 110 ∨ c = 111 → am_up M1 108 5 0 c = M c := fun c hc => by rw [up_nc _ _ _ _ (by omega), hF1.1 c (by omega) (by omega) (by omega) (by omega), up_nc _ _ _ _ (by omega)]
    refine x_hold37_125 (x := fun _ => 0) (o := o) (f := 0) (n := n) (T := T) hW hm1 hm (fun j hj => by rw [eo 124 (by omega)]; exact hy j hj) (by rw [e108 6 (by decide) (by decide) (by decide)]; exact hst) ⟨ho, stI_M hs (up_ni _ _ _ _ (by decide) _) (up_nc _ _ _ _ (by decide)) (up_nc _ _ _ _ (by decide)) (up_nc _ _ _ _ (by decide)), by omega, up_eq _ _ _ _, fun j hj => absurd hj (Nat.not_lt_zero j), fun e h1 h2 => by omega, fun s a h1 h2 => ?_⟩ ?_ (fun M' g1 g2 g3 g4 => hQ M' g1 ⟨fun c hc => ?_, fun i h1 h2 h3 h4 h5 => ?_⟩ ?_)
    · obtain ⟨P, hP1, hP2⟩ := hw s a h1 h2
      refine ⟨P, by rw [eo 110 (by omega)]; exact hP1, fun e he => ?_, fun h => by omega⟩
      have e0 : e = 0 := by omega
      subst e0
      exact ⟨fun q => absurd q hP2, fun q => by have := q.1; omega⟩
    · rw [up_ni _ _ _ _ (by decide), hF1.2 2 (by decide), up_eq, eo 2 (by omega)]
    · rw [g2 c (by omega)]; exact eo c (by omega)
    · rw [g3 i h2 h3 h4]; exact e108 i h1 h3 h5
    · rcases g4 with g4 | g4
      · left; rw [g4, e108 6 (by decide) (by decide) (by decide)]
      · omega
end Sa3
