/-! the class fills a column, forgets columns -/
def DG (B : Nat → Nat) (k a : Nat) (r i : Nat) : Prop := k ≤ a ∧ dF B r i
def colG (B x : Nat → Nat) (e0 k : Nat) (M : (Nat → Int → Int)) : Prop := ∀ c : Nat, c < 96 → bs (M 111 ((96 * e0 + c : Nat) : Int)) (fun a => a < e0 ∧ mk B x (DG B k a) c a (e0 - a))
def endG (B x : Nat → Nat) (e0 k : Nat) (M : (Nat → Int → Int)) : Prop := ∀ s a : Nat, s < 8 → a < 17 → bs (M 110 ((17 * s + a : Nat) : Int)) (fun e => a < e ∧ (e < e0 ∧ mk B x (dF B) s a (e - a) ∨ e = e0 ∧ mk B x (DG B k a) s a (e0 - a)))
section Sa2
variable {B x y o : Nat → Nat} {a n r i s k c e f d a0 e0 f0 N : Nat} {T : Nat → Nat × Nat} {M M0 : (Nat → Int → Int)} {Q : Int → (Nat → Int → Int) → Prop}
theorem DG_D (hk : 1 ≤ k) (r i : Nat) : DG B k a r i ↔ DD B T (k - 1) 0 a r i := by
  unfold DG DD dS
  constructor
  · rintro ⟨h1, h2⟩; exact Or.inl ⟨by omega, h2⟩
  · rintro (⟨h1, h2⟩ | ⟨_, j, hj, _⟩)
    · exact ⟨by omega, h2⟩
    · omega
theorem D_DG (hs : stI B o 1024 n T M0) (hW : gW B) (ho : oO B o) (r i : Nat) : DD B T a0 n a r i ↔ DG B a0 a r i := by
  unfold DG DD
  rw [dS_full hs hW ho]
  constructor
  · rintro (⟨h1, h2⟩ | ⟨h1, h2⟩)
    · exact ⟨by omega, h2⟩
    · exact ⟨by omega, h2⟩
  · rintro ⟨h1, h2⟩
    rcases Nat.lt_or_ge a0 a with q | q
    · exact Or.inl ⟨q, h2⟩
    · exact Or.inr ⟨by omega, h2⟩
theorem x_columnLoop (hW : gW B) (ho : oO B o) (hs : stI B o 1024 n T M0) (hN : e0 ≤ N) (hN16 : N ≤ 16) (h4 : M0 108 4 = (N : Int)) (hx : txI x e0 M0) (hQ : ∀ M', fsF e0 M0 M' → colF B x e0 M' → endF B x e0 M' → Q 0 M') (h1 : 1 ≤ e0) (hc : colG B x e0 e0 M) (he : endG B x e0 e0 M) (hF : fsF e0 M0 M) : am_x am_P am_gg (d + 2) am_k5 0 Q 45 [some (.inr (.inr 109)), some (.inl ((e0 : Int))), none, some (.inl ((e0 : Int) - 1))] [] M 0 0 := by
  refine p_down (S := (Nat → Int → Int)) (X := fun b M => am_x am_P am_gg (d + 2) am_k5 0 Q 45 [some (.inr (.inr 109)), some (.inl ((e0 : Int))), none, some (.inl (b))] [] M 0 0) (fun k M => k ≤ e0 ∧ fsF e0 M0 M ∧ colG B x e0 k M ∧ endG B x e0 k M) ?_ ?_ e0 M ⟨Nat.le_refl _, hF, hc, he⟩
  · rintro M1 ⟨_, hF1, hc1, he1⟩
    refine (h_5_45_109 _ _ _ _ _).mpr ?_
    rw [if_pos (by omega)]
    refine hQ M1 hF1 (fun c hc' => bs_cong (hc1 c hc') (fun a => ?_)) (fun s a h1 h2 => bs_cong (he1 s a h1 h2) (fun e => ?_))
    · rw [mk_cg (D := DG B 0 a) (D' := dF B) (fun r i => ⟨fun h => h.2, fun h => ⟨Nat.zero_le _, h⟩⟩)]
    · rw [mk_cg (D := DG B 0 a) (D' := dF B) (fun r i => ⟨fun h => h.2, fun h => ⟨Nat.zero_le _, h⟩⟩)]
      constructor
      · rintro ⟨g1, ⟨g2, g3⟩ | ⟨g2, g3⟩⟩
        · exact ⟨g1, by omega, g3⟩
        · subst g2; exact ⟨g1, Nat.le_refl _, g3⟩
      · rintro ⟨g1, g2, g3⟩
        rcases Nat.lt_or_ge e e0 with q | q
        · exact ⟨g1, Or.inl ⟨q, g3⟩⟩
        · have q2 : e = e0 := by omega
          subst q2
          exact ⟨g1, Or.inr ⟨rfl, g3⟩⟩
  · rintro k M1 ⟨hk, hF1, hc1, he1⟩ go
    refine (h_5_45_109 _ _ _ _ _).mpr ?_
    rw [if_neg (by omega)]
    have hs1 : stI B o 1024 n T M1 := by
      unfold stI
      rw [hF1.1 108 (by decide) (by decide), hF1.1 112 (by decide) (by decide), hF1.1 113 (by decide) (by decide), hF1.1 114 (by decide) (by decide)]; exact hs
    refine x_fillSpan (N := N) (x := x) hW ho hs1 (by omega) hN hN16 (by rw [hF1.1 108 (by decide) (by decide)]; exact h4) (by unfold txI; rw [hF1.1 109 (by decide) (by decide)]; exact hx) (fun c hc' => bs_cong (hc1 c hc') (fun a => ?_)) (fun s a h1 h2 => bs_cong (he1 s a h1 h2) (fun e => ?_)) (fun M2 hF2 hc2 he2 => ?_)
    · rw [mk_cg (D := DG B (k + 1) a) (fun r i => DG_D (T := T) (by omega) r i)]; exact Iff.rfl
    · rw [mk_cg (D := DG B (k + 1) a) (fun r i => DG_D (T := T) (by omega) r i)]; exact Iff.rfl
    · rw [show w32 ((k : Int) + (-1)) = (k : Int) - 1 by rw [w32_i (by omega) (by omega)]; omega]
      refine go M2 ⟨by omega, fsF_tr hF1 hF2, fun c hc' => bs_cong (hc2 c hc') (fun a => ?_), fun s a h1 h2 => bs_cong (he2 s a h1 h2) (fun e => ?_)⟩
      · rw [mk_cg (fun r i => D_DG hs1 hW ho r i)]
      · rw [mk_cg (fun r i => D_DG hs1 hW ho r i)]
theorem x_fillColumn (hW : gW B) (ho : oO B o) (hs : stI B o 1024 n T M) (h1 : 1 ≤ e0) (hN : e0 ≤ N) (hN16 : N ≤ 16) (h4 : M 108 4 = (N : Int)) (hx : txI x e0 M) (he : endF B x (e0 - 1) M) (hQ : ∀ M', fsF e0 M M' → colF B x e0 M' → endF B x e0 M' → Q 0 M') : am_s am_P am_gg (d + 3) 5 [.inr (.inr 109), .inl (e0 : Int)] M Q := by
  refine (v_5_109 _ _ _ _).mpr ?_
  have hx1 := hx (e0 - 1) (by omega)
  rw [show w32 ((e0 : Int) * 96) = ((96 * e0 : Nat) : Int) by rw [w32_i (by omega) (by omega)]; omega, show w32 (((96 * e0 : Nat) : Int) + 96) = ((96 * e0 + 96 : Nat) : Int) by rw [w32_i (by omega) (by omega)]; omega]
  refine x_fill_111 (by omega) (by omega) ?_
  rw [show w32 ((e0 : Int) - 1) = ((e0 - 1 : Nat) : Int) by rw [w32_i (by omega) (by omega)]; omega, fil_nc _ _ _ _ _ (show (109 : Nat) ≠ 111 by decide), hx1.1]
  rw [show w32 (w32 (((96 * e0 : Nat) : Int) + 16) + (x (e0 - 1) : Int)) = ((96 * e0 + (16 + x (e0 - 1)) : Nat) : Int) by rw [show w32 (((96 * e0 : Nat) : Int) + 16) = ((96 * e0 + 16 : Nat) : Int) by rw [w32_i (by omega) (by omega)]; omega, w32_i (by omega) (by omega)]; omega]
  rw [if_pos (by omega), if_pos (by omega)]
  refine am_x_le [some (.inr (.inr 109)), some (.inl ((e0 : Int))), none, some (.inl (((e0 - 1 : Nat) : Int)))] (am_lb_le _ _ ⟨rfl, rfl, rfl, trivial⟩) ?_
  rw [show ((e0 - 1 : Nat) : Int) = (e0 : Int) - 1 by omega]
  refine x_columnLoop (x := x) hW ho hs hN hN16 h4 hx hQ h1 ?_ ?_ ⟨fun c g1 g2 => by rw [up_nc _ _ _ _ g2, fil_nc _ _ _ _ _ g2], fun j hj => ?_⟩
  · intro c hc
    rw [up_ci, fil_at]
    have hm : ∀ a, (a < e0 ∧ mk B x (DG B e0 a) c a (e0 - a)) ↔ (16 ≤ c ∧ c < 32 ∧ a = e0 - 1 ∧ x (e0 - 1) + 16 = c) := by
      intro a
      unfold mk DG
      constructor
      · rintro ⟨g1, ⟨_, r, g2, _⟩ | ⟨g2, g3, g4, g5⟩ | ⟨r, i, _, _, g2, _⟩⟩
        · omega
        · have e : a = e0 - 1 := by omega
          subst e; exact ⟨g2, g3, rfl, g5⟩
        · omega
      · rintro ⟨g1, g2, rfl, g4⟩
        exact ⟨by omega, Or.inr (Or.inl ⟨g1, g2, by omega, g4⟩)⟩
    by_cases q : c = 16 + x (e0 - 1)
    · subst q
      rw [if_pos rfl]
      have := bs_one (k := e0 - 1) (by omega)
      rw [show ((e0 - 1 : Nat) : Int) = (e0 : Int) - 1 by omega] at this
      refine bs_cong this (fun a => ?_)
      rw [hm a]
      constructor
      · intro g; exact ⟨by omega, by omega, g, by omega⟩
      · intro g; exact g.2.2.1
    · rw [if_neg (by omega), if_pos (by omega)]
      refine bs_cong bs_0 (fun a => ?_)
      rw [hm a]
      constructor
      · intro g; exact g.elim
      · rintro ⟨_, _, _, g⟩; omega
  · intro s a g1 g2
    rw [up_nc _ _ _ _ (by decide), fil_nc _ _ _ _ _ (by decide)]
    refine bs_cong (he s a g1 g2) (fun e => ?_)
    constructor
    · rintro ⟨g3, g4, g5⟩; exact ⟨g3, Or.inl ⟨by omega, g5⟩⟩
    · rintro ⟨g3, ⟨g4, g5⟩ | ⟨g4, g5⟩⟩
      · exact ⟨g3, by omega, g5⟩
      · exfalso
        unfold mk DG at g5
        rcases g5 with ⟨_, r, g6, _⟩ | g6 | ⟨r, i, _, _, g6, _⟩
        · omega
        · omega
        · omega
  · rw [up_ni _ _ _ _ (by omega), fil_at, if_neg (by omega)]
theorem bs_mask (hk : k < 16) : bs (w32 (i_shl 2 (k : Int) - 1)) (fun e => e ≤ k) := by
  have e1 : i_shl 2 (k : Int) = ((2 ^ (k + 1) : Nat) : Int) := by
    rw [i_shl_mul (by omega), show (2 : Int) * 2 ^ k = ((2 ^ (k + 1) : Nat) : Int) by rw [Nat.pow_succ]; push_cast; omega, w32_nat]
    exact Nat.lt_of_le_of_lt (Nat.pow_le_pow_right (by decide) (show k + 1 ≤ 16 by omega)) (by decide)
  have hp : 2 ^ (k + 1) ≤ 2 ^ 16 := Nat.pow_le_pow_right (by decide) (by omega)
  have hp2 : 0 < 2 ^ (k + 1) := Nat.two_pow_pos _
  refine ⟨2 ^ (k + 1) - 1, ?_, ?_, fun j => ?_⟩
  · have : (2 : Nat) ^ 16 = 65536 := rfl
    omega
  · rw [e1, w32_i (by omega) (by have : (2 : Nat) ^ 16 = 65536 := rfl; omega)]; omega
  · rw [Nat.testBit_two_pow_sub_one]
    constructor
    · intro h; have := of_decide_eq_true h; omega
    · intro h; exact decide_eq_true (by omega)
theorem x_forget {P : Nat → Nat → Nat → Prop} (hk : k < 16) (h : ∀ s a : Nat, s < 8 → a < 17 → bs (M 110 ((17 * s + a : Nat) : Int)) (P s a)) (hQ : ∀ M', (∀ c, c ≠ 110 → M' c = M c) → (∀ s a : Nat, s < 8 → a < 17 → bs (M' 110 ((17 * s + a : Nat) : Int)) (fun e => P s a e ∧ e ≤ k)) → Q 0 M') : am_s am_P am_gg (d + 1) 4 [.inr (.inr 109), .inl (k : Int)] M Q := by
  refine (v_4_109 _ _ _ _).mpr ?_
  have hm := bs_mask hk
  generalize w32 (i_shl 2 (k : Int) - 1) = mask at hm ⊢
  refine am_x_le [some (.inr (.inr 109)), none, some (.inl (mask)), some (.inl (((0 : Nat) : Int)))] (am_lb_le _ _ ⟨rfl, rfl, rfl, trivial⟩) ?_
  refine p_for (S := (Nat → Int → Int)) (X := fun b M => am_x am_P am_gg d am_k4 0 Q 8 [some (.inr (.inr 109)), none, some (.inl (mask)), some (.inl (b))] [] M 0 0) 136 (fun b M' => (∀ c, c ≠ 110 → M' c = M c) ∧ ∀ s a : Nat, s < 8 → a < 17 → bs (M' 110 ((17 * s + a : Nat) : Int)) (fun e => P s a e ∧ (17 * s + a < b → e ≤ k))) ?_ ?_ 0 M (by omega) ⟨fun _ _ => rfl, fun s a h1 h2 => bs_cong (h s a h1 h2) (fun e => ⟨fun q => ⟨q, fun z => by omega⟩, fun q => q.1⟩)⟩
  · rintro M1 ⟨h1, h2⟩
    refine (h_4_8_109 _ _ _ _ _).mpr ?_
    rw [if_neg (by omega)]
    exact hQ M1 h1 (fun s a g1 g2 => bs_cong (h2 s a g1 g2) (fun e => ⟨fun q => ⟨q.1, q.2 (by omega)⟩, fun q => ⟨q.1, fun _ => q.2⟩⟩))
  · rintro b M1 hb ⟨h1, h2⟩ go
    refine (h_4_8_109 _ _ _ _ _).mpr ?_
    rw [if_pos (by omega), if_pos (by omega), if_pos (by omega), w32_s (by omega)]
    refine go _ ⟨fun c hc => by rw [up_nc _ _ _ _ hc]; exact h1 c hc, fun s a g1 g2 => ?_⟩
    rw [up_ci]
    by_cases q : 17 * s + a = b
    · rw [if_pos (by omega), ← q]
      refine bs_cong (bs_and (h2 s a g1 g2) hm) (fun e => ⟨fun z => ⟨z.1.1, fun _ => z.2⟩, fun z => ⟨⟨z.1, fun w => by omega⟩, z.2 (by omega)⟩⟩)
    · rw [if_neg (by omega)]
      refine bs_cong (h2 s a g1 g2) (fun e => ⟨fun z => ⟨z.1, fun w => z.2 (by omega)⟩, fun z => ⟨z.1, fun w => z.2 (by omega)⟩⟩)
/-- only the letters of the span count, for the own tree too -/
theorem q_fst_cg {f g : Nat → Nat} : ∀ {m k : Nat}, (∀ j, k ≤ j → j < k + m → f j = g j) → q_fst f m k = q_fst g m k
  | 0, k, _ => rfl
  | m + 1, k, h => by
    show (if _ then _ else _) = (if _ then _ else _)
    rw [h k (Nat.le_refl _) (by omega), q_fst_cg (fun j h1 h2 => h j (by omega) (by omega))]
theorem cu_x (h : ∀ j, a ≤ j → j < a + n → x j = y j) : cu B x r i a n = cu B y r i a n := q_fst_cg (fun k h1 h2 => by
  unfold wk
  rw [wT_x (fun j h3 h4 => h j h3 (by omega)), wR_x (fun j h3 h4 => h j (by omega) (by omega))])
theorem ru_x (h : ∀ j, a ≤ j → j < a + n → x j = y j) : ru B x s a n = ru B y s a n := q_fst_cg (fun k h1 h2 => by
  unfold wm
  rw [wR_x h])
theorem y_row_x {u u' : Nat → Nat → Nat → yo} (j : Nat) : ∀ i a n, i + j = gsz B r → (j = 0 ∨ 0 < wR B x r i a n) → (∀ j, a ≤ j → j < a + n → x j = y j) → (∀ s a' n', a ≤ a' → a' + n' ≤ a + n → 0 < wT B x s a' n' → u s a' n' = u' s a' n') → y_row u B x r j a n = y_row u' B y r j a n := by
  induction j with
  | zero => intro i a n _ _ _ _; rfl
  | succ j ih =>
    intro i a n hi hp h hu
    have hp : 0 < wR B x r i a n := by omega
    obtain ⟨c1, c2, c3, c4, c5, c6⟩ := cu_ok (by omega) hp
    rw [y_row_s j u a n (by omega), y_row_s j u' a n (by omega), ← cu_x h, hu _ a _ (Nat.le_refl _) (by omega) c2, ih (i + 1) _ _ (by omega) (Or.inr c3) (fun j h1 h2 => h j (by omega) (by omega)) (fun s a' n' h1 h2 => hu s a' n' (by omega) (by omega))]
theorem yq_T_x (hW : gW B) (f : Nat) : ∀ s a n, n ≤ 24 → 0 < wT B x s a n → (∀ j, a ≤ j → j < a + n → x j = y j) → yq_T B x f s a n = yq_T B y f s a n := by
  induction f with
  | zero => intro s a n _ _ _; rfl
  | succ f ih =>
    intro s a n hn hp h
    show (if _ then _ else _) = (if _ then _ else _)
    by_cases hs : s < 8
    · rw [if_pos hs, if_pos hs, ← ru_x h]
      obtain ⟨c1, c2, c3, c4, c5⟩ := ru_ok hW hs hn hp
      rw [y_row_x (u := yq_T B x f) (u' := yq_T B y f) _ 0 a n (Nat.zero_add _) (Or.inr c4) h (fun s a' n' h1 h2 h3 => ih s a' n' (by omega) h3 (fun j h4 h5 => h j (by omega) (by omega)))]
    · rw [if_neg hs, if_neg hs]
theorem yT_x (hW : gW B) (hn : n ≤ 24) (hp : 0 < wT B x s a n) (h : ∀ j, a ≤ j → j < a + n → x j = y j) : yT B x s a n = yT B y s a n := yq_T_x hW _ _ _ _ hn hp h
end Sa2
