/-! the reference numbers the own tree -/
def kF' (M M' : (Nat → Int → Int)) : Prop := ∀ c, c ≠ 193 → c ≠ 194 → c ≠ 196 → M' c = M c
section S9y
variable {B : Nat → Nat} {x : Nat → Nat} {N r i a n s k d : Nat} {M : (Nat → Int → Int)} {Q : Int → (Nat → Int → Int) → Prop}
theorem kF_rf : kF' M M := fun _ _ _ _ => rfl
theorem kF_tr {M' M'' : (Nat → Int → Int)} (h : kF' M M') (h' : kF' M' M'') : kF' M M'' := fun c h1 h2 h3 => (h' c h1 h2 h3).trans (h c h1 h2 h3)
theorem f196_k {M' : (Nat → Int → Int)} (h : f196 M M') : kF' M M' := fun c _ _ h3 => h c h3
theorem tF_k {M' : (Nat → Int → Int)} (h : tF M M') : kF' M M' := fun c h1 h2 _ => h c h1 h2
theorem wI_t {M' : (Nat → Int → Int)} (h : wI B x N M) (hF : tF M M') : wI B x N M' := by
  unfold wI at h ⊢
  rw [hF 174 (by decide) (by decide), hF 173 (by decide) (by decide), hF 195 (by decide) (by decide), hF 196 (by decide) (by decide)]; exact h
theorem tI_f {M' : (Nat → Int → Int)} (h : tI B M) (hF : f196 M M') : tI B M' := by
  unfold tI mT at h ⊢
  rw [hF 174 (by decide), hF 193 (by decide), hF 194 (by decide)]; exact h
def kTO (B x : Nat → Nat) (N d s a n : Nat) : Prop := ∀ (M : (Nat → Int → Int)) (Q : Int → (Nat → Int → Int) → Prop), wI B x N M → tI B M → (∀ M', wI B x N M' → tI B M' → kF' M M' → Q ((yT B x s a n).2 : Int) M') → am_s am_P am_gg d 332 [.inr (.inr 174), .inl (s : Int), .inl (a : Int), .inl ((a + n : Nat) : Int)] M Q
theorem kTO_mono {d' : Nat} (h : kTO B x N d s a n) (hd : d ≤ d') : kTO B x N d' s a n := fun M Q a b c => am_s_mono hd (h M Q a b c) (fun _ _ q => q)
theorem m_kLet (hs : 16 ≤ s) : kTO B x N (d + 1) s a n := by
  intro M Q hI hT hQ
  refine (v_332_174 _ _ _ _ _ _).mpr ?_
  rw [if_neg (by omega)]
  have q := hQ M hI hT kF_rf
  rw [yT_let (by omega)] at q
  exact q
/-- the trees that come ahead by a sign that makes less -/
theorem m_kcut (hW : gW B) (hr : r < B 0) (hi : i < gsz B r) (hN : N ≤ 16) (hd : 1100 ≤ d) {c : Nat} (hc : c < n) (hn : a + n ≤ N) {b : Nat} {M0 : (Nat → Int → Int)} (hQ : ∀ (M' : (Nat → Int → Int)) (b' : Nat), wI B x N M' → tI B M' → kF' M0 M' → b' = min (b + q_sm (ctm B r i n) c) tG → am_x am_P am_gg d am_k332 2 Q 120 [some (.inr (.inr 174)), none, none, some (.inl (((a + n : Nat) : Int))), some (.inr (.inl (b' : Int))), none, some (.inl ((r : Int))), some (.inl ((a : Int))), some (.inl ((i : Int))), some (.inl (((a + (c + 1) : Nat) : Int))), some (.inl (((c + 1 : Nat) : Int)))] [] M' 0 0) (hb : b ≤ tG) (hI : wI B x N M) (hT : tI B M) (hF : kF' M0 M) : am_x am_P am_gg d am_k332 2 Q 120 [some (.inr (.inr 174)), none, none, some (.inl (((a + n : Nat) : Int))), some (.inr (.inl (b : Int))), none, some (.inl ((r : Int))), some (.inl ((a : Int))), some (.inl ((i : Int))), some (.inl (((a + (c + 1) : Nat) : Int))), some (.inl (((1 : Nat) : Int)))] [] M 0 0 := by
  refine p_for (S := (Nat → Int → Int) × Nat) (X := fun k z => am_x am_P am_gg d am_k332 2 Q 120 [some (.inr (.inr 174)), none, none, some (.inl (((a + n : Nat) : Int))), some (.inr (.inl (z.2 : Int))), none, some (.inl ((r : Int))), some (.inl ((a : Int))), some (.inl ((i : Int))), some (.inl (((a + (c + 1) : Nat) : Int))), some (.inl (k))] [] z.1 0 0) (c + 1) (fun k z => 1 ≤ k ∧ wI B x N z.1 ∧ tI B z.1 ∧ kF' M0 z.1 ∧ z.2 = min (b + q_sm (ctm B r i n) (k - 1)) tG) ?_ ?_ 1 (M, b) (by omega) ⟨Nat.le_refl _, hI, hT, hF, by show b = min (b + 0) tG; omega⟩
  · rintro ⟨M1, g⟩ ⟨_, hI1, hT1, hF1, hg⟩
    exact hQ M1 g hI1 hT1 hF1 hg
  · rintro k ⟨M1, g⟩ hk ⟨hk1, hI1, hT1, hF1, hg⟩ go
    refine (h_332_120_174 _ _ _ _ _ _ _ _ _ _).mpr ?_
    rw [show w32 (((a + (c + 1) : Nat) : Int) - (a : Int)) = ((c + 1 : Nat) : Int) by rw [w32_i (by omega) (by omega)]; omega, show w32 (((a + n : Nat) : Int) - (a : Int)) = (n : Int) by rw [w32_i (by omega) (by omega)]; omega]
    rw [if_pos (by omega)]
    have hg' : g = min (b + q_sm (ctm B r i n) (k - 1)) tG := hg
    have hgl : g ≤ tG := by rw [hg']; exact Nat.min_le_right _ _
    obtain ⟨d, rfl⟩ : ∃ e, d = e + 1 := ⟨d - 1, by omega⟩
    refine m_bothAll hW hr hi (by omega) (by omega) (by omega) hT1 (fun M2 hT2 hF2 => ?_)
    refine m_plus hgl tb_le ?_
    rw [w32_s (by omega)]
    refine go (M2, _) ⟨by omega, wI_t hI1 hF2, hT2, kF_tr hF1 (tF_k hF2), ?_⟩
    obtain ⟨k, rfl⟩ : ∃ j, k = j + 1 := ⟨k - 1, by omega⟩
    dsimp only
    rw [hg', show k + 1 + 1 - 1 = k + 1 by omega, show k + 1 - 1 = k by omega]
    show min (min (b + q_sm (ctm B r i n) k) tG + tb B r i (k + 1) n) tG = min (b + (q_sm (ctm B r i n) k + ctm B r i n k)) tG
    unfold ctm
    omega
theorem m_krow (hW : gW B) (hN : N ≤ 16) (hr : r < B 0) (hd : 1100 ≤ d) {M0 : (Nat → Int → Int)} {e : Nat} : ∀ j i a n (M : (Nat → Int → Int)) (b : Nat), i + j = gsz B r → (j = 0 ∨ 0 < wR B x r i a n ∧ e = a + n) → e ≤ N → (∀ i' a' k, i ≤ i' → i' < gsz B r → (k + 1 < n ∨ k + 1 = n ∧ j = 1) → a' + (k + 1) ≤ N → 0 < wT B x (gsg B r i') a' (k + 1) → kTO B x N d (gsg B r i') a' (k + 1)) → b ≤ tG → wI B x N M → tI B M → kF' M0 M → (∀ M' (b' : Nat), wI B x N M' → tI B M' → kF' M0 M' → b' = min (b + (yR' B x r i a n).2) tG → Q (b' : Int) M') → am_x am_P am_gg d am_k332 2 Q 93 [some (.inr (.inr 174)), none, none, some (.inl ((e : Int))), some (.inr (.inl (b : Int))), none, some (.inl ((r : Int))), some (.inl ((a : Int))), some (.inl ((i : Int))), none, none] [] M 0 0 := by
  obtain ⟨d, rfl⟩ : ∃ e, d = e + 1 := ⟨d - 1, by omega⟩
  have hz := hW.2.2.2.1 r hr
  have hn16 := hW.1
  intro j
  induction j with
  | zero =>
    intro i a n M b hi hx he h hb hI hT hF hQ
    have ei : i = gsz B r := by omega
    subst ei
    refine (h_332_93_174 _ _ _ _ _ _ _ _).mpr (m_size hI.1 (by omega) ?_)
    rw [if_neg (by omega)]
    exact hQ M b hI hT hF (by rw [yR_end]; show b = min (b + 0) tG; omega)
  | succ j ih =>
    intro i a n M b hi hx he h hb hI hT hF hQ
    have hx' : 0 < wR B x r i a n ∧ e = a + n := by omega
    clear hx
    obtain ⟨hx, rfl⟩ := hx'
    obtain ⟨c1, c2, c3, c4, c5, c6⟩ := cu_ok (by omega) hx
    refine (h_332_93_174 _ _ _ _ _ _ _ _).mpr (m_size hI.1 (by omega) ?_)
    rw [if_pos (by omega)]
    refine m_endOf hW hN hr (by omega) he (by omega) hx hI (fun M1 hI1 hF1 => ?_)
    refine m_kcut (M0 := M0) hW hr (by omega) hN hd c1 he (fun M2 b2 hI2 hT2 hF2 hb2 => ?_) hb hI1 (tI_f hT hF1) (kF_tr hF (f196_k hF1))
    refine (h_332_120_174 _ _ _ _ _ _ _ _ _ _).mpr ?_
    rw [show w32 (((a + (cu B x r i a n + 1) : Nat) : Int) - (a : Int)) = ((cu B x r i a n + 1 : Nat) : Int) by rw [w32_i (by omega) (by omega)]; omega]
    rw [if_neg (by omega)]
    refine m_sign hI2.1 (by omega) (by omega) ?_
    refine h i a (cu B x r i a n) (Nat.le_refl _) (by omega) (by omega) (by omega) c2 M2 _ hI2 hT2 (fun M3 hI3 hT3 hF3 => ?_)
    rw [w32_s (by omega), show w32 (((a + n : Nat) : Int) - ((a + (cu B x r i a n + 1) : Nat) : Int)) = ((n - (cu B x r i a n + 1) : Nat) : Int) by rw [w32_i (by omega) (by omega)]; omega]
    refine rRO_mono (m_rows hW hr (by omega) (by omega)) (by omega) _ _ hT3 (fun M4 hT4 hF4 => ?_)
    have hy : (yT B x (gsg B r i) a (cu B x r i a n + 1)).2 ≤ tG := yT_le hW (by have := hz.2.2.2.2 i (by omega); omega) (by omega) c2
    refine m_times hy tR_le ?_
    have hb2l : b2 ≤ tG := by rw [hb2]; exact Nat.min_le_right _ _
    refine m_plus hb2l (Nat.min_le_right _ _) ?_
    refine am_x_le [some (.inr (.inr 174)), none, none, some (.inl (((a + n : Nat) : Int))), some (.inr (.inl ((min (b2 + min ((yT B x (gsg B r i) a (cu B x r i a n + 1)).2 * tR B r (i + 1) (n - (cu B x r i a n + 1))) tG) tG : Nat) : Int))), none, some (.inl ((r : Int))), some (.inl (((a + (cu B x r i a n + 1) : Nat) : Int))), some (.inl (((i + 1 : Nat) : Int))), none, none] (am_lb_le _ _ ⟨rfl, rfl, rfl, rfl, rfl, rfl, trivial⟩) ?_
    refine ih (i + 1) (a + (cu B x r i a n + 1)) (n - (cu B x r i a n + 1)) M4 _ (by omega) (Or.inr ⟨c3, by omega⟩) he (fun i' a' k a1 a2 a3 a4 a5 => h i' a' k (by omega) a2 (by omega) a4 a5) (Nat.min_le_right _ _) (wI_t hI3 hF4) hT4 (kF_tr hF2 (kF_tr hF3 (tF_k hF4))) (fun M5 b5 hI5 hT5 hF5 hb5 => hQ M5 b5 hI5 hT5 hF5 ?_)
    have hst := yR_step (B := B) (x := x) (r := r) (i := i) (a := a) (n := n) (by omega)
    rw [hst, hb5, hb2]
    dsimp only
    clear hst hb5 hb2 hb2l hy hQ h ih
    generalize (yR' B x r (i + 1) (a + (cu B x r i a n + 1)) (n - (cu B x r i a n + 1))).2 = p2
    generalize q_sm (ctm B r i n) (cu B x r i a n) = p3
    generalize min ((yT B x (gsg B r i) a (cu B x r i a n + 1)).2 * tR B r (i + 1) (n - (cu B x r i a n + 1))) tG = p
    omega
theorem m_kSym (hW : gW B) (hN : N ≤ 16) (hs : s < 8) (hn : a + n ≤ N) (hd : 1100 ≤ d) (h0 : 0 < wT B x s a n) (h : ∀ r i' a' k, r < B 0 → gsy B r = s → i' < gsz B r → (k + 1 < n ∨ k + 1 = n ∧ gsz B r = 1) → a' + (k + 1) ≤ N → 0 < wT B x (gsg B r i') a' (k + 1) → kTO B x N d (gsg B r i') a' (k + 1)) : kTO B x N (d + 1) s a n := by
  intro M Q hI hT hQ
  obtain ⟨c1, c2, c3, c4, c5⟩ := ru_ok hW hs (by omega) h0
  have hn16 := hW.1
  have hn1 : 1 ≤ n := by
    rcases Nat.eq_zero_or_pos n with q | q
    · subst q; rw [wT_nil hW] at h0; omega
    · exact q
  obtain ⟨d, rfl⟩ : ∃ e, d = e + 2 := ⟨d - 2, by omega⟩
  refine (v_332_174 _ _ _ _ _ _).mpr ?_
  rw [if_pos (by omega)]
  refine p_for (S := (Nat → Int → Int) × Nat) (X := fun f z => am_x am_P am_gg (d + 2) am_k332 2 Q 14 [some (.inr (.inr 174)), some (.inl ((s : Int))), some (.inl ((a : Int))), some (.inl (((a + n : Nat) : Int))), some (.inr (.inl (z.2 : Int))), none, some (.inl (f)), none, none, none, none] [] z.1 0 0) (ru B x s a n) (fun f z => wI B x N z.1 ∧ tI B z.1 ∧ kF' M z.1 ∧ z.2 = min (q_sm (tm B s n) f) tG) ?_ ?_ 0 (M, 0) (by omega) ⟨hI, hT, kF_rf, rfl⟩
  · rintro ⟨M1, g⟩ ⟨hI1, hT1, hF1, hg⟩
    have hg' : g = min (q_sm (tm B s n) (ru B x s a n)) tG := hg
    refine (h_332_14_174 _ _ _ _ _ _ _ _).mpr (m_isOn hI1.1 hW.on (by omega) ?_ (fun q => by rw [c2] at q; cases q))
    intro _
    rw [if_neg (by omega)]
    refine m_sym hI1.1 (by omega) ?_
    rw [c3, if_pos rfl]
    refine rXO_mono (m_wRows (i := 0) hW hN c1 (by have := (hW.2.2.2.1 _ c1).2.1; omega) hn1 hn) (by omega) _ _ hI1 (fun M2 hI2 hF2 => ?_)
    rw [if_neg (by omega)]
    dsimp only
    refine am_x_le [some (.inr (.inr 174)), none, none, some (.inl (((a + n : Nat) : Int))), some (.inr (.inl (g : Int))), none, some (.inl ((ru B x s a n : Int))), some (.inl ((a : Int))), some (.inl (((0 : Nat) : Int))), none, none] (am_lb_le _ _ ⟨rfl, rfl, rfl, rfl, rfl, rfl, trivial⟩) ?_
    refine m_krow (M0 := M) hW hN c1 hd _ 0 a n _ g (Nat.zero_add _) (Or.inr ⟨c4, rfl⟩) hn (fun i' a' k a1 a2 a3 a4 a5 => h _ i' a' k c1 c3 a2 a3 a4 a5) (by rw [hg']; exact Nat.min_le_right _ _) hI2 (tI_f hT1 hF2) (kF_tr hF1 (f196_k hF2)) (fun M3 b3 hI3 hT3 hF3 hb3 => ?_)
    have q := hQ M3 hI3 hT3 hF3
    have e : b3 = (yT B x s a n).2 := by
      rw [yT_sym hW hs (by omega) h0, hb3, hg']
      dsimp only
      omega
    rw [e]; exact q
  · rintro f ⟨M1, g⟩ hf ⟨hI1, hT1, hF1, hg⟩ go
    have hf0 := c5 f hf
    have hg' : g = min (q_sm (tm B s n) f) tG := hg
    have hgl : g ≤ tG := by rw [hg']; exact Nat.min_le_right _ _
    have es : q_sm (tm B s n) (f + 1) = q_sm (tm B s n) f + tm B s n f := rfl
    have skip : ∀ M2 : (Nat → Int → Int), wI B x N M2 → tI B M2 → kF' M M2 → ¬ (gon B f = true ∧ gsy B f = s) → am_x am_P am_gg (d + 2) am_k332 2 Q 14 [some (.inr (.inr 174)), some (.inl ((s : Int))), some (.inl ((a : Int))), some (.inl (((a + n : Nat) : Int))), some (.inr (.inl (g : Int))), none, some (.inl (w32 ((f : Int) + 1))), none, none, none, none] [] M2 0 0 := by
      intro M2 hI2 hT2 hF2 hno
      rw [w32_s (by omega)]
      refine go (M2, g) ⟨hI2, hT2, hF2, ?_⟩
      dsimp only
      rw [es, hg']
      unfold tm
      rw [if_neg hno]; rfl
    have wR32 : w32 (((a + n : Nat) : Int) - (a : Int)) = (n : Int) := by rw [w32_i (by omega) (by omega)]; omega
    have hsz := (hW.2.2.2.1 f (by omega)).2.1
    have add : ∀ M2 : (Nat → Int → Int), wI B x N M2 → tI B M2 → kF' M M2 → gon B f = true → gsy B f = s → am_s am_P am_gg (d + 2) 325 [.inr (.inr 174), .inl (f : Int), .inl 0, .inl (w32 (((a + n : Nat) : Int) - (a : Int)))] M2 (fun r4 M4 => am_s am_P am_gg (d + 2) 322 [.inr (.inl (g : Int)), .inr (.inl r4)] M4 (fun r5 M5 => am_x am_P am_gg (d + 2) am_k332 2 Q 14 [some (.inr (.inr 174)), some (.inl ((s : Int))), some (.inl ((a : Int))), some (.inl (((a + n : Nat) : Int))), some (.inr (.inl r5)), none, some (.inl (w32 ((f : Int) + 1))), none, none, none, none] [] M5 0 0)) := by
      intro M2 hI2 hT2 hF2 ho hy
      rw [wR32]
      refine rRO_mono (m_rows (i := 0) hW (by omega) (by omega) (by omega)) (by omega) _ _ hT2 (fun M4 hT4 hF4 => ?_)
      refine m_plus hgl tR_le ?_
      rw [w32_s (by omega)]
      refine go (M4, _) ⟨wI_t hI2 hF4, hT4, kF_tr hF2 (tF_k hF4), ?_⟩
      dsimp only
      rw [es, hg']
      unfold tm
      rw [if_pos ⟨ho, hy⟩]
      exact q_cap _ _ _
    refine (h_332_14_174 _ _ _ _ _ _ _ _).mpr (m_isOn hI1.1 hW.on (by omega) ?_ ?_)
    · intro ho
      rw [if_neg (by omega)]
      refine m_sym hI1.1 (by omega) ?_
      refine @p_if _ _ _ _ ?_ ?_
      · intro e
        have e : gsy B f = s := by omega
        refine rXO_mono (m_wRows (i := 0) hW hN (by omega) (by omega) hn1 hn) (by omega) _ _ hI1 (fun M2 hI2 hF2 => ?_)
        unfold wm at hf0
        rw [if_pos ⟨ho, e⟩] at hf0
        rw [hf0]
        rw [if_pos (by omega)]
        refine m_isOn hI2.1 hW.on (by omega) ?_ (fun q => by rw [ho] at q; cases q)
        intro _
        rw [if_neg (by omega)]
        refine m_sym hI2.1 (by omega) ?_
        rw [if_pos (by omega)]
        exact add M2 hI2 (tI_f hT1 hF2) (kF_tr hF1 (f196_k hF2)) ho e
      · intro e
        refine m_isOn hI1.1 hW.on (by omega) ?_ (fun q => by rw [ho] at q; cases q)
        intro _
        rw [if_neg (by omega)]
        refine m_sym hI1.1 (by omega) ?_
        rw [if_neg e]
        exact skip M1 hI1 hT1 hF1 (fun q => e (by omega))
    · intro ho
      rw [if_pos (by omega)]
      refine m_isOn hI1.1 hW.on (by omega) (fun q => by rw [ho] at q; cases q) ?_
      intro _
      rw [if_pos (by omega)]
      exact skip M1 hI1 hT1 hF1 (fun q => by rw [ho] at q; exact absurd q.1 (by decide))
theorem m_rank0 (hW : gW B) (hN : N ≤ 16) {pos : Nat → Nat} (hp : ∀ s, pos s < 8) (hu : ∀ r, r < B 0 → gsz B r = 1 → gsg B r 0 < 8 → pos (gsg B r 0) < pos (gsy B r)) (K : Nat) : ∀ s a n, 8 * n + pos s + 1 ≤ K → s < 8 → a + n ≤ N → 0 < wT B x s a n → kTO B x N (1100 + K) s a n := by
  induction K with
  | zero => intro s a n h; omega
  | succ K ih =>
    intro s a n hK hs hn h0
    rw [show 1100 + (K + 1) = 1100 + K + 1 by omega]
    refine m_kSym hW hN hs hn (by omega) h0 (fun r i' a' k b1 b2 b3 b4 b5 b6 => ?_)
    by_cases b7 : gsg B r i' < 8
    · refine ih _ _ _ ?_ b7 b5 b6
      have := hp (gsg B r i')
      rcases b4 with b4 | ⟨b4, b8⟩
      · omega
      · have e : i' = 0 := by omega
        subst e
        have := hu r b1 b8 b7
        rw [b2] at this
        omega
    · have := (hW.2.2.2.1 r b1).2.2.2.2 i' b3
      exact kTO_mono (m_kLet (d := 0) (by omega)) (by omega)
theorem m_rank (hW : gW B) (hN : N ≤ 16) (hs : s < 8) (hn : a + n ≤ N) (h0 : 0 < wT B x s a n) : kTO B x N 1300 s a n := by
  obtain ⟨pos, hp, hu⟩ := hW.2.2.2.2
  have := hp s
  exact kTO_mono (m_rank0 hW hN hp hu 150 s a n (by omega) hs hn h0) (by omega)
end S9y
