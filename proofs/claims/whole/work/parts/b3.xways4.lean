/-! the class counts the ways of a text: all its spans -/
def wyF (M M' : (Nat → Int → Int)) : Prop := (∀ c, c ≠ 118 → c ≠ 119 → c ≠ 120 → M' c = M c) ∧ ∀ i : Int, i ≠ 2 → i ≠ 3 → M' 118 i = M 118 i
section Sb3
variable {B x o : Nat → Nat} {a n r i j s k c e f d m N a0 e0 f0 : Nat} {T : Nat → Nat × Nat} {M M0 : (Nat → Int → Int)} {Q : Int → (Nat → Int → Int) → Prop}
theorem x_countSentence (hW : gW B) (hg : xgb B M0 2) (hC : chT B x o N f n T M0) (hQ : ∀ M', (∀ c, c ≠ 119 → c ≠ 120 → M' c = M0 c) → Q (wT B x (B 2) 0 N : Int) M') : am_s am_P am_gg (d + 6) 161 [.inr (.inr 119)] M0 Q := by
  have hf := hC.2.2.2.2.2.1
  have hNf := hC.2.2.2.2.1
  have hN1 := hC.2.2.2.1
  have h4 := hC.2.2.1
  have hb2 := hW.2.2.1
  refine (v_161_119 _ _ _).mpr ?_
  refine p_for (S := (Nat → Int → Int)) (X := fun e M => am_x am_P am_gg (d + 5) am_k161 1 Q 2 [some (.inr (.inr 119)), some (.inl (e)), none] [] M 0 0) (N + 1) (fun e M => 1 ≤ e ∧ (∀ c, c ≠ 119 → c ≠ 120 → M c = M0 c) ∧ swI B x e e M) ?_ ?_ 1 M0 (by omega) ⟨Nat.le_refl _, fun _ _ _ => rfl, fun s a e h1 h2 h3 h4 => by omega⟩
  · rintro M1 ⟨_, h1, h2⟩
    refine (h_161_2_119 _ _ _ _).mpr ?_
    rw [h1 108 (by decide) (by decide), h4, if_pos (by omega), h1 2 (by decide) (by decide), xg_rt hg]
    refine (v_162 _ _ _ _ _ _).mpr ?_
    have q := w_sp (s := B 2) (a := 0) (e := N) hb2 (by omega) (by omega)
    rw [show ((0 : Nat) : Int) = 0 from rfl] at q
    rw [q, if_pos (b_sp hb2 (by omega) (by omega)), h2 (B 2) 0 N hb2 gRch_0 (by omega) (Or.inl (by omega)), Nat.sub_zero]
    exact hQ M1 h1
  · rintro e M1 he ⟨h0, h1, h2⟩ go
    refine (h_161_2_119 _ _ _ _).mpr ?_
    rw [h1 108 (by decide) (by decide), h4, if_neg (by omega), show w32 ((e : Int) - 1) = (e : Int) - 1 by rw [w32_i (by omega) (by omega)]]
    refine p_down (S := (Nat → Int → Int)) (X := fun b M => am_x am_P am_gg (d + 5) am_k161 1 Q 17 [some (.inr (.inr 119)), some (.inl ((e : Int))), some (.inl (b))] [] M 0 0) (fun k M => k ≤ e ∧ (∀ c, c ≠ 119 → c ≠ 120 → M c = M0 c) ∧ swI B x e k M ∧ reI B x e k M) ?_ ?_ e M1 ⟨Nat.le_refl _, h1, h2, fun r i a g1 g2 g3 g4 g5 => by omega⟩
    · rintro M2 ⟨_, g1, g2, g3⟩
      refine (h_161_17_119 _ _ _ _ _).mpr ?_
      rw [if_pos (by decide), w32_s (by omega)]
      refine am_x_le [some (.inr (.inr 119)), some (.inl (((e + 1 : Nat) : Int))), none] (am_lb_le _ _ ⟨rfl, rfl, trivial⟩) ?_
      refine go M2 ⟨by omega, g1, fun s a e' q1 q2 q3 q4 => g2 s a e' q1 q2 q3 (by omega)⟩
    · rintro k M2 ⟨hk, g1, g2, g3⟩ gok
      refine (h_161_17_119 _ _ _ _ _).mpr ?_
      rw [if_neg (by omega)]
      refine x_countSpan (x := x) (o := o) (N := N) (f := f) (n := n) (T := T) hW (chT_w hC (fun c hc => g1 c (by omega) (by omega))) (by omega) (by omega) g2 g3 (fun M3 q1 q2 q3 => ?_)
      rw [show w32 ((k : Int) + (-1)) = (k : Int) - 1 by rw [w32_i (by omega) (by omega)]; omega]
      exact gok M3 ⟨by omega, fun c z1 z2 => (q1 c z1 z2).trans (g1 c z1 z2), q2, q3⟩
theorem x_ways (hW : gW B) (hg : xgb B M 2) (hC : chC B x N M) (hold : M 118 2 = M 108 6 → M 118 3 = (wT B x (B 2) 0 N : Int)) (hQ : ∀ M', wyF M M' → M' 118 2 = M' 108 6 → M' 118 3 = (wT B x (B 2) 0 N : Int) → Q (wT B x (B 2) 0 N : Int) M') : am_s am_P am_gg (d + 7) 160 [.inr (.inr 119)] M Q := by
  refine (v_160_119 _ _ _).mpr ?_
  refine @p_if _ _ _ _ ?_ ?_
  · intro e
    rw [hold e]
    exact hQ M ⟨fun _ _ _ _ => rfl, fun _ _ _ => rfl⟩ e (hold e)
  · intro _
    have hC1 : chC B x N (am_up M 118 2 (M 108 6)) := by
      obtain ⟨h2, o, f, n, T, x', hxx, hT⟩ := hC
      exact ⟨by rw [up_nc _ _ _ _ (by decide), up_nc _ _ _ _ (by decide)]; exact h2, o, f, n, T, x', hxx, chT_w hT (fun c hc => up_nc _ _ _ _ (by omega))⟩
    have hg1 : xgb B (am_up M 118 2 (M 108 6)) 2 := xgb_eq hg (fun c h1 h2 => up_nc _ _ _ _ (by omega))
    refine x_isSentence hW hg1 hC1 (fun hp => ?_) (fun hz => ?_)
    · rw [if_neg (by decide)]
      obtain ⟨h2, o, f, n, T, x', hxx, hT⟩ := hC1
      have e0 : wT B x' (B 2) 0 N = wT B x (B 2) 0 N := wT_x (fun j _ hj => hxx j (by omega))
      refine x_countSentence (x := x') (N := N) hW hg1 hT (fun M2 h3 => ?_)
      rw [e0]
      refine hQ _ ⟨fun c h1 h2 h4 => by rw [up_nc _ _ _ _ h1, h3 c h2 h4, up_nc _ _ _ _ h1], fun i h1 h2 => by rw [up_ni _ _ _ _ h2, h3 118 (by decide) (by decide), up_ni _ _ _ _ h1]⟩ ?_ (up_eq _ _ _ _)
      rw [up_ni _ _ _ _ (by decide), h3 118 (by decide) (by decide), up_eq, up_nc _ _ _ _ (by decide), h3 108 (by decide) (by decide), up_nc _ _ _ _ (by decide)]
    · rw [if_pos rfl]
      rw [hz] at hQ
      refine hQ _ ⟨fun c h1 h2 h4 => by rw [up_nc _ _ _ _ h1, up_nc _ _ _ _ h1], fun i h1 h2 => by rw [up_ni _ _ _ _ h2, up_ni _ _ _ _ h1]⟩ ?_ (up_eq _ _ _ _)
      rw [up_ni _ _ _ _ (by decide), up_eq, up_nc _ _ _ _ (by decide), up_nc _ _ _ _ (by decide)]
end Sb3
