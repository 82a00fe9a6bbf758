/-! the class counts the ways of a span, of a text -/
noncomputable def su (B x : Nat → Nat) (T : Nat → Nat × Nat) (f0 s a n r : Nat) : Nat := if dc (fun r => dS T f0 r 4 ∧ gsy B r = s) r = true then wR B x r 0 a n else 0
noncomputable def sS0 (B x : Nat → Nat) (T : Nat → Nat × Nat) (f0 s a n : Nat) : Nat := q_sm (su B x T f0 s a n) (B 0)
/-- what is counted of a span, so many steps on -/
def zwI (B x : Nat → Nat) (T : Nat → Nat × Nat) (e0 a0 f0 : Nat) (M0 M : (Nat → Int → Int)) : Prop := (∀ c, c ≠ 119 → c ≠ 120 → M c = M0 c) ∧ swI B x e0 (a0 + 1) M ∧ reI B x e0 (a0 + 1) M ∧ (∀ s : Nat, s < 8 → M 119 ((17 * (17 * s + a0) + e0 : Nat) : Int) = ((min (sS0 B x T f0 s a0 (e0 - a0)) wC : Nat) : Int)) ∧ ∀ r i : Nat, dS T f0 r i → gUsd B r → i + 1 < gsz B r → 0 < wR B x r i a0 (e0 - a0) → M 120 ((17 * (4 * r + i) + a0 : Nat) : Int) = (wR B x r i a0 (e0 - a0) : Int)
section Sb1
variable {B x o : Nat → Nat} {a n r i j s k c e f d m N a0 e0 f0 : Nat} {T : Nat → Nat × Nat} {M M0 : (Nat → Int → Int)} {Q : Int → (Nat → Int → Int) → Prop}
theorem su_y (h : dS T f r 4 ∧ gsy B r = s) : su B x T f s a n r = wR B x r 0 a n := by unfold su; rw [if_pos (dc_iff.mpr h)]
theorem su_n (h : ¬ (dS T f r 4 ∧ gsy B r = s)) : su B x T f s a n r = 0 := by unfold su; rw [if_neg (fun q => h (dc_iff.mp q))]
theorem dS_s (r i : Nat) : dS T (f + 1) r i ↔ dS T f r i ∨ T f = (r, i) := by
  constructor
  · rintro ⟨j, hj, e⟩
    by_cases q : j = f
    · subst q; exact Or.inr e
    · exact Or.inl ⟨j, by omega, e⟩
  · rintro (⟨j, hj, e⟩ | e)
    · exact ⟨j, by omega, e⟩
    · exact ⟨f, by omega, e⟩
/-- a step that isn't of a whole row, or of another symbol, adds nothing -/
theorem sS_skip (h : ∀ r, T f = (r, 4) → gsy B r = s → wR B x r 0 a n = 0) : sS0 B x T (f + 1) s a n = sS0 B x T f s a n := by
  unfold sS0
  refine q_sm_cg (fun r hr => ?_)
  by_cases q : dS T f r 4 ∧ gsy B r = s
  · rw [su_y q, su_y ⟨(dS_s r 4).mpr (Or.inl q.1), q.2⟩]
  · rw [su_n q]
    by_cases q2 : dS T (f + 1) r 4 ∧ gsy B r = s
    · rw [su_y q2]
      rcases (dS_s r 4).mp q2.1 with z | z
      · exact absurd ⟨z, q2.2⟩ q
      · exact h r z q2.2
    · rw [su_n q2]
theorem sS_add (hr : r < B 0) (h4 : T f = (r, 4)) (hy : gsy B r = s) (hno : ¬ dS T f r 4) : sS0 B x T (f + 1) s a n = sS0 B x T f s a n + wR B x r 0 a n := by
  unfold sS0
  have e : su B x T (f + 1) s a n r = wR B x r 0 a n := su_y ⟨(dS_s r 4).mpr (Or.inr h4), hy⟩
  rw [← e]
  refine q_sm_one hr (su_n (fun q => hno q.1)) (fun k hk => ?_)
  by_cases q : dS T f k 4 ∧ gsy B k = s
  · rw [su_y q, su_y ⟨(dS_s k 4).mpr (Or.inl q.1), q.2⟩]
  · rw [su_n q, su_n]
    rintro ⟨q2, q3⟩
    rcases (dS_s k 4).mp q2 with z | z
    · exact q ⟨z, q3⟩
    · rw [h4] at z
      exact hk (Prod.mk.inj z).1.symm
theorem sS_full (hW : gW B) (hs8 : s < 8) (hc : gRch B s) (hn : n ≤ 24) (hd : ∀ r i, dS T f r i → dF B r i) (h : ∀ r, gUsd B r → gsy B r = s → dS T f r 4) : min (sS0 B x T f s a n) wC = wT B x s a n := by
  rw [wT_sym hW hs8 hn]
  unfold sS0
  rw [q_sm_cg (f := su B x T f s a n) (g := wm B x s a n)]
  intro r hr
  unfold wm
  by_cases q : dS T f r 4 ∧ gsy B r = s
  · have := (hd r 4 q.1).1
    rw [su_y q, if_pos ⟨this.2.1.1, q.2⟩]
  · rw [su_n q]
    split
    · next z =>
      rcases Nat.eq_zero_or_pos (wR B x r 0 a n) with g | g
      · exact g.symm
      · exact absurd ⟨h r (wR_usd hr z.1 (by rw [z.2]; exact hc) g) z.2, z.2⟩ q
    · rfl
theorem dS_new (hs : stI B o 1024 n T M) (hf : f < n) {t : Nat × Nat} (ht : T f = t) : ¬ dS T f t.1 t.2 := by
  rintro ⟨j, hj, e⟩
  have := hs.2.2.1 j f hj hf
  rw [e, ht] at this
  exact Nat.lt_irrefl _ this
theorem dS_dF (hs : stI B o 1024 n T M) (hf : f ≤ n) (r i : Nat) (h : dS T f r i) : dF B r i := by
  obtain ⟨j, hj, e⟩ := h
  have := (hs.2.1 j (by omega)).1
  rw [e] at this; exact this
theorem dS_bef (hs : stI B o 1024 n T M) (hW : gW B) (ho : oO B o) (hf : f < n) {t : Nat × Nat} (ht : dF B t.1 t.2) (hlt : skey B o t < skey B o (T f)) : dS T f t.1 t.2 := by
  have b1 := dF_lt hW ht
  have b2 := oi_ok ho b1.2.2.2
  have b3 := spl_lt (i := t.2)
  obtain ⟨j, hj, e⟩ := hs.2.2.2 t ht (by unfold skey; omega)
  refine ⟨j, ?_, e⟩
  rcases Nat.lt_trichotomy j f with q | q | q
  · exact q
  · subst q; rw [e] at hlt; omega
  · have := hs.2.2.1 f j q hj
    rw [e] at this; omega
theorem sp_ne {s s' a a' e e' : Nat} (ha : a < 17) (ha' : a' < 17) (he : e < 17) (he' : e' < 17) (h : ¬ (s = s' ∧ a = a' ∧ e = e')) : ((17 * (17 * s + a) + e : Nat) : Int) ≠ ((17 * (17 * s' + a') + e' : Nat) : Int) := by
  intro q
  have q : 17 * (17 * s + a) + e = 17 * (17 * s' + a') + e' := by omega
  have q1 : 17 * s + a = 17 * s' + a' := by omega
  have q2 : s = s' := by omega
  exact h ⟨q2, by omega, by omega⟩
theorem re_ne {r r' i i' a a' : Nat} (ha : a < 17) (ha' : a' < 17) (hi : i < 4) (hi' : i' < 4) (h : ¬ (r = r' ∧ i = i' ∧ a = a')) : ((17 * (4 * r + i) + a : Nat) : Int) ≠ ((17 * (4 * r' + i') + a' : Nat) : Int) := by
  intro q
  have q : 17 * (4 * r + i) + a = 17 * (4 * r' + i') + a' := by omega
  have q1 : 4 * r + i = 4 * r' + i' := by omega
  exact h ⟨by omega, by omega, by omega⟩
/-- the ways of a whole row at a step -/
theorem x_waysRow (hW : gW B) (ho : oO B o) (hs : stI B o 1024 n T M0) (hf : f < n) (ht : T f = (r, 4)) (ha : a0 < e0) (he : e0 ≤ 16) (hp : 0 < wR B x r 0 a0 (e0 - a0)) (hI : zwI B x T e0 a0 f M0 M) (hQ : Q (wR B x r 0 a0 (e0 - a0) : Int) M) : am_s am_P am_gg (d + 2) 165 [.inr (.inr 119), .inl (rwc B r : Int), .inl (a0 : Int), .inl (e0 : Int)] M Q := by
  have hd := (hs.2.1 f hf).1
  rw [ht] at hd
  have hu := hd.1
  have hz := hW.2.2.2.1 r hu.1
  have hn16 := hW.1
  have hr1 := hu.1
  obtain ⟨i1, i2, i3, i4, i5⟩ := hI
  unfold rwc
  by_cases e1 : gsz B r = 1
  · rw [if_pos e1]
    rw [wR_last (by omega) (by omega)] at hp hQ
    refine x_waysSg hW (hz.2.2.2.2 0 (by omega)) ha he hp (fun g8 => ?_) hQ
    rw [i4 _ g8, sS_full hW g8 (usd_sg hu (by omega) g8) (by omega) (dS_dF hs (by omega)) (fun r' h1 h2 => ?_)]
    have q := dS_bef (f := f) (t := (r', 4)) hs hW ho hf ⟨h1, Or.inr rfl⟩ ?_
    · exact q
    · have b1 := dF_lt hW (show dF B r' 4 from ⟨h1, Or.inr rfl⟩)
      have q1 := oi_ok ho b1.2.2.2
      have q2 := oi_ok ho hz.1
      have := ho.2.2.2 _ hu.1 e1 g8 _ _ q1.1 q2.1 (by rw [q1.2]; exact h2) q2.2
      rw [ht]
      unfold skey
      dsimp only
      omega
  · rw [if_neg e1]
    refine x_waysRs (i := 0) (by omega) (by omega) (by omega) (i5 r 0 ?_ hu (by omega) hp) hQ
    refine dS_bef (t := (r, 0)) hs hW ho hf ⟨hu, Or.inl (by dsimp only; omega)⟩ ?_
    rw [ht]
    show (oi o (gsy B r) * 16 + r) * 8 + 3 < (oi o (gsy B r) * 16 + r) * 8 + 4
    omega
theorem zwI_skip (h : zwI B x T e0 a0 f M0 M) (h1 : ∀ r, T f = (r, 4) → wR B x r 0 a0 (e0 - a0) = 0) (h2 : ∀ r i, T f = (r, i) → i + 1 < gsz B r → ¬ 0 < wR B x r i a0 (e0 - a0)) : zwI B x T e0 a0 (f + 1) M0 M := by
  obtain ⟨i1, i2, i3, i4, i5⟩ := h
  refine ⟨i1, i2, i3, fun s hs => ?_, fun r i g1 g2 g3 g4 => ?_⟩
  · rw [sS_skip (fun r q _ => h1 r q)]; exact i4 s hs
  · rcases (dS_s r i).mp g1 with q | q
    · exact i5 r i q g2 g3 g4
    · exact absurd g4 (h2 r i q g3)
theorem zwI_add4 (hr : gUsd B r) (hr8 : gsy B r < 8) (ht : T f = (r, 4)) (hz : gsz B r ≤ 4) (hno : ¬ dS T f r 4) (ha : a0 < e0) (he : e0 ≤ 16) (h : zwI B x T e0 a0 f M0 M) : zwI B x T e0 a0 (f + 1) M0 (am_up M 119 ((17 * (17 * gsy B r + a0) + e0 : Nat) : Int) ((min (sS0 B x T f (gsy B r) a0 (e0 - a0) + wR B x r 0 a0 (e0 - a0)) wC : Nat) : Int)) := by
  obtain ⟨i1, i2, i3, i4, i5⟩ := h
  refine ⟨fun c g1 g2 => by rw [up_nc _ _ _ _ g1]; exact i1 c g1 g2, fun s a e g1 g2 g3 g4 => ?_, fun r' i a g1 g2 g3 g4 g5 => by rw [up_nc _ _ _ _ (by decide)]; exact i3 r' i a g1 g2 g3 g4 g5, fun s hs => ?_, fun r' i g1 g2 g3 g4 => ?_⟩
  · rw [up_ni _ _ _ _ (sp_ne (by omega) (by omega) (by omega) (by omega) (fun q => by omega))]; exact i2 s a e g1 g2 g3 g4
  · rw [up_ci]
    by_cases q : s = gsy B r
    · rw [if_pos (by rw [q]), q, sS_add hr.1 ht rfl hno]
    · rw [if_neg (sp_ne (by omega) (by omega) (by omega) (by omega) (fun z => q z.1)), sS_skip (fun r' z1 z2 => by rw [ht] at z1; exact absurd (by rw [← z2, (Prod.mk.inj z1).1]) q)]; exact i4 s hs
  · rw [up_nc _ _ _ _ (by decide)]
    rcases (dS_s r' i).mp g1 with q | q
    · exact i5 r' i q g2 g3 g4
    · rw [ht] at q
      have := Prod.mk.inj q
      rw [← this.1, ← this.2] at g3
      omega
theorem zwI_addN (hr : gUsd B r) (ht : T f = (r, i)) (hi : i + 1 < gsz B r) (hz : ∀ r, gUsd B r → gsz B r ≤ 4) (ha : a0 < e0) (he : e0 ≤ 16) (h : zwI B x T e0 a0 f M0 M) : zwI B x T e0 a0 (f + 1) M0 (am_up M 120 ((17 * (4 * r + i) + a0 : Nat) : Int) (wR B x r i a0 (e0 - a0) : Int)) := by
  obtain ⟨i1, i2, i3, i4, i5⟩ := h
  have hz4 := hz r hr
  refine ⟨fun c g1 g2 => by rw [up_nc _ _ _ _ g2]; exact i1 c g1 g2, fun s a e g1 g2 g3 g4 => by rw [up_nc _ _ _ _ (by decide)]; exact i2 s a e g1 g2 g3 g4, fun r' i' a g1 g2 g3 g4 g5 => ?_, fun s hs => ?_, fun r' i' g1 g2 g3 g4 => ?_⟩
  · have := hz r' g1
    rw [up_ni _ _ _ _ (re_ne (by omega) (by omega) (by omega) (by omega) (fun q => by omega))]; exact i3 r' i' a g1 g2 g3 g4 g5
  · rw [up_nc _ _ _ _ (by decide), sS_skip (fun r' z1 z2 => ?_)]
    · exact i4 s hs
    · rw [ht] at z1
      have := (Prod.mk.inj z1).2
      omega
  · have := hz r' g2
    rw [up_ci]
    by_cases q : r' = r ∧ i' = i
    · rw [q.1, q.2, if_pos rfl]
    · rw [if_neg (re_ne (by omega) (by omega) (by omega) (by omega) (fun z => q ⟨z.1, z.2.1⟩))]
      rcases (dS_s r' i').mp g1 with z | z
      · exact i5 r' i' z g2 g3 g4
      · rw [ht] at z
        have := Prod.mk.inj z
        exact absurd ⟨this.1.symm, this.2.symm⟩ q
end Sb1
