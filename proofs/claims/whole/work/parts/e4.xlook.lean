/-! how the class looks at the end of a text -/
/-- symbols put in order so far -/
def ordI (D : Nat → Nat) (f : Int → Int) (a : Nat) (P : Nat → Prop) (o : Nat → Nat) : Prop := a = cnt (dc P) 8 ∧ (∀ s, P s → s < 8) ∧ (∀ i : Nat, i < a → f (i : Int) = (o i : Int) ∧ o i < 8 ∧ P (o i)) ∧ (∀ s, P s → ∃ i, i < a ∧ o i = s) ∧ (∀ i j, i < a → j < a → o i = o j → i = j) ∧ ∀ i, i < a → ∀ v, edg D (o i) v → ∃ j, j < i ∧ o j = v
section Se4
variable {M : (Nat → Int → Int)} {d : Nat} {Q : Int → (Nat → Int → Int) → Prop} {D : Nat → Nat} {w o t : Nat} {P : Nat → Prop} {ο : Nat → Nat} {a : Nat} {f : Int → Int}
theorem ordI_0 : ordI D f 0 (fun _ => False) (fun _ => 0) := ⟨(cnt_zero (fun k _ => dc_f id)).symm, fun _ z => z.elim, fun i h => absurd h (Nat.not_lt_zero i), fun _ z => z.elim, fun i j h => absurd h (Nat.not_lt_zero i), fun i h => absurd h (Nat.not_lt_zero i)⟩
theorem ordI_lt (h : ordI D f a P ο) {e : Nat} (he : e < 8) (hP : ¬ P e) : a < 8 := by
  have h1 := cnt_ins he hP
  have h2 := cnt_le (p := dc (fun m => P m ∨ m = e)) 8
  have := h.1
  omega
theorem ordI_s (h : ordI D f a P ο) {e : Nat} (he : e < 8) (hP : ¬ P e) (ha : ∀ v, edg D e v → P v) {f' : Int → Int} (hf : ∀ j : Int, f' j = if j = (a : Int) then (e : Int) else f j) : ordI D f' (a + 1) (fun s => P s ∨ s = e) (fun i => if i = a then e else ο i) := by
  obtain ⟨h1, h2, h3, h4, h5, h6⟩ := h
  refine ⟨by rw [cnt_ins he hP, h1], fun s z => z.elim (h2 s) (fun q => by omega), fun i hi => ?_, fun s z => ?_, fun i j hi hj z => ?_, fun i hi v z => ?_⟩
  · rw [hf]
    dsimp only
    by_cases q : i = a
    · rw [if_pos q, if_pos (by omega)]; exact ⟨rfl, he, Or.inr rfl⟩
    · rw [if_neg q, if_neg (by omega)]
      obtain ⟨k1, k2, k3⟩ := h3 i (by omega)
      exact ⟨k1, k2, Or.inl k3⟩
  · rcases z with z | z
    · obtain ⟨i, k1, k2⟩ := h4 s z
      exact ⟨i, by omega, by dsimp only; rw [if_neg (by omega)]; exact k2⟩
    · exact ⟨a, by omega, by dsimp only; rw [if_pos rfl]; exact z.symm⟩
  · dsimp only at z
    by_cases q : i = a
    · by_cases q' : j = a
      · omega
      · rw [if_pos q, if_neg q'] at z
        exact absurd (by rw [z]; exact (h3 j (by omega)).2.2) hP
    · by_cases q' : j = a
      · rw [if_neg q, if_pos q'] at z
        exact absurd (by rw [← z]; exact (h3 i (by omega)).2.2) hP
      · rw [if_neg q, if_neg q'] at z
        exact h5 i j (by omega) (by omega) z
  · dsimp only at z ⊢
    by_cases q : i = a
    · rw [if_pos q] at z
      obtain ⟨j, k1, k2⟩ := h4 v (ha v z)
      exact ⟨j, by omega, by rw [if_neg (by omega)]; exact k2⟩
    · rw [if_neg q] at z
      obtain ⟨j, k1, k2⟩ := h6 i (by omega) v z
      exact ⟨j, k1, by rw [if_neg (by omega)]; exact k2⟩
theorem ordI_all (h : ordI D f 8 P ο) {s : Nat} (hs : s < 8) : P s := by
  refine Classical.byContradiction (fun z => ?_)
  have := ordI_lt h hs z
  omega
theorem ordI_xo (h : ordI D f 8 P ο) : xo D f := by
  have hall := fun s (hs : s < 8) => ordI_all h hs
  obtain ⟨h1, h2, h3, h4, h5, h6⟩ := h
  refine ⟨ο, fun i hi => ⟨(h3 i hi).1, (h3 i hi).2.1⟩, fun s hs => h4 s (hall s hs), h5, fun r hr hz hg i j hi hj e1 e2 => ?_⟩
  obtain ⟨j', k1, k2⟩ := h6 j hj (gsg D r 0) ⟨r, hr, hz, hg, e2.symm, rfl⟩
  have := h5 i j' hi (by omega) (by rw [e1, k2])
  omega
theorem xo_nrg (hU : rdU D) (h : xo D f) : nrg D := by
  obtain ⟨ο, h1, h2, h3, h4⟩ := h
  refine ⟨fun s => if hs : s < 8 then (h2 s hs).choose else 0, fun s => ?_, fun r hr hz hg => ?_⟩
  · by_cases q : s < 8
    · dsimp only; rw [dif_pos q]; exact (h2 s q).choose_spec.1
    · dsimp only; rw [dif_neg q]; omega
  · have hy := (hU.2 r hr).1
    dsimp only
    rw [dif_pos hg, dif_pos hy]
    exact h4 r hr hz hg _ _ (h2 _ hg).choose_spec.1 (h2 _ hy).choose_spec.1 (h2 _ hg).choose_spec.2 (h2 _ hy).choose_spec.2
theorem x_symIn2 (h : rdx w o t D M) (hU : rdU D) {r : Nat} (hr : r < D 0) (hQ : ∀ v, bs v (gIn D r) → Q v M) : am_s am_P am_gg (d + 2) 70 [.inr (.inr 11), .inl (r : Int)] M Q := by
  have hn := hU.1
  obtain ⟨-, hz, hz4, -, hs⟩ := hU.2 r hr
  obtain ⟨-, b2, -, b4⟩ := h.2.2.2.2.2.2 r hr
  clear h
  refine (v_70_11 _ _ _ _).mpr ?_
  refine p_for (S := Int) (X := fun i x => am_x am_P am_gg (d + 1) am_k70 1 Q 4 [some (.inr (.inr 11)), some (.inl ((r : Int))), some (.inl (x)), some (.inl (i)), none] [] M 0 0) (gsz D r) (fun c x => bs x (fun s => s < 8 ∧ ∃ i, i < c ∧ gsg D r i = s)) ?_ ?_ 0 0 (by omega) (bs_cong bs_0 (fun j => ⟨fun z => z.elim, fun ⟨_, i, h, _⟩ => absurd h (Nat.not_lt_zero i)⟩))
  · intro x hx
    refine (h_70_4_11 _ _ _ _ _ _).mpr ?_
    rw [b2]
    rw [if_pos (by omega)]
    rw [if_neg (by omega)]
    exact hQ x hx
  · intro c x hc hx k
    refine (h_70_4_11 _ _ _ _ _ _).mpr ?_
    rw [b2]
    rw [if_pos (by omega)]
    rw [if_pos (by omega)]
    refine (v_65_11 _ _ _ _ _).mpr ?_
    rw [show w32 (w32 ((r : Int) * 4) + (c : Int)) = ((4 * r + c : Nat) : Int) by rw [w32_i (x := (r : Int) * 4) (by omega) (by omega), w32_i (by omega) (by omega)]; omega]
    rw [if_pos (by omega)]
    rw [b4 c hc, w32_s (by omega)]
    have hsc := hs c hc
    refine @p_if _ _ _ _ ?_ ?_
    · intro h8
      refine am_x_le [some (.inr (.inr 11)), some (.inl ((r : Int))), some (.inl (i_or x (i_shl 1 (gsg D r c : Int)))), some (.inl (((c + 1 : Nat) : Int))), none] (am_lb_le _ _ ⟨rfl, rfl, rfl, rfl, trivial⟩) ?_
      refine k _ (bs_cong (bs_add hx (by omega)) (fun j => ⟨?_, ?_⟩))
      · rintro (⟨a, i, b, e⟩ | e)
        · exact ⟨a, i, by omega, e⟩
        · exact ⟨by omega, c, by omega, e.symm⟩
      · rintro ⟨a, i, b, e⟩
        by_cases q : i = c
        · subst q; exact Or.inr e.symm
        · exact Or.inl ⟨a, i, by omega, e⟩
    · intro h8
      rw [bs_or0 hx]
      refine am_x_le [some (.inr (.inr 11)), some (.inl ((r : Int))), some (.inl (x)), some (.inl (((c + 1 : Nat) : Int))), none] (am_lb_le _ _ ⟨rfl, rfl, rfl, rfl, trivial⟩) ?_
      refine k _ (bs_cong hx (fun j => and_congr_right (fun hj => ⟨fun ⟨i, b, e⟩ => ⟨i, by omega, e⟩, fun ⟨i, b, e⟩ => ⟨i, ?_, e⟩⟩)))
      by_cases q : i = c
      · subst q; omega
      · omega
/-- the symbols that are alone in a row of one -/
theorem x_alone (h : rdx w o t D M) (hU : rdU D) {e : Nat} (hQ : ∀ v, bs v (edg D e) → Q v M) : am_s am_P am_gg (d + 3) 72 [.inr (.inr 11), .inl (e : Int)] M Q := by
  have hn := hU.1
  have h1 : M 10 1 = (D 0 : Int) := h.2.2.1
  refine (v_72_11 _ _ _ _).mpr ?_
  refine p_for (S := Int) (X := fun c x => am_x am_P am_gg (d + 2) am_k72 1 Q 4 [some (.inr (.inr 11)), some (.inl ((e : Int))), some (.inl (x)), some (.inl (c))] [] M 0 0) (D 0) (fun c x => bs x (fun v => ∃ r, r < c ∧ gsz D r = 1 ∧ gsg D r 0 < 8 ∧ gsy D r = e ∧ gsg D r 0 = v)) ?_ ?_ 0 0 (Nat.zero_le _) (bs_cong bs_0 (fun j => ⟨fun z => z.elim, fun ⟨i, h, _⟩ => absurd h (Nat.not_lt_zero i)⟩))
  · intro x hx
    refine (h_72_4_11 _ _ _ _ _ _).mpr ?_
    rw [h1, if_neg (Int.lt_irrefl _)]
    exact hQ x hx
  · intro c x hc hx go
    obtain ⟨b1, b2, -, -⟩ := h.2.2.2.2.2.2 c hc
    refine (h_72_4_11 _ _ _ _ _ _).mpr ?_
    rw [h1, if_pos (by omega), if_pos (by omega), b1, w32_s (by omega)]
    have skip : (¬ (gsz D c = 1 ∧ gsy D c = e)) → am_x am_P am_gg (d + 2) am_k72 1 Q 4 [some (.inr (.inr 11)), some (.inl ((e : Int))), some (.inl (x)), some (.inl (((c + 1 : Nat) : Int)))] [] M 0 0 := by
      intro z
      refine go x (bs_cong hx (fun v => ⟨fun ⟨r', k1, k2⟩ => ⟨r', by omega, k2⟩, fun ⟨r', k1, k2, k3, k4, k5⟩ => ⟨r', ?_, k2, k3, k4, k5⟩⟩))
      by_cases q : r' = c
      · subst q; exact absurd ⟨k2, k4⟩ z
      · omega
    by_cases q1 : gsy D c = e
    · rw [if_pos (by omega), if_pos (by omega), b2]
      by_cases q2 : gsz D c = 1
      · rw [if_pos (by omega)]
        refine x_symIn2 h hU hc (fun v hv => go _ (bs_cong (bs_or hx hv) (fun j => ⟨?_, ?_⟩)))
        · rintro (⟨r', k1, k2⟩ | ⟨k1, i, k2, k3⟩)
          · exact ⟨r', by omega, k2⟩
          · have : i = 0 := by omega
            subst this
            exact ⟨c, by omega, q2, by omega, q1, k3⟩
        · rintro ⟨r', k1, k2, k3, k4, k5⟩
          by_cases q : r' = c
          · subst q; exact Or.inr ⟨by omega, 0, by omega, k5⟩
          · exact Or.inl ⟨r', by omega, k2, k3, k4, k5⟩
      · rw [if_neg (by omega)]
        exact skip (fun z => q2 z.1)
    · rw [if_neg (by omega)]
      exact skip (fun z => q1 z.2)
theorem rdx_15 {M' : (Nat → Int → Int)} (h : rdx w o t D M) (e : ∀ c, c ≠ 15 → M' c = M c) : rdx w o t D M' := by
  unfold rdx at h ⊢
  rw [e 9 (by decide), e 10 (by decide), e 11 (by decide), e 12 (by decide), e 13 (by decide), e 14 (by decide)]; exact h
/-- a round over all symbols -/
theorem x_round (h : rdx w o t D M) (hU : rdU D) {c : Nat} (hc : c < 8) {M0 : (Nat → Int → Int)} (hF : ∀ c, c ≠ 15 → M0 c = M c) {b : Int} (hb : bs b P) (hO : ordI D (M0 15) a P ο) (hp : ∀ pos, pok D pos → ∀ s, s < 8 → pos s < c → P s) (hQ : ∀ (a' : Nat) b' P' ο' M', bs b' P' → ordI D (M' 15) a' P' ο' → (∀ pos, pok D pos → ∀ s, s < 8 → pos s < c + 1 → P' s) → (∀ c, c ≠ 15 → M' c = M c) → am_x am_P am_gg (d + 3) am_k71 4 Q 6 [some (.inr (.inr 11)), some (.inl ((a' : Int))), some (.inl b'), some (.inl (((c + 1 : Nat) : Int))), none] [] M' 0 0) : am_x am_P am_gg (d + 3) am_k71 4 Q 21 [some (.inr (.inr 11)), some (.inl ((a : Int))), some (.inl b), some (.inl ((c : Int))), some (.inl (0))] [] M0 0 0 := by
  refine p_for (S := (Nat × Int) × (Nat → Int → Int)) (X := fun e x => am_x am_P am_gg (d + 3) am_k71 4 Q 21 [some (.inr (.inr 11)), some (.inl ((x.1.1 : Int))), some (.inl x.1.2), some (.inl ((c : Int))), some (.inl e)] [] x.2 0 0) 8 (fun e x => ∃ P ο, bs x.1.2 P ∧ ordI D (x.2 15) x.1.1 P ο ∧ (∀ pos, pok D pos → ∀ s, s < 8 → pos s < c → P s) ∧ (∀ pos, pok D pos → ∀ s, s < e → pos s < c + 1 → P s) ∧ ∀ c, c ≠ 15 → x.2 c = M c) ?_ ?_ 0 ((a, b), M0) (by decide) ⟨P, ο, hb, hO, hp, fun _ _ s hs => absurd hs (Nat.not_lt_zero s), hF⟩
  · rintro ⟨⟨a, b⟩, M1⟩ ⟨P, ο, g1, g2, g3, g4, g5⟩
    refine (h_71_21_11 _ _ _ _ _ _ _).mpr ?_
    rw [if_neg (by decide), w32_s (by omega)]
    refine am_x_le [some (.inr (.inr 11)), some (.inl ((a : Int))), some (.inl b), some (.inl (((c + 1 : Nat) : Int))), none] (am_lb_le _ _ ⟨rfl, rfl, rfl, rfl, trivial⟩) ?_
    exact hQ a b P ο M1 g1 g2 g4 g5
  · rintro e ⟨⟨a, b⟩, M1⟩ he ⟨P, ο, g1, g2, g3, g4, g5⟩ go
    dsimp only at g1 g2 g5 ⊢
    refine (h_71_21_11 _ _ _ _ _ _ _).mpr ?_
    rw [if_pos (by omega), show w32 ((e : Int) + 1) = ((e + 1 : Nat) : Int) from w32_s (by omega)]
    refine p_bit g1 (by omega) (fun q => ?_) (fun q => ?_)
    · refine x_alone (rdx_15 h g5) hU (fun v hv => ?_)
      have hs := bs_z (bs_sub hv g1)
      by_cases z : i_and v (i_xor b (-1)) = 0
      · have ha : ∀ v, edg D e v → P v := fun u hu => Classical.byContradiction (fun k => hs.mp z u ⟨hu, k⟩)
        have ha8 := ordI_lt g2 he q
        rw [if_pos z, if_pos (by omega), w32_s (by omega)]
        refine go ((a + 1, i_or b (i_shl 1 (e : Int))), am_up M1 15 (a : Int) (e : Int)) ⟨_, _, bs_add g1 (by omega), ordI_s g2 he q ha (show ∀ j : Int, am_up M1 15 (a : Int) (e : Int) 15 j = if j = (a : Int) then (e : Int) else M1 15 j from fun j => up_ci _ _ _ _ _), fun pos hp s hs' k => Or.inl (g3 pos hp s hs' k), fun pos hp s hs' k => ?_, fun c hc => ?_⟩
        · by_cases q' : s = e
          · exact Or.inr q'
          · exact Or.inl (g4 pos hp s (by omega) k)
        · dsimp only; rw [up_nc _ _ _ _ hc]; exact g5 c hc
      · rw [if_neg z]
        refine go ((a, b), M1) ⟨P, ο, g1, g2, g3, fun pos hp s hs' k => ?_, g5⟩
        by_cases q' : s = e
        · subst q'
          refine absurd (hs.mpr (fun u hu => hu.2 (g3 pos hp u (edg_8 hu.1) ?_))) z
          have := pok_e hp hu.1
          omega
        · exact g4 pos hp s (by omega) k
    · refine go ((a, b), M1) ⟨P, ο, g1, g2, g3, fun pos hp s hs' k => ?_, g5⟩
      by_cases q' : s = e
      · subst q'; exact q
      · exact g4 pos hp s (by omega) k
theorem x_order (h : rdx w o t D M) (hU : rdU D) (h1 : ∀ M', (∀ c, c ≠ 15 → M' c = M c) → xo D (M' 15) → Q 1 M') (h0 : ∀ M', (∀ c, c ≠ 15 → M' c = M c) → ¬ nrg D → Q 0 M') : am_s am_P am_gg (d + 4) 71 [.inr (.inr 11)] M Q := by
  refine (v_71_11 _ _ _).mpr ?_
  have fin : ∀ (a : Nat) P ο (M' : (Nat → Int → Int)), ordI D (M' 15) a P ο → (∀ c, c ≠ 15 → M' c = M c) → ((∀ pos, pok D pos → ∀ s, s < 8 → P s) ∨ ¬ a < 8) → (if (a : Int) = 8 then Q 1 M' else Q 0 M') := by
    intro a P ο M' g1 g2 g3
    by_cases q : a = 8
    · subst q
      rw [if_pos (show ((8 : Nat) : Int) = 8 from rfl)]
      exact h1 M' g2 (ordI_xo g1)
    · rw [if_neg (by omega)]
      refine h0 M' g2 (fun ⟨pos, hp⟩ => ?_)
      have h8 := cnt_le (p := dc P) 8
      have := g1.1
      rcases g3 with g3 | g3
      · have := cnt_all (κ := dc P) (k := 8) (fun j hj => dc_iff.mpr (g3 pos hp j hj))
        omega
      · omega
  refine p_for (S := (Nat × Int) × (Nat → Int → Int)) (X := fun c x => am_x am_P am_gg (d + 3) am_k71 4 Q 6 [some (.inr (.inr 11)), some (.inl ((x.1.1 : Int))), some (.inl x.1.2), some (.inl c), none] [] x.2 0 0) 8 (fun c x => ∃ P ο, bs x.1.2 P ∧ ordI D (x.2 15) x.1.1 P ο ∧ (∀ pos, pok D pos → ∀ s, s < 8 → pos s < c → P s) ∧ ∀ c, c ≠ 15 → x.2 c = M c) ?_ ?_ 0 ((0, 0), M) (by decide) ⟨_, _, bs_0, ordI_0, fun _ _ s _ k => absurd k (Nat.not_lt_zero _), fun _ _ => rfl⟩
  · rintro ⟨⟨a, b⟩, M1⟩ ⟨P, ο, g1, g2, g3, g4⟩
    refine (h_71_6_11 _ _ _ _ _ _).mpr ?_
    rw [if_neg (by decide)]
    exact fin a P ο M1 g2 g4 (Or.inl (fun pos hp s hs => g3 pos hp s hs (hp.1 s)))
  · rintro c ⟨⟨a, b⟩, M1⟩ hc ⟨P, ο, g1, g2, g3, g4⟩ go
    dsimp only at g1 g2 g4 ⊢
    refine (h_71_6_11 _ _ _ _ _ _).mpr ?_
    rw [if_pos (by omega)]
    by_cases q : a < 8
    · rw [if_pos (by omega)]
      exact x_round h hU hc g4 g1 g2 g3 (fun a' b' P' ο' M' k1 k2 k3 k4 => go ((a', b'), M') ⟨P', ο', k1, k2, k3, k4⟩)
    · rw [if_neg (by omega)]
      exact fin a P ο M1 g2 g4 (Or.inr q)
theorem x_look {D : Nat → Nat} (h : rdx w o t D M) (hW : rdW (w, o, t, D)) (h2 : w ≠ 0 ∨ t = 0 → Q 2 M) (h6 : w = 0 → t ≠ 0 → ¬ alT t D → Q 6 M) (h7 : w = 0 → t ≠ 0 → alT t D → ¬ nrg D → ∀ M', (∀ c, c ≠ 15 → M' c = M c) → Q 7 M') (h0 : w = 0 → t ≠ 0 → alT t D → ∀ M', (∀ c, c ≠ 15 → M' c = M c) → xo D (M' 15) → Q 0 M') : am_s am_P am_gg (d + 5) 116 [.inr (.inr 10)] M Q := by
  obtain ⟨c1, hU, c3, -, -, -, c7, c8, -, -⟩ := hW
  dsimp only at c1 hU c3 c7 c8
  have hn := hU.1
  have a1 : M 9 3 = (w : Int) := h.1
  have a3 : M 10 1 = (D 0 : Int) := h.2.2.1
  have a5 : M 10 3 = (t : Int) := h.2.2.2.2.1
  refine (v_116_10 _ _ _).mpr ?_
  by_cases w0 : w = 0
  · rw [a1, if_pos (by omega), a3]
    by_cases t0 : t = 0
    · rw [if_pos (by have := c7 t0; omega)]; exact h2 (Or.inr t0)
    · have hd := c8 w0 t0
      rw [if_neg (by omega)]
      refine p_for (S := Int) (X := fun c x => am_x am_P am_gg (d + 4) am_k116 1 Q 23 [some (.inr (.inr 10)), some (.inl (x)), some (.inl (c))] [] M 0 0) (D 0) (fun c x => bs x (fun s => ∃ r, r < c ∧ gIn D r s)) ?_ ?_ 0 0 (Nat.zero_le _) (bs_cong bs_0 (fun j => ⟨fun z => z.elim, fun ⟨i, h, _⟩ => absurd h (Nat.not_lt_zero i)⟩))
      · intro x hx
        refine (h_116_23_10 _ _ _ _ _).mpr ?_
        rw [a3, if_neg (Int.lt_irrefl _), a5]
        have ht : bs (t : Int) (fun k => t.testBit k = true) := ⟨t, by omega, rfl, fun k => Iff.rfl⟩
        have hz := bs_z (bs_sub hx ht)
        by_cases z : i_and x (i_xor (t : Int) (-1)) = 0
        · rw [if_pos z]
          have hA : alT t D := fun r hr i hi h8 => Classical.byContradiction (fun k => hz.mp z (gsg D r i) ⟨⟨r, hr, h8, i, hi, rfl⟩, k⟩)
          refine x_order h hU (fun M' k1 k2 => ?_) (fun M' k1 k2 => ?_)
          · rw [if_neg (by decide)]; exact h0 w0 t0 hA M' k1 k2
          · rw [if_pos rfl]; exact h7 w0 t0 hA k2 M' k1
        · rw [if_neg z]
          refine h6 w0 t0 (fun hA => z (hz.mpr ?_))
          rintro s ⟨⟨r, hr, h8, i, hi, e⟩, k⟩
          subst e
          exact k (hA r hr i hi h8)
      · intro c x hc hx go
        refine (h_116_23_10 _ _ _ _ _).mpr ?_
        rw [a3, if_pos (by omega), w32_s (by omega)]
        refine x_symIn2 h hU hc (fun v hv => go _ (bs_cong (bs_or hx hv) (fun j => ⟨?_, ?_⟩)))
        · rintro (⟨r', k1, k2⟩ | k)
          · exact ⟨r', by omega, k2⟩
          · exact ⟨c, by omega, k⟩
        · rintro ⟨r', k1, k2⟩
          by_cases q : r' = c
          · subst q; exact Or.inr k2
          · exact Or.inl ⟨r', by omega, k2⟩
  · rw [a1, if_neg (by omega)]; exact h2 (Or.inl w0)
end Se4
