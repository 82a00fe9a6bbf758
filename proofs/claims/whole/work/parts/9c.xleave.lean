/-! the class: what the cover can spare is left out -/
/-- how many of the kept have a pair -/
noncomputable def hld (B : Nat → Nat) (τ : Nat → Nat) (κ : Nat → Bool) (n m : Nat) : Nat := cnt (dc (fun i => κ i = true ∧ nH B (τ i) m)) n
section S9c
variable {B : Nat → Nat} {M M0 : (Nat → Int → Int)} {d : Nat} {Q : Int → (Nat → Int → Int) → Prop} {P : Nat → Prop}
theorem x_addHoldings {ch : Int} (hch : ch = 1 ∨ ch = -1) (hl : lst 97 P M) (hb : ∀ m : Nat, m < 1024 → P m → -3000 ≤ M 96 (m : Int) ∧ M 96 (m : Int) ≤ 3000) (hQ : ∀ M', wF1 96 M M' → (∀ m : Nat, m < 1024 → (P m → M' 96 (m : Int) = M 96 (m : Int) + ch) ∧ (¬ P m → M' 96 (m : Int) = M 96 (m : Int))) → Q 0 M') : am_s am_P am_gg (d + 1) 47 [.inr (.inr 94), .inl ((cnt (dc P) 1024 : Nat) : Int), .inl ch] M Q := by
  obtain ⟨ν, l1, l2, l3⟩ := hl
  have cl := cnt_le (p := dc P) 1024
  generalize hc : cnt (dc P) 1024 = c at *
  refine (v_47_94 _ _ _ _ _).mpr ?_
  refine p_for (S := (Nat → Int → Int)) (X := fun j M1 => am_x am_P am_gg d am_k47 0 Q 2 [some (.inr (.inr 94)), some (.inl ((c : Int))), some (.inl (ch)), some (.inl (j))] [] M1 0 0) c (fun e M1 => wF1 96 M M1 ∧ ∀ m : Nat, m < 1024 → ((∃ i, i < e ∧ ν i = m) → M1 96 (m : Int) = M 96 (m : Int) + ch) ∧ ((∀ i, i < e → ν i ≠ m) → M1 96 (m : Int) = M 96 (m : Int))) ?_ ?_ 0 M (by omega) ⟨fun _ _ => rfl, fun k hk => ⟨fun ⟨i, hi, _⟩ => absurd hi (Nat.not_lt_zero i), fun _ => rfl⟩⟩
  · intro M1 ⟨f1, g1⟩
    refine (h_47_2_94 _ _ _ _ _ _).mpr ?_
    rw [if_neg (by omega)]
    refine hQ M1 f1 (fun m hm => ⟨fun z => (g1 m hm).1 (l2 m hm z), fun z => (g1 m hm).2 (fun i hi e => z (e ▸ (l1 i hi).2.2))⟩)
  · intro e M1 he ⟨f1, g1⟩ k
    obtain ⟨a1, a2, a3⟩ := l1 e he
    have own := (g1 (ν e) a2).2 (fun i hi => l3 i e hi he)
    obtain ⟨b1, b2⟩ := hb (ν e) a2 a3
    refine (h_47_2_94 _ _ _ _ _ _).mpr ?_
    rw [show M1 97 (e : Int) = (ν e : Int) by rw [f1 97 (by decide)]; exact a1, own, w32_s (i := e) (by omega), w32_i (by omega) (by omega)]
    rw [if_pos (by omega)]
    rw [if_pos (by omega)]
    rw [if_pos (by omega)]
    rw [if_pos (by omega)]
    refine k _ ⟨fun q hq => by rw [up_nc _ _ _ _ hq]; exact f1 q hq, fun q hq => ⟨?_, ?_⟩⟩
    · rintro ⟨i, hi, z⟩
      rw [up_ci]
      by_cases y : q = ν e
      · rw [if_pos (by omega), y]
      · rw [if_neg (by omega)]
        exact (g1 q hq).1 ⟨i, by
          by_cases x : i = e
          · exact absurd (z.symm.trans (by rw [x])) y
          · omega, z⟩
    · intro z
      rw [up_ci, if_neg (by have := z e (by omega); omega)]
      exact (g1 q hq).2 (fun i hi => z i (by omega))
theorem x_heldTwice (hl : lst 97 P M) (h1 : (∀ m : Nat, m < 1024 → P m → 2 ≤ M 96 (m : Int)) → Q 1 M) (h0 : (∃ m : Nat, m < 1024 ∧ P m ∧ M 96 (m : Int) < 2) → Q 0 M) : am_s am_P am_gg (d + 1) 48 [.inr (.inr 94), .inl ((cnt (dc P) 1024 : Nat) : Int)] M Q := by
  obtain ⟨ν, l1, l2, l3⟩ := hl
  have cl := cnt_le (p := dc P) 1024
  generalize hc : cnt (dc P) 1024 = c at *
  refine (v_48_94 _ _ _ _).mpr ?_
  refine p_for (S := Unit) (X := fun j _ => am_x am_P am_gg d am_k48 4 Q 2 [some (.inr (.inr 94)), some (.inl ((c : Int))), some (.inl (j))] [] M 0 0) c (fun e _ => ∀ i, i < e → 2 ≤ M 96 (ν i : Int)) ?_ ?_ 0 () (by omega) (fun i hi => absurd hi (Nat.not_lt_zero i))
  · intro _ hI
    refine (h_48_2_94 _ _ _ _ _).mpr ?_
    rw [if_neg (by omega)]
    refine h1 (fun m hm z => ?_)
    obtain ⟨i, hi, e⟩ := l2 m hm z
    rw [← e]; exact hI i hi
  · intro e _ he hI k
    obtain ⟨a1, a2, a3⟩ := l1 e he
    refine (h_48_2_94 _ _ _ _ _).mpr ?_
    rw [a1, w32_s (i := e) (by omega)]
    rw [if_pos (by omega)]
    rw [if_pos (by omega)]
    rw [if_pos (by omega)]
    refine @p_if _ _ _ _ ?_ ?_
    · intro z; exact h0 ⟨ν e, a2, a3, z⟩
    · intro z
      refine k () (fun i hi => ?_)
      by_cases q : i = e
      · subst q; omega
      · exact hI i (by omega)
/-- the cover as the class holds it -/
def coOK (B : Nat → Nat) (M : (Nat → Int → Int)) : Prop := ∃ (τ : Nat → Nat) (n : Nat) (κ : Nat → Bool), grd (gp B) (gH B) (gN B) τ n ∧ (∀ j, j < n → kpt (gH B) τ n κ j) ∧ n ≤ 1024 ∧ (∀ j, j < n → τ j < gN B) ∧ M 93 5 = (cnt κ n : Int) ∧ (∀ j, j < n → κ j = true → M 94 ((cnt κ j : Nat) : Int) = (τ j : Int)) ∧ ∀ m : Nat, m < gN B → M 96 (m : Int) = (hld B τ κ n m : Int)
theorem hld_2 {τ : Nat → Nat} {κ : Nat → Bool} {n k m : Nat} (hk : k < n) (hκ : κ k = true) (hm : nH B (τ k) m) : (2 ≤ hld B τ κ n m ↔ ∃ i, i < n ∧ i ≠ k ∧ κ i = true ∧ nH B (τ i) m) := by
  have e := cnt_out (κ := dc (fun i => κ i = true ∧ nH B (τ i) m)) (j := k) (dc_iff.mpr ⟨hκ, hm⟩) n
  rw [if_pos hk] at e
  unfold hld
  constructor
  · intro h
    obtain ⟨i, hi, z⟩ := (cnt_pos (p := fun x => if x = k then false else dc (fun i => κ i = true ∧ nH B (τ i) m) x) (n := n)).mp (by omega)
    by_cases q : i = k
    · simp only [q, if_true] at z; cases z
    · rw [if_neg q] at z
      exact ⟨i, hi, q, dc_iff.mp z⟩
  · intro ⟨i, hi, q, z⟩
    have := (cnt_pos (p := fun x => if x = k then false else dc (fun i => κ i = true ∧ nH B (τ i) m) x) (n := n)).mpr ⟨i, hi, by rw [if_neg q]; exact dc_iff.mpr z⟩
    omega
/-- state while leaving out -/
def lvI (B : Nat → Nat) (τ : Nat → Nat) (n k : Nat) (κ : Nat → Bool) (M0 M : (Nat → Int → Int)) : Prop := (∀ c, c ≠ 94 → c ≠ 96 → c ≠ 97 → M c = M0 c) ∧ (∀ j, j < k → κ j = true) ∧ (∀ j, k ≤ j → j < n → kpt (gH B) τ n κ j) ∧ (∀ j : Nat, j < n → M 94 (j : Int) = if κ j = true then (τ j : Int) else -1) ∧ ∀ m : Nat, m < gN B → M 96 (m : Int) = (hld B τ κ n m : Int)
theorem x_leaveOut (hW : gW B) (h0 : pOK B M0) {τ : Nat → Nat} {n : Nat} (hn : n ≤ 1024) (hg : grd (gp B) (gH B) (gN B) τ n) (hτ : ∀ j, j < n → M0 94 (j : Int) = (τ j : Int) ∧ τ j < gN B) (h5 : M0 93 5 = (n : Int)) (hQ : ∀ M', cvF M0 M' → coOK B M' → Q 0 M') : am_s am_P am_gg (d + 5) 46 [.inr (.inr 94)] M0 Q := by
  have n2 := gN_le (B := B)
  have e3 : M0 81 3 = (gN B : Int) := h0.1.1.1
  refine (v_46_94 _ _ _).mpr ?_
  rw [e3]
  refine x_fill_96 (a := 0) (b := gN B) (by omega) n2 ?_
  -- the last loop
  have last : ∀ M κ, lvI B τ n 0 κ M0 M → am_x am_P am_gg (d + 4) am_k46 0 Q 114 [some (.inr (.inr 94)), some (.inl (((0 : Nat) : Int))), some (.inl (((0 : Nat) : Int)))] [] M 0 0 := by
    intro M κ ⟨f0, _, k0, c0, g0⟩
    have key := p_for (S := (Nat → Int → Int)) (X := fun j M1 => ∃ t : Nat, j = (t : Int) ∧ am_x am_P am_gg (d + 4) am_k46 0 Q 114 [some (.inr (.inr 94)), some (.inl (((cnt κ t : Nat) : Int))), some (.inl (j))] [] M1 0 0) n (fun b M1 => wF1 94 M M1 ∧ (∀ j : Nat, b ≤ j → j < n → M1 94 (j : Int) = if κ j = true then (τ j : Int) else -1) ∧ ∀ j, j < b → κ j = true → M1 94 ((cnt κ j : Nat) : Int) = (τ j : Int)) ?_ ?_ 0 M (by omega) ⟨fun _ _ => rfl, fun j _ => c0 j, fun j hj => absurd hj (Nat.not_lt_zero j)⟩
    · obtain ⟨t, ht, kx⟩ := key
      have ht : t = 0 := by omega
      subst ht
      exact kx
    · intro M1 ⟨f1, _, c1⟩
      refine ⟨n, rfl, ?_⟩
      refine (h_46_114_94 _ _ _ _ _).mpr ?_
      rw [show M1 93 5 = (n : Int) by rw [f1 93 (by decide), f0 93 (by decide) (by decide) (by decide)]; exact h5]
      rw [if_neg (by omega)]
      refine hQ _ ⟨fun c hc => by rw [up_nc _ _ _ _ (by omega), f1 c (by omega), f0 c (by omega) (by omega) (by omega)], fun i a b => by rw [up_ni _ _ _ _ a, f1 93 (by decide), f0 93 (by decide) (by decide) (by decide)]⟩ ⟨τ, n, κ, hg, fun j hj => k0 j (by omega) hj, hn, fun j hj => (hτ j hj).2, by rw [up_eq], fun j hj hk => by rw [up_nc _ _ _ _ (by decide)]; exact c1 j hj hk, fun m hm => by rw [up_nc _ _ _ _ (by decide), f1 96 (by decide)]; exact g0 m hm⟩
    · intro b M1 hb ⟨f1, a1, c1⟩ k
      have cl := cnt_le (p := κ) b
      refine ⟨b, rfl, ?_⟩
      refine (h_46_114_94 _ _ _ _ _).mpr ?_
      rw [show M1 93 5 = (n : Int) by rw [f1 93 (by decide), f0 93 (by decide) (by decide) (by decide)]; exact h5, w32_s (i := b) (by omega), a1 b (Nat.le_refl b) hb]
      rw [if_pos (by omega)]
      rw [if_pos (by omega)]
      by_cases z : κ b = true
      · rw [if_pos z, if_neg (by omega)]
        rw [if_pos (by omega)]
        rw [if_pos (by omega)]
        obtain ⟨t, ht, kx⟩ := k (am_up M1 94 ((cnt κ b : Nat) : Int) (τ b : Int)) ⟨fun c hc => by rw [up_nc _ _ _ _ hc]; exact f1 c hc, fun j h1 h2 => by rw [up_ci, if_neg (by omega)]; exact a1 j (by omega) h2, fun j h1 h2 => by
          rw [up_ci]
          by_cases q : j = b
          · subst q; rw [if_pos rfl]
          · have := cnt_lt_of h2 (n := b) (by omega)
            rw [if_neg (by omega)]; exact c1 j (by omega) h2⟩
        have ht : t = b + 1 := by omega
        subst ht
        rw [cnt_s, if_pos z] at kx
        rw [w32_s (i := cnt κ b) (by omega)]
        exact kx
      · rw [if_neg z, if_pos rfl]
        obtain ⟨t, ht, kx⟩ := k M1 ⟨f1, fun j h1 h2 => a1 j (by omega) h2, fun j h1 h2 => by
          by_cases q : j = b
          · subst q; exact absurd h2 z
          · exact c1 j (by omega) h2⟩
        have ht : t = b + 1 := by omega
        subst ht
        rw [cnt_s, if_neg z] at kx
        exact kx
  -- leaving out
  have out : ∀ M κ, lvI B τ n n κ M0 M → am_x am_P am_gg (d + 4) am_k46 0 Q 61 [some (.inr (.inr 94)), some (.inl (((n : Nat) : Int) - 1)), none] [] M 0 0 := by
    intro M κ hI
    refine p_down (S := (Nat → Int → Int)) (X := fun j M1 => am_x am_P am_gg (d + 4) am_k46 0 Q 61 [some (.inr (.inr 94)), some (.inl (j)), none] [] M1 0 0) (fun k M1 => k ≤ n ∧ ∃ κ, lvI B τ n k κ M0 M1) ?_ ?_ n M ⟨Nat.le_refl n, κ, hI⟩
    · intro M1 ⟨_, κ1, I1⟩
      refine (h_46_61_94 _ _ _ _).mpr ?_
      rw [if_pos (by omega)]
      exact last M1 κ1 I1
    · intro k M1 ⟨hk, κ1, f1, a1, k1, c1, g1⟩ kk
      have hκ := a1 k (by omega)
      have tk := (hτ k (by omega)).2
      have h1 : pOK B M1 := pOK_eq h0 (fun c a b => f1 c (by omega) (by omega) (by omega))
      refine (h_46_61_94 _ _ _ _).mpr ?_
      rw [c1 k (by omega), if_pos hκ, show w32 ((k : Int) + -1) = (k : Int) - 1 by rw [w32_i (by omega) (by omega)]; omega]
      rw [if_neg (by omega)]
      rw [if_pos (by omega)]
      refine x_listHad h1 tk (fun M2 f2 l2 => ?_)
      have g2 : ∀ m : Nat, m < gN B → M2 96 (m : Int) = (hld B τ κ1 n m : Int) := fun m hm => by rw [f2 96 (by decide)]; exact g1 m hm
      have hl : ∀ m, hld B τ κ1 n m ≤ n := fun m => cnt_le _
      refine x_heldTwice l2 (fun z => ?_) (fun z => ?_)
      · rw [if_neg (by decide)]
        refine x_addHoldings (Or.inr rfl) l2 (fun m _ hm => by rw [g2 m (nH_lt tk hm)]; have := hl m; omega) (fun M3 f3 g3 => ?_)
        rw [if_pos (by omega)]
        refine am_x_le [some (.inr (.inr 94)), some (.inl ((k : Int) - 1)), none] (am_lb_le _ _ ⟨rfl, rfl, trivial⟩) ?_
        refine kk _ ⟨by omega, fun i => if i = k then false else κ1 i, fun c a b e => by rw [up_nc _ _ _ _ a, f3 c b, f2 c e]; exact f1 c a b e, fun j hj => by dsimp only; rw [if_neg (by omega)]; exact a1 j (by omega), fun j h1 h2 => ?_, fun j hj => ?_, fun m hm => ?_⟩
        · unfold kpt
          dsimp only
          by_cases e : j = k
          · subst e
            rw [if_pos rfl]
            refine ⟨fun z => (by cases z), fun ⟨c, hc, hH, no⟩ => ?_⟩
            obtain ⟨gc, nm⟩ := (gH_num hW tk).mp hH
            have lt := nH_lt tk nm
            have := z _ (by omega) nm
            rw [g2 _ lt] at this
            obtain ⟨i, hi, ne, hk2, hm⟩ := (hld_2 (by omega) hκ nm).mp (by omega)
            exact absurd ((gH_num hW (hτ i hi).2).mpr ⟨gc, hm⟩) (no i hi ne (by
              by_cases q : i < j
              · exact Or.inl q
              · exact Or.inr (by rw [if_neg ne]; exact hk2)))
          · rw [if_neg e]
            refine (k1 j (by omega) h2).trans ⟨fun ⟨c, hc, hH, no⟩ => ⟨c, hc, hH, fun i hi ne y => no i hi ne (y.imp id (fun y => ?_))⟩, fun ⟨c, hc, hH, no⟩ => ⟨c, hc, hH, fun i hi ne y => no i hi ne ?_⟩⟩
            · by_cases q : i = k
              · rw [if_pos q] at y; cases y
              · rw [if_neg q] at y; exact y
            · by_cases q : i = k
              · exact Or.inl (by omega)
              · exact y.imp id (fun y => by rw [if_neg q]; exact y)
        · rw [up_ci]
          dsimp only
          by_cases e : j = k
          · rw [if_pos (by omega), if_neg (fun z => by rw [if_pos e] at z; cases z)]
          · rw [if_neg (by omega), f3 94 (by decide), f2 94 (by decide), c1 j hj]
            by_cases y : κ1 j = true
            · rw [if_pos y, if_pos (by rw [if_neg e]; exact y)]
            · rw [if_neg y, if_neg (by rw [if_neg e]; exact y)]
        · rw [up_nc _ _ _ _ (by decide)]
          have ce := cnt_out (κ := dc (fun i => κ1 i = true ∧ nH B (τ i) m)) (j := k)
          have e2 : cnt (fun x => if x = k then false else dc (fun i => κ1 i = true ∧ nH B (τ i) m) x) n = hld B τ (fun i => if i = k then false else κ1 i) n m := by
            unfold hld
            refine cnt_congr (fun i _ => ?_)
            by_cases q : i = k
            · rw [if_pos q]; exact (dc_f (fun z => by have := z.1; dsimp only at this; rw [if_pos q] at this; cases this)).symm
            · rw [if_neg q]; exact dc_congr (by dsimp only; rw [if_neg q])
          by_cases nm : nH B (τ k) m
          · rw [(g3 m (by omega)).1 nm, g2 m hm, ← e2]
            have := ce (dc_iff.mpr ⟨hκ, nm⟩) n
            rw [if_pos (by omega)] at this
            have e3 : cnt (dc (fun i => κ1 i = true ∧ nH B (τ i) m)) n = hld B τ κ1 n m := rfl
            omega
          · rw [(g3 m (by omega)).2 nm, g2 m hm, ← e2]
            congr 1
            unfold hld
            refine cnt_congr (fun i _ => ?_)
            by_cases q : i = k
            · rw [if_pos q, q]; exact dc_f (fun z => nm z.2)
            · rw [if_neg q]
      · rw [if_pos rfl]
        refine am_x_le [some (.inr (.inr 94)), some (.inl ((k : Int) - 1)), none] (am_lb_le _ _ ⟨rfl, rfl, trivial⟩) ?_
        refine kk _ ⟨by omega, κ1, fun c a b e => by rw [f2 c e]; exact f1 c a b e, fun j hj => a1 j (by omega), fun j h1 h2 => ?_, fun j hj => by rw [f2 94 (by decide)]; exact c1 j hj, g2⟩
        by_cases e : j = k
        · subst e
          refine ⟨fun _ => ?_, fun _ => hκ⟩
          obtain ⟨m, hm, nm, lt2⟩ := z
          have lt := nH_lt tk nm
          rw [g2 m lt] at lt2
          obtain ⟨c1, c2, c3⟩ := cdP lt
          refine ⟨cd (gp B) m, c1, (nH_iff tk lt).mp nm, fun i hi ne y hH => ?_⟩
          have := (hld_2 (B := B) (n := n) (by omega) hκ nm).mpr ⟨i, hi, ne, y.elim (fun y => a1 i (by omega)) id, (nH_iff (hτ i hi).2 lt).mpr hH⟩
          omega
        · exact k1 j (by omega) h2
  -- counting
  refine p_for (S := (Nat → Int → Int)) (X := fun j M1 => am_x am_P am_gg (d + 4) am_k46 0 Q 18 [some (.inr (.inr 94)), some (.inl (j)), none] [] M1 0 0) n (fun a M1 => (∀ c, c ≠ 96 → c ≠ 97 → M1 c = M0 c) ∧ ∀ m : Nat, m < gN B → M1 96 (m : Int) = (hld B τ (fun _ => true) a m : Int)) ?_ ?_ 0 _ (by omega) ⟨fun c a b => fil_nc _ _ _ _ _ a, fun m hm => by rw [fil_at, if_pos (by omega)]; rfl⟩
  · intro M1 ⟨f1, g1⟩
    refine (h_46_18_94 _ _ _ _).mpr ?_
    rw [show M1 93 5 = (n : Int) by rw [f1 93 (by decide) (by decide)]; exact h5]
    rw [if_neg (by omega)]
    rw [show w32 ((n : Int) - 1) = ((n : Nat) : Int) - 1 by rw [w32_i (by omega) (by omega)]]
    exact out M1 (fun _ => true) ⟨fun c _ b e => f1 c b e, fun _ _ => rfl, fun j h1 h2 => absurd h2 (by omega), fun j hj => by rw [if_pos rfl, f1 94 (by decide) (by decide)]; exact (hτ j hj).1, g1⟩
  · intro a M1 ha ⟨f1, g1⟩ k
    have ta := (hτ a ha).2
    have h1 : pOK B M1 := pOK_eq h0 (fun c a b => f1 c (by omega) (by omega))
    refine (h_46_18_94 _ _ _ _).mpr ?_
    rw [show M1 93 5 = (n : Int) by rw [f1 93 (by decide) (by decide)]; exact h5, show M1 94 (a : Int) = (τ a : Int) by rw [f1 94 (by decide) (by decide)]; exact (hτ a ha).1, w32_s (i := a) (by omega)]
    rw [if_pos (by omega)]
    rw [if_pos (by omega)]
    refine x_listHad h1 ta (fun M2 f2 l2 => ?_)
    have g2 : ∀ m : Nat, m < gN B → M2 96 (m : Int) = (hld B τ (fun _ => true) a m : Int) := fun m hm => by rw [f2 96 (by decide)]; exact g1 m hm
    have hl : ∀ m, hld B τ (fun _ => true) a m ≤ a := fun m => cnt_le _
    refine x_addHoldings (Or.inl rfl) l2 (fun m _ hm => by rw [g2 m (nH_lt ta hm)]; have := hl m; omega) (fun M3 f3 g3 => ?_)
    refine k M3 ⟨fun c a b => by rw [f3 c a, f2 c b]; exact f1 c a b, fun m hm => ?_⟩
    have es : hld B τ (fun _ => true) (a + 1) m = hld B τ (fun _ => true) a m + (if dc (fun i => true = true ∧ nH B (τ i) m) a = true then 1 else 0) := rfl
    rw [es]
    by_cases nm : nH B (τ a) m
    · rw [(g3 m (by omega)).1 nm, g2 m hm, if_pos (dc_iff.mpr ⟨rfl, nm⟩)]; omega
    · rw [(g3 m (by omega)).2 nm, g2 m hm, if_neg (fun z => nm (dc_iff.mp z).2)]; omega
end S9c
