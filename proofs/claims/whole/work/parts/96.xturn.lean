/-! the class: which frames and rows have a pair; PAIRS made ready -/
theorem dc0 {P : Nat → Prop} (h : cnt (dc P) 64 = 0) {k : Nat} (hk : k < 64) : ¬ P k := fun z => by
  have := cnt_pos.mpr ⟨k, hk, dc_iff.mpr z⟩; omega
section S96
variable {B : Nat → Nat} {M M0 : (Nat → Int → Int)} {d : Nat} {Q : Int → (Nat → Int → Int) → Prop}
/-- the bits of one word of a frame are gone through -/
theorem ta_89 {a : Int} {q c : Nat} (hq : q < 64) (hc : c < 16) {T : Nat → Prop} {base : Nat → Nat → Prop} (hT : ∀ n, T n → n < gN B) (hk : ∀ M', wF1 89 M0 M' → (∀ n, n < gN B → ld (M' 89 (n : Int)) (fun f => base f n ∨ f = q ∧ T n ∧ n < 64 * (c + 1))) → ∀ e : Int, am_x am_P am_gg (d + 2) am_k94 0 Q 45 [some (.inr (.inr 82)), some (.inl (a)), some (.inl ((q : Int))), some (.inl (((c + 1 : Nat) : Int))), some (.inr (.inl e)), none, some (.inl (0))] [] M' 0 0) : ∀ (m : Nat) (v : Int) (P : Nat → Prop) (M : (Nat → Int → Int)), m = cnt (dc P) 64 → ld v P → (∀ k, k < 64 → P k → T (64 * c + k)) → wF1 89 M0 M → (∀ n, n < gN B → ld (M 89 (n : Int)) (fun f => base f n ∨ f = q ∧ T n ∧ (n < 64 * c ∨ n / 64 = c ∧ ¬ P (n % 64)))) → am_x am_P am_gg (d + 2) am_k94 0 Q 73 [some (.inr (.inr 82)), some (.inl (a)), some (.inl ((q : Int))), some (.inl ((c : Int))), some (.inr (.inl v)), none, some (.inl ((m : Int)))] [] M 0 0 := by
  have n2 := gN_le (B := B)
  intro m
  induction m with
  | zero =>
    intro v P M hm hv hP f w
    refine (h_94_73_82 _ _ _ _ _ _ _ _).mpr ?_
    rw [if_neg (by omega)]
    rw [w32_s (i := c) (by omega)]
    refine hk M f (fun n hn => ld_cong (w n hn) (fun g _ => or_congr Iff.rfl (and_congr_right (fun _ => and_congr_right (fun _ => ⟨fun z => by omega, fun z => ?_⟩))))) v
    by_cases q2 : n < 64 * c
    · exact Or.inl q2
    · exact Or.inr ⟨by omega, dc0 hm.symm (by omega)⟩
  | succ m ih =>
    intro v P M hm hv hP f w
    obtain ⟨t, ht, t1, t0, lv, lc, ln⟩ := ld_low hv (by omega)
    have hTt := hP t ht t1
    have cl64 := cnt_le (p := dc P) 64
    have hlt := hT _ hTt
    refine (h_94_73_82 _ _ _ _ _ _ _ _).mpr ?_
    rw [if_pos (by omega)]
    refine ln ?_
    rw [show (6 : Int) = ((6 : Nat) : Int) from rfl, shl_mul (a := c) (n := 6) (by omega) (by omega), show (2 : Nat) ^ 6 = 64 from rfl, show w32 (((c * 64 : Nat) : Int) + (t : Int)) = ((64 * c + t : Nat) : Int) by rw [w32_i (by omega) (by omega)]; omega]
    rw [if_pos (by omega)]
    rw [if_pos (by omega)]
    rw [show w32 (((m + 1 : Nat) : Int) + -1) = (m : Int) by rw [w32_i (by omega) (by omega)]; omega]
    refine ih _ _ _ (by omega) lv (fun k hk2 z => hP k hk2 z.1) (fun k hk2 => by rw [up_nc _ _ _ _ hk2]; exact f k hk2) (fun n hn => ?_)
    rw [up_ci]
    by_cases e : n = 64 * c + t
    · subst e
      rw [if_pos rfl]
      refine ld_cong (ld_or (w _ hn) (ld_one hq)) (fun g _ => ⟨?_, ?_⟩)
      · rintro ((z | z) | z)
        · exact Or.inl z
        · exact Or.inr ⟨z.1, z.2.1, z.2.2.imp id (fun y => ⟨y.1, fun x => y.2 x.1⟩)⟩
        · exact Or.inr ⟨z, hTt, Or.inr ⟨by omega, fun x => x.2 (by omega)⟩⟩
      · rintro (z | z)
        · exact Or.inl (Or.inl z)
        · exact Or.inr z.1
    · rw [if_neg (by omega)]
      refine ld_cong (w n hn) (fun g _ => or_congr Iff.rfl (and_congr_right (fun _ => and_congr_right (fun _ => or_congr Iff.rfl (and_congr_right (fun hc2 => ⟨fun z y => z y.1, fun z y => z ⟨y, by omega⟩⟩))))))
/-- the bits of one word of a row are gone through -/
theorem ta_90 {q c : Nat} (hq : q < 16) (hc : c < 16) {T : Nat → Prop} {base : Nat → Nat → Prop} (hT : ∀ n, T n → n < gN B) (hk : ∀ M', wF1 90 M0 M' → (∀ n, n < gN B → bs (M' 90 (n : Int)) (fun f => base f n ∨ f = q ∧ T n ∧ n < 64 * (c + 1))) → ∀ e : Int, am_x am_P am_gg (d + 2) am_k94 0 Q 141 [some (.inr (.inr 82)), some (.inl ((q : Int))), some (.inl (((c + 1 : Nat) : Int))), some (.inr (.inl e)), none, some (.inl (0)), none] [] M' 0 0) : ∀ (m : Nat) (v : Int) (P : Nat → Prop) (M : (Nat → Int → Int)), m = cnt (dc P) 64 → ld v P → (∀ k, k < 64 → P k → T (64 * c + k)) → wF1 90 M0 M → (∀ n, n < gN B → bs (M 90 (n : Int)) (fun f => base f n ∨ f = q ∧ T n ∧ (n < 64 * c ∨ n / 64 = c ∧ ¬ P (n % 64)))) → am_x am_P am_gg (d + 2) am_k94 0 Q 167 [some (.inr (.inr 82)), some (.inl ((q : Int))), some (.inl ((c : Int))), some (.inr (.inl v)), none, some (.inl ((m : Int))), none] [] M 0 0 := by
  have n2 := gN_le (B := B)
  intro m
  induction m with
  | zero =>
    intro v P M hm hv hP f w
    refine (h_94_167_82 _ _ _ _ _ _ _).mpr ?_
    rw [if_neg (by omega)]
    rw [w32_s (i := c) (by omega)]
    refine hk M f (fun n hn => bs_cong (w n hn) (fun g  => or_congr Iff.rfl (and_congr_right (fun _ => and_congr_right (fun _ => ⟨fun z => by omega, fun z => ?_⟩))))) v
    by_cases q2 : n < 64 * c
    · exact Or.inl q2
    · exact Or.inr ⟨by omega, dc0 hm.symm (by omega)⟩
  | succ m ih =>
    intro v P M hm hv hP f w
    obtain ⟨t, ht, t1, t0, lv, lc, ln⟩ := ld_low hv (by omega)
    have hTt := hP t ht t1
    have cl64 := cnt_le (p := dc P) 64
    have hlt := hT _ hTt
    refine (h_94_167_82 _ _ _ _ _ _ _).mpr ?_
    rw [if_pos (by omega)]
    refine ln ?_
    rw [show (6 : Int) = ((6 : Nat) : Int) from rfl, shl_mul (a := c) (n := 6) (by omega) (by omega), show (2 : Nat) ^ 6 = 64 from rfl, show w32 (((c * 64 : Nat) : Int) + (t : Int)) = ((64 * c + t : Nat) : Int) by rw [w32_i (by omega) (by omega)]; omega]
    rw [if_pos (by omega)]
    rw [if_pos (by omega)]
    rw [show w32 (((m + 1 : Nat) : Int) + -1) = (m : Int) by rw [w32_i (by omega) (by omega)]; omega]
    refine ih _ _ _ (by omega) lv (fun k hk2 z => hP k hk2 z.1) (fun k hk2 => by rw [up_nc _ _ _ _ hk2]; exact f k hk2) (fun n hn => ?_)
    rw [up_ci]
    by_cases e : n = 64 * c + t
    · subst e
      rw [if_pos rfl]
      refine bs_cong (bs_add (w _ hn) (by omega)) (fun g  => ⟨?_, ?_⟩)
      · rintro ((z | z) | z)
        · exact Or.inl z
        · exact Or.inr ⟨z.1, z.2.1, z.2.2.imp id (fun y => ⟨y.1, fun x => y.2 x.1⟩)⟩
        · exact Or.inr ⟨z, hTt, Or.inr ⟨by omega, fun x => x.2 (by omega)⟩⟩
      · rintro (z | z)
        · exact Or.inl (Or.inl z)
        · exact Or.inr z.1
    · rw [if_neg (by omega)]
      refine bs_cong (w n hn) (fun g  => or_congr Iff.rfl (and_congr_right (fun _ => and_congr_right (fun _ => or_congr Iff.rfl (and_congr_right (fun hc2 => ⟨fun z y => z y.1, fun z y => z ⟨y, by omega⟩⟩))))))
/-- frames and rows that have a pair -/
def havI (B : Nat → Nat) (M : (Nat → Int → Int)) : Prop := (∀ n : Nat, n < gN B → ld (M 89 (n : Int)) (fun f => f < 64 ∧ hasF B f ∧ frmN B f n)) ∧ ∀ n : Nat, n < gN B → bs (M 90 (n : Int)) (fun r => whN B r ∧ rowN B r n)
theorem x_turnAbout (hW : gW B) (hg0 : xgb B M0 2) (hp0 : pnI B M0) (hr0 : xrows B M0) {D : Nat → Bool} {φ : Nat → Nat} (hf0 : ffI B M0 D φ) (hD : ∀ f, f < 64 → hasF B f → D f = true) (hQ : ∀ M', (∀ c, c ≠ 89 → c ≠ 90 → M' c = M0 c) → havI B M' → Q 0 M') : am_s am_P am_gg (d + 3) 94 [.inr (.inr 82)] M0 Q := by
  have hn := hW.1
  have n2 := gN_le (B := B)
  have ck := cnt_le (p := D) 64
  have e3 : M0 81 3 = (gN B : Int) := hp0.1.1
  refine (v_94_82 _ _ _).mpr ?_
  rw [e3]
  refine x_fill_89 (a := 0) (b := gN B) (Nat.zero_le _) n2 ?_
  rw [show am_fil M0 89 (0 : Nat) (gN B : Int) 0 81 3 = (gN B : Int) by rw [fil_nc _ _ _ _ _ (by decide)]; exact e3]
  refine x_fill_90 (a := 0) (b := gN B) (Nat.zero_le _) n2 ?_
  generalize hM1 : am_fil (am_fil M0 89 (0 : Nat) (gN B : Int) 0) 90 (0 : Nat) (gN B : Int) 0 = M1
  have o1 : ∀ c, c ≠ 89 → c ≠ 90 → M1 c = M0 c := fun c a b => by rw [← hM1, fil_nc _ _ _ _ _ b, fil_nc _ _ _ _ _ a]
  have z89 : ∀ n : Nat, n < gN B → M1 89 (n : Int) = 0 := fun n hn => by rw [← hM1, fil_nc _ _ _ _ _ (by decide), fil_at, if_pos (by omega)]
  have z90 : ∀ n : Nat, n < gN B → M1 90 (n : Int) = 0 := fun n hn => by rw [← hM1, fil_at, if_pos (by omega)]
  have kp : ∀ M', wF1 89 M1 M' → M' 81 10 = (cnt D 64 : Int) ∧ M' 86 = M0 86 ∧ M' 87 = M0 87 ∧ M' 81 4 = (((gN B + 63) / 64 : Nat) : Int) := fun M' f => ⟨by rw [f 81 (by decide), o1 81 (by decide) (by decide)]; exact hf0.1, by rw [f 86 (by decide), o1 86 (by decide) (by decide)], by rw [f 87 (by decide), o1 87 (by decide) (by decide)], by rw [f 81 (by decide), o1 81 (by decide) (by decide)]; exact hp0.2⟩
  -- the rows
  have rows : ∀ M2, wF1 89 M1 M2 → (∀ n : Nat, n < gN B → ld (M2 89 (n : Int)) (fun f => f < 64 ∧ hasF B f ∧ frmN B f n)) → am_x am_P am_gg (d + 2) am_k94 0 Q 128 [some (.inr (.inr 82)), some (.inl (((0 : Nat) : Int))), none, none, none, none, none] [] M2 0 0 := by
    intro M2 f2 w2
    have z90' : ∀ n : Nat, n < gN B → M2 90 (n : Int) = 0 := fun n hn => by rw [f2 90 (by decide)]; exact z90 n hn
    have kr : ∀ M', wF1 90 M2 M' → xgb B M' 2 ∧ M' 88 = M0 88 ∧ M' 81 4 = (((gN B + 63) / 64 : Nat) : Int) := fun M' f => ⟨xgb_eq hg0 (fun c _ _ => by rw [f c (by omega), f2 c (by omega), o1 c (by omega) (by omega)]), by rw [f 88 (by decide), f2 88 (by decide), o1 88 (by decide) (by decide)], by rw [f 81 (by decide)]; exact (kp M2 f2).2.2.2⟩
    refine p_for (S := (Nat → Int → Int)) (X := fun j M => am_x am_P am_gg (d + 2) am_k94 0 Q 128 [some (.inr (.inr 82)), some (.inl (j)), none, none, none, none, none] [] M 0 0) (B 0) (fun a M3 => wF1 90 M2 M3 ∧ ∀ n : Nat, n < gN B → bs (M3 90 (n : Int)) (fun r => r < a ∧ whN B r ∧ rowN B r n)) ?_ ?_ 0 M2 (by omega) ⟨fun _ _ => rfl, fun n hn => by rw [z90' n hn]; exact bs_cong bs_0 (fun r => ⟨fun z => z.elim, fun z => absurd z.1 (Nat.not_lt_zero r)⟩)⟩
    · intro M3 ⟨f3, w3⟩
      refine (h_94_128_82 _ _ _ _).mpr ?_
      rw [xg_n (kr M3 f3).1]
      rw [if_neg (by omega)]
      exact hQ M3 (fun c a b => by rw [f3 c b, f2 c a]; exact o1 c a b) ⟨fun n hn => by rw [f3 89 (by decide)]; exact w2 n hn, fun n hn => bs_cong (w3 n hn) (fun r => ⟨fun z => z.2, fun z => ⟨z.1.1, z⟩⟩)⟩
    · intro a M3 ha ⟨f3, w3⟩ k
      refine (h_94_128_82 _ _ _ _).mpr ?_
      rw [xg_n (kr M3 f3).1]
      rw [if_pos (by omega)]
      refine p_for (S := (Nat → Int → Int)) (X := fun j M => am_x am_P am_gg (d + 2) am_k94 0 Q 141 [some (.inr (.inr 82)), some (.inl ((a : Int))), some (.inl (j)), none, none, none, none] [] M 0 0) ((gN B + 63) / 64) (fun c M4 => wF1 90 M2 M4 ∧ ∀ n : Nat, n < gN B → bs (M4 90 (n : Int)) (fun r => (r < a ∧ whN B r ∧ rowN B r n) ∨ r = a ∧ (whN B a ∧ rowN B a n) ∧ n < 64 * c)) ?_ ?_ 0 M3 (by omega) ⟨f3, fun n hn => bs_cong (w3 n hn) (fun r => ⟨Or.inl, fun z => z.elim id (fun z => absurd z.2.2 (by omega))⟩)⟩
      · intro M4 ⟨f4, w4⟩
        refine (h_94_141_82 _ _ _ _ _).mpr ?_
        rw [(kr M4 f4).2.2, w32_s (i := a) (by omega)]
        rw [if_neg (by omega)]
        refine am_x_le [some (.inr (.inr 82)), some (.inl (((a + 1 : Nat) : Int))), none, none, none, none, none] (am_lb_le _ _ ⟨rfl, rfl, trivial⟩) ?_
        refine k M4 ⟨f4, fun n hn => bs_cong (w4 n hn) (fun r => ⟨?_, ?_⟩)⟩
        · rintro (z | z)
          · exact ⟨by omega, z.2⟩
          · rw [z.1]; exact ⟨by omega, z.2.1⟩
        · intro z
          by_cases e : r = a
          · subst e; exact Or.inr ⟨rfl, z.2, by omega⟩
          · exact Or.inl ⟨by omega, z.2⟩
      · intro c M4 hc ⟨f4, w4⟩ k4
        obtain ⟨-, c88, c81⟩ := kr M4 f4
        have wrd : ld (M4 88 ((16 * a + c : Nat) : Int)) (fun k => whN B a ∧ rowN B a (64 * c + k)) := by rw [c88]; exact hr0 a (by omega) c (by omega)
        refine (h_94_141_82 _ _ _ _ _).mpr ?_
        rw [c81, show w32 (w32 ((a : Int) * 16) + (c : Int)) = ((16 * a + c : Nat) : Int) by rw [w32_i (x := (a : Int) * 16) (by omega) (by omega), w32_i (by omega) (by omega)]; omega]
        rw [if_pos (by omega)]
        rw [if_pos (by omega)]
        refine x_lbitsP wrd ?_
        refine ta_90 (M0 := M2) (q := a) (c := c) (T := fun n => whN B a ∧ rowN B a n) (base := fun r n => r < a ∧ whN B r ∧ rowN B r n) (by omega) (by omega) (fun n z => z.2.1) (fun M5 f5 w5 e => ?_) _ _ _ _ rfl wrd (fun k _ z => z) f4 (fun n hn => bs_cong (w4 n hn) (fun r => or_congr Iff.rfl (and_congr_right (fun _ => and_congr_right (fun hT => ⟨fun z => Or.inl z, fun z => z.elim id (fun z => absurd ?_ z.2)⟩)))))
        · refine am_x_le [some (.inr (.inr 82)), some (.inl ((a : Int))), some (.inl (((c + 1 : Nat) : Int))), none, none, none, none] (am_lb_le _ _ ⟨rfl, rfl, rfl, trivial⟩) ?_
          exact k4 M5 ⟨f5, w5⟩
        · rw [show 64 * c + n % 64 = n by have := z.1; omega]; exact hT
  refine p_for (S := (Nat → Int → Int)) (X := fun j M => am_x am_P am_gg (d + 2) am_k94 0 Q 28 [some (.inr (.inr 82)), some (.inl (j)), none, none, none, none, none] [] M 0 0) (cnt D 64) (fun a M2 => wF1 89 M1 M2 ∧ ∀ n : Nat, n < gN B → ld (M2 89 (n : Int)) (fun f => ∃ i, i < a ∧ φ i = f ∧ frmN B f n)) ?_ ?_ 0 M1 (by omega) ⟨fun _ _ => rfl, fun n hn => by rw [z89 n hn]; exact ld_cong ld_0 (fun f _ => ⟨fun z => z.elim, fun ⟨i, hi, _⟩ => absurd hi (Nat.not_lt_zero i)⟩)⟩
  · intro M2 ⟨f2, w2⟩
    refine (h_94_28_82 _ _ _ _).mpr ?_
    rw [(kp M2 f2).1]
    rw [if_neg (by omega)]
    refine rows M2 f2 (fun n hn => ld_cong (w2 n hn) (fun f hf => ⟨?_, ?_⟩))
    · rintro ⟨i, hi, e, z⟩
      obtain ⟨-, y2, y3⟩ := hf0.2.1 i hi
      rw [e] at y2 y3
      exact ⟨y2, hf0.2.2.2.2.1 f y2 y3, z⟩
    · rintro ⟨y1, y2, z⟩
      obtain ⟨i, hi, e⟩ := hf0.2.2.1 f y1 (hD f y1 y2)
      exact ⟨i, hi, e, z⟩
  · intro a M2 ha ⟨f2, w2⟩ k
    obtain ⟨c10, c86, c87, c4⟩ := kp M2 f2
    obtain ⟨y1, y2, y3⟩ := hf0.2.1 a ha
    refine (h_94_28_82 _ _ _ _).mpr ?_
    rw [c10, c86, y1]
    rw [if_pos (by omega)]
    rw [if_pos (by omega)]
    generalize hfa : φ a = fa at *
    refine p_for (S := (Nat → Int → Int)) (X := fun j M => am_x am_P am_gg (d + 2) am_k94 0 Q 45 [some (.inr (.inr 82)), some (.inl ((a : Int))), some (.inl ((fa : Int))), some (.inl (j)), none, none, none] [] M 0 0) ((gN B + 63) / 64) (fun c M4 => wF1 89 M1 M4 ∧ ∀ n : Nat, n < gN B → ld (M4 89 (n : Int)) (fun f => (∃ i, i < a ∧ φ i = f ∧ frmN B f n) ∨ f = fa ∧ frmN B fa n ∧ n < 64 * c)) ?_ ?_ 0 M2 (by omega) ⟨f2, fun n hn => ld_cong (w2 n hn) (fun r _ => ⟨Or.inl, fun z => z.elim id (fun z => absurd z.2.2 (by omega))⟩)⟩
    · intro M4 ⟨f4, w4⟩
      refine (h_94_45_82 _ _ _ _ _ _).mpr ?_
      rw [(kp M4 f4).2.2.2, w32_s (i := a) (by omega)]
      rw [if_neg (by omega)]
      refine am_x_le [some (.inr (.inr 82)), some (.inl (((a + 1 : Nat) : Int))), none, none, none, none, none] (am_lb_le _ _ ⟨rfl, rfl, trivial⟩) ?_
      refine k M4 ⟨f4, fun n hn => ld_cong (w4 n hn) (fun f _ => ⟨?_, ?_⟩)⟩
      · rintro (⟨i, hi, z⟩ | z)
        · exact ⟨i, by omega, z⟩
        · exact ⟨a, by omega, by rw [hfa, z.1], by rw [z.1]; exact z.2.1⟩
      · rintro ⟨i, hi, e, z⟩
        by_cases q : i = a
        · subst q
          rw [hfa] at e; subst e
          exact Or.inr ⟨rfl, z, by omega⟩
        · exact Or.inl ⟨i, by omega, e, z⟩
    · intro c M4 hc ⟨f4, w4⟩ k4
      obtain ⟨-, -, c87', c81⟩ := kp M4 f4
      have wrd : ld (M4 87 ((16 * fa + c : Nat) : Int)) (fun k => frmN B fa (64 * c + k)) := by
        rw [c87']
        exact ld_cong (hf0.2.2.2.2.2 fa y2 c (by omega)) (fun k _ => ⟨fun z => z.2, fun z => ⟨y3, z⟩⟩)
      refine (h_94_45_82 _ _ _ _ _ _).mpr ?_
      rw [c81, show w32 (w32 ((fa : Int) * 16) + (c : Int)) = ((16 * fa + c : Nat) : Int) by rw [w32_i (x := (fa : Int) * 16) (by omega) (by omega), w32_i (by omega) (by omega)]; omega]
      rw [if_pos (by omega)]
      rw [if_pos (by omega)]
      refine x_lbitsP wrd ?_
      refine ta_89 (M0 := M1) (q := fa) (c := c) (T := fun n => frmN B fa n) (base := fun f n => ∃ i, i < a ∧ φ i = f ∧ frmN B f n) y2 (by omega) (fun n z => z.1) (fun M5 f5 w5 e => ?_) _ _ _ _ rfl wrd (fun k _ z => z) f4 (fun n hn => ld_cong (w4 n hn) (fun r _ => or_congr Iff.rfl (and_congr_right (fun _ => and_congr_right (fun hT => ⟨fun z => Or.inl z, fun z => z.elim id (fun z => absurd ?_ z.2)⟩)))))
      · refine am_x_le [some (.inr (.inr 82)), some (.inl ((a : Int))), some (.inl ((fa : Int))), some (.inl (((c + 1 : Nat) : Int))), none, none, none] (am_lb_le _ _ ⟨rfl, rfl, rfl, rfl, trivial⟩) ?_
        exact k4 M5 ⟨f5, w5⟩
      · rw [show 64 * c + n % 64 = n by have := z.1; omega]; exact hT
/-- what the class's pairs are -/
def pOK (B : Nat → Nat) (M : (Nat → Int → Int)) : Prop := pnI B M ∧ xfF B 65 M ∧ xrows B M ∧ havI B M ∧ ∃ D φ, ffI B M D φ ∧ ∀ f, f < 64 → hasF B f → D f = true
/-- the pairs' cells -/
def prF (M M' : (Nat → Int → Int)) : Prop := ∀ c, c < 81 ∨ 92 < c → M' c = M c
theorem x_pairs (hW : gW B) (hg : xgb B M 2) (hc : chOK B M) (hold : M 81 2 = M 2 0 → pOK B M) (hQ : ∀ M', prF M M' → M' 81 2 = M' 2 0 → (M' 81 16 = -1 ∨ M' = M) → pOK B M' → Q 0 M') : am_s am_P am_gg (d + 5) 79 [.inr (.inr 82)] M Q := by
  have n2 := gN_le (B := B)
  refine (v_79_82 _ _ _).mpr ?_
  refine @p_if _ _ _ _ ?_ ?_
  · intro e
    exact hQ M (fun _ _ => rfl) e (Or.inr rfl) (hold e)
  intro _
  generalize hM1 : am_up (am_up M 81 2 (M 2 0)) 81 16 (-1) = M1
  have o1 : ∀ c, c ≠ 81 → M1 c = M c := fun c a => by rw [← hM1, up_nc _ _ _ _ a, up_nc _ _ _ _ a]
  have e2 : M1 81 2 = M 2 0 := by rw [← hM1, up_ni _ _ _ _ (by decide), up_eq]
  have e16 : M1 81 16 = -1 := by rw [← hM1, up_eq]
  have hg1 : xgb B M1 2 := xgb_eq hg (fun c _ _ => o1 c (by omega))
  have hc1 : chOK B M1 := chOK_cong hc (fun i _ => by rw [o1 22 (by decide)]) (fun c a b => o1 c (by omega))
  refine x_numberPairs hW hg1 hc1 (fun M2 f2 i2 x2 => ?_)
  have e3 : M2 81 3 = (gN B : Int) := i2.1
  rw [e3, show (6 : Int) = ((6 : Nat) : Int) from rfl, show w32 ((gN B : Int) + 63) = ((gN B + 63 : Nat) : Int) by rw [w32_i (by omega) (by omega)]; rfl, shr_div (by omega) (by omega), show (2 : Nat) ^ 6 = 64 from rfl]
  generalize hM3 : am_up M2 81 4 (((gN B + 63) / 64 : Nat) : Int) = M3
  have o3 : ∀ c, c ≠ 81 → M3 c = M2 c := fun c a => by rw [← hM3, up_nc _ _ _ _ a]
  have i3 : ∀ i : Int, i ≠ 4 → M3 81 i = M2 81 i := fun i a => by rw [← hM3, up_ni _ _ _ _ a]
  have p3 : pnI B M3 := ⟨xpI_cong i2 (i3 3 (by decide)) (o3 _ (by decide)) (o3 _ (by decide)) (o3 _ (by decide)), by rw [← hM3, up_eq]⟩
  have x3 : xfF B 65 M3 := fun f hf => by rw [o3 85 (by decide)]; exact x2 f hf
  have all3 : ∀ c, c < 81 ∨ 85 < c → M3 c = M c := fun c hc => by rw [o3 c (by omega), f2.1 c hc, o1 c (by omega)]
  have hg3 : xgb B M3 2 := xgb_eq hg (fun c _ _ => all3 c (by omega))
  have hc3 : chOK B M3 := chOK_cong hc (fun i _ => by rw [all3 22 (by omega)]) (fun c a b => all3 c (by omega))
  refine x_fillRows hW hg3 hc3 p3 (fun M4 f4 r4 => ?_)
  have hg4 : xgb B M4 2 := xgb_eq hg3 (fun c _ _ => f4 c (by omega))
  have hc4 : chOK B M4 := chOK_cong hc3 (fun i _ => by rw [f4 22 (by decide)]) (fun c a b => f4 c (by omega))
  have p4 : pnI B M4 := pnI_eq p3 (fun i _ => by rw [f4 81 (by decide)]) (fun c a b => f4 c (by omega))
  have x4 : xfF B 65 M4 := fun f hf => by rw [f4 85 (by decide)]; exact x3 f hf
  refine x_fillFrames hW hg4 hc4 p4 r4 x4 (fun M5 D φ f5 i5 d5 => ?_)
  obtain ⟨hg5, hc5, p5, r5, x5⟩ := ffF_R f5 hg4 hc4 p4 r4 x4
  refine x_turnAbout hW hg5 p5 r5 i5 d5 (fun M6 f6 h6 => ?_)
  refine hQ M6 (fun c hc => ?_) ?_ (Or.inl ?_) ⟨pnI_eq p5 (fun i _ => by rw [f6 81 (by decide) (by decide)]) (fun c a b => f6 c (by omega) (by omega)), fun f hf => by rw [f6 85 (by decide) (by decide)]; exact x5 f hf, fun r hr w hw => by rw [f6 88 (by decide) (by decide)]; exact r5 r hr w hw, h6, D, φ, ⟨by rw [f6 81 (by decide) (by decide)]; exact i5.1, fun i hi => by rw [f6 86 (by decide) (by decide)]; exact i5.2.1 i hi, i5.2.2.1, i5.2.2.2.1, i5.2.2.2.2.1, fun f hf w hw => by rw [f6 87 (by decide) (by decide)]; exact i5.2.2.2.2.2 f hf w hw⟩, d5⟩
  · rw [f6 c (by omega) (by omega), f5.1 c (by omega) (by omega) (by omega), f4 c (by omega)]; exact all3 c (by omega)
  · rw [f6 81 (by decide) (by decide), f5.2 2 (by decide), f4 81 (by decide), i3 2 (by decide), f2.2 2 (by decide), e2, f6 2 (by decide) (by decide), f5.1 2 (by decide) (by decide) (by decide), f4 2 (by decide), all3 2 (by omega)]
  · rw [f6 81 (by decide) (by decide), f5.2 16 (by decide), f4 81 (by decide), i3 16 (by decide), f2.2 16 (by decide), e16]
end S96
