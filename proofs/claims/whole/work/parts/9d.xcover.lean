/-! the class: COVER made ready, read, and BOUND -/
section S9d
variable {B : Nat → Nat} {M M0 : (Nat → Int → Int)} {d : Nat} {Q : Int → (Nat → Int → Int) → Prop} {P : Nat → Prop}
/-- the cover's cells -/
def cwF (M M' : (Nat → Int → Int)) : Prop := (∀ c, c < 93 ∨ 99 < c → M' c = M c) ∧ ∀ i : Int, i ≠ 2 → i ≠ 5 → i ≠ 12 → M' 93 i = M 93 i
theorem x_cover (hW : gW B) (h0 : pOK B M) (hold : M 93 2 = M 81 2 → coOK B M) (hQ : ∀ M', cwF M M' → M' 93 2 = M' 81 2 → coOK B M' → Q 0 M') : am_s am_P am_gg (d + 7) 43 [.inr (.inr 94)] M Q := by
  have n2 := gN_le (B := B)
  refine (v_43_94 _ _ _).mpr ?_
  refine @p_if _ _ _ _ ?_ ?_
  · intro e
    exact hQ M ⟨fun _ _ => rfl, fun _ _ _ _ => rfl⟩ e (hold e)
  intro _
  generalize hM1 : am_up M 93 2 (M 81 2) = M1
  have o1 : ∀ c, c ≠ 93 → M1 c = M c := fun c a => by rw [← hM1, up_nc _ _ _ _ a]
  have i1 : ∀ i : Int, i ≠ 2 → M1 93 i = M 93 i := fun i a => by rw [← hM1, up_ni _ _ _ _ a]
  have e2 : M1 93 2 = M 81 2 := by rw [← hM1, up_eq]
  have h1 : pOK B M1 := pOK_eq h0 (fun c a b => o1 c (by omega))
  refine x_choose hW h1 (fun M2 τ j I2 g2 => ?_)
  have h2 : pOK B M2 := pOK_eq h1 (fun c a b => I2.1.1 c (by omega))
  have hj := I2.2.2.2.2.2
  refine x_leaveOut hW h2 (by omega) g2 I2.2.2.1 I2.2.1 (fun M3 f3 c3 => ?_)
  refine hQ M3 ⟨fun c hc => by rw [f3.1 c hc, I2.1.1 c hc, o1 c (by omega)], fun i a b c => by rw [f3.2 i b c, I2.1.2 i b c, i1 i a]⟩ ?_ c3
  rw [f3.2 2 (by decide) (by decide), I2.1.2 2 (by decide) (by decide), e2, f3.1 81 (by omega), I2.1.1 81 (by omega), o1 81 (by decide)]
/-- the first of the cover that has a pair -/
theorem x_firstHaving (h0 : pOK B M) {κn : Nat} {ρ : Nat → Nat} (hκ : κn ≤ 1024) (h5 : M 93 5 = (κn : Int)) (hρ : ∀ i, i < κn → M 94 (i : Int) = (ρ i : Int) ∧ ρ i < gN B) {m : Nat} (hm : m < gN B) (h1 : ∀ i, i < κn → nH B (ρ i) m → (∀ j, j < i → ¬ nH B (ρ j) m) → Q (i : Int) M) (h2 : (∀ i, i < κn → ¬ nH B (ρ i) m) → Q (-1) M) : am_s am_P am_gg (d + 4) 49 [.inr (.inr 94), .inl (m : Int)] M Q := by
  refine (v_49_94 _ _ _ _).mpr ?_
  refine p_for (S := Unit) (X := fun j _ => am_x am_P am_gg (d + 3) am_k49 1 Q 2 [some (.inr (.inr 94)), some (.inl ((m : Int))), some (.inl (j))] [] M 0 0) κn (fun e _ => ∀ i, i < e → ¬ nH B (ρ i) m) ?_ ?_ 0 () (by omega) (fun i hi => absurd hi (Nat.not_lt_zero i))
  · intro _ hI
    refine (h_49_2_94 _ _ _ _ _).mpr ?_
    rw [h5]
    rw [if_neg (by omega)]
    exact h2 hI
  · intro e _ he hI k
    refine (h_49_2_94 _ _ _ _ _).mpr ?_
    rw [h5, (hρ e he).1, w32_s (i := e) (by omega)]
    rw [if_pos (by omega)]
    rw [if_pos (by omega)]
    refine x_includes h0 (hρ e he).2 hm (fun z => ?_) (fun z => ?_)
    · rw [if_neg (by decide)]; exact h1 e he z hI
    · rw [if_pos rfl]
      refine k () (fun i hi => ?_)
      by_cases q : i = e
      · subst q; exact z
      · exact hI i (by omega)
theorem x_countAlone (h0 : pOK B M) {n : Nat} (hn : n < gN B) (hQ : ∀ M', wF1 97 M M' → Q ((cnt (dc (fun m => nH B n m ∧ M 96 (m : Int) = 1)) 1024 : Nat) : Int) M') : am_s am_P am_gg (d + 4) 50 [.inr (.inr 94), .inl (n : Int)] M Q := by
  refine (w_50_94 _ _ _ _).mpr ?_
  refine x_listHad h0 hn (fun M2 f2 l2 => ?_)
  obtain ⟨ν, l1, l2, l3⟩ := l2
  have cl := cnt_le (p := dc (nH B n)) 1024
  generalize hc : cnt (dc (nH B n)) 1024 = c at *
  have e96 : M2 96 = M 96 := f2 96 (by decide)
  refine am_x_le [some (.inr (.inr 94)), none, some (.inl ((c : Int))), some (.inl (((0 : Nat) : Int))), some (.inl (((0 : Nat) : Int)))] (am_lb_le _ _ ⟨rfl, rfl, rfl, rfl, trivial⟩) ?_
  have key := p_for (S := Int) (X := fun j x => am_x am_P am_gg (d + 3) am_k50 1 Q 18 [some (.inr (.inr 94)), none, some (.inl ((c : Int))), some (.inl (x)), some (.inl (j))] [] M2 0 0) c (fun e x => x = ((cnt (dc (fun m => (∃ i, i < e ∧ ν i = m) ∧ M 96 (m : Int) = 1)) 1024 : Nat) : Int)) ?_ ?_ 0 ((0 : Nat) : Int) (by omega) (by
    rw [show cnt (dc (fun m => (∃ i, i < 0 ∧ ν i = m) ∧ M 96 (m : Int) = 1)) 1024 = 0 from cnt_skip (t := 0) (by omega) (fun c _ _ => dc_f (fun ⟨⟨i, hi, _⟩, _⟩ => absurd hi (Nat.not_lt_zero i)))])
  · exact key
  · intro x ex
    refine (g_50_18_94 _ _ _ _ _ _).mpr ?_
    rw [if_neg (by omega)]
    rw [ex, cnt_cg (P' := fun m => nH B n m ∧ M 96 (m : Int) = 1) (fun m hm => and_congr_left (fun _ => ⟨fun ⟨i, hi, e⟩ => e ▸ (l1 i hi).2.2, fun z => l2 m hm z⟩))]
    exact hQ M2 f2
  · intro e x he ex k
    obtain ⟨a1, a2, a3⟩ := l1 e he
    have cl2 := cnt_le (p := dc (fun m => (∃ i, i < e ∧ ν i = m) ∧ M 96 (m : Int) = 1)) 1024
    have new : ¬ (∃ i, i < e ∧ ν i = ν e) := fun ⟨i, hi, z⟩ => l3 i e hi he z
    refine (g_50_18_94 _ _ _ _ _ _).mpr ?_
    rw [a1, e96, w32_s (i := e) (by omega)]
    rw [if_pos (by omega)]
    rw [if_pos (by omega)]
    rw [if_pos (by omega)]
    refine @p_if _ _ _ _ ?_ ?_
    · intro one
      refine k _ ?_
      rw [ex, w32_s (by omega), ← cnt_ins (P := fun m => (∃ i, i < e ∧ ν i = m) ∧ M 96 (m : Int) = 1) a2 (fun z => new z.1)]
      refine congrArg (fun x : Nat => (x : Int)) (cnt_cg (fun m _ => ⟨?_, ?_⟩))
      · rintro (⟨⟨i, hi, z⟩, y⟩ | z)
        · exact ⟨⟨i, by omega, z⟩, y⟩
        · exact ⟨⟨e, by omega, z.symm⟩, by rw [z]; exact one⟩
      · rintro ⟨⟨i, hi, z⟩, y⟩
        by_cases q : i = e
        · subst q; exact Or.inr z.symm
        · exact Or.inl ⟨⟨i, by omega, z⟩, y⟩
    · intro one
      refine k _ ?_
      rw [ex, w32_i (by omega) (by omega), Int.add_zero]
      refine congrArg (fun x : Nat => (x : Int)) (cnt_cg (fun m _ => ⟨fun ⟨⟨i, hi, z⟩, y⟩ => ⟨⟨i, by omega, z⟩, y⟩, fun ⟨⟨i, hi, z⟩, y⟩ => ?_⟩))
      by_cases q : i = e
      · subst q; rw [← z] at y; exact absurd y one
      · exact ⟨⟨i, by omega, z⟩, y⟩
/-- two pairs that one sentence has -/
def shr (B : Nat → Nat) (a b : Nat) : Prop := ∃ h, h < gN B ∧ nH B h a ∧ nH B h b
/-- those that stand apart, in their order -/
def apt (B : Nat → Nat) (α : Nat → Bool) (m : Nat) : Prop := α m = true ↔ ∀ a, a < m → α a = true → ¬ shr B a m
theorem apt_uniq {α α' : Nat → Bool} {n : Nat} (h : ∀ m, m < n → apt B α m) (h' : ∀ m, m < n → apt B α' m) : ∀ m, m < n → α m = α' m := by
  intro m
  induction m using Nat.strongRecOn with
  | _ m ih =>
    intro hm
    have e : α m = true ↔ α' m = true := (h m hm).trans (Iff.trans ⟨fun z a ha y => z a ha (by rw [ih a ha (by omega)]; exact y), fun z a ha y => z a ha (by rw [← ih a ha (by omega)]; exact y)⟩ (h' m hm).symm)
    cases x : α m <;> cases y : α' m <;> simp_all
/-- BOUND is so many -/
def apR (B : Nat → Nat) (v : Int) : Prop := ∃ α : Nat → Bool, (∀ m, m < gN B → apt B α m) ∧ v = (cnt α (gN B) : Int)
theorem apR_uniq {v v' : Int} (h : apR B v) (h' : apR B v') : v = v' := by
  obtain ⟨α, a, b⟩ := h
  obtain ⟨α', a', b'⟩ := h'
  rw [b, b', cnt_congr (apt_uniq a a')]
theorem x_findApart (hW : gW B) (h0 : pOK B M) (hQ : ∀ M' v, (∀ c, c ≠ 98 → c ≠ 99 → M' c = M c) → apR B v → Q v M') : am_s am_P am_gg (d + 5) 55 [.inr (.inr 94)] M Q := by
  have n2 := gN_le (B := B)
  refine (v_55_94 _ _ _).mpr (x_fill_99 ?_)
  have e3 : M 81 3 = (gN B : Int) := h0.1.1.1
  refine am_x_le [some (.inr (.inr 94)), some (.inl (((0 : Nat) : Int))), some (.inl (((0 : Nat) : Int))), none, none] (am_lb_le _ _ ⟨rfl, rfl, rfl, trivial⟩) ?_
  have key := p_for (S := Int × (Nat → Int → Int)) (X := fun j x => am_x am_P am_gg (d + 4) am_k55 1 Q 12 [some (.inr (.inr 94)), some (.inl (x.1)), some (.inl (j)), none, none] [] x.2 0 0) (gN B) (fun b x => (∀ c, c ≠ 98 → c ≠ 99 → x.2 c = M c) ∧ ∃ α : Nat → Bool, x.1 = (cnt α b : Int) ∧ (∀ m, m < b → apt B α m) ∧ lrw 99 0 (fun m => ∃ a, a < b ∧ α a = true ∧ shr B a m) x.2) ?_ ?_ 0 (((0 : Nat) : Int), am_fil M 99 0 16 0) (by omega) ⟨fun c a b => fil_nc _ _ _ _ _ b, fun _ => false, rfl, fun m hm => absurd hm (Nat.not_lt_zero m), fun w hw => by
    dsimp only
    rw [fil_at, if_pos (by omega)]; exact ld_cong ld_0 (fun k _ => ⟨fun z => z.elim, fun ⟨a, ha, _⟩ => absurd ha (Nat.not_lt_zero a)⟩)⟩
  · exact key
  · intro x ⟨f1, α, c1, a1, _⟩
    obtain ⟨v, M1⟩ := x
    dsimp only at f1 c1 ⊢
    refine (h_55_12_94 _ _ _ _ _).mpr ?_
    rw [f1 81 (by decide) (by decide), e3]
    rw [if_neg (by omega)]
    exact hQ M1 v f1 ⟨α, a1, c1⟩
  · intro b x hb ⟨f1, α, c1, a1, l1⟩ k
    obtain ⟨v, M1⟩ := x
    dsimp only at f1 c1 l1 k ⊢
    have h1 : pOK B M1 := pOK_eq h0 (fun c a b => f1 c (by omega) (by omega))
    have cl := cnt_le (p := α) b
    refine (h_55_12_94 _ _ _ _ _).mpr ?_
    rw [f1 81 (by decide) (by decide), e3, show (6 : Int) = ((6 : Nat) : Int) from rfl, shr_div (by omega) (by omega), show (63 : Int) = ((2 ^ 6 - 1 : Nat) : Int) from rfl, and_mod (by omega) (by omega), show (2 : Nat) ^ 6 = 64 from rfl, w32_s (i := b) (by omega), c1]
    rw [if_pos (by omega)]
    rw [if_pos (by omega)]
    have wd := l1 (b / 64) (by omega)
    rw [show ((16 * 0 + b / 64 : Nat) : Int) = ((b / 64 : Nat) : Int) by omega] at wd
    have enu : 64 * (b / 64) + b % 64 = b := by omega
    refine ld_bit wd (by omega) (fun no => ?_) (fun yes => ?_)
    · rw [enu] at no
      refine x_listHolders hW h1 hb (fun M2 f2 l2 => ?_)
      obtain ⟨ν, q1, q2, q3⟩ := l2
      have cl2 := cnt_le (p := dc (fun k => k < gN B ∧ nH B k b)) 1024
      generalize hc : cnt (dc (fun k => k < gN B ∧ nH B k b)) 1024 = c at *
      rw [w32_s (i := cnt α b) (by omega)]
      have lp := p_for (S := (Nat → Int → Int)) (X := fun j M3 => am_x am_P am_gg (d + 4) am_k55 1 Q 63 [some (.inr (.inr 94)), some (.inl (((cnt α b + 1 : Nat) : Int))), some (.inl ((b : Int))), some (.inl ((c : Int))), some (.inl (j))] [] M3 0 0) c (fun e M3 => wF1 99 M2 M3 ∧ lrw 99 0 (fun m => (∃ a, a < b ∧ α a = true ∧ shr B a m) ∨ ∃ i, i < e ∧ nH B (ν i) m) M3) ?_ ?_ 0 M2 (by omega) ⟨fun _ _ => rfl, lrw_cong (P := fun m => ∃ a, a < b ∧ α a = true ∧ shr B a m) (fun w hw => by rw [f2 99 (by decide)]; exact l1 w hw) (fun m _ => ⟨Or.inl, fun z => z.elim id (fun ⟨i, hi, _⟩ => absurd hi (Nat.not_lt_zero i))⟩)⟩
      · exact lp
      · intro M3 ⟨f3, l3⟩
        refine (h_55_63_94 _ _ _ _ _ _ _).mpr ?_
        rw [if_neg (by omega)]
        rw [w32_s (i := b) (by omega)]
        refine am_x_le [some (.inr (.inr 94)), some (.inl (((cnt α b + 1 : Nat) : Int))), some (.inl (((b + 1 : Nat) : Int))), none, none] (am_lb_le _ _ ⟨rfl, rfl, rfl, trivial⟩) ?_
        have ec : cnt (fun i => if i = b then true else α i) b = cnt α b := cnt_congr (fun i hi => by rw [if_neg (by omega)])
        refine k (((cnt α b + 1 : Nat) : Int), M3) ⟨fun c a b => by dsimp only; rw [f3 c b, f2 c a]; exact f1 c a b, fun i => if i = b then true else α i, by dsimp only; rw [cnt_s, ec, if_pos (by rw [if_pos rfl])], fun m hm => ?_, lrw_cong l3 (fun m hm => ⟨?_, ?_⟩)⟩
        · unfold apt
          dsimp only
          by_cases q : m = b
          · subst q
            rw [if_pos rfl]
            exact ⟨fun _ a ha y z => no ⟨a, ha, by rw [if_neg (by omega)] at y; exact y, z⟩, fun _ => rfl⟩
          · rw [if_neg q]
            refine (a1 m (by omega)).trans ⟨fun z a ha y => z a ha (by rw [if_neg (by omega)] at y; exact y), fun z a ha y => z a ha (by rw [if_neg (by omega)]; exact y)⟩
        · rintro (⟨a, ha, y, z⟩ | ⟨i, hi, z⟩)
          · exact ⟨a, by omega, by dsimp only; rw [if_neg (by omega)]; exact y, z⟩
          · obtain ⟨x1, x2, x3⟩ := q1 i hi
            exact ⟨b, by omega, by dsimp only; rw [if_pos rfl], ν i, x3.1, x3.2, z⟩
        · rintro ⟨a, ha, y, z⟩
          by_cases q : a = b
          · subst q
            obtain ⟨h, x1, x2, x3⟩ := z
            obtain ⟨i, hi, e⟩ := q2 h (by omega) ⟨x1, x2⟩
            exact Or.inr ⟨i, hi, by rw [e]; exact x3⟩
          · dsimp only at y
            rw [if_neg q] at y
            exact Or.inl ⟨a, by omega, y, z⟩
      · intro e M3 he ⟨f3, l3⟩ k3
        obtain ⟨x1, x2, x3⟩ := q1 e he
        refine (h_55_63_94 _ _ _ _ _ _ _).mpr ?_
        rw [show M3 98 (e : Int) = (ν e : Int) by rw [f3 98 (by decide)]; exact x1, w32_s (i := e) (by omega)]
        rw [if_pos (by omega)]
        rw [if_pos (by omega)]
        refine x_addHad (pOK_eq h1 (fun c a b => by rw [f3 c (by omega), f2 c (by omega)])) x3.1 l3 (fun M4 f4 l4 => ?_)
        refine k3 M4 ⟨fun c hc => by rw [f4 c hc]; exact f3 c hc, lrw_cong l4 (fun m _ => ⟨?_, ?_⟩)⟩
        · rintro ((z | ⟨i, hi, z⟩) | z)
          · exact Or.inl z
          · exact Or.inr ⟨i, by omega, z⟩
          · exact Or.inr ⟨e, by omega, z⟩
        · rintro (z | ⟨i, hi, z⟩)
          · exact Or.inl (Or.inl z)
          · by_cases q : i = e
            · subst q; exact Or.inr z
            · exact Or.inl (Or.inr ⟨i, by omega, z⟩)
    · rw [enu] at yes
      obtain ⟨a, ha, ya, za⟩ := yes
      have ec : cnt (fun i => if i = b then false else α i) b = cnt α b := cnt_congr (fun i hi => by rw [if_neg (by omega)])
      refine k (((cnt α b : Nat) : Int), M1) ⟨f1, fun i => if i = b then false else α i, by dsimp only; rw [cnt_s, ec, if_neg (by rw [if_pos rfl]; decide)]; rfl, fun m hm => ?_, lrw_cong l1 (fun m hm => ⟨?_, ?_⟩)⟩
      · unfold apt
        dsimp only
        by_cases q : m = b
        · subst q
          rw [if_pos rfl]
          exact ⟨fun z => (by cases z), fun z => absurd za (z a ha (by rw [if_neg (by omega)]; exact ya))⟩
        · rw [if_neg q]
          refine (a1 m (by omega)).trans ⟨fun z a ha y => z a ha (by rw [if_neg (by omega)] at y; exact y), fun z a ha y => z a ha (by rw [if_neg (by omega)]; exact y)⟩
      · rintro ⟨a, ha, y, z⟩
        exact ⟨a, by omega, by dsimp only; rw [if_neg (by omega)]; exact y, z⟩
      · rintro ⟨a, ha, y, z⟩
        by_cases q : a = b
        · dsimp only at y; rw [if_pos q] at y; cases y
        · dsimp only at y; rw [if_neg q] at y
          exact ⟨a, by omega, y, z⟩
theorem x_countApart (hW : gW B) (h0 : pOK B M) (hold : M 93 3 = M 81 2 → apR B (M 93 4)) (hQ : ∀ M', (∀ c, c ≠ 93 → c ≠ 98 → c ≠ 99 → M' c = M c) → (∀ i : Int, i ≠ 3 → i ≠ 4 → M' 93 i = M 93 i) → M' 93 3 = M' 81 2 → apR B (M' 93 4) → Q (M' 93 4) M') : am_s am_P am_gg (d + 6) 54 [.inr (.inr 94)] M Q := by
  refine (v_54_94 _ _ _).mpr ?_
  refine @p_if _ _ _ _ ?_ ?_
  · intro e
    exact hQ M (fun _ _ _ _ => rfl) (fun _ _ _ => rfl) e (hold e)
  intro _
  generalize hM1 : am_up M 93 3 (M 81 2) = M1
  have o1 : ∀ c, c ≠ 93 → M1 c = M c := fun c a => by rw [← hM1, up_nc _ _ _ _ a]
  have i1 : ∀ i : Int, i ≠ 3 → M1 93 i = M 93 i := fun i a => by rw [← hM1, up_ni _ _ _ _ a]
  have e2 : M1 93 3 = M 81 2 := by rw [← hM1, up_eq]
  refine x_findApart hW (pOK_eq h0 (fun c a b => o1 c (by omega))) (fun M2 v f2 a2 => ?_)
  have := hQ (am_up M2 93 4 v) (fun c a b e => by rw [up_nc _ _ _ _ a, f2 c b e, o1 c a]) (fun i a b => by rw [up_ni _ _ _ _ b, f2 93 (by decide) (by decide), i1 i a]) (by rw [up_ni _ _ _ _ (by decide), f2 93 (by decide) (by decide), e2, up_nc _ _ _ _ (by decide), f2 81 (by decide) (by decide), o1 81 (by decide)]) (by rw [up_eq]; exact a2)
  rw [up_eq] at this
  exact this
end S9d
