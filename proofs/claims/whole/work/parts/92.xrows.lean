/-! the class: what rows and frames HAVE -/
/-- a row of sixteen words in a cell -/
def lrw (c q : Nat) (P : Nat → Prop) (M : (Nat → Int → Int)) : Prop := ∀ w : Nat, w < 16 → ld (M c ((16 * q + w : Nat) : Int)) (fun k => P (64 * w + k))
/-- of a cell one such row alone changes -/
def rwF (c q : Nat) (M M' : (Nat → Int → Int)) : Prop := (∀ k, k ≠ c → M' k = M k) ∧ ∀ j : Int, j < ((16 * q : Nat) : Int) ∨ ((16 * q + 16 : Nat) : Int) ≤ j → M' c j = M c j
theorem lrw_cong {c q : Nat} {P P' : Nat → Prop} {M : (Nat → Int → Int)} (h : lrw c q P M) (e : ∀ n, n < 1024 → (P n ↔ P' n)) : lrw c q P' M := fun w hw => ld_cong (h w hw) (fun k hk => e _ (by omega))
theorem rwF_rf {c q : Nat} {M : (Nat → Int → Int)} : rwF c q M M := ⟨fun _ _ => rfl, fun _ _ => rfl⟩
theorem rwF_tr {c q : Nat} {M M1 M2 : (Nat → Int → Int)} (h : rwF c q M M1) (g : rwF c q M1 M2) : rwF c q M M2 := ⟨fun k a => (g.1 k a).trans (h.1 k a), fun j a => (g.2 j a).trans (h.2 j a)⟩
theorem lrw_oth {c q q' : Nat} {P : Nat → Prop} {M M1 : (Nat → Int → Int)} (f : rwF c q M M1) (ne : q' ≠ q) (h : lrw c q' P M) : lrw c q' P M1 := fun w hw => by rw [f.2 _ (by omega)]; exact h w hw
theorem lrw_cel {c c' q q' : Nat} {P : Nat → Prop} {M M1 : (Nat → Int → Int)} (f : rwF c q M M1) (ne : c' ≠ c) (h : lrw c' q' P M) : lrw c' q' P M1 := fun w hw => by rw [f.1 _ ne]; exact h w hw
/-- what the class knows of the pairs' numbers -/
def pnI (B : Nat → Nat) (M : (Nat → Int → Int)) : Prop := xpI B 1024 M ∧ M 81 4 = ((gN B + 63) / 64 : Nat)
theorem pnI_eq {B : Nat → Nat} {M M1 : (Nat → Int → Int)} (h : pnI B M) (e81 : ∀ i : Int, i = 3 ∨ i = 4 → M1 81 i = M 81 i) (e : ∀ c, 82 ≤ c → c ≤ 84 → M1 c = M c) : pnI B M1 :=
  ⟨xpI_cong h.1 (e81 3 (by omega)) (e 82 (by omega) (by omega)) (e 83 (by omega) (by omega)) (e 84 (by omega) (by omega)), by rw [e81 4 (by omega)]; exact h.2⟩
section S92
variable {B : Nat → Nat} {M M0 : (Nat → Int → Int)} {d : Nat} {Q : Int → (Nat → Int → Int) → Prop} {P P' : Nat → Prop}
theorem gN_le : gN B ≤ 1024 := cnt_le 1024
theorem x_numberOf (h : xpI B 1024 M) {r i o : Nat} (hr : r < 16) (hi : i < 4) (ho : o < 16) (hQ : Q (if gp B (cde r i o) = true then (cnt (gp B) (cde r i o) : Int) else -1) M) : am_s am_P am_gg (d + 1) 84 [.inr (.inr 82), .inl (r : Int), .inl (i : Int), .inl (o : Int)] M Q := by
  have c4 := cde_lt hr hi ho
  refine (v_84_82 _ _ _ _ _ _).mpr ?_
  rw [show w32 ((r : Int) * 4) = (r : Int) * 4 from w32_i (by omega) (by omega), show w32 ((r : Int) * 4 + (i : Int)) = (r : Int) * 4 + (i : Int) from w32_i (by omega) (by omega), show w32 (((r : Int) * 4 + (i : Int)) * 16) = ((r : Int) * 4 + (i : Int)) * 16 from w32_i (by omega) (by omega), show w32 (((r : Int) * 4 + (i : Int)) * 16 + (o : Int)) = (cde r i o : Int) by rw [w32_i (by omega) (by omega)]; unfold cde; omega]
  rw [if_pos (by omega)]
  rw [h.2.1 _ c4]
  by_cases q : gp B (cde r i o) = true
  · rw [if_pos ⟨c4, q⟩]; rw [if_pos q] at hQ; exact hQ
  · rw [if_neg (fun z => q z.2)]; rw [if_neg q] at hQ; exact hQ
theorem x_addBit_87 {q c : Nat} (hq : q < 64) (hc : c < 1024) (h : lrw 87 q P M) (hQ : ∀ M', rwF 87 q M M' → lrw 87 q (fun n => P n ∨ gp B c = true ∧ n = cnt (gp B) c) M' → Q 0 M') : am_s am_P am_gg (d + 1) 92 [.inr (.inr 88), .inl ((16 * q : Nat) : Int), .inl (if gp B c = true then (cnt (gp B) c : Int) else -1)] M Q := by
  by_cases g : gp B c = true
  · rw [if_pos g]
    have n1 := cnt_lt_of g hc
    have n2 := gN_le (B := B)
    have n3 : cnt (gp B) 1024 = gN B := rfl
    generalize hn : cnt (gp B) c = n at *
    refine (v_92_88 _ _ _ _ _).mpr ?_
    rw [show (6 : Int) = ((6 : Nat) : Int) from rfl, shr_div (by omega) (by omega), show (63 : Int) = ((2 ^ 6 - 1 : Nat) : Int) from rfl, and_mod (by omega) (by omega), show (2 : Nat) ^ 6 = 64 from rfl, show w32 (((16 * q : Nat) : Int) + ((n / 64 : Nat) : Int)) = ((16 * q + n / 64 : Nat) : Int) by rw [w32_i (by omega) (by omega)]; omega]
    rw [if_neg (by omega)]
    rw [if_pos (by omega)]
    rw [if_pos (by omega)]
    refine hQ _ ⟨fun k a => up_nc _ _ _ _ a, fun j a => up_ni _ _ _ _ (by omega) _⟩ (fun w hw => ?_)
    rw [up_ci]
    by_cases e : w = n / 64
    · subst e
      rw [if_pos rfl]
      exact ld_cong (ld_or (h _ hw) (ld_one (b := n % 64) (by omega))) (fun k hk => or_congr Iff.rfl ⟨fun z => ⟨g, by omega⟩, fun z => by have := z.2; omega⟩)
    · rw [if_neg (by omega)]
      exact ld_cong (h w hw) (fun k hk => ⟨Or.inl, fun z => z.elim id (fun z => absurd z.2 (by omega))⟩)
  · rw [if_neg g]
    refine (v_92_88 _ _ _ _ _).mpr ?_
    rw [if_pos (by omega)]
    exact hQ M rwF_rf (lrw_cong h (fun n _ => ⟨Or.inl, fun z => z.elim id (fun z => absurd z.1 g)⟩))
theorem x_addBit_88 {q c : Nat} (hq : q < 16) (hc : c < 1024) (h : lrw 88 q P M) (hQ : ∀ M', rwF 88 q M M' → lrw 88 q (fun n => P n ∨ gp B c = true ∧ n = cnt (gp B) c) M' → Q 0 M') : am_s am_P am_gg (d + 1) 92 [.inr (.inr 89), .inl ((16 * q : Nat) : Int), .inl (if gp B c = true then (cnt (gp B) c : Int) else -1)] M Q := by
  by_cases g : gp B c = true
  · rw [if_pos g]
    have n1 := cnt_lt_of g hc
    have n2 := gN_le (B := B)
    have n3 : cnt (gp B) 1024 = gN B := rfl
    generalize hn : cnt (gp B) c = n at *
    refine (v_92_89 _ _ _ _ _).mpr ?_
    rw [show (6 : Int) = ((6 : Nat) : Int) from rfl, shr_div (by omega) (by omega), show (63 : Int) = ((2 ^ 6 - 1 : Nat) : Int) from rfl, and_mod (by omega) (by omega), show (2 : Nat) ^ 6 = 64 from rfl, show w32 (((16 * q : Nat) : Int) + ((n / 64 : Nat) : Int)) = ((16 * q + n / 64 : Nat) : Int) by rw [w32_i (by omega) (by omega)]; omega]
    rw [if_neg (by omega)]
    rw [if_pos (by omega)]
    rw [if_pos (by omega)]
    refine hQ _ ⟨fun k a => up_nc _ _ _ _ a, fun j a => up_ni _ _ _ _ (by omega) _⟩ (fun w hw => ?_)
    rw [up_ci]
    by_cases e : w = n / 64
    · subst e
      rw [if_pos rfl]
      exact ld_cong (ld_or (h _ hw) (ld_one (b := n % 64) (by omega))) (fun k hk => or_congr Iff.rfl ⟨fun z => ⟨g, by omega⟩, fun z => by have := z.2; omega⟩)
    · rw [if_neg (by omega)]
      exact ld_cong (h w hw) (fun k hk => ⟨Or.inl, fun z => z.elim id (fun z => absurd z.2 (by omega))⟩)
  · rw [if_neg g]
    refine (v_92_89 _ _ _ _ _).mpr ?_
    rw [if_pos (by omega)]
    exact hQ M rwF_rf (lrw_cong h (fun n _ => ⟨Or.inl, fun z => z.elim id (fun z => absurd z.1 g)⟩))
theorem x_addWords_87_87 {q q' : Nat} (hq : q < 64) (hq' : q' < 64) (ne : 87 = 87 → q ≠ q') (hp : pnI B M) (h : lrw 87 q P M) (h' : lrw 87 q' P' M) (hP' : ∀ n, P' n → n < gN B) (hQ : ∀ M', rwF 87 q M M' → lrw 87 q (fun n => P n ∨ P' n) M' → Q 0 M') : am_s am_P am_gg (d + 1) 93 [.inr (.inr 82), .inr (.inr 88), .inl ((16 * q : Nat) : Int), .inr (.inr 88), .inl ((16 * q' : Nat) : Int)] M Q := by
  have n2 := gN_le (B := B)
  refine (v_93_82_88_88 _ _ _ _ _).mpr ?_
  refine p_for (S := (Nat → Int → Int)) (X := fun j M => am_x am_P am_gg d am_k93 0 Q 3 [some (.inr (.inr 82)), some (.inr (.inr 88)), some (.inl (((16 * q : Nat) : Int))), some (.inr (.inr 88)), some (.inl (((16 * q' : Nat) : Int))), some (.inl (j))] [] M 0 0) ((gN B + 63) / 64) (fun w M1 => rwF 87 q M M1 ∧ ∀ v : Nat, v < 16 → ld (M1 87 ((16 * q + v : Nat) : Int)) (fun k => P (64 * v + k) ∨ v < w ∧ P' (64 * v + k))) ?_ ?_ 0 M (by omega) ⟨rwF_rf, fun v hv => ld_cong (h v hv) (fun k _ => ⟨Or.inl, fun z => z.elim id (fun z => absurd z.1 (Nat.not_lt_zero v))⟩)⟩
  · intro M1 ⟨f1, w1⟩
    refine (h_93_3_82_88_88 _ _ _ _ _ _).mpr ?_
    rw [show M1 81 4 = (((gN B + 63) / 64 : Nat) : Int) by rw [f1.1 81 (by decide)]; exact hp.2]
    rw [if_neg (by omega)]
    refine hQ M1 f1 (fun v hv => ld_cong (w1 v hv) (fun k hk => or_congr Iff.rfl ⟨fun z => z.2, fun z => ⟨?_, z⟩⟩))
    have := hP' _ z
    omega
  · intro w M1 hw ⟨f1, w1⟩ k
    refine (h_93_3_82_88_88 _ _ _ _ _ _).mpr ?_
    rw [show M1 81 4 = (((gN B + 63) / 64 : Nat) : Int) by rw [f1.1 81 (by decide)]; exact hp.2, show w32 (((16 * q : Nat) : Int) + (w : Int)) = ((16 * q + w : Nat) : Int) by rw [w32_i (by omega) (by omega)]; omega, show w32 (((16 * q' : Nat) : Int) + (w : Int)) = ((16 * q' + w : Nat) : Int) by rw [w32_i (by omega) (by omega)]; omega]
    rw [if_pos (by omega)]
    rw [if_pos (by omega)]
    rw [if_pos (by omega)]
    rw [if_pos (by omega)]
    rw [w32_s (by omega)]
    have h2 : ld (M1 87 ((16 * q' + w : Nat) : Int)) (fun k => P' (64 * w + k)) := by rw [f1.2 _ (by have := ne rfl; omega)]; exact h' w (by omega)
    refine k _ ⟨rwF_tr f1 ⟨fun k a => up_nc _ _ _ _ a, fun j a => up_ni _ _ _ _ (by omega) _⟩, fun v hv => ?_⟩
    rw [up_ci]
    by_cases e : v = w
    · subst e
      rw [if_pos rfl]
      refine ld_cong (ld_or (w1 v hv) h2) (fun k _ => ⟨?_, ?_⟩)
      · rintro ((z | z) | z)
        · exact Or.inl z
        · exact absurd z.1 (Nat.lt_irrefl _)
        · exact Or.inr ⟨by omega, z⟩
      · rintro (z | z)
        · exact Or.inl (Or.inl z)
        · exact Or.inr z.2
    · rw [if_neg (by omega)]
      exact ld_cong (w1 v hv) (fun k _ => or_congr Iff.rfl ⟨fun z => ⟨by omega, z.2⟩, fun z => ⟨by omega, z.2⟩⟩)
theorem x_addWords_88_88 {q q' : Nat} (hq : q < 16) (hq' : q' < 16) (ne : 88 = 88 → q ≠ q') (hp : pnI B M) (h : lrw 88 q P M) (h' : lrw 88 q' P' M) (hP' : ∀ n, P' n → n < gN B) (hQ : ∀ M', rwF 88 q M M' → lrw 88 q (fun n => P n ∨ P' n) M' → Q 0 M') : am_s am_P am_gg (d + 1) 93 [.inr (.inr 82), .inr (.inr 89), .inl ((16 * q : Nat) : Int), .inr (.inr 89), .inl ((16 * q' : Nat) : Int)] M Q := by
  have n2 := gN_le (B := B)
  refine (v_93_82_89_89 _ _ _ _ _).mpr ?_
  refine p_for (S := (Nat → Int → Int)) (X := fun j M => am_x am_P am_gg d am_k93 0 Q 3 [some (.inr (.inr 82)), some (.inr (.inr 89)), some (.inl (((16 * q : Nat) : Int))), some (.inr (.inr 89)), some (.inl (((16 * q' : Nat) : Int))), some (.inl (j))] [] M 0 0) ((gN B + 63) / 64) (fun w M1 => rwF 88 q M M1 ∧ ∀ v : Nat, v < 16 → ld (M1 88 ((16 * q + v : Nat) : Int)) (fun k => P (64 * v + k) ∨ v < w ∧ P' (64 * v + k))) ?_ ?_ 0 M (by omega) ⟨rwF_rf, fun v hv => ld_cong (h v hv) (fun k _ => ⟨Or.inl, fun z => z.elim id (fun z => absurd z.1 (Nat.not_lt_zero v))⟩)⟩
  · intro M1 ⟨f1, w1⟩
    refine (h_93_3_82_89_89 _ _ _ _ _ _).mpr ?_
    rw [show M1 81 4 = (((gN B + 63) / 64 : Nat) : Int) by rw [f1.1 81 (by decide)]; exact hp.2]
    rw [if_neg (by omega)]
    refine hQ M1 f1 (fun v hv => ld_cong (w1 v hv) (fun k hk => or_congr Iff.rfl ⟨fun z => z.2, fun z => ⟨?_, z⟩⟩))
    have := hP' _ z
    omega
  · intro w M1 hw ⟨f1, w1⟩ k
    refine (h_93_3_82_89_89 _ _ _ _ _ _).mpr ?_
    rw [show M1 81 4 = (((gN B + 63) / 64 : Nat) : Int) by rw [f1.1 81 (by decide)]; exact hp.2, show w32 (((16 * q : Nat) : Int) + (w : Int)) = ((16 * q + w : Nat) : Int) by rw [w32_i (by omega) (by omega)]; omega, show w32 (((16 * q' : Nat) : Int) + (w : Int)) = ((16 * q' + w : Nat) : Int) by rw [w32_i (by omega) (by omega)]; omega]
    rw [if_pos (by omega)]
    rw [if_pos (by omega)]
    rw [if_pos (by omega)]
    rw [if_pos (by omega)]
    rw [w32_s (by omega)]
    have h2 : ld (M1 88 ((16 * q' + w : Nat) : Int)) (fun k => P' (64 * w + k)) := by rw [f1.2 _ (by have := ne rfl; omega)]; exact h' w (by omega)
    refine k _ ⟨rwF_tr f1 ⟨fun k a => up_nc _ _ _ _ a, fun j a => up_ni _ _ _ _ (by omega) _⟩, fun v hv => ?_⟩
    rw [up_ci]
    by_cases e : v = w
    · subst e
      rw [if_pos rfl]
      refine ld_cong (ld_or (w1 v hv) h2) (fun k _ => ⟨?_, ?_⟩)
      · rintro ((z | z) | z)
        · exact Or.inl z
        · exact absurd z.1 (Nat.lt_irrefl _)
        · exact Or.inr ⟨by omega, z⟩
      · rintro (z | z)
        · exact Or.inl (Or.inl z)
        · exact Or.inr z.2
    · rw [if_neg (by omega)]
      exact ld_cong (w1 v hv) (fun k _ => or_congr Iff.rfl ⟨fun z => ⟨by omega, z.2⟩, fun z => ⟨by omega, z.2⟩⟩)
theorem x_addWords_87_88 {q q' : Nat} (hq : q < 64) (hq' : q' < 16) (ne : 87 = 88 → q ≠ q') (hp : pnI B M) (h : lrw 87 q P M) (h' : lrw 88 q' P' M) (hP' : ∀ n, P' n → n < gN B) (hQ : ∀ M', rwF 87 q M M' → lrw 87 q (fun n => P n ∨ P' n) M' → Q 0 M') : am_s am_P am_gg (d + 1) 93 [.inr (.inr 82), .inr (.inr 88), .inl ((16 * q : Nat) : Int), .inr (.inr 89), .inl ((16 * q' : Nat) : Int)] M Q := by
  have n2 := gN_le (B := B)
  refine (v_93_82_88_89 _ _ _ _ _).mpr ?_
  refine p_for (S := (Nat → Int → Int)) (X := fun j M => am_x am_P am_gg d am_k93 0 Q 3 [some (.inr (.inr 82)), some (.inr (.inr 88)), some (.inl (((16 * q : Nat) : Int))), some (.inr (.inr 89)), some (.inl (((16 * q' : Nat) : Int))), some (.inl (j))] [] M 0 0) ((gN B + 63) / 64) (fun w M1 => rwF 87 q M M1 ∧ ∀ v : Nat, v < 16 → ld (M1 87 ((16 * q + v : Nat) : Int)) (fun k => P (64 * v + k) ∨ v < w ∧ P' (64 * v + k))) ?_ ?_ 0 M (by omega) ⟨rwF_rf, fun v hv => ld_cong (h v hv) (fun k _ => ⟨Or.inl, fun z => z.elim id (fun z => absurd z.1 (Nat.not_lt_zero v))⟩)⟩
  · intro M1 ⟨f1, w1⟩
    refine (h_93_3_82_88_89 _ _ _ _ _ _).mpr ?_
    rw [show M1 81 4 = (((gN B + 63) / 64 : Nat) : Int) by rw [f1.1 81 (by decide)]; exact hp.2]
    rw [if_neg (by omega)]
    refine hQ M1 f1 (fun v hv => ld_cong (w1 v hv) (fun k hk => or_congr Iff.rfl ⟨fun z => z.2, fun z => ⟨?_, z⟩⟩))
    have := hP' _ z
    omega
  · intro w M1 hw ⟨f1, w1⟩ k
    refine (h_93_3_82_88_89 _ _ _ _ _ _).mpr ?_
    rw [show M1 81 4 = (((gN B + 63) / 64 : Nat) : Int) by rw [f1.1 81 (by decide)]; exact hp.2, show w32 (((16 * q : Nat) : Int) + (w : Int)) = ((16 * q + w : Nat) : Int) by rw [w32_i (by omega) (by omega)]; omega, show w32 (((16 * q' : Nat) : Int) + (w : Int)) = ((16 * q' + w : Nat) : Int) by rw [w32_i (by omega) (by omega)]; omega]
    rw [if_pos (by omega)]
    rw [if_pos (by omega)]
    rw [if_pos (by omega)]
    rw [if_pos (by omega)]
    rw [w32_s (by omega)]
    have h2 : ld (M1 88 ((16 * q' + w : Nat) : Int)) (fun k => P' (64 * w + k)) := by rw [f1.1 88 (by decide)]; exact h' w (by omega)
    refine k _ ⟨rwF_tr f1 ⟨fun k a => up_nc _ _ _ _ a, fun j a => up_ni _ _ _ _ (by omega) _⟩, fun v hv => ?_⟩
    rw [up_ci]
    by_cases e : v = w
    · subst e
      rw [if_pos rfl]
      refine ld_cong (ld_or (w1 v hv) h2) (fun k _ => ⟨?_, ?_⟩)
      · rintro ((z | z) | z)
        · exact Or.inl z
        · exact absurd z.1 (Nat.lt_irrefl _)
        · exact Or.inr ⟨by omega, z⟩
      · rintro (z | z)
        · exact Or.inl (Or.inl z)
        · exact Or.inr z.2
    · rw [if_neg (by omega)]
      exact ld_cong (w1 v hv) (fun k _ => or_congr Iff.rfl ⟨fun z => ⟨by omega, z.2⟩, fun z => ⟨by omega, z.2⟩⟩)
/-- numbers of pairs within a rule's row -/
def rowN (B : Nat → Nat) (r n : Nat) : Prop := n < gN B ∧ rowH B (gK B) r (-1) (cd (gp B) n)
/-- what a yield in a place of a rule brings -/
def yatN (B : Nat → Nat) (r i n : Nat) : Prop := n < gN B ∧ gsg B r i < 8 ∧ gK B (gsg B r i) ≠ NK ∧ (cd (gp B) n = cde r i (gK B (gsg B r i) % 16) ∨ rowH B (gK B) (gK B (gsg B r i) % 16) (-1) (cd (gp B) n))
theorem bit_eq {c n : Nat} (hc : c < 1024) : (gp B c = true ∧ n = cnt (gp B) c) ↔ (n < gN B ∧ cd (gp B) n = c) := by
  constructor
  · rintro ⟨h1, h2⟩
    subst h2
    exact ⟨cnt_lt_of h1 hc, cd_cnt hc h1⟩
  · rintro ⟨h1, h2⟩
    obtain ⟨a, b, e⟩ := cd_ok (p := gp B) h1
    rw [h2] at b e
    exact ⟨b, e.symm⟩
theorem x_addYieldAt_87 (hW : gW B) (hg : xgb B M 2) (hc : chOK B M) (hp : pnI B M) {q r i : Nat} (hq : q < 64) (hr : r < B 0) (hi : i < gsz B r) (ne : gsg B r i < 8 → gK B (gsg B r i) ≠ NK → 87 = 88 → q ≠ gK B (gsg B r i) % 16) (hb : gsg B r i < 8 → gK B (gsg B r i) ≠ NK → lrw 88 (gK B (gsg B r i) % 16) (rowN B (gK B (gsg B r i) % 16)) M) (h : lrw 87 q P M) (hQ : ∀ M', rwF 87 q M M' → lrw 87 q (fun n => P n ∨ yatN B r i n) M' → Q 0 M') : am_s am_P am_gg (d + 2) 91 [.inr (.inr 82), .inr (.inr 88), .inl ((16 * q : Nat) : Int), .inl (r : Int), .inl (i : Int)] M Q := by
  have hn := hW.1
  obtain ⟨-, hz, hz4, -, hs⟩ := hW.2.2.2.1 r hr
  refine (v_91_82_88 _ _ _ _ _ _).mpr (x_signAt hg hW hr hi ?_)
  refine @p_if _ _ _ _ ?_ ?_
  · intro h8
    have h8 : gsg B r i < 8 := by omega
    refine x_hasYield hc.1 h8 ?_ ?_
    · intro hN
      rw [if_neg (by omega)]
      obtain ⟨ok, hsy, -, hro, -⟩ := y_own hW (gpos_ok hW) (gK_ok hW).1 h8 hN
      refine x_yieldRule hc.1 h8 (x_numberOf hp.1 (by omega) (by omega) (by omega) ?_)
      have c4 := cde_lt (r := r) (i := i) (o := gK B (gsg B r i) % 16) (by omega) (by omega) (by omega)
      refine x_addBit_87 hq c4 h (fun M1 f1 w1 => ?_)
      rw [show w32 (((gK B (gsg B r i) % 16 : Nat) : Int) * 16) = ((16 * (gK B (gsg B r i) % 16) : Nat) : Int) by rw [w32_i (by omega) (by omega)]; omega]
      refine x_addWords_87_88 hq (by omega) (fun z => ne h8 hN z) (pnI_eq hp (fun i _ => by rw [f1.1 81 (by decide)]) (fun c a b => f1.1 c (by omega))) w1 (lrw_cel f1 (by decide) (hb h8 hN)) (fun n z => z.1) (fun M2 f2 w2 => ?_)
      refine hQ M2 (rwF_tr f1 f2) (lrw_cong w2 (fun n _ => ?_))
      rw [bit_eq c4]
      constructor
      · rintro ((z | z) | z)
        · exact Or.inl z
        · exact Or.inr ⟨z.1, h8, hN, Or.inl z.2⟩
        · exact Or.inr ⟨z.1, h8, hN, Or.inr z.2⟩
      · rintro (z | ⟨z1, z2, z3, z4 | z4⟩)
        · exact Or.inl (Or.inl z)
        · exact Or.inl (Or.inr ⟨z1, z4⟩)
        · exact Or.inr ⟨z1, z4⟩
    · intro hN
      rw [if_pos (by omega)]
      exact hQ M rwF_rf (lrw_cong h (fun n _ => ⟨Or.inl, fun z => z.elim id (fun z => absurd hN z.2.2.1)⟩))
  · intro h8
    exact hQ M rwF_rf (lrw_cong h (fun n _ => ⟨Or.inl, fun z => z.elim id (fun z => absurd z.2.1 (by omega))⟩))
theorem x_addYieldAt_88 (hW : gW B) (hg : xgb B M 2) (hc : chOK B M) (hp : pnI B M) {q r i : Nat} (hq : q < 16) (hr : r < B 0) (hi : i < gsz B r) (ne : gsg B r i < 8 → gK B (gsg B r i) ≠ NK → 88 = 88 → q ≠ gK B (gsg B r i) % 16) (hb : gsg B r i < 8 → gK B (gsg B r i) ≠ NK → lrw 88 (gK B (gsg B r i) % 16) (rowN B (gK B (gsg B r i) % 16)) M) (h : lrw 88 q P M) (hQ : ∀ M', rwF 88 q M M' → lrw 88 q (fun n => P n ∨ yatN B r i n) M' → Q 0 M') : am_s am_P am_gg (d + 2) 91 [.inr (.inr 82), .inr (.inr 89), .inl ((16 * q : Nat) : Int), .inl (r : Int), .inl (i : Int)] M Q := by
  have hn := hW.1
  obtain ⟨-, hz, hz4, -, hs⟩ := hW.2.2.2.1 r hr
  refine (v_91_82_89 _ _ _ _ _ _).mpr (x_signAt hg hW hr hi ?_)
  refine @p_if _ _ _ _ ?_ ?_
  · intro h8
    have h8 : gsg B r i < 8 := by omega
    refine x_hasYield hc.1 h8 ?_ ?_
    · intro hN
      rw [if_neg (by omega)]
      obtain ⟨ok, hsy, -, hro, -⟩ := y_own hW (gpos_ok hW) (gK_ok hW).1 h8 hN
      refine x_yieldRule hc.1 h8 (x_numberOf hp.1 (by omega) (by omega) (by omega) ?_)
      have c4 := cde_lt (r := r) (i := i) (o := gK B (gsg B r i) % 16) (by omega) (by omega) (by omega)
      refine x_addBit_88 hq c4 h (fun M1 f1 w1 => ?_)
      rw [show w32 (((gK B (gsg B r i) % 16 : Nat) : Int) * 16) = ((16 * (gK B (gsg B r i) % 16) : Nat) : Int) by rw [w32_i (by omega) (by omega)]; omega]
      refine x_addWords_88_88 hq (by omega) (fun z => ne h8 hN z) (pnI_eq hp (fun i _ => by rw [f1.1 81 (by decide)]) (fun c a b => f1.1 c (by omega))) w1 (lrw_oth f1 (fun z => ne h8 hN rfl z.symm) (hb h8 hN)) (fun n z => z.1) (fun M2 f2 w2 => ?_)
      refine hQ M2 (rwF_tr f1 f2) (lrw_cong w2 (fun n _ => ?_))
      rw [bit_eq c4]
      constructor
      · rintro ((z | z) | z)
        · exact Or.inl z
        · exact Or.inr ⟨z.1, h8, hN, Or.inl z.2⟩
        · exact Or.inr ⟨z.1, h8, hN, Or.inr z.2⟩
      · rintro (z | ⟨z1, z2, z3, z4 | z4⟩)
        · exact Or.inl (Or.inl z)
        · exact Or.inl (Or.inr ⟨z1, z4⟩)
        · exact Or.inr ⟨z1, z4⟩
    · intro hN
      rw [if_pos (by omega)]
      exact hQ M rwF_rf (lrw_cong h (fun n _ => ⟨Or.inl, fun z => z.elim id (fun z => absurd hN z.2.2.1)⟩))
  · intro h8
    exact hQ M rwF_rf (lrw_cong h (fun n _ => ⟨Or.inl, fun z => z.elim id (fun z => absurd z.2.1 (by omega))⟩))
theorem rowN_eq (hW : gW B) {r n : Nat} (hav : avb B (gK B) r (-1)) : rowN B r n ↔ ∃ i, i < gsz B r ∧ yatN B r i n := by
  have hp := gpos_ok hW
  have hy := (gK_ok hW).1
  constructor
  · rintro ⟨h1, i, hi, hb, h8, h⟩
    have hN := hav i hi (by omega) h8
    exact ⟨i, hi, h1, h8, hN, h.imp id (fun h => (yh_eq hW hp hy h8 hN).mp h)⟩
  · rintro ⟨i, hi, h1, h8, hN, h⟩
    exact ⟨h1, i, hi, by omega, h8, h.imp id (fun h => (yh_eq hW hp hy h8 hN).mpr h)⟩
/-- a rule's row is filled -/
theorem x_fillRow (hW : gW B) (hg : xgb B M 2) (hc : chOK B M) (hp : pnI B M) {r : Nat} (hr : r < B 0) (hav : avb B (gK B) r (-1)) (ne : ∀ i, i < gsz B r → gsg B r i < 8 → r ≠ gK B (gsg B r i) % 16) (hb : ∀ i, i < gsz B r → gsg B r i < 8 → lrw 88 (gK B (gsg B r i) % 16) (rowN B (gK B (gsg B r i) % 16)) M) (h : lrw 88 r P M) (hQ : ∀ M', rwF 88 r M M' → lrw 88 r (fun n => P n ∨ rowN B r n) M' → Q 0 M') : am_s am_P am_gg (d + 3) 88 [.inr (.inr 82), .inl (r : Int)] M Q := by
  have hn := hW.1
  obtain ⟨-, hz, hz4, -, hs⟩ := hW.2.2.2.1 r hr
  refine (v_88_82 _ _ _ _).mpr ?_
  refine p_for (S := (Nat → Int → Int)) (X := fun j M => am_x am_P am_gg (d + 2) am_k88 0 Q 2 [some (.inr (.inr 82)), some (.inl ((r : Int))), some (.inl (j))] [] M 0 0) (gsz B r) (fun e M1 => rwF 88 r M M1 ∧ lrw 88 r (fun n => P n ∨ ∃ i, i < e ∧ yatN B r i n) M1) ?_ ?_ 0 M (by omega) ⟨rwF_rf, lrw_cong h (fun n _ => ⟨Or.inl, fun z => z.elim id (fun ⟨i, a, _⟩ => absurd a (Nat.not_lt_zero i))⟩)⟩
  · intro M1 ⟨f1, w1⟩
    have hg1 : xgb B M1 2 := xgb_eq hg (fun c _ _ => f1.1 c (by omega))
    refine (h_88_2_82 _ _ _ _ _).mpr ?_
    rw [xg_sz hg1 hr]
    rw [if_pos (by omega)]
    rw [if_neg (by omega)]
    exact hQ M1 f1 (lrw_cong w1 (fun n _ => or_congr Iff.rfl (rowN_eq hW hav).symm))
  · intro e M1 he ⟨f1, w1⟩ k
    have hg1 : xgb B M1 2 := xgb_eq hg (fun c _ _ => f1.1 c (by omega))
    have hc1 : chOK B M1 := chOK_cong hc (fun i _ => by rw [f1.1 22 (by decide)]) (fun c a b => f1.1 c (by omega))
    have hp1 : pnI B M1 := pnI_eq hp (fun i _ => by rw [f1.1 81 (by decide)]) (fun c a b => f1.1 c (by omega))
    refine (h_88_2_82 _ _ _ _ _).mpr ?_
    rw [xg_sz hg1 hr, show w32 ((r : Int) * 16) = ((16 * r : Nat) : Int) by rw [w32_i (by omega) (by omega)]; omega]
    rw [if_pos (by omega)]
    rw [if_pos (by omega)]
    refine x_addYieldAt_88 hW hg1 hc1 hp1 (by omega) hr he (fun h8 _ _ => ne e he h8) (fun h8 _ => lrw_oth f1 (fun z => ne e he h8 z.symm) (hb e he h8)) w1 (fun M2 f2 w2 => ?_)
    rw [w32_s (by omega)]
    refine k M2 ⟨rwF_tr f1 f2, lrw_cong w2 (fun n _ => ⟨?_, ?_⟩)⟩
    · rintro ((z | ⟨i, a, z⟩) | z)
      · exact Or.inl z
      · exact Or.inr ⟨i, by omega, z⟩
      · exact Or.inr ⟨e, by omega, z⟩
    · rintro (z | ⟨i, a, z⟩)
      · exact Or.inl (Or.inl z)
      · by_cases q : i = e
        · subst q; exact Or.inr z
        · exact Or.inl (Or.inr ⟨i, by omega, z⟩)
end S92
