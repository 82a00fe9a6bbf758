/-! PAIRS: what they are, which a sentence HAS; the reference's bits -/
def cde (r i o : Nat) : Nat := (4 * r + i) * 16 + o
def yhF (B K : Nat → Nat) : Nat → Nat → Nat → Prop
  | 0, _, _ => False
  | n + 1, s, c => ∃ i, i < gsz B (K s % 16) ∧ gsg B (K s % 16) i < 8 ∧ (c = cde (K s % 16) i (K (gsg B (K s % 16) i) % 16) ∨ yhF B K n (gsg B (K s % 16) i) c)
/-- within a symbol's YIELD -/
def yh (B K : Nat → Nat) (s c : Nat) : Prop := yhF B K (K s + 1) s c
/-- within a row as its yields are, but for one place -/
def rowH (B K : Nat → Nat) (r : Nat) (b : Int) (c : Nat) : Prop := ∃ i : Nat, i < gsz B r ∧ (i : Int) ≠ b ∧ gsg B r i < 8 ∧ (c = cde r i (K (gsg B r i) % 16) ∨ yh B K (gsg B r i) c)
def frF (B K X : Nat → Nat) : Nat → Nat → Nat → Nat → Prop
  | 0, _, _, _ => False
  | n + 1, r, i, c => rowH B K r i c ∨ (gsy B r ≠ B 2 ∧ (c = cde (X (gsy B r) / 4 % 16) (X (gsy B r) % 4) r ∨ frF B K X n (X (gsy B r) / 4 % 16) (X (gsy B r) % 4) c))
/-- about a place of a rule -/
def frm (B K X : Nat → Nat) (r i c : Nat) : Prop := frF B K X (X (gsy B r) + 1) r i c
/-- what the sentence of a pair HAS -/
def hP (B K X : Nat → Nat) (c c' : Nat) : Prop := c' = c ∨ frm B K X (c / 64) (c / 16 % 4) c' ∨ rowH B K (c % 16) (-1) c'
section S75
variable {B K X pos : Nat → Nat} {r i : Nat}
theorem yhF_fuel (hW : gW B) (hp : ypos B pos) (h : ySol B pos K) (c : Nat) : ∀ v s n m, s < 8 → K s ≠ NK → K s < v → K s < n → K s < m → (yhF B K n s c ↔ yhF B K m s c) := by
  intro v
  induction v using Nat.strongRecOn with
  | ind v ih =>
    intro s n m hs hN hv hn hm
    obtain ⟨n', rfl⟩ : ∃ n', n = n' + 1 := ⟨n - 1, by omega⟩
    obtain ⟨m', rfl⟩ : ∃ m', m = m' + 1 := ⟨m - 1, by omega⟩
    unfold yhF
    refine exists_congr (fun j => and_congr_right (fun hj => and_congr_right (fun h8 => or_congr Iff.rfl ?_)))
    obtain ⟨l1, l2⟩ := y_less hW hp h hs hN hj h8
    exact ih (K s) (by omega) _ _ _ h8 l2 l1 (by omega) (by omega)
theorem yh_eq (hW : gW B) (hp : ypos B pos) (h : ySol B pos K) {s c : Nat} (hs : s < 8) (hN : K s ≠ NK) : yh B K s c ↔ rowH B K (K s % 16) (-1) c := by
  show yhF B K (K s + 1) s c ↔ _
  unfold yhF rowH
  refine exists_congr (fun j => and_congr_right (fun hj => ?_))
  constructor
  · rintro ⟨h8, q⟩
    refine ⟨by omega, h8, q.imp id (fun q => ?_)⟩
    obtain ⟨l1, l2⟩ := y_less hW hp h hs hN hj h8
    exact (yhF_fuel hW hp h c (K (gsg B (K s % 16) j) + 1) _ _ _ h8 l2 (by omega) (by omega) (by omega)).mp q
  · rintro ⟨-, h8, q⟩
    refine ⟨h8, q.imp id (fun q => ?_)⟩
    obtain ⟨l1, l2⟩ := y_less hW hp h hs hN hj h8
    exact (yhF_fuel hW hp h c (K (gsg B (K s % 16) j) + 1) _ _ _ h8 l2 (by omega) (by omega) (by omega)).mp q
theorem frF_fuel (hW : gW B) (hp : ypos B pos) (hy : ySol B pos K) (h : xSol B pos K X) (c : Nat) : ∀ v r i n m, r < B 0 → X (gsy B r) ≠ NK → X (gsy B r) < v → X (gsy B r) < n → X (gsy B r) < m → (frF B K X n r i c ↔ frF B K X m r i c) := by
  intro v
  induction v using Nat.strongRecOn with
  | ind v ih =>
    intro r i n m hr hN hv hn hm
    obtain ⟨n', rfl⟩ : ∃ n', n = n' + 1 := ⟨n - 1, by omega⟩
    obtain ⟨m', rfl⟩ : ∃ m', m = m' + 1 := ⟨m - 1, by omega⟩
    unfold frF
    refine or_congr Iff.rfl (and_congr_right (fun h2 => or_congr Iff.rfl ?_))
    obtain ⟨ok, -, -, -, lt⟩ := x_own hW hp hy h ((hW.2.2.2.1 r hr).1) h2 hN
    exact ih (X (gsy B r)) (by omega) _ _ _ _ ok.1 ok.2.2.2.2.2.1 lt (by omega) (by omega)
theorem frm_eq (hW : gW B) (hp : ypos B pos) (hy : ySol B pos K) (h : xSol B pos K X) {c : Nat} (hr : r < B 0) (hN : X (gsy B r) ≠ NK) : frm B K X r i c ↔ rowH B K r i c ∨ (gsy B r ≠ B 2 ∧ (c = cde (X (gsy B r) / 4 % 16) (X (gsy B r) % 4) r ∨ frm B K X (X (gsy B r) / 4 % 16) (X (gsy B r) % 4) c)) := by
  show frF B K X (X (gsy B r) + 1) r i c ↔ _
  unfold frF
  refine or_congr Iff.rfl (and_congr_right (fun h2 => or_congr Iff.rfl ?_))
  obtain ⟨ok, -, -, -, lt⟩ := x_own hW hp hy h ((hW.2.2.2.1 r hr).1) h2 hN
  exact frF_fuel hW hp hy h c (X (gsy B (X (gsy B r) / 4 % 16)) + 1) _ _ _ _ ok.1 ok.2.2.2.2.2.1 (by omega) (by omega) (by omega)
end S75
/-- the bits of one row of the reference -/
def bR (M : (Nat → Int → Int)) (t : Nat) (P : Nat → Prop) : Prop := ∀ w : Nat, w < 32 → ∃ n : Nat, n < 4294967296 ∧ M 189 ((32 * t + w : Nat) : Int) = w32 (n : Int) ∧ ∀ k, k < 32 → (n.testBit k = true ↔ P (32 * w + k))
/-- of the rows of bits one alone changes -/
def bF (t : Nat) (M M' : (Nat → Int → Int)) : Prop := (∀ c, c ≠ 189 → M' c = M c) ∧ ∀ j : Int, j < ((32 * t : Nat) : Int) ∨ ((32 * t + 32 : Nat) : Int) ≤ j → M' 189 j = M 189 j
section S75b
variable {B K X pos : Nat → Nat} {M : (Nat → Int → Int)} {d : Nat} {Q : Int → (Nat → Int → Int) → Prop} {r t : Nat} {P P' : Nat → Prop}
theorem bF_rf : bF t M M := ⟨fun _ _ => rfl, fun _ _ => rfl⟩
theorem bF_tr {M1 M2 : (Nat → Int → Int)} (h : bF t M M1) (g : bF t M1 M2) : bF t M M2 := ⟨fun c a => (g.1 c a).trans (h.1 c a), fun j a => (g.2 j a).trans (h.2 j a)⟩
theorem bR_cong (h : bR M t P) (e : ∀ c, c < 1024 → (P c ↔ P' c)) : bR M t P' := by
  intro w hw
  obtain ⟨n, h1, h2, h3⟩ := h w hw
  exact ⟨n, h1, h2, fun k hk => (h3 k hk).trans (e _ (by omega))⟩
theorem m_marks {c : Nat} (ht : t < 1024) (hc : c < 1024) (h : bR M t P) (hQ : ∀ M', bF t M M' → bR M' t (fun x => P x ∨ x = c) → Q 0 M') : am_s am_P am_gg (d + 1) 272 [.inr (.inr 174), .inl (t : Int), .inl (c : Int)] M Q := by
  refine (v_272_174 _ _ _ _ _).mpr ?_
  have e0 : w32 (32 * (t : Int)) = 32 * (t : Int) := w32_i (by omega) (by omega)
  have e1 : w32 (Int.tdiv (c : Int) 32) = ((c / 32 : Nat) : Int) := by rw [show Int.tdiv (c : Int) 32 = ((c / 32 : Nat) : Int) from rfl, w32_i (by omega) (by omega)]
  have e2 : w32 (32 * (t : Int) + ((c / 32 : Nat) : Int)) = ((32 * t + c / 32 : Nat) : Int) := by rw [w32_i (by omega) (by omega)]; omega
  have e3 : w32 (Int.tmod (c : Int) 32) = ((c % 32 : Nat) : Int) := by rw [show Int.tmod (c : Int) 32 = ((c % 32 : Nat) : Int) from rfl, w32_i (by omega) (by omega)]
  rw [e0, e1, e2, e3]
  rw [if_pos (by omega)]
  rw [if_pos (by omega)]
  obtain ⟨n, h1, h2, h3⟩ := h (c / 32) (by omega)
  rw [h2, b_add h1 (by omega)]
  refine hQ _ ⟨fun k a => up_nc _ _ _ _ a, fun j a => up_ni _ _ _ _ (by omega) _⟩ (fun w hw => ?_)
  rw [up_ci]
  by_cases q : w = c / 32
  · subst q
    rw [if_pos rfl]
    refine ⟨_, Nat.or_lt_two_pow (n := 32) h1 (b_pow (by omega)), rfl, fun k hk => ?_⟩
    rw [Nat.testBit_or, Bool.or_eq_true, h3 k hk, Nat.testBit_two_pow]
    refine or_congr Iff.rfl ?_
    simp only [decide_eq_true_eq]
    omega
  · rw [if_neg (by omega)]
    obtain ⟨n, h1, h2, h3⟩ := h w hw
    exact ⟨n, h1, h2, fun k hk => (h3 k hk).trans ⟨Or.inl, fun z => z.elim id (fun z => absurd z (by omega))⟩⟩
theorem m_code {r i o : Nat} (hr : r < 16) (hi : i < 4) (ho : o < 16) (hQ : Q (cde r i o : Int) M) : am_s am_P am_gg (d + 1) 271 [.inl (r : Int), .inl (i : Int), .inl (o : Int)] M Q := by
  refine (v_271 _ _ _ _ _ _).mpr ?_
  rw [show w32 (4 * (r : Int)) = 4 * (r : Int) from w32_i (by omega) (by omega), show w32 (4 * (r : Int) + (i : Int)) = 4 * (r : Int) + (i : Int) from w32_i (by omega) (by omega), show w32 ((4 * (r : Int) + (i : Int)) * 16) = (4 * (r : Int) + (i : Int)) * 16 from w32_i (by omega) (by omega), show w32 ((4 * (r : Int) + (i : Int)) * 16 + (o : Int)) = (cde r i o : Int) by rw [w32_i (by omega) (by omega)]; unfold cde; omega]
  exact hQ
theorem cde_lt {r i o : Nat} (hr : r < 16) (hi : i < 4) (ho : o < 16) : cde r i o < 1024 := by unfold cde; omega
theorem bF_rb {M1 : (Nat → Int → Int)} (h : bF t M M1) (hB : rb (M 174) 0 B) : rb (M1 174) 0 B := by rw [h.1 174 (by decide)]; exact hB
theorem bF_yR {M1 : (Nat → Int → Int)} (h : bF t M M1) (hB : yR K M) : yR K M1 := yR_eq hB (h.1 179 (by decide)) (h.1 180 (by decide)) (h.1 181 (by decide))
theorem bF_xR {M1 : (Nat → Int → Int)} (h : bF t M M1) (hB : xR B X M) : xR B X M1 := xR_eq hB (h.1 182 (by decide)) (h.1 183 (by decide)) (h.1 184 (by decide)) (h.1 185 (by decide))
theorem m_hasAll1 (hW : gW B) (hp : ypos B pos) (hy : ySol B pos K) (ht : t < 1024) : ∀ (n : Nat) {r : Nat} {b : Int} {M : (Nat → Int → Int)} {Q : Int → (Nat → Int → Int) → Prop} {P : Nat → Prop}, r < B 0 → (∀ i : Nat, i < gsz B r → (i : Int) ≠ b → gsg B r i < 8 → K (gsg B r i) ≠ NK ∧ rk K (gsg B r i) < n) → rb (M 174) 0 B → yR K M → bR M t P → (∀ M', bF t M M' → bR M' t (fun c => P c ∨ rowH B K r b c) → Q 0 M') → am_s am_P am_gg (d + 2 * n + 3) 274 [.inr (.inr 174), .inl (t : Int), .inl (r : Int), .inl b] M Q := by
  intro n
  induction n with
  | zero =>
    intro r b M Q P hr hK hB hR hbR hQ
    have hn16 := hW.1
    obtain ⟨-, hz, hz4, -, hs⟩ := hW.2.2.2.1 r hr
    refine (v_274_174 _ _ _ _ _ _).mpr ?_
    refine p_for (S := Unit) (X := fun i _ => am_x am_P am_gg (d + 2 * 0 + 2) am_k274 0 Q 3 [some (.inr (.inr 174)), some (.inl ((t : Int))), some (.inl ((r : Int))), some (.inl (b)), some (.inl (i)), none] [] M 0 0) (gsz B r) (fun i _ => True) ?_ ?_ 0 () (by omega) trivial
    · intro _ _
      refine (h_274_3_174 _ _ _ _ _ _ _).mpr (m_size hB (by omega) ?_)
      rw [if_neg (by omega)]
      refine hQ M bF_rf (bR_cong hbR (fun c _ => ⟨Or.inl, fun z => z.elim id (fun ⟨i, a, b, c, _⟩ => ?_)⟩))
      have := (hK i a b c).2; omega
    · intro i _ hi _ k
      refine (h_274_3_174 _ _ _ _ _ _ _).mpr (m_size hB (by omega) ?_)
      rw [if_pos (by omega)]
      refine m_sign hB (by omega) (by omega) ?_
      rw [w32_s (by omega)]
      refine @p_if _ _ _ _ ?_ ?_
      · intro h8
        refine @p_if _ _ _ _ ?_ ?_
        · intro e
          refine am_x_le [some (.inr (.inr 174)), some (.inl ((t : Int))), some (.inl ((r : Int))), some (.inl (b)), some (.inl (((i + 1 : Nat) : Int))), none] (am_lb_le _ _ ⟨rfl, rfl, rfl, rfl, rfl, trivial⟩) ?_
          exact k () trivial
        · intro e
          have := (hK i hi e (by omega)).2; omega
      · intro h8
        refine am_x_le [some (.inr (.inr 174)), some (.inl ((t : Int))), some (.inl ((r : Int))), some (.inl (b)), some (.inl (((i + 1 : Nat) : Int))), none] (am_lb_le _ _ ⟨rfl, rfl, rfl, rfl, rfl, trivial⟩) ?_
        exact k () trivial
  | succ n ih =>
    intro r b M Q P hr hK hB hR hbR hQ
    have hn16 := hW.1
    obtain ⟨-, hz, hz4, -, hs⟩ := hW.2.2.2.1 r hr
    refine (v_274_174 _ _ _ _ _ _).mpr ?_
    refine p_for (S := (Nat → Int → Int)) (X := fun i M => am_x am_P am_gg (d + 2 * (n + 1) + 2) am_k274 0 Q 3 [some (.inr (.inr 174)), some (.inl ((t : Int))), some (.inl ((r : Int))), some (.inl (b)), some (.inl (i)), none] [] M 0 0) (gsz B r) (fun e M1 => bF t M M1 ∧ bR M1 t (fun c => P c ∨ ∃ i : Nat, i < e ∧ (i : Int) ≠ b ∧ gsg B r i < 8 ∧ (c = cde r i (K (gsg B r i) % 16) ∨ yh B K (gsg B r i) c))) ?_ ?_ 0 M (by omega) ⟨bF_rf, bR_cong hbR (fun c _ => ⟨Or.inl, fun z => z.elim id (fun ⟨i, a, _⟩ => absurd a (Nat.not_lt_zero i))⟩)⟩
    · intro M1 ⟨f1, b1⟩
      refine (h_274_3_174 _ _ _ _ _ _ _).mpr (m_size (bF_rb f1 hB) (by omega) ?_)
      rw [if_neg (by omega)]
      exact hQ M1 f1 b1
    · intro i M1 hi ⟨f1, b1⟩ k
      have hB1 := bF_rb f1 hB
      have hR1 := bF_yR f1 hR
      have skip : ((i : Int) ≠ b → gsg B r i < 8 → False) → am_x am_P am_gg (d + 2 * (n + 1) + 2) am_k274 0 Q 3 [some (.inr (.inr 174)), some (.inl ((t : Int))), some (.inl ((r : Int))), some (.inl (b)), some (.inl (((i + 1 : Nat) : Int))), some (.inl ((gsg B r i : Int)))] [] M1 0 0 := by
        intro no
        refine am_x_le [some (.inr (.inr 174)), some (.inl ((t : Int))), some (.inl ((r : Int))), some (.inl (b)), some (.inl (((i + 1 : Nat) : Int))), none] (am_lb_le _ _ ⟨rfl, rfl, rfl, rfl, rfl, trivial⟩) ?_
        refine k M1 ⟨f1, bR_cong b1 (fun c _ => or_congr Iff.rfl ⟨fun ⟨j, a, q⟩ => ⟨j, by omega, q⟩, fun ⟨j, a, q1, q2, q3⟩ => ⟨j, ?_, q1, q2, q3⟩⟩)⟩
        by_cases e : j = i
        · subst e; exact (no q1 q2).elim
        · omega
      refine (h_274_3_174 _ _ _ _ _ _ _).mpr (m_size hB1 (by omega) ?_)
      rw [if_pos (by omega)]
      refine m_sign hB1 (by omega) (by omega) ?_
      rw [w32_s (by omega)]
      refine @p_if _ _ _ _ ?_ ?_
      · intro h8
        have h8 : gsg B r i < 8 := by omega
        refine @p_if _ _ _ _ ?_ ?_
        · intro e
          exact skip (fun z _ => z e)
        · intro e
          obtain ⟨hN, hrk⟩ := hK i hi e h8
          rw [if_pos (by omega)]
          obtain ⟨ok, -, -, hro, -⟩ := y_own hW hp hy h8 hN
          rw [yR_own hR1 h8 hN]
          refine m_code (by omega) (by omega) (by omega) ?_
          refine m_marks ht (cde_lt (by omega) (by omega) (by omega)) b1 (fun M2 f2 b2 => ?_)
          have f12 := bF_tr f1 f2
          refine (v_273_174 _ _ _ _ _).mpr ?_
          rw [if_pos (by omega)]
          rw [yR_own (bF_yR f12 hR) h8 hN]
          refine am_s_mono (Nat.le_of_eq (show d + 2 * n + 3 = d + 2 * (n + 1) + 1 by omega)) (ih hro (fun j hj _ g8 => ?_) (bF_rb f12 hB) (bF_yR f12 hR) b2 (fun M3 f3 b3 => ?_)) (fun _ _ q => q)
          · obtain ⟨l1, l2⟩ := y_less hW hp hy h8 hN hj g8
            exact ⟨l2, by have := rk_lt l1 g8; omega⟩
          · refine am_x_le [some (.inr (.inr 174)), some (.inl ((t : Int))), some (.inl ((r : Int))), some (.inl (b)), some (.inl (((i + 1 : Nat) : Int))), none] (am_lb_le _ _ ⟨rfl, rfl, rfl, rfl, rfl, trivial⟩) ?_
            refine k M3 ⟨bF_tr f12 f3, bR_cong b3 (fun c _ => ⟨?_, ?_⟩)⟩
            · rintro (((z | ⟨j, a, q⟩) | z) | z)
              · exact Or.inl z
              · exact Or.inr ⟨j, by omega, q⟩
              · exact Or.inr ⟨i, by omega, e, h8, Or.inl z⟩
              · exact Or.inr ⟨i, by omega, e, h8, Or.inr ((yh_eq hW hp hy h8 hN).mpr z)⟩
            · rintro (z | ⟨j, a, q1, q2, q3⟩)
              · exact Or.inl (Or.inl (Or.inl z))
              · by_cases ej : j = i
                · subst ej
                  rcases q3 with q3 | q3
                  · exact Or.inl (Or.inr q3)
                  · exact Or.inr ((yh_eq hW hp hy h8 hN).mp q3)
                · exact Or.inl (Or.inl (Or.inr ⟨j, by omega, q1, q2, q3⟩))
      · intro h8
        exact skip (fun _ z => by omega)
theorem m_hasAll (hW : gW B) (hp : ypos B pos) (hy : ySol B pos K) (ht : t < 1024) {b : Int} (hr : r < B 0) (ha : avb B K r b) (hB : rb (M 174) 0 B) (hR : yR K M) (h : bR M t P) (hQ : ∀ M', bF t M M' → bR M' t (fun c => P c ∨ rowH B K r b c) → Q 0 M') : am_s am_P am_gg (d + 21) 274 [.inr (.inr 174), .inl (t : Int), .inl (r : Int), .inl b] M Q := by
  refine am_s_mono (Nat.le_of_eq (show d + 2 * 9 + 3 = d + 21 by omega)) (m_hasAll1 hW hp hy ht 9 hr (fun i hi hb h8 => ⟨ha i hi hb h8, ?_⟩) hB hR h hQ) (fun _ _ q => q)
  have := rk_le (K := K) (a := gsg B r i); omega
/-- up the context -/
theorem lb_chain (hW : gW B) (hp : ypos B pos) (hy : ySol B pos K) (hx : xSol B pos K X) (ht : t < 1024) : ∀ (v : Nat) {r i o : Nat} {M : (Nat → Int → Int)} {P : Nat → Prop}, X (gsy B r) < v → r < B 0 → i < gsz B r → o < 16 → X (gsy B r) ≠ NK → avb B K r i → rb (M 174) 0 B → yR K M → xR B X M → bR M t P → (∀ M', bF t M M' → bR M' t (fun c => P c ∨ c = cde r i o ∨ frm B K X r i c) → Q 0 M') → am_x am_P am_gg (d + 21) am_k275 0 Q 47 [some (.inr (.inr 174)), some (.inl ((t : Int))), none, none, none, some (.inl ((o : Int))), some (.inl ((r : Int))), some (.inl ((i : Int))), none] [] M 0 0 := by
  intro v
  induction v using Nat.strongRecOn with
  | ind v ih =>
    intro r i o M P hv hr hi ho hN hav hB hR hxR hbR hQ
    have hn16 := hW.1
    have h28 := hW.2.2.1
    obtain ⟨hsy, hz, hz4, -, hs⟩ := hW.2.2.2.1 r hr
    refine (h_275_47_174 _ _ _ _ _ _ _).mpr ?_
    rw [if_neg (by omega)]
    refine m_code (by omega) (by omega) ho ?_
    refine m_marks ht (cde_lt (by omega) (by omega) ho) hbR (fun M1 f1 b1 => ?_)
    refine m_hasAll hW hp hy ht hr hav (bF_rb f1 hB) (bF_yR f1 hR) b1 (fun M2 f2 b2 => ?_)
    have f12 := bF_tr f1 f2
    refine m_sym (bF_rb f12 hB) (by omega) ?_
    rw [if_pos (by omega)]
    rw [if_pos (by omega)]
    have hxR2 := bF_xR f12 hxR
    by_cases h2 : gsy B r = B 2
    · have e := xR_st hxR2 h28 (by rw [← h2]; exact hN)
      rw [h2, e.1, e.2]
      refine am_x_le [some (.inr (.inr 174)), some (.inl ((t : Int))), none, none, none, some (.inl ((r : Int))), some (.inl ((-1))), some (.inl ((-1))), none] (am_lb_le _ _ ⟨rfl, rfl, rfl, rfl, rfl, trivial⟩) ?_
      refine (h_275_47_174 _ _ _ _ _ _ _).mpr ?_
      rw [if_pos (by omega)]
      refine hQ M2 f12 (bR_cong b2 (fun c _ => ?_))
      rw [frm_eq hW hp hy hx hr hN]
      constructor
      · rintro ((z | z) | z)
        · exact Or.inl z
        · exact Or.inr (Or.inl z)
        · exact Or.inr (Or.inr (Or.inl z))
      · rintro (z | z | z | z)
        · exact Or.inl (Or.inl z)
        · exact Or.inl (Or.inr z)
        · exact Or.inr z
        · exact absurd h2 z.1
    · obtain ⟨e4, e5⟩ := xR_at hxR2 hsy h2 hN
      obtain ⟨ok, hg, -, -, lt⟩ := x_own hW hp hy hx hsy h2 hN
      have feq := fun c => frm_eq (i := i) (c := c) hW hp hy hx hr hN
      rw [e4, e5]
      generalize X (gsy B r) / 4 % 16 = r1 at *
      generalize X (gsy B r) % 4 = i1 at *
      refine am_x_le [some (.inr (.inr 174)), some (.inl ((t : Int))), none, none, none, some (.inl ((r : Int))), some (.inl ((r1 : Int))), some (.inl ((i1 : Int))), none] (am_lb_le _ _ ⟨rfl, rfl, rfl, rfl, rfl, trivial⟩) ?_
      refine ih (X (gsy B r)) hv lt ok.1 ok.2.2.1 (by omega) ok.2.2.2.2.2.1 ok.2.2.2.2.2.2.1 (bF_rb f12 hB) (bF_yR f12 hR) hxR2 b2 (fun M3 f3 b3 => ?_)
      refine hQ M3 (bF_tr f12 f3) (bR_cong b3 (fun c _ => ?_))
      rw [feq]
      constructor
      · rintro (((z | z) | z) | z)
        · exact Or.inl z
        · exact Or.inr (Or.inl z)
        · exact Or.inr (Or.inr (Or.inl z))
        · exact Or.inr (Or.inr (Or.inr ⟨h2, z⟩))
      · rintro (z | z | z | z)
        · exact Or.inl (Or.inl (Or.inl z))
        · exact Or.inl (Or.inl (Or.inr z))
        · exact Or.inl (Or.inr z)
        · exact Or.inr z.2
theorem m_laysBits (hW : gW B) (hp : ypos B pos) (hy : ySol B pos K) (hx : xSol B pos K X) (ht : t < 1024) {r i o : Nat} (hr : r < B 0) (hi : i < gsz B r) (ho : o < B 0) (hN : X (gsy B r) ≠ NK) (hav : avb B K r i) (hao : avb B K o (-1)) (hB : rb (M 174) 0 B) (hR : yR K M) (hxR : xR B X M) (hQ : ∀ M', bF t M M' → bR M' t (hP B K X (cde r i o)) → Q 0 M') : am_s am_P am_gg (d + 22) 275 [.inr (.inr 174), .inl (t : Int), .inl (r : Int), .inl (i : Int), .inl (o : Int)] M Q := by
  have hn16 := hW.1
  obtain ⟨hsy, hz, hz4, -, hs⟩ := hW.2.2.2.1 r hr
  refine (v_275_174 _ _ _ _ _ _ _).mpr ?_
  refine p_for (S := (Nat → Int → Int)) (X := fun j M => am_x am_P am_gg (d + 21) am_k275 0 Q 3 [some (.inr (.inr 174)), some (.inl ((t : Int))), some (.inl ((r : Int))), some (.inl ((i : Int))), some (.inl ((o : Int))), some (.inl (j)), none, none, none] [] M 0 0) 32 (fun f M1 => bF t M M1 ∧ ∀ w : Nat, w < f → M1 189 ((32 * t + w : Nat) : Int) = 0) ?_ ?_ 0 M (by omega) ⟨bF_rf, fun w hw => absurd hw (Nat.not_lt_zero w)⟩
  · intro M1 ⟨f1, z1⟩
    refine (h_275_3_174 _ _ _ _ _ _ _ _).mpr ?_
    rw [if_neg (by omega)]
    have b1 : bR M1 t (fun _ => False) := fun w hw => ⟨0, by omega, by rw [z1 w hw]; rfl, fun k _ => by simp⟩
    refine m_hasAll hW hp hy ht ho hao (bF_rb f1 hB) (bF_yR f1 hR) b1 (fun M2 f2 b2 => ?_)
    have f12 := bF_tr f1 f2
    refine am_x_le [some (.inr (.inr 174)), some (.inl ((t : Int))), none, none, none, some (.inl ((o : Int))), some (.inl ((r : Int))), some (.inl ((i : Int))), none] (am_lb_le _ _ ⟨rfl, rfl, rfl, rfl, rfl, trivial⟩) ?_
    refine lb_chain hW hp hy hx ht (X (gsy B r) + 1) (by omega) hr hi (by omega) hN hav (bF_rb f12 hB) (bF_yR f12 hR) (bF_xR f12 hxR) b2 (fun M3 f3 b3 => ?_)
    refine hQ M3 (bF_tr f12 f3) (bR_cong b3 (fun c _ => ?_))
    unfold hP
    rw [show cde r i o / 64 = r by unfold cde; omega, show cde r i o / 16 % 4 = i by unfold cde; omega, show cde r i o % 16 = o by unfold cde; omega]
    constructor
    · rintro ((z | z) | z | z)
      · exact z.elim
      · exact Or.inr (Or.inr z)
      · exact Or.inl z
      · exact Or.inr (Or.inl z)
    · rintro (z | z | z)
      · exact Or.inr (Or.inl z)
      · exact Or.inr (Or.inr z)
      · exact Or.inl (Or.inr z)
  · intro f M1 hf ⟨f1, z1⟩ k
    refine (h_275_3_174 _ _ _ _ _ _ _ _).mpr ?_
    rw [if_pos (by omega)]
    rw [show w32 (32 * (t : Int)) = 32 * (t : Int) from w32_i (by omega) (by omega), show w32 (32 * (t : Int) + (f : Int)) = ((32 * t + f : Nat) : Int) by rw [w32_i (by omega) (by omega)]; omega]
    rw [if_pos (by omega)]
    rw [w32_s (by omega)]
    refine k _ ⟨⟨fun c a => by rw [up_nc _ _ _ _ a]; exact f1.1 c a, fun j a => by rw [up_ni _ _ _ _ (by omega)]; exact f1.2 j a⟩, fun w hw => ?_⟩
    rw [up_ci]
    by_cases e : w = f
    · rw [if_pos (by omega)]
    · rw [if_neg (by omega)]; exact z1 w (by omega)
end S75b
