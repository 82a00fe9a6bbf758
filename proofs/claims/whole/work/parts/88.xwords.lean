/-! the class's letters -/
def ltB (L : Nat) : Bool := decide ((33 ≤ L ∧ L ≤ 79 ∧ L % 2 = 1) ∨ L = 91)
theorem lt_all : (List.range 199).all (fun L => !ltB L || (Nat.blt L am_gg.1 && Nat.beq (am_gg.2.1 L).1 9 && Nat.beq (am_gg.2.2 L 0) (L + 2) && Nat.blt (L + 1) am_gg.1 && Nat.beq (am_gg.2.1 (L + 1)).1 0 && Nat.beq (am_gg.2.1 (L + 1)).2 200)) = true := by decide +kernel
theorem ltB_lt {L : Nat} (h : ltB L = true) : (33 ≤ L ∧ L ≤ 79 ∧ L % 2 = 1) ∨ L = 91 := by unfold ltB at h; simpa using h
theorem lt_ok {L : Nat} (h : ltB L = true) : Nat.blt L am_gg.1 = true ∧ Nat.beq (am_gg.2.1 L).1 9 = true ∧ am_gg.2.2 L 0 = L + 1 + 1 ∧ Nat.blt (L + 1) am_gg.1 = true ∧ Nat.beq (am_gg.2.1 (L + 1)).1 0 = true ∧ (am_gg.2.1 (L + 1)).2 = 200 := by
  have hl := ltB_lt h
  have := List.all_eq_true.mp lt_all L (List.mem_range.mpr (by omega))
  rw [h, Bool.not_true, Bool.false_or] at this
  simp only [Bool.and_eq_true] at this
  obtain ⟨⟨⟨⟨⟨a, b⟩, c⟩, e⟩, f⟩, g⟩ := this
  exact ⟨a, b, Nat.eq_of_beq_eq_true c, e, f, Nat.eq_of_beq_eq_true g⟩
theorem lt_bif {L : Nat} (h : ltB L = true) {A : Prop} (k : A) : (bif Nat.blt L am_gg.1 && Nat.beq (am_gg.2.1 L).1 9 then A else False) := by
  rw [(lt_ok h).1, (lt_ok h).2.1]; exact k
theorem lt_isR {L : Nat} (h : ltB L = true) {as : List am_v} {A : Prop} (k : A) : (bif ((am_isR am_gg 9 (.inr (.inr (L + 1)) :: as) && true) && true) && true then A else False) := by
  have e : am_isR am_gg 9 (.inr (.inr (L + 1)) :: as) = true := by
    show (Nat.blt L am_gg.1 && Nat.beq (am_gg.2.1 L).1 9) = true
    rw [(lt_ok h).1, (lt_ok h).2.1]; rfl
  rw [e]; exact k
theorem lt_row {L : Nat} (h : ltB L = true) {f : Nat → Prop} (k : f (L + 1)) : am_ob False am_gg (am_gg.2.2 L 0) 0 f := by
  rw [(lt_ok h).2.2.1]
  show (bif Nat.blt (L + 1) am_gg.1 && Nat.beq (am_gg.2.1 (L + 1)).1 0 then f (L + 1) else False)
  rw [(lt_ok h).2.2.2.1, (lt_ok h).2.2.2.2.1]; exact k
theorem rf_made : ∀ s : Nat, s < 8 → am_rfF 30 (s : Int) = 33 + 6 * s + 1 ∧ am_rfF 31 (s : Int) = 35 + 6 * s + 1 ∧ am_rfF 32 (s : Int) = 37 + 6 * s + 1 := by decide +kernel
theorem ltB_m {s : Nat} (hs : s < 8) : ltB (33 + 6 * s) = true ∧ ltB (35 + 6 * s) = true ∧ ltB (37 + 6 * s) = true := by
  unfold ltB; simp; omega
/-- letters, held by a cell -/
def lw (l : List Nat) (L : Nat) (M : (Nat → Int → Int)) : Prop := M L 1 = (l.length : Int) ∧ ∀ i : Nat, i < l.length → M (L + 1) (i : Int) = ((l.getD i 0 : Nat) : Int)
/-- of the cells one row of letters alone changes -/
def lF (L : Nat) (M M' : (Nat → Int → Int)) : Prop := ∀ c, c ≠ L → c ≠ L + 1 → M' c = M c
section S88
variable {B K : Nat → Nat} {M : (Nat → Int → Int)} {d : Nat} {Q : Int → (Nat → Int → Int) → Prop} {l l1 l2 : List Nat} {L N : Nat}
theorem lF_rf : lF L M M := fun _ _ _ => rfl
theorem lF_tr {M1 M2 : (Nat → Int → Int)} (h : lF L M M1) (g : lF L M1 M2) : lF L M M2 := fun c a b => (g c a b).trans (h c a b)
theorem lw_eq {M1 : (Nat → Int → Int)} (h : lw l N M) (e1 : M1 N = M N) (e2 : M1 (N + 1) = M (N + 1)) : lw l N M1 := by unfold lw at h ⊢; rw [e1, e2]; exact h
theorem lw_lF {M1 : (Nat → Int → Int)} (hL : ltB L = true) (hN : ltB N = true) (ne : N ≠ L) (f : lF L M M1) (h : lw l N M) : lw l N M1 := by
  have := ltB_lt hL
  have := ltB_lt hN
  exact lw_eq h (f N (by omega) (by omega)) (f (N + 1) (by omega) (by omega))
theorem x_ltclear (hL : ltB L = true) (hQ : ∀ M', lF L M M' → lw [] L M' → Q 0 M') : am_s am_P am_gg (d + 1) 74 [.inr (.inr (L + 1))] M Q := by
  refine (w_74_L _ _ _ _).mpr (lt_bif hL ?_)
  exact hQ _ (fun c a b => up_nc _ _ _ _ a) ⟨up_eq _ _ _ _, fun i hi => absurd hi (Nat.not_lt_zero i)⟩
theorem x_ltadd (hL : ltB L = true) {a : Nat} (h : lw l L M) (hl : l.length < 200) (hQ : ∀ M', lF L M M' → lw (l ++ [a]) L M' → Q 0 M') : am_s am_P am_gg (d + 1) 75 [.inr (.inr (L + 1)), .inl (a : Int)] M Q := by
  have o := lt_ok hL
  refine (w_75_L _ _ _ _ _).mpr (lt_bif hL ?_)
  rw [h.1]
  rw [if_pos (by omega)]
  refine lt_bif hL (lt_bif hL (lt_row hL ?_))
  rw [o.2.2.2.2.2]
  rw [if_pos (by omega)]
  refine lt_bif hL (lt_bif hL ?_)
  rw [up_nc _ _ _ _ (show L ≠ L + 1 by omega), h.1, w32_s (by omega)]
  refine hQ _ (fun c x y => by rw [up_nc _ _ _ _ x, up_nc _ _ _ _ y]) ⟨?_, fun i hi => ?_⟩
  · rw [up_eq, List.length_append]; rfl
  · rw [List.length_append] at hi
    have hi : i < l.length + 1 := hi
    rw [up_nc _ _ _ _ (show L + 1 ≠ L by omega), up_ci]
    by_cases e : i = l.length
    · rw [if_pos (by omega), e, List.getD_eq_getElem?_getD, List.getElem?_append_right (Nat.le_refl _), Nat.sub_self]; rfl
    · rw [if_neg (by omega), h.2 i (by omega), List.getD_eq_getElem?_getD, List.getD_eq_getElem?_getD, List.getElem?_append_left (by omega)]
theorem x_ltaddAll (hL : ltB L = true) (hN : ltB N = true) (ne : L ≠ N) (h1 : lw l1 L M) (h2 : lw l2 N M) (hl : l1.length + l2.length ≤ 200) (hQ : ∀ M', lF L M M' → lw (l1 ++ l2) L M' → Q 0 M') : am_s am_P am_gg (d + 1) 76 [.inr (.inr (L + 1)), .inr (.inr (N + 1))] M Q := by
  have o := lt_ok hL
  have p := lt_ok hN
  have z1 := ltB_lt hL
  have z2 := ltB_lt hN
  refine (w_76_L_L _ _ _ _ _).mpr (lt_bif hN (lt_bif hL (lt_bif hN (lt_bif hL (lt_bif hL (lt_row hL (lt_row hN ?_)))))))
  have em : i_min (M N 1) (w32 (200 - M L 1)) = (l2.length : Int) := by
    rw [h1.1, h2.1, w32_i (by omega) (by omega)]
    unfold i_min; rw [if_neg (by omega)]
  rw [em, h1.1, o.2.2.2.2.2, p.2.2.2.2.2]
  rw [if_pos (by omega)]
  refine lt_bif hL (lt_bif hL ?_)
  rw [cpy_nc _ _ _ _ _ _ (show L ≠ L + 1 by omega), h1.1, w32_a (by omega)]
  refine hQ _ (fun c x y => by rw [up_nc _ _ _ _ x, cpy_nc _ _ _ _ _ _ y]) ⟨?_, fun i hi => ?_⟩
  · rw [up_eq, List.length_append]
  · rw [List.length_append] at hi
    rw [up_nc _ _ _ _ (show L + 1 ≠ L by omega), cpy_if]
    by_cases e : i < l1.length
    · rw [if_neg (by omega), h1.2 i e, List.getD_eq_getElem?_getD, List.getD_eq_getElem?_getD, List.getElem?_append_left e]
    · rw [if_pos (by omega)]
      have := h2.2 (i - l1.length) (by omega)
      rw [show (0 : Int) + ((i : Int) - (l1.length : Int)) = ((i - l1.length : Nat) : Int) by omega, this, List.getD_eq_getElem?_getD, List.getD_eq_getElem?_getD, List.getElem?_append_right (by omega)]
theorem x_ltat (hL : ltB L = true) (h : lw l L M) (hl : l.length ≤ 200) {a : Nat} (ha : a < l.length) (hQ : Q ((l.getD a 0 : Nat) : Int) M) : am_s am_P am_gg (d + 1) 77 [.inr (.inr (L + 1)), .inl (a : Int)] M Q := by
  have o := lt_ok hL
  refine (w_77_L _ _ _ _ _).mpr ?_
  rw [if_neg (by omega)]
  refine lt_bif hL ?_
  rw [h.1]
  rw [if_pos (by omega)]
  refine lt_bif hL (lt_row hL ?_)
  rw [o.2.2.2.2.2]
  rw [if_pos (by omega)]
  rw [h.2 a ha]; exact hQ
/-- what stands in the class's rows of yields -/
def mdW (B K : Nat → Nat) (M : (Nat → Int → Int)) (g : Nat) : Prop := lw (yW B K g) (33 + 6 * g) M
theorem x_spellPart (hW : gW B) {r f n : Nat} (hr : r < B 0) (hf : f + n ≤ gsz B r) (hL : ltB L = true) (hg : xgb B M 2) (hm : ∀ i, f ≤ i → i < f + n → gsg B r i < 8 → mdW B K M (gsg B r i) ∧ 33 + 6 * gsg B r i ≠ L) (hl : lw l L M) (hlen : l.length + (ptW B (yW B K) r f n).length ≤ 200) (hQ : ∀ M', lF L M M' → lw (l ++ ptW B (yW B K) r f n) L M' → Q 0 M') : am_s am_P am_gg (d + 2) 39 [.inr (.inr 23), .inl (r : Int), .inl (f : Int), .inl ((f + n : Nat) : Int), .inr (.inr (L + 1))] M Q := by
  have hn16 := hW.1
  have zL := ltB_lt hL
  obtain ⟨-, hz, hz4, -, hs⟩ := hW.2.2.2.1 r hr
  refine (w_39_23_L _ _ _ _ _ _ _).mpr ?_
  refine am_x_le [some (.inr (.inr 23)), some (.inl ((r : Int))), none, some (.inl (((f + n : Nat) : Int))), some (.inr (.inr (L + 1))), some (.inl ((f : Int))), none] (am_lb_le _ _ ⟨rfl, rfl, rfl, rfl, rfl, trivial⟩) ?_
  refine p_for (S := (Nat → Int → Int)) (X := fun i M => am_x am_P am_gg (d + 1) am_k39 0 Q 3 [some (.inr (.inr 23)), some (.inl ((r : Int))), none, some (.inl (((f + n : Nat) : Int))), some (.inr (.inr (L + 1))), some (.inl (i)), none] [] M 0 0) (f + n) (fun i M1 => f ≤ i ∧ lF L M M1 ∧ lw (l ++ ptW B (yW B K) r f (i - f)) L M1) ?_ ?_ f M (by omega) ⟨Nat.le_refl _, lF_rf, by rw [Nat.sub_self]; show lw (l ++ []) L M; rw [List.append_nil]; exact hl⟩
  · intro M1 ⟨_, f1, w1⟩
    refine (g_39_3_23_L _ _ _ _ _ _ _).mpr ?_
    rw [if_neg (by omega)]
    rw [show f + n - f = n by omega] at w1
    exact hQ M1 f1 w1
  · intro i M1 hi ⟨hfi, f1, w1⟩ kk
    have hg1 : xgb B M1 2 := xgb_eq hg (fun c _ _ => f1 c (by omega) (by omega))
    obtain ⟨j, rfl⟩ : ∃ j, i = f + j := ⟨i - f, by omega⟩
    rw [show f + j - f = j by omega] at w1
    have le := ptW_le (B := B) (W := yW B K) (r := r) (f := f) (n := j + 1) (m := n) (by omega)
    have el : ptW B (yW B K) r f (j + 1) = ptW B (yW B K) r f j ++ sgW (yW B K) (gsg B r (f + j)) := rfl
    have el2 : (ptW B (yW B K) r f (j + 1)).length = (ptW B (yW B K) r f j).length + (sgW (yW B K) (gsg B r (f + j))).length := by rw [el, List.length_append]
    have wl : (l ++ ptW B (yW B K) r f j).length = l.length + (ptW B (yW B K) r f j).length := List.length_append
    have nx : ∀ (M2 : (Nat → Int → Int)) (z : Option am_v), lF L M M2 → lw ((l ++ ptW B (yW B K) r f j) ++ sgW (yW B K) (gsg B r (f + j))) L M2 → am_x am_P am_gg (d + 1) am_k39 0 Q 3 [some (.inr (.inr 23)), some (.inl ((r : Int))), none, some (.inl (((f + n : Nat) : Int))), some (.inr (.inr (L + 1))), some (.inl ((w32 (((f + j : Nat) : Int) + 1)))), z] [] M2 0 0 := by
      intro M2 z f2 w2
      rw [w32_s (by omega)]
      refine am_x_le [some (.inr (.inr 23)), some (.inl ((r : Int))), none, some (.inl (((f + n : Nat) : Int))), some (.inr (.inr (L + 1))), some (.inl (((f + j + 1 : Nat) : Int))), none] (am_lb_le _ _ ⟨rfl, rfl, rfl, rfl, rfl, trivial⟩) ?_
      refine kk M2 ⟨by omega, f2, ?_⟩
      rw [show f + j + 1 - f = j + 1 by omega, el, ← List.append_assoc]; exact w2
    have hsg := hs (f + j) (by omega)
    refine (g_39_3_23_L _ _ _ _ _ _ _).mpr ?_
    rw [if_pos (by omega)]
    refine x_signAt hg1 hW hr (by omega) ?_
    refine @p_if _ _ _ _ ?_ ?_
    · intro h16
      have h8 : gsg B r (f + j) < 8 := by omega
      rw [if_pos (by omega)]
      obtain ⟨m1, ne⟩ := hm (f + j) (by omega) hi h8
      have sw : sgW (yW B K) (gsg B r (f + j)) = yW B K (gsg B r (f + j)) := by unfold sgW; rw [if_pos h8]
      rw [(rf_made _ h8).1]
      refine am_x_le [some (.inr (.inr 23)), some (.inl ((r : Int))), none, some (.inl (((f + n : Nat) : Int))), some (.inr (.inr (L + 1))), some (.inl (((f + j : Nat) : Int))), none] (am_lb_le _ _ ⟨rfl, rfl, rfl, rfl, rfl, trivial⟩) ?_
      refine (g_39_50_23_L_sL_sL _ _ _ _ _ _ _ _ _).mpr (lt_isR hL ?_)
      refine x_ltaddAll hL (ltB_m h8).1 (fun z => ne z.symm) w1 (lw_lF hL (ltB_m h8).1 ne f1 m1) (by rw [← sw]; omega) (fun M2 f2 w2 => ?_)
      rw [← sw] at w2
      exact nx M2 _ (lF_tr f1 f2) w2
    · intro h16
      have h8 : ¬ gsg B r (f + j) < 8 := by omega
      have sw : sgW (yW B K) (gsg B r (f + j)) = [gsg B r (f + j) - 16] := by unfold sgW; rw [if_neg h8]
      rw [sw] at nx el2
      have el2 : (ptW B (yW B K) r f (j + 1)).length = (ptW B (yW B K) r f j).length + 1 := el2
      refine lt_isR hL ?_
      rw [show w32 ((gsg B r (f + j) : Int) - 16) = ((gsg B r (f + j) - 16 : Nat) : Int) by rw [w32_i (by omega) (by omega)]; omega]
      refine x_ltadd hL w1 (by omega) (fun M2 f2 w2 => ?_)
      exact nx M2 _ (lF_tr f1 f2) w2
end S88
