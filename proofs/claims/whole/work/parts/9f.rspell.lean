/-! the reference writes a pair's sentence; its letters -/
def lts (l : List Nat) : Prop := ∀ i, i < l.length → l.getD i 0 < 16
theorem lts_app {l l' : List Nat} (h : lts l) (h' : lts l') : lts (l ++ l') := by
  intro i hi
  rw [List.length_append] at hi
  by_cases q : i < l.length
  · have := h i q
    rw [List.getD_eq_getElem?_getD] at this ⊢
    rw [List.getElem?_append_left q]; exact this
  · have := h' (i - l.length) (by omega)
    rw [List.getD_eq_getElem?_getD] at this ⊢
    rw [List.getElem?_append_right (by omega)]; exact this
theorem lts_0 : lts [] := fun i hi => absurd hi (Nat.not_lt_zero i)
section S9f
variable {B : Nat → Nat} {M M0 : (Nat → Int → Int)} {d : Nat} {Q : Int → (Nat → Int → Int) → Prop}
theorem ptW_lts (hW : gW B) {W : Nat → List Nat} {r f : Nat} (hr : r < B 0) (hw : ∀ s, s < 8 → lts (W s)) : ∀ {n : Nat}, f + n ≤ gsz B r → lts (ptW B W r f n)
  | 0, _ => lts_0
  | n + 1, h => by
    refine lts_app (ptW_lts hW hr hw (by omega)) ?_
    unfold sgW
    have := (hW.2.2.2.1 r hr).2.2.2.2 (f + n) (by omega)
    by_cases q : gsg B r (f + n) < 8
    · rw [if_pos q]; exact hw _ q
    · rw [if_neg q]
      intro i hi
      have : i = 0 := by simp at hi; exact hi
      subst this
      show gsg B r (f + n) - 16 < 16
      omega
theorem K16 (hW : gW B) {s : Nat} (hs : s < 8) (hN : gK B s ≠ NK) : gK B s % 16 < B 0 := (y_own hW (gpos_ok hW) (gK_ok hW).1 hs hN).2.2.2.1
theorem yW_lts (hW : gW B) : ∀ v s, s < 8 → gK B s ≠ NK → gK B s < v → lts (yW B (gK B) s) := by
  intro v
  induction v with
  | zero => intro s _ _ h; exact absurd h (Nat.not_lt_zero _)
  | succ v ih =>
    intro s hs hN hv
    rw [yW_eq hW (gpos_ok hW) (gK_ok hW).1 hs hN]
    have e : ptW B (yW B (gK B)) (gK B s % 16) 0 (gsz B (gK B s % 16)) = ptW B (fun t => if gK B t < gK B s ∧ gK B t ≠ NK then yW B (gK B) t else []) (gK B s % 16) 0 (gsz B (gK B s % 16)) := ptW_congr (fun j hj h8 => by
      rw [Nat.zero_add] at h8 ⊢
      have := y_less hW (gpos_ok hW) (gK_ok hW).1 hs hN hj h8
      rw [if_pos this])
    rw [e]
    refine ptW_lts hW (K16 hW hs hN) (fun t ht => ?_) (by omega)
    by_cases q : gK B t < gK B s ∧ gK B t ≠ NK
    · rw [if_pos q]; exact ih t ht q.2 (by omega)
    · rw [if_neg q]; exact lts_0
theorem part_lts (hW : gW B) {r f n : Nat} (hr : r < B 0) (hf : f + n ≤ gsz B r) (ha : ∀ i, f ≤ i → i < f + n → gsg B r i < 8 → gK B (gsg B r i) ≠ NK) : lts (ptW B (yW B (gK B)) r f n) := by
  have e : ptW B (yW B (gK B)) r f n = ptW B (fun t => if gK B t ≠ NK then yW B (gK B) t else []) r f n := ptW_congr (fun j hj h8 => by
    rw [if_pos (ha (f + j) (by omega) (by omega) h8)])
  rw [e]
  refine ptW_lts hW hr (fun t ht => ?_) hf
  by_cases q : gK B t ≠ NK
  · rw [if_pos q]; exact yW_lts hW _ t ht q (Nat.lt_succ_self _)
  · rw [if_neg q]; exact lts_0
theorem xLR_lts (hW : gW B) : ∀ v s, s < 8 → gX B s ≠ NK → gX B s < v → lts (xL B (gK B) (gX B) s) ∧ lts (xRt B (gK B) (gX B) s) := by
  intro v
  induction v with
  | zero => intro s _ _ h; exact absurd h (Nat.not_lt_zero _)
  | succ v ih =>
    intro s hs hN hv
    by_cases q : s = B 2
    · rw [q, xL_0, xRt_0]; exact ⟨lts_0, lts_0⟩
    · obtain ⟨⟨o1, o2, o3, o4, o5, o6, o7, o8⟩, x2, x3, x4, x5⟩ := x_own hW (gpos_ok hW) (gK_ok hW).1 (gX_ok hW).1 hs q hN
      rw [xL_eq hW (gpos_ok hW) (gK_ok hW).1 (gX_ok hW).1 hs q hN, xRt_eq hW (gpos_ok hW) (gK_ok hW).1 (gX_ok hW).1 hs q hN]
      obtain ⟨i1, i2⟩ := ih _ (hW.2.2.2.1 _ o1).1 o6 (by omega)
      exact ⟨lts_app i1 (part_lts hW o1 (by omega) (fun i a b h8 => o7 i (by omega) (by omega) h8)), lts_app (part_lts hW o1 (by omega) (fun i a b h8 => o7 i (by omega) (by omega) h8)) i2⟩
theorem pcW_lts (hW : gW B) {c : Nat} (h : isP B (gK B) (gX B) c) : lts (pcW B c) := by
  obtain ⟨h1, h2, h3, h4, h5, h6, h7, h8, h9, ha, hb⟩ := h
  obtain ⟨i1, i2⟩ := xLR_lts hW _ (gsy B (c / 64)) (hW.2.2.2.1 _ h1).1 h3 (Nat.lt_succ_self _)
  unfold pcW
  exact lts_app (lts_app (lts_app (lts_app i1 (part_lts hW h1 (by omega) (fun i a b h8 => ha i (by omega) (by omega) h8))) (part_lts hW h6 (by omega) (fun i a b h8 => h9 i (by omega) (by omega) h8))) (part_lts hW h1 (by omega) (fun i a b h8 => ha i (by omega) (by omega) h8))) i2
/-- the reference's row of letters -/
def rw1 (l : List Nat) (M : (Nat → Int → Int)) : Prop := M 173 29 = (l.length : Int) ∧ ∀ i : Nat, i < l.length → M 186 (i : Int) = ((l.getD i 0 : Nat) : Int)
def rwF1 (M M' : (Nat → Int → Int)) : Prop := (∀ c, c ≠ 173 → c ≠ 186 → M' c = M c) ∧ ∀ i : Int, i ≠ 29 → M' 173 i = M 173 i
theorem wr_rw {l : List Nat} {M1 : (Nat → Int → Int)} (h : wr 0 l M M1) : rw1 l M1 ∧ rwF1 M M1 := by
  obtain ⟨a, b, c, e, f⟩ := h
  rw [Nat.zero_add] at a
  exact ⟨⟨a, fun i hi => by have := b i hi; rw [Nat.zero_add] at this; exact this⟩, e, f⟩
theorem m_302 {c n : Nat} (hn : n < 1024) (hc : c < 1024) (e : M 187 (n : Int) = (c : Int)) (hQ : Q ((c / 64 : Nat) : Int) M) : am_s am_P am_gg (d + 1) 302 [.inr (.inr 174), .inl (n : Int)] M Q := by
  refine (v_302_174 _ _ _ _).mpr ?_
  rw [e, show Int.tdiv (c : Int) 16 = ((c / 16 : Nat) : Int) from rfl, w32_i (x := ((c / 16 : Nat) : Int)) (by omega) (by omega), show Int.tdiv ((c / 16 : Nat) : Int) 4 = ((c / 16 / 4 : Nat) : Int) from rfl, w32_i (by omega) (by omega), show c / 16 / 4 = c / 64 by omega]
  rw [if_pos (by omega)]
  exact hQ
theorem m_303 {c n : Nat} (hn : n < 1024) (hc : c < 1024) (e : M 187 (n : Int) = (c : Int)) (hQ : Q ((c / 16 % 4 : Nat) : Int) M) : am_s am_P am_gg (d + 1) 303 [.inr (.inr 174), .inl (n : Int)] M Q := by
  refine (v_303_174 _ _ _ _).mpr ?_
  rw [e, show Int.tdiv (c : Int) 16 = ((c / 16 : Nat) : Int) from rfl, w32_i (x := ((c / 16 : Nat) : Int)) (by omega) (by omega), show Int.tmod ((c / 16 : Nat) : Int) 4 = ((c / 16 % 4 : Nat) : Int) from rfl, w32_i (by omega) (by omega)]
  rw [if_pos (by omega)]
  exact hQ
theorem m_304 {c n : Nat} (hn : n < 1024) (hc : c < 1024) (e : M 187 (n : Int) = (c : Int)) (hQ : Q ((c % 16 : Nat) : Int) M) : am_s am_P am_gg (d + 1) 304 [.inr (.inr 174), .inl (n : Int)] M Q := by
  refine (v_304_174 _ _ _ _).mpr ?_
  rw [e, show Int.tmod (c : Int) 16 = ((c % 16 : Nat) : Int) from rfl, w32_i (by omega) (by omega)]
  rw [if_pos (by omega)]
  exact hQ
theorem m_writesPair (hW : gW B) (hB : rb (M 174) 0 B) (hL : rL B M) {n : Nat} (hn : n < gN B) (hQ : ∀ M', rwF1 M M' → rw1 (pW B n) M' → Q 0 M') : am_s am_P am_gg (d + 23) 305 [.inr (.inr 174), .inl (n : Int)] M Q := by
  have n2 := gN_le (B := B)
  have len := pW_len hW hn
  obtain ⟨c1, c2, c3⟩ := cdP hn
  have e87 := (pI_cd hL.2.2.2.2.2.2.2.2.2.1 hn).1
  unfold pW at len hQ
  generalize cd (gp B) n = c at *
  have hy := hL.1
  have hx := hL.2.1
  obtain ⟨h1, h2, h3, h4, h5, h6, h7, h8, h9, ha, hb⟩ := c2
  have hn16 := hW.1
  obtain ⟨gl, s1, s4, -, -⟩ := hW.2.2.2.1 _ h1
  have so4 := (hW.2.2.2.1 _ h6).2.2.1
  have hpo := gpos_ok hW
  have hyS := (gK_ok hW).1
  have hxS := (gX_ok hW).1
  have lsum : (xL B (gK B) (gX B) (gsy B (c / 64))).length + (ptW B (yW B (gK B)) (c / 64) 0 (c / 16 % 4)).length + (ptW B (yW B (gK B)) (c % 16) 0 (gsz B (c % 16))).length + (ptW B (yW B (gK B)) (c / 64) (c / 16 % 4 + 1) (gsz B (c / 64) - (c / 16 % 4 + 1))).length + (xRt B (gK B) (gX B) (gsy B (c / 64))).length ≤ 200 := by
    unfold pcW at len
    simp only [List.length_append] at len
    exact len
  refine (v_305_174 _ _ _ _).mpr ?_
  refine m_302 (by omega) c1 e87 (m_304 (by omega) c1 e87 ?_)
  generalize hM1 : am_up M 173 29 0 = M1
  have o1 : ∀ c, c ≠ 173 → M1 c = M c := fun c a => by rw [← hM1, up_nc _ _ _ _ a]
  have i1 : ∀ i : Int, i ≠ 29 → M1 173 i = M 173 i := fun i a => by rw [← hM1, up_ni _ _ _ _ a]
  have e29 : M1 173 29 = ((0 : Nat) : Int) := by rw [← hM1, up_eq]; rfl
  have hB1 : rb (M1 174) 0 B := by rw [o1 174 (by decide)]; exact hB
  have hy1 : yR (gK B) M1 := yR_eq hy (o1 _ (by decide)) (o1 _ (by decide)) (o1 _ (by decide))
  have hx1 : xR B (gX B) M1 := xR_eq hx (o1 _ (by decide)) (o1 _ (by decide)) (o1 _ (by decide)) (o1 _ (by decide))
  refine m_sym hB1 (r := c / 64) (by omega) ?_
  refine m_writesLeft hW hpo hyS hxS gl h3 hB1 hy1 hx1 e29 (by omega) (fun M2 w2 => ?_)
  have g2 : ∀ l M', wr 0 l M1 M' → rb (M' 174) 0 B ∧ yR (gK B) M' ∧ xR B (gX B) M' ∧ M' 187 (n : Int) = (c : Int) := fun l M' w => ⟨wr_rb w hB1, wr_yR w hy1, wr_xR w hx1, by rw [w.2.2.2.1 187 (by decide) (by decide), o1 187 (by decide)]; exact e87⟩
  obtain ⟨B2, y2, x2, c2⟩ := g2 _ M2 w2
  refine m_303 (by omega) c1 c2 ?_
  have p1 := m_writesPart (d := d + 10) (M := M2) (Q := fun r6 M6 => am_s am_P am_gg (d + 22) 232 [.inr (.inr 174), .inl ((c % 16 : Nat) : Int)] M6 (fun r7 M7 => am_s am_P am_gg (d + 22) 268 [.inr (.inr 174), .inl ((c % 16 : Nat) : Int), .inl 0, .inl r7] M7 (fun r8 M8 => am_s am_P am_gg (d + 22) 303 [.inr (.inr 174), .inl (n : Int)] M8 (fun r9 M9 => am_s am_P am_gg (d + 22) 232 [.inr (.inr 174), .inl ((c / 64 : Nat) : Int)] M9 (fun r10 M10 => am_s am_P am_gg (d + 22) 268 [.inr (.inr 174), .inl ((c / 64 : Nat) : Int), .inl (w32 (r9 + 1)), .inl r10] M10 (fun r11 M11 => am_s am_P am_gg (d + 22) 231 [.inr (.inr 174), .inl ((c / 64 : Nat) : Int)] M11 (fun r12 M12 => am_s am_P am_gg (d + 22) 270 [.inr (.inr 174), .inl r12] M12 (fun r13 M13 => Q 0 M13)))))))) hW hpo hyS (r := c / 64) (f := 0) (n := c / 16 % 4) h1 (by omega) (fun i a b h8 => ha i (by omega) (by omega) h8) B2 y2 w2.1 (by omega) (fun M3 w3 => ?_)
  · rw [Nat.zero_add] at p1; exact p1
  have w3' := wr_tr w2 w3
  obtain ⟨B3, y3, x3, c3⟩ := g2 _ M3 w3'
  refine m_size B3 (r := c % 16) (by omega) ?_
  have p2 := m_writesPart (d := d + 10) (M := M3) (Q := fun r8 M8 => am_s am_P am_gg (d + 22) 303 [.inr (.inr 174), .inl (n : Int)] M8 (fun r9 M9 => am_s am_P am_gg (d + 22) 232 [.inr (.inr 174), .inl ((c / 64 : Nat) : Int)] M9 (fun r10 M10 => am_s am_P am_gg (d + 22) 268 [.inr (.inr 174), .inl ((c / 64 : Nat) : Int), .inl (w32 (r9 + 1)), .inl r10] M10 (fun r11 M11 => am_s am_P am_gg (d + 22) 231 [.inr (.inr 174), .inl ((c / 64 : Nat) : Int)] M11 (fun r12 M12 => am_s am_P am_gg (d + 22) 270 [.inr (.inr 174), .inl r12] M12 (fun r13 M13 => Q 0 M13)))))) hW hpo hyS (r := c % 16) (f := 0) (n := gsz B (c % 16)) h6 (by omega) (fun i a b h8 => h9 i (by omega) (by omega) h8) B3 y3 w3'.1 (by rw [List.length_append]; omega) (fun M4 w4 => ?_)
  · rw [Nat.zero_add] at p2; exact p2
  rw [Nat.zero_add] at w4
  have w4' := wr_tr w3' (by rw [Nat.zero_add]; exact w4)
  obtain ⟨B4, y4, x4, c4⟩ := g2 _ M4 w4'
  refine m_303 (by omega) c1 c4 (m_size B4 (r := c / 64) (by omega) ?_)
  rw [w32_s (i := c / 16 % 4) (by omega)]
  have p3 := m_writesPart (d := d + 10) (M := M4) (Q := fun r11 M11 => am_s am_P am_gg (d + 22) 231 [.inr (.inr 174), .inl ((c / 64 : Nat) : Int)] M11 (fun r12 M12 => am_s am_P am_gg (d + 22) 270 [.inr (.inr 174), .inl r12] M12 (fun r13 M13 => Q 0 M13))) hW hpo hyS (r := c / 64) (f := c / 16 % 4 + 1) (n := gsz B (c / 64) - (c / 16 % 4 + 1)) h1 (by omega) (fun i a b h8 => ha i (by omega) (by omega) h8) B4 y4 w4'.1 (by simp only [List.length_append]; omega) (fun M5 w5 => ?_)
  · rw [show c / 16 % 4 + 1 + (gsz B (c / 64) - (c / 16 % 4 + 1)) = gsz B (c / 64) by omega] at p3; exact p3
  have w5' := wr_tr w4' w5
  obtain ⟨B5, y5, x5, c5⟩ := g2 _ M5 w5'
  refine m_sym B5 (r := c / 64) (by omega) ?_
  refine m_writesRight hW hpo hyS hxS gl h3 B5 y5 x5 w5'.1 (by simp only [List.length_append]; omega) (fun M6 w6 => ?_)
  obtain ⟨r1, r2⟩ := wr_rw (wr_tr w5' w6)
  exact hQ M6 ⟨fun c a b => by rw [r2.1 c a b, o1 c a], fun i a => by rw [r2.2 i a, i1 i a]⟩ r1
end S9f
